/-! ===== the reference receives: provide ===== -/
theorem nI_div {a b : Nat} (ha : a < 2 ^ 31) (hb : 0 < b) (hb2 : b < 2 ^ 31) : nI a / nI b = nI (a / b) := by
  have h1 := nI_toInt ha
  have h2 := nI_toInt hb2
  have hl : a / b < 2 ^ 31 := Nat.lt_of_le_of_lt (Nat.div_le_self a b) ha
  refine i32_of hl ?_
  have hn : nI b ≠ -1 := nI_m1 hb2
  rw [Int32.toInt_div_of_ne_right _ _ hn, h1, h2, Int.tdiv_eq_ediv_of_nonneg (by omega)]
  exact (Int.natCast_ediv a b).symm
theorem nI_mod {a b : Nat} (ha : a < 2 ^ 31) (hb : 0 < b) (hb2 : b < 2 ^ 31) : nI a - nI a / nI b * nI b = nI (a % b) := by
  rw [nI_div ha hb hb2, pk_mul, show nI a - nI (a / b * b) = nI (a - a / b * b) from pk_sub (Nat.div_mul_le_self a b)]
  congr 1
  have := Nat.div_add_mod a b
  rw [Nat.mul_comm] at this
  omega
def aR (rn : Nat) (o : Option Nat) : Int32 := match o with
  | some k => nI (100 * rn + k)
  | none => -2
theorem e100x (a b : Nat) : (100 : Int32) * nI a + nI b = nI (100 * a + b) := by rw [show (100 : Int32) = nI 100 from rfl, pk_mul, nI_add]
theorem c99t {d : Nat} {h : zH} {m w rn sn : Nat} {S : sS} {G : List (Nat × (Nat → Int32))} {f4 : Int32} {o : Option Nat} (hw : w ≤ 4) (hr : rn ≤ w) (X : MH h m w S G) (L : LG w S G) (ho : ∀ k, o = some k → k < 2) :
    zWp zm99 (zD (d + 1)) (fun r h' => r = none ∧ MM h' m w (oSend (stU (stO S (sUpK (sO S) rn o (nI sn))) (sUpK (sU S) rn o (sClk S + 8))) (sRow [nI rn, 0, 34, nI sn, 0, f4, aR rn o])) ∧ zJ (yA m) h h') 0 0 25 [some (.inr m), some (.inl (nI rn)), some (.inl 0), some (.inl f4), some (.inl (nI sn)), some (.inl (aR rn o)), some (.inl (-1))] [] h := by
  cases o with
  | none =>
    refine r99_25 ⟨fun _ => ⟨fun _ => ⟨X.1.1, _, c87 X, ?_⟩, fun q => absurd (show (-2 : Int32) < 0 by decide) q⟩, fun q => absurd (by decide) q⟩
    rintro r h1 ⟨rfl, X1, s1⟩
    exact r99_126 ⟨rfl, ⟨G, X1, L⟩, s1⟩
  | some k =>
    have hk := ho k rfl
    have eA : aR rn (some k) = nI (100 * rn + k) := rfl
    have em : nI (100 * rn + k) - nI (100 * rn + k) / 100 * 100 = nI k := by
      have := nI_mod (a := 100 * rn + k) (b := 100) (by omega) (by decide) (by decide)
      rw [show (100 * rn + k) % 100 = k by omega] at this; exact this
    have n100 : ((100 : Int32) = 0) = False := by simp
    have j0 := nI_clamp (show 2 * rn + k < 2 ^ 31 by omega)
    have v1 : vp_in (nI (2 * rn + k)) 10 := vp_in_nI (by omega) (by omega)
    have ck := X.clk
    have x10_0 : ∀ (h : zH) (k i : Nat) (v : Int32), zI (zwI h (m + 10) k v) m i = zI h m i := fun _ _ _ _ => zI_oa (by omega)
    have hX : MH (zwI (zwI h (m + 10) (2 * rn + k) (nI sn)) (m + 11) (2 * rn + k) (sClk S + 8)) m w (stU (stO S (sUpK (sO S) rn (some k) (nI sn))) (sUpK (sU S) rn (some k) (sClk S + 8))) G := X.wO.wU
    have hL : LG w (stU (stO S (sUpK (sO S) rn (some k) (nI sn))) (sUpK (sU S) rn (some k) (sClk S + 8))) G := L
    rw [eA]
    generalize stU (stO S (sUpK (sO S) rn (some k) (nI sn))) (sUpK (sU S) rn (some k) (sClk S + 8)) = S2 at hX hL ⊢
    refine r99_25 ⟨fun _ => ⟨fun q => absurd q (nI_pos (by omega)), fun _ => ?_⟩, fun q => absurd (by decide) q⟩
    obtain ⟨k0, ⟨r1, r2, r3, r4, r5, r6, r7, r8, r9, r10, r11, r12, r13, r14, r15, r16, r17, r18, r19, r20, r21, r22, r23⟩, ⟨k1, k2, k3, k4, k5, k6, k7, k8, k9, k10, k11, k12, k13, k14, k15, k16, k17, k18, k19, k20, k21, k22, k23⟩, ⟨l1, l2, l3, l4, l5, l6, l7, l8, l9, l10, l11, l12, l13, l14, l15, l16, l17, l18, l19, l20, l21, l22, l23⟩⟩ := X.1
    simp only [k0, r1, r2, r3, r4, r5, r6, r7, r8, r9, r10, r11, r12, r13, r14, r15, r16, r17, r18, r19, r20, r21, r22, r23, k1, k2, k3, k4, k5, k6, k7, k8, k9, k10, k11, k12, k13, k14, k15, k16, k17, k18, k19, k20, k21, k22, k23, l1, l2, l3, l4, l5, l6, l7, l8, l9, l10, l11, l12, l13, l14, l15, l16, l17, l18, l19, l20, l21, l22, l23, true_and, true_or, or_true, zK_wI, zL_wI, zR_wI, forall_eq, em, e2x, j0, v1, n100, not_false_eq_true, x10_0, ck]
    clear k0 r1 r2 r3 r4 r5 r6 r7 r8 r9 r10 r11 r12 r13 r14 r15 r16 r17 r18 r19 r20 r21 r22 r23 k1 k2 k3 k4 k5 k6 k7 k8 k9 k10 k11 k12 k13 k14 k15 k16 k17 k18 k19 k20 k21 k22 k23 l1 l2 l3 l4 l5 l6 l7 l8 l9 l10 l11 l12 l13 l14 l15 l16 l17 l18 l19 l20 l21 l22 l23
    refine ⟨_, c87 hX, ?_⟩
    rintro r h1 ⟨rfl, X1, s1⟩
    exact r99_126 ⟨rfl, ⟨G, X1, hL⟩, ((zJ.wI (by unfold yA; omega)).tr (zJ.wI (by unfold yA; omega))).tr s1⟩
