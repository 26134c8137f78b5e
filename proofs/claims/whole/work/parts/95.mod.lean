/-! ===== the reference: deliver ===== -/
/-- what is known of a datagram in flight -/
def dF (w : Nat) (S : sS) (f : Nat → Int32) (rn : Nat) : Prop := (f 2 = 11 ∧ f 1 = 0 ∧ ∃ vn : Nat, vn ≤ w ∧ f 0 = nI vn) ∨ (f 2 = 13 ∧ f 0 = 0) ∨ (f 2 = 14 ∧ f 0 = 0) ∨ (f 2 = 22 ∧ (rn ≠ 0 → f 0 = 0) ∧ ∀ g ∈ sD S rn, g 0 = f 5 → g 3 = f 3) ∨
  ((f 2 = 31 ∨ f 2 = 33 ∨ f 2 = 34 ∨ f 2 = 40) ∧ (f 2 = 33 ∨ f 2 = 34 → rn = 0) ∧ (f 2 = 34 → ∀ g ∈ sD S 0, g 0 = f 5 → ∃ (i : Nat) (q : Int32 × Int32), (sQ S)[i]? = some q ∧ q.1 = f 5))
/-- what the reference needs of the state -/
def okM (w : Nat) (S : sS) : Prop := okL w S ∧ okD w S ∧ okQ (sQ S) ∧ (∀ k, sO S k = -1 ∨ 0 ≤ sO S k) ∧ (∀ s, s < 4 → ∃ lo : Nat, lo ≤ w ∧ sLo S s = nI lo) ∧ (∀ v, 1 ≤ v → v ≤ w → ∀ g ∈ sD S v, g 1 = 1) ∧ (∀ g ∈ sD S 0, ¬ g 1 = 1) ∧ ∀ g ∈ sD S 0, ∃ a : Nat, a ≤ w ∧ g 2 = nI a
theorem c101b {d : Nat} {h h2 : zH} {m w k rn sn : Nat} {S : sS} {G : List (Nat × (Nat → Int32))} {f : Nat → Int32} {l2 : Int32} (hw : w ≤ 4) (hr : rn ≤ w) (hs : sn < 4) (X : MH h2 m w S G) (L : LG w S G) (s2 : zJ (yA m) h h2) (ok : okM w S) (hf1 : f 1 = nI rn) (hf3 : f 3 = nI sn) (df : dF w S f rn) (ha : ∀ u, u < 8 → zI h2 (m + 23) u = sPart f (nI u)) :
    zWp zm101 (zD (d + 3)) (fun r h' => r = some (.inl (f 2)) ∧ MM h' m w (oRecv S f) ∧ zJ (yA m) h h') 0 0 51 [some (.inr m), some (.inl (nI k)), some (.inl l2), none, none, none] [] h2 := by
  obtain ⟨o1, o2, o3, o4, o5, o6, o7, o8⟩ := ok
  have er : (f 1).toNatClampNeg = rn := by rw [hf1, nI_clamp (by omega)]
  have es : (f 3).toNatClampNeg = sn := by rw [hf3, nI_clamp (by omega)]
  have eR : oRecv S f = if f 2 = 11 then oUpd S sn f else if f 2 = 13 then oCan S rn sn f else if f 2 = 14 then oPro S rn sn f else if f 2 = 22 then oIns S rn sn f else oLst S rn f := by unfold oRecv; rw [er, es]
  have b0 : zI h2 (m + 23) 0 = f 0 := ha 0 (by decide)
  have b1 : zI h2 (m + 23) 1 = f 1 := ha 1 (by decide)
  have b2 : zI h2 (m + 23) 2 = f 2 / 10 := ha 2 (by decide)
  have b3 : zI h2 (m + 23) 3 = f 2 - f 2 / 10 * 10 := ha 3 (by decide)
  have b4 : zI h2 (m + 23) 4 = f 3 := ha 4 (by decide)
  have b5 : zI h2 (m + 23) 5 = f 4 := ha 5 (by decide)
  have b6 : zI h2 (m + 23) 6 = f 5 := ha 6 (by decide)
  have b7 : zI h2 (m + 23) 7 = f 6 := ha 7 (by decide)
  have vv : ∀ u : Nat, u < 8 → vp_in (nI u) 8 := fun u hu => vp_in_nI hu (by omega)
  have w0 : vp_in (0 : Int32) 8 := vv 0 (by decide)
  have w1 : vp_in (1 : Int32) 8 := vv 1 (by decide)
  have w2 : vp_in (2 : Int32) 8 := vv 2 (by decide)
  have w3 : vp_in (3 : Int32) 8 := vv 3 (by decide)
  have w4 : vp_in (4 : Int32) 8 := vv 4 (by decide)
  have w5 : vp_in (5 : Int32) 8 := vv 5 (by decide)
  have w6 : vp_in (6 : Int32) 8 := vv 6 (by decide)
  have w7 : vp_in (7 : Int32) 8 := vv 7 (by decide)
  have t0 : (0 : Int32).toNatClampNeg = 0 := rfl
  have t1 : (1 : Int32).toNatClampNeg = 1 := rfl
  have t2 : (2 : Int32).toNatClampNeg = 2 := rfl
  have t3 : (3 : Int32).toNatClampNeg = 3 := rfl
  have t4 : (4 : Int32).toNatClampNeg = 4 := rfl
  have t5 : (5 : Int32).toNatClampNeg = 5 := rfl
  have t6 : (6 : Int32).toNatClampNeg = 6 := rfl
  have t7 : (7 : Int32).toNatClampNeg = 7 := rfl
  have hX : MM h2 m w S := ⟨G, X, L⟩
  refine r101_51 ?_
  obtain ⟨k0, ⟨r1, r2, r3, r4, r5, r6, r7, r8, r9, r10, r11, r12, r13, r14, r15, r16, r17, r18, r19, r20, r21, r22, r23⟩, ⟨k1, k2, k3, k4, k5, k6, k7, k8, k9, k10, k11, k12, k13, k14, k15, k16, k17, k18, k19, k20, k21, k22, k23⟩, ⟨l1, l2, l3, l4, l5, l6, l7, l8, l9, l10, l11, l12, l13, l14, l15, l16, l17, l18, l19, l20, l21, l22, l23⟩⟩ := X.1
  simp only [k0, r1, r2, r3, r4, r5, r6, r7, r8, r9, r10, r11, r12, r13, r14, r15, r16, r17, r18, r19, r20, r21, r22, r23, k1, k2, k3, k4, k5, k6, k7, k8, k9, k10, k11, k12, k13, k14, k15, k16, k17, k18, k19, k20, k21, k22, k23, l1, l2, l3, l4, l5, l6, l7, l8, l9, l10, l11, l12, l13, l14, l15, l16, l17, l18, l19, l20, l21, l22, l23, true_and, true_or, or_true, t0, t1, t2, t3, t4, t5, t6, t7, w0, w1, w2, w3, w4, w5, w6, w7, b0, b1, b2, b3, b4, b5, b6, b7]
  clear k0 r1 r2 r3 r4 r5 r6 r7 r8 r9 r10 r11 r12 r13 r14 r15 r16 r17 r18 r19 r20 r21 r22 r23 k1 k2 k3 k4 k5 k6 k7 k8 k9 k10 k11 k12 k13 k14 k15 k16 k17 k18 k19 k20 k21 k22 k23 l1 l2 l3 l4 l5 l6 l7 l8 l9 l10 l11 l12 l13 l14 l15 l16 l17 l18 l19 l20 l21 l22 l23
  have fin : ∀ c : Int32, f 2 = c → (10 : Int32) * (c / 10) + (c - c / 10 * 10) = c → ∀ (h3 : zH) (l1 l2 l3 : Int32), MM h3 m w (oRecv S f) → zJ (yA m) h2 h3 → zWp zm101 (zD (d + 3)) (fun r h' => r = some (.inl (f 2)) ∧ MM h' m w (oRecv S f) ∧ zJ (yA m) h h') 0 0 224 [some (.inr m), some (.inl l1), some (.inl l2), some (.inl l3), some (.inl (f 2 / 10)), some (.inl (f 2 - f 2 / 10 * 10))] [] h3 := by
    intro c e ec h3 l1 l2 l3 X3 s3
    refine r101_224 ⟨?_, X3, s2.tr s3⟩
    rw [e, ec]
  rcases df with ⟨e, h1, vn, hv, h0⟩ | ⟨e, h0⟩ | ⟨e, h0⟩ | ⟨e, h0, hg⟩ | ⟨e, h34, hq⟩
  · obtain ⟨lo, hlw, hlo⟩ := o5 sn hs
    have k11 := c96 (d := d) hw hv hs hX o1 h0 h1 hf3 hlo hlw
    have f1 : f 2 / 10 = 1 := by rw [e]; decide
    have f2 : f 2 - f 2 / 10 * 10 = 1 := by rw [e]; decide
    refine ⟨fun q => absurd f1 q, fun _ => ⟨fun q => absurd f2 q, fun _ => ⟨_, k11, ?_⟩⟩⟩
    rintro r h3 ⟨rfl, X3, s3⟩
    exact r101_110 (fin 11 e (by decide) h3 _ _ _ (by rw [eR, if_pos e]; exact X3) s3)
  · have k13 := c98 (d := d) hw hr hs hX h0 hf1 hf3
    have f1 : f 2 / 10 = 1 := by rw [e]; decide
    have f2 : f 2 - f 2 / 10 * 10 = 3 := by rw [e]; decide
    have f3 : ¬ f 2 - f 2 / 10 * 10 = 1 := by rw [e]; decide
    have n11 : ¬ f 2 = 11 := by rw [e]; decide
    refine ⟨fun q => absurd f1 q, fun _ => ⟨fun _ => ⟨fun q => absurd f1 q, fun _ => ⟨fun q => absurd f2 q, fun _ => ⟨_, k13, ?_⟩⟩⟩, fun q => absurd q f3⟩⟩
    rintro r h3 ⟨rfl, X3, s3⟩
    exact r101_143 (fin 13 e (by decide) h3 _ _ _ (by rw [eR, if_neg n11, if_pos e]; exact X3) s3)
  · have k14 := c99 (d := d + 1) hw hr hs hX h0 hf1 hf3 o4
    have f1 : f 2 / 10 = 1 := by rw [e]; decide
    have f2 : ¬ f 2 - f 2 / 10 * 10 = 3 := by rw [e]; decide
    have f3 : ¬ f 2 - f 2 / 10 * 10 = 1 := by rw [e]; decide
    have n11 : ¬ f 2 = 11 := by rw [e]; decide
    have n13 : ¬ f 2 = 13 := by rw [e]; decide
    refine ⟨fun q => absurd f1 q, fun _ => ⟨fun _ => ⟨fun q => absurd f1 q, fun _ => ⟨fun _ => ⟨fun q => absurd f1 q, fun _ => ⟨_, k14, ?_⟩⟩, fun q => absurd q f2⟩⟩, fun q => absurd q f3⟩⟩
    rintro r h3 ⟨rfl, X3, s3⟩
    exact r101_170 (fin 14 e (by decide) h3 _ _ _ (by rw [eR, if_neg n11, if_neg n13, if_pos e]; exact X3) s3)
  · have k22 := c97 (d := d) hw hr hs hX hf1 hf3 h0 hg
    have f1 : ¬ f 2 / 10 = 1 := by rw [e]; decide
    have f2 : f 2 / 10 = 2 := by rw [e]; decide
    have n11 : ¬ f 2 = 11 := by rw [e]; decide
    have n13 : ¬ f 2 = 13 := by rw [e]; decide
    have n14 : ¬ f 2 = 14 := by rw [e]; decide
    refine ⟨fun _ => ⟨fun _ => ⟨fun _ => ⟨fun q => absurd f2 q, fun _ => ⟨_, k22, ?_⟩⟩, fun q => absurd q f1⟩, fun q => absurd q f1⟩, fun q => absurd q f1⟩
    rintro r h3 ⟨rfl, X3, s3⟩
    exact r101_198 (fin 22 e (by decide) h3 _ _ _ (by rw [eR, if_neg n11, if_neg n13, if_neg n14, if_pos e]; exact X3) s3)
  · have k40 := c100 (d := d) hw hr hX o2 o3 hf1 e h34 (fun z => o6 rn (by omega) hr) o7 hq o8
    have all : ∀ c : Int32, (31 = c ∨ 33 = c ∨ 34 = c ∨ 40 = c) → ¬ c / 10 = 1 ∧ ¬ c / 10 = 2 ∧ ¬ c = 11 ∧ ¬ c = 13 ∧ ¬ c = 14 ∧ ¬ c = 22 ∧ (10 : Int32) * (c / 10) + (c - c / 10 * 10) = c := by
      rintro c (rfl | rfl | rfl | rfl) <;> decide
    obtain ⟨f1, f2, n11, n13, n14, n22, ec⟩ := all (f 2) (by rcases e with e | e | e | e <;> rw [e] <;> simp)
    refine ⟨fun _ => ⟨fun _ => ⟨fun _ => ⟨fun _ => ⟨_, k40, ?_⟩, fun q => absurd q f2⟩, fun q => absurd q f1⟩, fun q => absurd q f1⟩, fun q => absurd q f1⟩
    rintro r h3 ⟨rfl, X3, s3⟩
    exact fin (f 2) rfl ec h3 _ _ _ (by rw [eR, if_neg n11, if_neg n13, if_neg n14, if_neg n22]; exact X3) s3
theorem c101 {d : Nat} {h : zH} {m w : Nat} {S : sS} {i : Int32} (hw : w ≤ 4) (X : MM h m w S) (ok : okM w S) (of : okF w S) (df : ∀ f ∈ sF S, dF w S f (f 1).toNatClampNeg) : zD (d + 4) 101 [.inr m, .inl i] h (fun r h' => r = some (.inl (oDeliver S i).1) ∧ MM h' m w (oDeliver S i).2 ∧ zJ (yA m) h h') := by
  obtain ⟨G, X, L⟩ := X
  have hl := X.f.1
  cases hx : lx (sF S) i with
  | none =>
    have e9 : oDeliver S i = (-9, S) := by unfold oDeliver; rw [hx]
    rw [e9]
    refine zD_of rfl (r101_0 ⟨fun q => ⟨rfl, ⟨G, X, L⟩, zJ.rf⟩, fun q => ⟨X.1.1, fun q2 => ?_, fun _ => ⟨rfl, ⟨G, X, L⟩, zJ.rf⟩⟩⟩)
    rw [X.f.2.1] at q2
    obtain ⟨k, f, hy, -⟩ := lx_lt (by omega) q q2
    rw [hx] at hy; cases hy
  | some p =>
    obtain ⟨k, f⟩ := p
    obtain ⟨rfl, hf⟩ := lx_some hx
    have hmem := List.mem_of_getElem? hf
    obtain ⟨⟨rn, hr, hf1⟩, sn, hs, hf3⟩ := of f hmem
    have hdf := df f hmem
    rw [hf1, nI_clamp (by omega)] at hdf
    have e9 : oDeliver S (nI k) = (f 2, oRecv (stF S ((sF S).eraseIdx k)) f) := by unfold oDeliver; rw [hx]
    rw [e9]
    refine c101a X hf (fun h2 l2 X2 s2 ha => ?_)
    exact c101b (S := stF S ((sF S).eraseIdx k)) hw hr hs X2 L s2 ok hf1 hf3 hdf ha
