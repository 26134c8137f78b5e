/-! ===== the reference receives: insert ===== -/
theorem MH.dl {h : zH} {m w k v : Nat} {S : sS} {G : List (Nat × (Nat → Int32))} {g : Nat → Int32} {x : Int32} (X : MH h m w S G) (hg : G[k]? = some (v, g)) : MH (zwI h (m + 18) k x) m w S (G.set k (v, upd g 4 x)) := by
  obtain ⟨y1, y2, y3⟩ := X.gg
  have hk := lt_at hg
  refine X.G (S' := S) (zJ.wI (by omega)) (fun i _ => zI_oa (by omega)) (fun u hu => (zI_oa (by omega)).trans (X.l hu)) ⟨by rw [List.length_set]; exact y1, by rw [zI_oa (by omega), y2, List.length_set], fun j p hp => ?_⟩ rfl rfl rfl rfl rfl rfl rfl rfl rfl rfl rfl
  by_cases e : j = k
  · subst e
    rw [List.getElem?_set_self hk] at hp
    cases hp
    obtain ⟨z1, z2, z3, z4, z5, z6, z7⟩ := y3 j (v, g) hg
    have u (i : Nat) (hi : i ≠ 4) : upd g 4 x i = g i := by unfold upd; rw [if_neg hi]
    have u4 : upd g 4 x 4 = x := by unfold upd; rw [if_pos rfl]
    show zI (zwI h (m + 18) j x) (m + 13) j = nI v ∧ zI (zwI h (m + 18) j x) (m + 14) j = upd g 4 x 0 ∧ zI (zwI h (m + 18) j x) (m + 15) j + 1 = upd g 4 x 1 ∧ zI (zwI h (m + 18) j x) (m + 16) j = upd g 4 x 3 ∧ zI (zwI h (m + 18) j x) (m + 17) j = upd g 4 x 2 ∧ zI (zwI h (m + 18) j x) (m + 18) j = upd g 4 x 4 ∧ zI (zwI h (m + 18) j x) (m + 19) j = upd g 4 x 5
    rw [u 0 (by decide), u 1 (by decide), u 2 (by decide), u 3 (by decide), u 5 (by decide), u4]
    exact ⟨(zI_oa (by omega)).trans z1, (zI_oa (by omega)).trans z2, by rw [zI_oa (by omega)]; exact z3, (zI_oa (by omega)).trans z4, (zI_oa (by omega)).trans z5, zI_at, (zI_oa (by omega)).trans z7⟩
  · rw [List.getElem?_set_ne (fun z => e z.symm)] at hp
    exact rG_mv (fun t _ => zI_ok e) (y3 j p hp)
theorem MH.oD {h : zH} {m w v k : Nat} {S : sS} {G : List (Nat × (Nat → Int32))} {g : Nat → Int32} {x : Int32} (X : MH h m w S G) : MH h m w (oDead S v k g x) G :=
  X.eqv rfl rfl rfl rfl rfl rfl rfl rfl rfl rfl rfl rfl
theorem c97 {d : Nat} {h : zH} {m w rn sn : Nat} {S : sS} {f : Nat → Int32} (hw : w ≤ 4) (hr : rn ≤ w) (hs : sn < 4) (X : MM h m w S) (hf1 : f 1 = nI rn) (hf3 : f 3 = nI sn) (hf0 : rn ≠ 0 → f 0 = 0) (hsu : ∀ g ∈ sD S rn, g 0 = f 5 → g 3 = f 3) : zD (d + 3) 97 [.inr m, .inl (f 1), .inl (f 0), .inl (f 4), .inl (f 5)] h (fun r h' => r = none ∧ MM h' m w (oIns S rn sn f) ∧ zJ (yA m) h h') := by
  obtain ⟨G, X, L⟩ := X
  have hgl := X.gl
  obtain ⟨y1, y2, y3⟩ := X.gg
  cases hx : sFx (pF rn (f 5)) G 0 with
  | none =>
    have hy := L.none (P := pNum (f 5)) hr hx
    have eU : oIns S rn sn f = oSend S (sRow [nI rn, f 0, 40, 0, 0, f 4, 0]) := by unfold oIns; rw [hy]; unfold oAbort; rw [hf1]
    rw [eU, hf1]
    refine zD_of rfl (r97_0 ⟨X.1.1, _, c82 hw (by omega) L.1 X, ?_⟩)
    rintro r _ ⟨rfl, rfl⟩
    refine r97_7 ⟨fun q => absurd (show sIx (pF rn (f 5)) G 0 < 0 by rw [sIx_lt0 hgl, hx]) (i32_nlt.mpr q), fun _ => ⟨X.1.1, _, c95 X, ?_⟩⟩
    rintro r h1 ⟨rfl, X1, s1⟩
    exact r97_22 ⟨rfl, ⟨G, X1, L⟩, s1⟩
  | some k =>
    obtain ⟨g, hg, hgp, hy, hat⟩ := L.some (P := pNum (f 5)) hr hx
    have hk := lt_at hg
    have g0 : g 0 = f 5 := by simpa [pNum] using hgp
    have g3 : g 3 = nI sn := (hsu g (List.mem_of_getElem? hat) g0).trans hf3
    obtain ⟨z1, z2, z3, z4, z5, z6, z7⟩ := y3 k (rn, g) hg
    have zs : zI h (m + 16) k = nI sn := z4.trans g3
    have jk := nI_clamp (show k < 2 ^ 31 by omega)
    have vk : vp_in (nI k) 12 := vp_in_nI (by omega) (by omega)
    have js := nI_clamp (show 4 * rn + sn < 2 ^ 31 by omega)
    have vs : vp_in (nI (4 * rn + sn)) 20 := vp_in_nI (by omega) (by omega)
    have ck := X.clk
    have er : (nI rn = 0) ↔ rn = 0 := nI_eq (b := 0) (by omega) (by decide)
    have x8_0 : ∀ (h : zH) (k i : Nat) (v : Int32), zI (zwI h (m + 8) k v) m i = zI h m i := fun _ _ _ _ => zI_oa (by omega)
    rw [hf1]
    refine zD_of rfl (r97_0 ⟨X.1.1, _, c82 hw (by omega) L.1 X, ?_⟩)
    rintro r _ ⟨rfl, rfl⟩
    rw [sIx_pos hx]
    refine r97_7 ⟨fun _ => ?_, fun q => absurd (nI_pos' (by omega)) q⟩
    by_cases e0 : rn = 0
    · subst e0
      have eU : oIns S 0 sn f = oSend (oEnd S 0 (rk 0 G k)) (sRow [0, f 0, 31, nI sn, f 5, f 4, 0]) := by unfold oIns; rw [hy, hf3]; rfl
      rw [eU]
      have hX : ∀ h2, MH h2 m w S (G.eraseIdx k) → MH h2 m w (oEnd S 0 (rk 0 G k)) (G.eraseIdx k) := fun h2 X2 => X2.oE
      have hL := L.er hg
      generalize oEnd S 0 (rk 0 G k) = S2 at hX hL ⊢
      obtain ⟨k0, ⟨r1, r2, r3, r4, r5, r6, r7, r8, r9, r10, r11, r12, r13, r14, r15, r16, r17, r18, r19, r20, r21, r22, r23⟩, ⟨k1, k2, k3, k4, k5, k6, k7, k8, k9, k10, k11, k12, k13, k14, k15, k16, k17, k18, k19, k20, k21, k22, k23⟩, ⟨l1, l2, l3, l4, l5, l6, l7, l8, l9, l10, l11, l12, l13, l14, l15, l16, l17, l18, l19, l20, l21, l22, l23⟩⟩ := X.1
      simp only [k0, r1, r2, r3, r4, r5, r6, r7, r8, r9, r10, r11, r12, r13, r14, r15, r16, r17, r18, r19, r20, r21, r22, r23, k1, k2, k3, k4, k5, k6, k7, k8, k9, k10, k11, k12, k13, k14, k15, k16, k17, k18, k19, k20, k21, k22, k23, l1, l2, l3, l4, l5, l6, l7, l8, l9, l10, l11, l12, l13, l14, l15, l16, l17, l18, l19, l20, l21, l22, l23, true_and, true_or, or_true, jk, vk, zs]
      clear k0 r1 r2 r3 r4 r5 r6 r7 r8 r9 r10 r11 r12 r13 r14 r15 r16 r17 r18 r19 r20 r21 r22 r23 k1 k2 k3 k4 k5 k6 k7 k8 k9 k10 k11 k12 k13 k14 k15 k16 k17 k18 k19 k20 k21 k22 k23 l1 l2 l3 l4 l5 l6 l7 l8 l9 l10 l11 l12 l13 l14 l15 l16 l17 l18 l19 l20 l21 l22 l23
      refine ⟨fun q => absurd rfl q, fun _ => ⟨_, c85 X hk, ?_⟩⟩
      rintro r h1 ⟨rfl, X1, s1⟩
      refine r97_42 ⟨X1.1.1, _, c87 (hX h1 X1), ?_⟩
      rintro r h2 ⟨rfl, X2, s2⟩
      exact r97_56 (r97_99 ⟨rfl, ⟨_, X2, hL⟩, s1.tr s2⟩)
    · have eU : oIns S rn sn f = oSend (oDead (oHold S (4 * rn + sn) 1) rn (rk rn G k) g (sClk S + 10)) (sRow [nI rn, 0, 22, nI sn, f 5, f 4, 0]) := by
        unfold oIns; rw [hy]
        show (if rn = 0 then _ else _) = _
        rw [if_neg e0, hat, hf1, hf3]
      rw [eU, hf0 e0]
      have hX : MH (zwI (zwI h (m + 8) (4 * rn + sn) 1) (m + 18) k (sClk S + 10)) m w (oDead (oHold S (4 * rn + sn) 1) rn (rk rn G k) g (sClk S + 10)) (G.set k (rn, upd g 4 (sClk S + 10))) := (X.whe.dl hg).oD
      have hL : LG w (oDead (oHold S (4 * rn + sn) 1) rn (rk rn G k) g (sClk S + 10)) (G.set k (rn, upd g 4 (sClk S + 10))) := LG.dead (S := oHold S (4 * rn + sn) 1) L hg
      generalize oDead (oHold S (4 * rn + sn) 1) rn (rk rn G k) g (sClk S + 10) = S2 at hX hL ⊢
      obtain ⟨k0, ⟨r1, r2, r3, r4, r5, r6, r7, r8, r9, r10, r11, r12, r13, r14, r15, r16, r17, r18, r19, r20, r21, r22, r23⟩, ⟨k1, k2, k3, k4, k5, k6, k7, k8, k9, k10, k11, k12, k13, k14, k15, k16, k17, k18, k19, k20, k21, k22, k23⟩, ⟨l1, l2, l3, l4, l5, l6, l7, l8, l9, l10, l11, l12, l13, l14, l15, l16, l17, l18, l19, l20, l21, l22, l23⟩⟩ := X.1
      simp only [k0, r1, r2, r3, r4, r5, r6, r7, r8, r9, r10, r11, r12, r13, r14, r15, r16, r17, r18, r19, r20, r21, r22, r23, k1, k2, k3, k4, k5, k6, k7, k8, k9, k10, k11, k12, k13, k14, k15, k16, k17, k18, k19, k20, k21, k22, k23, l1, l2, l3, l4, l5, l6, l7, l8, l9, l10, l11, l12, l13, l14, l15, l16, l17, l18, l19, l20, l21, l22, l23, true_and, true_or, or_true, zK_wI, zL_wI, zR_wI, forall_eq, jk, vk, zs, e4x, js, vs, x8_0, ck, er, show vp_nar FieldType.boolean 1 = 1 from rfl]
      clear k0 r1 r2 r3 r4 r5 r6 r7 r8 r9 r10 r11 r12 r13 r14 r15 r16 r17 r18 r19 r20 r21 r22 r23 k1 k2 k3 k4 k5 k6 k7 k8 k9 k10 k11 k12 k13 k14 k15 k16 k17 k18 k19 k20 k21 k22 k23 l1 l2 l3 l4 l5 l6 l7 l8 l9 l10 l11 l12 l13 l14 l15 l16 l17 l18 l19 l20 l21 l22 l23
      refine ⟨fun _ => ⟨_, c87 hX, ?_⟩, fun q => absurd q e0⟩
      rintro r h1 ⟨rfl, X1, s1⟩
      exact r97_99 ⟨rfl, ⟨_, X1, hL⟩, ((zJ.wI (by unfold yA; omega)).tr (zJ.wI (by unfold yA; omega))).tr s1⟩
