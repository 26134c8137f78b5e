/-! ===== the reference: expire ===== -/
theorem i32_kd {x y : Int32} {a b : Int32} (e : x + 1 = y) (h : a + 1 = b) : (x = a) = (y = b) := by
  rw [← e, ← h]; exact propext i32_add1
theorem c106 {d : Nat} {h : zH} {m w k v sn : Nat} {S : sS} {G : List (Nat × (Nat → Int32))} {g : Nat → Int32} (hw : w ≤ 4) (X : MH h m w S G) (L : LG w S G) (oq : okQ (sQ S)) (hg : G[k]? = some (v, g)) (hs : sn < 4) (g3 : g 3 = nI sn) (hkV : v ≠ 0 → g 1 = 1) (hk0 : v = 0 → ¬ g 1 = 1) (hq4 : g 1 = 4 → ∃ (i : Nat) (q : Int32 × Int32), (sQ S)[i]? = some q ∧ q.1 = g 0) :
    zD (d + 3) 106 [.inr m, .inl (nI k)] h (fun r h' => r = none ∧ MH h' m w (oGive S v (rk v G k) g) (G.eraseIdx k) ∧ zJ (yA m) h h') := by
  have hv : v ≤ w := L.1 _ (List.mem_of_getElem? hg)
  obtain ⟨y1, y2, y3⟩ := X.gg
  have hk := lt_at hg
  obtain ⟨z1, z2, z3, z4, z5, z6, z7⟩ := y3 k (v, g) hg
  have zz1 : zI h (m + 13) k = nI v := z1
  have zz2 : zI h (m + 14) k = g 0 := z2
  have zz5 : zI h (m + 17) k = g 2 := z5
  have zz7 : zI h (m + 19) k = g 5 := z7
  have jk := nI_clamp (show k < 2 ^ 31 by omega)
  have vk : vp_in (nI k) 12 := vp_in_nI (by omega) (by omega)
  have k1' : (zI h (m + 15) k = 1) = (g 1 = 2) := i32_kd z3 a11
  have k3' : (zI h (m + 15) k = 3) = (g 1 = 4) := i32_kd z3 a31
  have eG0 (e : v = 0) : oGive S v (rk v G k) g = oEnd (oGvA S g) 0 (rk v G k) := by unfold oGive; rw [if_pos e]
  have eGV (e : v ≠ 0) : oGive S v (rk v G k) g = oEndR S v (rk v G k) sn 3 := by unfold oGive; rw [if_neg e, g3, nI_clamp (by omega)]
  refine zD_of rfl (r106_0 ?_)
  obtain ⟨k0, ⟨r1, r2, r3, r4, r5, r6, r7, r8, r9, r10, r11, r12, r13, r14, r15, r16, r17, r18, r19, r20, r21, r22, r23⟩, ⟨k1, k2, k3, k4, k5, k6, k7, k8, k9, k10, k11, k12, k13, k14, k15, k16, k17, k18, k19, k20, k21, k22, k23⟩, ⟨l1, l2, l3, l4, l5, l6, l7, l8, l9, l10, l11, l12, l13, l14, l15, l16, l17, l18, l19, l20, l21, l22, l23⟩⟩ := X.1
  simp only [k0, r1, r2, r3, r4, r5, r6, r7, r8, r9, r10, r11, r12, r13, r14, r15, r16, r17, r18, r19, r20, r21, r22, r23, k1, k2, k3, k4, k5, k6, k7, k8, k9, k10, k11, k12, k13, k14, k15, k16, k17, k18, k19, k20, k21, k22, k23, l1, l2, l3, l4, l5, l6, l7, l8, l9, l10, l11, l12, l13, l14, l15, l16, l17, l18, l19, l20, l21, l22, l23, true_and, true_or, or_true, jk, vk, zz1, zz2, zz5, zz7, k1', k3']
  clear k0 r1 r2 r3 r4 r5 r6 r7 r8 r9 r10 r11 r12 r13 r14 r15 r16 r17 r18 r19 r20 r21 r22 r23 k1 k2 k3 k4 k5 k6 k7 k8 k9 k10 k11 k12 k13 k14 k15 k16 k17 k18 k19 k20 k21 k22 k23 l1 l2 l3 l4 l5 l6 l7 l8 l9 l10 l11 l12 l13 l14 l15 l16 l17 l18 l19 l20 l21 l22 l23
  refine ⟨fun q => ⟨fun q2 => ⟨_, c86 hw X hg hv hs g3, ?_⟩, fun q2 => ⟨_, c91 X, ?_⟩⟩, fun q => ⟨_, c95 X, ?_⟩⟩
  · rintro r h1 ⟨rfl, X1, s1⟩
    refine r106_73 ⟨rfl, ?_, s1⟩
    have X1 : MH h1 m w (if g 1 = 1 then oStand S (4 * v + sn) 3 else S) (G.eraseIdx k) := X1
    by_cases e : v = 0
    · rw [if_neg (hk0 e)] at X1
      rw [eG0 e, show oGvA S g = S by unfold oGvA; rw [if_neg q, if_neg q2]]
      exact X1.oE
    · rw [if_pos (hkV e)] at X1
      rw [eGV e]
      exact X1.oE
  · rintro r _ ⟨rfl, rfl⟩
    have e : v = 0 := Classical.byContradiction fun z => by have := hkV z; rw [q2] at this; exact absurd this (by decide)
    obtain ⟨i, p, hi, hp⟩ := hq4 q2
    have hql := X.q.1
    have hil := lt_at hi
    have eix : sIx (fun q => decide (q.1 = g 0)) (sQ S) 0 = nI i := by
      cases hz : sFx (fun q => decide (q.1 = g 0)) (sQ S) 0 with
      | none => have := sFx_none hz p (List.mem_of_getElem? hi); simp [hp] at this
      | some j =>
        obtain ⟨p', hp', hpp, -⟩ := sFx_some hz
        have hpp : p'.1 = g 0 := by simpa using hpp
        rw [sIx_pos hz, oq.2 j i p' p hp' hi (hpp.trans hp.symm)]
    have ji := nI_clamp (show i < 2 ^ 31 by omega)
    have vi : vp_in (nI i) 520 := vp_in_nI (by omega) (by omega)
    rw [eix]
    refine r106_64 ?_
    have X1 := X.qset (x := -3) oq hi hp
    obtain ⟨k0, ⟨r1, r2, r3, r4, r5, r6, r7, r8, r9, r10, r11, r12, r13, r14, r15, r16, r17, r18, r19, r20, r21, r22, r23⟩, ⟨k1, k2, k3, k4, k5, k6, k7, k8, k9, k10, k11, k12, k13, k14, k15, k16, k17, k18, k19, k20, k21, k22, k23⟩, ⟨l1, l2, l3, l4, l5, l6, l7, l8, l9, l10, l11, l12, l13, l14, l15, l16, l17, l18, l19, l20, l21, l22, l23⟩⟩ := X.1
    simp only [k0, r1, r2, r3, r4, r5, r6, r7, r8, r9, r10, r11, r12, r13, r14, r15, r16, r17, r18, r19, r20, r21, r22, r23, k1, k2, k3, k4, k5, k6, k7, k8, k9, k10, k11, k12, k13, k14, k15, k16, k17, k18, k19, k20, k21, k22, k23, l1, l2, l3, l4, l5, l6, l7, l8, l9, l10, l11, l12, l13, l14, l15, l16, l17, l18, l19, l20, l21, l22, l23, true_and, true_or, or_true, zK_wI, zL_wI, zR_wI, forall_eq, ji, vi]
    clear k0 r1 r2 r3 r4 r5 r6 r7 r8 r9 r10 r11 r12 r13 r14 r15 r16 r17 r18 r19 r20 r21 r22 r23 k1 k2 k3 k4 k5 k6 k7 k8 k9 k10 k11 k12 k13 k14 k15 k16 k17 k18 k19 k20 k21 k22 k23 l1 l2 l3 l4 l5 l6 l7 l8 l9 l10 l11 l12 l13 l14 l15 l16 l17 l18 l19 l20 l21 l22 l23
    refine ⟨_, c86 hw X1 hg hv hs g3, ?_⟩
    rintro r h3 ⟨rfl, X3, s3⟩
    have X3 : MH h3 m w (if g 1 = 1 then oStand (stQ S (sSet (sQ S) (g 0) (-3))) (4 * v + sn) 3 else stQ S (sSet (sQ S) (g 0) (-3))) (G.eraseIdx k) := X3
    rw [if_neg (hk0 e)] at X3
    refine r106_73 ⟨rfl, ?_, (zJ.wI (by unfold yA; omega)).tr s3⟩
    rw [eG0 e, show oGvA S g = stQ S (sSet (sQ S) (g 0) (-3)) by unfold oGvA; rw [if_neg q, if_pos q2]]
    exact X3.oE
  · rintro r h1 ⟨rfl, X1, s1⟩
    have e : v = 0 := Classical.byContradiction fun z => by have := hkV z; rw [q] at this; exact absurd this (by decide)
    refine r106_42 ⟨X1.1.1, _, c86 hw X1 hg hv hs g3, ?_⟩
    rintro r h2 ⟨rfl, X2, s2⟩
    have X2 : MH h2 m w (if g 1 = 1 then oStand (oSend S (sRow [nI v, g 2, 40, 0, g 0, g 5, 0])) (4 * v + sn) 3 else oSend S (sRow [nI v, g 2, 40, 0, g 0, g 5, 0])) (G.eraseIdx k) := X2
    rw [if_neg (hk0 e), e] at X2
    refine r106_73 ⟨rfl, ?_, s1.tr s2⟩
    rw [eG0 e, show oGvA S g = oSend S (sRow [nI 0, g 2, 40, 0, g 0, g 5, 0]) by unfold oGvA; rw [if_pos q]; rfl]
    exact X2.oE
