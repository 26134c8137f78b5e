/-! ===== the reference receives: closing ===== -/
theorem MH.qset {h : zH} {m w i : Nat} {S : sS} {G : List (Nat × (Nat → Int32))} {q : Int32 × Int32} {n x : Int32} (X : MH h m w S G) (oq : okQ (sQ S)) (hi : (sQ S)[i]? = some q) (hq : q.1 = n) : MH (zwI h (m + 21) i x) m w (stQ S (sSet (sQ S) n x)) G := by
  obtain ⟨y1, y2, y3⟩ := X.q
  refine X.Q (zJ.wI (by omega)) (fun k _ => zI_oa (by omega)) ⟨by unfold sSet; rw [List.length_map]; exact y1, by unfold sSet; rw [zI_oa (by omega), y2, List.length_map], fun j p hp => ?_⟩
  unfold sSet at hp
  rw [List.getElem?_map] at hp
  cases hj : (sQ S)[j]? with
  | none => rw [hj] at hp; cases hp
  | some r =>
    rw [hj] at hp
    have hp : some (if r.1 = n then (r.1, x) else r) = some p := hp
    have hp := Option.some.inj hp
    obtain ⟨z1, z2⟩ := y3 j r hj
    by_cases e : r.1 = n
    · rw [if_pos e] at hp
      have : j = i := oq.2 j i r q hj hi (e.trans hq.symm)
      subst this
      rw [← hp]
      exact ⟨(zI_oa (by omega)).trans z1, zI_at⟩
    · rw [if_neg e] at hp
      rw [← hp]
      have hne : j ≠ i := fun z => by subst z; rw [hj] at hi; cases hi; exact e hq
      exact ⟨(zI_oa (by omega)).trans z1, (zI_ok hne).trans z2⟩
theorem c100 {d : Nat} {h : zH} {m w rn : Nat} {S : sS} {f : Nat → Int32} (hw : w ≤ 4) (hr : rn ≤ w) (X : MM h m w S) (od : okD w S) (oq : okQ (sQ S)) (hf1 : f 1 = nI rn) (hc : f 2 = 31 ∨ f 2 = 33 ∨ f 2 = 34 ∨ f 2 = 40) (h34 : f 2 = 33 ∨ f 2 = 34 → rn = 0) (hkV : rn ≠ 0 → ∀ g ∈ sD S rn, g 1 = 1) (hk0 : ∀ g ∈ sD S 0, ¬ g 1 = 1) (hoq : f 2 = 34 → ∀ g ∈ sD S 0, g 0 = f 5 → ∃ (i : Nat) (q : Int32 × Int32), (sQ S)[i]? = some q ∧ q.1 = f 5) (hot : ∀ g ∈ sD S 0, ∃ a : Nat, a ≤ w ∧ g 2 = nI a) :
    zD (d + 3) 100 [.inr m, .inl (f 1), .inl (f 2 / 10), .inl (f 2 - f 2 / 10 * 10), .inl (f 5), .inl (f 6)] h (fun r h' => r = none ∧ MM h' m w (oLst S rn f) ∧ zJ (yA m) h h') := by
  obtain ⟨G, X, L⟩ := X
  have hgl := X.gl
  obtain ⟨y1, y2, y3⟩ := X.gg
  rw [hf1]
  cases hx : sFx (pF rn (f 5)) G 0 with
  | none =>
    have hy := L.none (P := pNum (f 5)) hr hx
    have eU : oLst S rn f = S := by unfold oLst; rw [hy]
    rw [eU]
    refine zD_of rfl (r100_0 ⟨X.1.1, _, c82 hw (by omega) L.1 X, ?_⟩)
    rintro r _ ⟨rfl, rfl⟩
    exact r100_7 ⟨fun q => absurd (show sIx (pF rn (f 5)) G 0 < 0 by rw [sIx_lt0 hgl, hx]) (i32_nlt.mpr q), fun _ => ⟨rfl, ⟨G, X, L⟩, zJ.rf⟩⟩
  | some k =>
    obtain ⟨g, hg, hgp, hy, hat⟩ := L.some (P := pNum (f 5)) hr hx
    have hk := lt_at hg
    have g0 : g 0 = f 5 := by simpa [pNum] using hgp
    have hmem := List.mem_of_getElem? hat
    obtain ⟨sn, hs, g3⟩ := od rn hr g hmem
    have hL := L.er hg
    obtain ⟨z1, z2, z3, z4, z5, z6, z7⟩ := y3 k (rn, g) hg
    have zw : zI h (m + 16) k = nI sn := z4.trans g3
    have jk := nI_clamp (show k < 2 ^ 31 by omega)
    have vk : vp_in (nI k) 12 := vp_in_nI (by omega) (by omega)
    have eU : oLst S rn f = if rn = 0 then oEnd (if f 2 = 33 then stC S (sDrop (sC S) (4 * g 2 + g 3)) else if f 2 = 34 then stQ S (sSet (sQ S) (f 5) (f 6)) else S) 0 (rk rn G k) else oEndR S rn (rk rn G k) (g 3).toNatClampNeg (if f 2 = 31 then 2 else 3) := by
      unfold oLst; rw [hy]
      show (match (sD S rn)[rk rn G k]? with | none => S | some g => _) = _
      rw [hat]
    have ends (how : Int32) (hh : how = if f 2 = 31 then 2 else 3) (h3 : ¬ f 2 = 33) (h4 : ¬ f 2 = 34) (h2 : zH) (X2 : MH h2 m w (if g 1 = 1 then oStand S (4 * rn + sn) how else S) (G.eraseIdx k)) : MM h2 m w (oLst S rn f) := by
      rw [eU, if_neg h3, if_neg h4, ← hh, g3, nI_clamp (by omega)]
      by_cases e : rn = 0
      · subst e
        rw [if_neg (hk0 g hmem)] at X2
        rw [if_pos rfl]
        exact ⟨_, X2.oE, hL⟩
      · rw [if_pos (hkV e g hmem)] at X2
        rw [if_neg e]
        exact ⟨_, X2.oE, LG.er (S := oStand S (4 * rn + sn) how) L hg⟩
    refine zD_of rfl (r100_0 ⟨X.1.1, _, c82 hw (by omega) L.1 X, ?_⟩)
    rintro r _ ⟨rfl, rfl⟩
    rw [sIx_pos hx]
    refine r100_7 ⟨fun _ => ?_, fun q => absurd (nI_pos' (by omega)) q⟩
    have c86' (how : Int32) := c86 (d := d) (how := how) hw X hg hr hs g3
    rcases hc with e | e | e | e
    · have a1 : ¬ f 2 / 10 = 4 := by rw [e]; decide
      have a2 : f 2 - f 2 / 10 * 10 = 1 := by rw [e]; decide
      refine ⟨fun _ => ⟨fun q => absurd a2 q, fun _ => ⟨X.1.1, _, c86' 2, ?_⟩⟩, fun q => absurd q a1⟩
      rintro r h2 ⟨rfl, X2, s2⟩
      exact r100_42 (r100_96 ⟨rfl, ends 2 (by rw [if_pos e]) (by rw [e]; decide) (by rw [e]; decide) h2 X2, s2⟩)
    · have a1 : ¬ f 2 / 10 = 4 := by rw [e]; decide
      have a2 : ¬ f 2 - f 2 / 10 * 10 = 1 := by rw [e]; decide
      have a3 : f 2 - f 2 / 10 * 10 = 3 := by rw [e]; decide
      have e0 : rn = 0 := h34 (Or.inl e)
      obtain ⟨a, ha, g2⟩ := hot g (by rw [← e0]; exact hmem)
      have zo : zI h (m + 17) k = nI a := z5.trans g2
      have eM : oLst S rn f = oEnd (stC S (sDrop (sC S) (nI (4 * a + sn)))) rn (rk rn G k) := by rw [eU, if_pos e0, if_pos e, g2, g3, e4x, e0]
      rw [eM]
      refine ⟨fun _ => ⟨fun _ => ⟨fun q => absurd a3 q, fun _ => ?_⟩, fun q => absurd q a2⟩, fun q => absurd q a1⟩
      obtain ⟨k0, ⟨r1, r2, r3, r4, r5, r6, r7, r8, r9, r10, r11, r12, r13, r14, r15, r16, r17, r18, r19, r20, r21, r22, r23⟩, ⟨k1, k2, k3, k4, k5, k6, k7, k8, k9, k10, k11, k12, k13, k14, k15, k16, k17, k18, k19, k20, k21, k22, k23⟩, ⟨l1, l2, l3, l4, l5, l6, l7, l8, l9, l10, l11, l12, l13, l14, l15, l16, l17, l18, l19, l20, l21, l22, l23⟩⟩ := X.1
      simp only [k0, r1, r2, r3, r4, r5, r6, r7, r8, r9, r10, r11, r12, r13, r14, r15, r16, r17, r18, r19, r20, r21, r22, r23, k1, k2, k3, k4, k5, k6, k7, k8, k9, k10, k11, k12, k13, k14, k15, k16, k17, k18, k19, k20, k21, k22, k23, l1, l2, l3, l4, l5, l6, l7, l8, l9, l10, l11, l12, l13, l14, l15, l16, l17, l18, l19, l20, l21, l22, l23, true_and, true_or, or_true, jk, vk, zw, zo]
      clear k0 r1 r2 r3 r4 r5 r6 r7 r8 r9 r10 r11 r12 r13 r14 r15 r16 r17 r18 r19 r20 r21 r22 r23 k1 k2 k3 k4 k5 k6 k7 k8 k9 k10 k11 k12 k13 k14 k15 k16 k17 k18 k19 k20 k21 k22 k23 l1 l2 l3 l4 l5 l6 l7 l8 l9 l10 l11 l12 l13 l14 l15 l16 l17 l18 l19 l20 l21 l22 l23
      refine ⟨_, c94 hw (by omega) hs X, ?_⟩
      rintro r h2 ⟨rfl, X2, s2⟩
      refine r100_68 ⟨X2.1.1, _, c85 X2 hk, ?_⟩
      rintro r h3 ⟨rfl, X3, s3⟩
      exact r100_74 (r100_96 ⟨rfl, ⟨_, X3.oE, LG.er (S := stC S (sDrop (sC S) (nI (4 * a + sn)))) L hg⟩, s2.tr s3⟩)
    · have a1 : ¬ f 2 / 10 = 4 := by rw [e]; decide
      have a2 : ¬ f 2 - f 2 / 10 * 10 = 1 := by rw [e]; decide
      have a3 : ¬ f 2 - f 2 / 10 * 10 = 3 := by rw [e]; decide
      have n33 : ¬ f 2 = 33 := by rw [e]; decide
      have e0 : rn = 0 := h34 (Or.inr e)
      obtain ⟨i, q, hi, hq⟩ := hoq e g (by rw [← e0]; exact hmem) g0
      have hql := X.q.1
      have hil := lt_at hi
      have eM : oLst S rn f = oEnd (stQ S (sSet (sQ S) (f 5) (f 6))) rn (rk rn G k) := by rw [eU, if_pos e0, if_neg n33, if_pos e, e0]
      rw [eM]
      have eix : sIx (fun q => decide (q.1 = f 5)) (sQ S) 0 = nI i := by
        cases hz : sFx (fun q => decide (q.1 = f 5)) (sQ S) 0 with
        | none => have := sFx_none hz q (List.mem_of_getElem? hi); simp [hq] at this
        | some j =>
          obtain ⟨p, hp, hpp, -⟩ := sFx_some hz
          have hpp : p.1 = f 5 := by simpa using hpp
          rw [sIx_pos hz, oq.2 j i p q hp hi (hpp.trans hq.symm)]
      have ji := nI_clamp (show i < 2 ^ 31 by omega)
      have vi : vp_in (nI i) 520 := vp_in_nI (by omega) (by omega)
      refine ⟨fun _ => ⟨fun _ => ⟨fun _ => ⟨X.1.1, X.1.1, _, c91 X, ?_⟩, fun q => absurd q a3⟩, fun q => absurd q a2⟩, fun q => absurd q a1⟩
      rintro r _ ⟨rfl, rfl⟩
      rw [eix]
      refine r100_87 ?_
      have X1 := X.qset (x := f 6) oq hi hq
      obtain ⟨k0, ⟨r1, r2, r3, r4, r5, r6, r7, r8, r9, r10, r11, r12, r13, r14, r15, r16, r17, r18, r19, r20, r21, r22, r23⟩, ⟨k1, k2, k3, k4, k5, k6, k7, k8, k9, k10, k11, k12, k13, k14, k15, k16, k17, k18, k19, k20, k21, k22, k23⟩, ⟨l1, l2, l3, l4, l5, l6, l7, l8, l9, l10, l11, l12, l13, l14, l15, l16, l17, l18, l19, l20, l21, l22, l23⟩⟩ := X.1
      simp only [k0, r1, r2, r3, r4, r5, r6, r7, r8, r9, r10, r11, r12, r13, r14, r15, r16, r17, r18, r19, r20, r21, r22, r23, k1, k2, k3, k4, k5, k6, k7, k8, k9, k10, k11, k12, k13, k14, k15, k16, k17, k18, k19, k20, k21, k22, k23, l1, l2, l3, l4, l5, l6, l7, l8, l9, l10, l11, l12, l13, l14, l15, l16, l17, l18, l19, l20, l21, l22, l23, true_and, true_or, or_true, zK_wI, zL_wI, zR_wI, forall_eq, ji, vi]
      clear k0 r1 r2 r3 r4 r5 r6 r7 r8 r9 r10 r11 r12 r13 r14 r15 r16 r17 r18 r19 r20 r21 r22 r23 k1 k2 k3 k4 k5 k6 k7 k8 k9 k10 k11 k12 k13 k14 k15 k16 k17 k18 k19 k20 k21 k22 k23 l1 l2 l3 l4 l5 l6 l7 l8 l9 l10 l11 l12 l13 l14 l15 l16 l17 l18 l19 l20 l21 l22 l23
      refine ⟨_, c85 X1 hk, ?_⟩
      rintro r h3 ⟨rfl, X3, s3⟩
      exact r100_96 ⟨rfl, ⟨_, X3.oE, LG.er (S := stQ S (sSet (sQ S) (f 5) (f 6))) L hg⟩, (zJ.wI (by unfold yA; omega)).tr s3⟩
    · have a1 : f 2 / 10 = 4 := by rw [e]; decide
      refine ⟨fun q => absurd a1 q, fun _ => ⟨X.1.1, _, c86' 3, ?_⟩⟩
      rintro r h2 ⟨rfl, X2, s2⟩
      exact r100_27 (r100_96 ⟨rfl, ends 3 (by rw [if_neg (by rw [e]; decide)]) (by rw [e]; decide) (by rw [e]; decide) h2 X2, s2⟩)
