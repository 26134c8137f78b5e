/-! ===== the reference: tick, the cancellations ===== -/
theorem okL_beg {w v : Nat} {S : sS} {kd ot su dl an : Int32} (ok : okL w S) (hlt : (sD S v).length < nC v) : okL w (oBegin S v kd ot su dl an) := fun u hu => by
  show (updD (sD S) v (sD S v ++ [sRow [sL S v + 1, kd, ot, su, dl, an]]) u).length ≤ nC u
  by_cases e : u = v
  · subst e; rw [updD_at, List.length_append]; exact hlt
  · rw [updD_ne e]; exact ok u hu
theorem c107c {d : Nat} {h : zH} {m w : Nat} {ck : Int32} (hw : w ≤ 4) : ∀ (t j : Nat) (h1 : zH) (S1 : sS) (G1 : List (Nat × (Nat → Int32))) (o2 : Option zV), (sC S1).length - j = t → j ≤ (sC S1).length → MH h1 m w S1 G1 → LG w S1 G1 → okL w S1 → sClk S1 = ck → zJ (yA m) h h1 →
    zWp zm107 (zD (d + 1)) (fun r h' => r = some (.inl ck) ∧ MM h' m w (oSCs t j S1) ∧ zJ (yA m) h h') 0 0 127 [some (.inr m), some (.inl (nI j)), o2] [] h1 := by
  intro t
  induction t with
  | zero =>
    intro j h1 S1 G1 o2 ht hj X L ol eck s1
    have c6 := X.c.1
    refine r107_127 ⟨X.1.1, fun _ => ⟨X.1.1, by rw [X.clk, eck], ⟨G1, X, L⟩, s1⟩, fun q => absurd (by rw [X.c.2.1]; exact nI_le (by omega) (by omega)) q⟩
  | succ t ih =>
    intro j h1 S1 G1 o2 ht hj X L ol eck s1
    obtain ⟨c1, c2, c3⟩ := X.c
    have hgl := X.gl
    obtain ⟨p, hp⟩ := at_lt (show j < (sC S1).length by omega)
    obtain ⟨a, b, ha, hb, e6, e7, ep⟩ := c3 j p hp
    have d4 : p / 4 = nI a := by rw [ep]; have := nI_div (a := 4 * a + b) (b := 4) (by omega) (by decide) (by decide); rw [show (4 * a + b) / 4 = a by omega] at this; exact this
    have m4 : p - p / 4 * 4 = nI b := by rw [ep]; have := nI_mod (a := 4 * a + b) (b := 4) (by omega) (by decide) (by decide); rw [show (4 * a + b) % 4 = b by omega] at this; exact this
    have j0 := nI_clamp (show j < 2 ^ 31 by omega)
    have v0 : vp_in (nI j) 7 := vp_in_nI (by omega) (by omega)
    have q1 : ¬ nI (sC S1).length ≤ nI j := nI_ge (by omega) (by omega)
    have hD0 := ol 0 (Nat.zero_le _)
    rw [show nC 0 = 4 from rfl] at hD0
    have eS : oSCs (t + 1) j S1 = oSCs t (j + 1) (oSC S1 p) := by
      show (match (sC S1)[j]? with | some p => oSCs t (j + 1) (oSC S1 p) | none => S1) = _
      rw [hp]
    have eC : oSC S1 p = if (sD S1 0).length = 4 ∨ (sFx (pFind 3 (nI a) (nI b)) (sD S1 0) 0).isSome then S1 else oSend (oBegin S1 0 3 (nI a) (nI b) (sClk S1 + 4) 0) (sRow [0, nI a, 13, nI b, sL S1 0 + 1, 0, 0]) := by unfold oSC; rw [m4, d4]
    rw [eS]
    have k83 := c83 (d := d) (v := 0) (kd := 2) (ot := nI a) (su := nI b) hw (by omega) L.1 X
    rw [a21] at k83
    have skip (o : Option zV) (z : (sD S1 0).length = 4 ∨ (sFx (pFind 3 (nI a) (nI b)) (sD S1 0) 0).isSome) := ih (j + 1) h1 S1 G1 o (by omega) (by omega) X L ol eck s1
    refine r107_127 ⟨X.1.1, fun q => absurd (by rw [← c2]; exact q) q1, fun _ => ?_⟩
    obtain ⟨k0, ⟨r1, r2, r3, r4, r5, r6, r7, r8, r9, r10, r11, r12, r13, r14, r15, r16, r17, r18, r19, r20, r21, r22, r23⟩, ⟨k1, k2, k3, k4, k5, k6, k7, k8, k9, k10, k11, k12, k13, k14, k15, k16, k17, k18, k19, k20, k21, k22, k23⟩, ⟨l1, l2, l3, l4, l5, l6, l7, l8, l9, l10, l11, l12, l13, l14, l15, l16, l17, l18, l19, l20, l21, l22, l23⟩⟩ := X.1
    simp only [k0, r1, r2, r3, r4, r5, r6, r7, r8, r9, r10, r11, r12, r13, r14, r15, r16, r17, r18, r19, r20, r21, r22, r23, k1, k2, k3, k4, k5, k6, k7, k8, k9, k10, k11, k12, k13, k14, k15, k16, k17, k18, k19, k20, k21, k22, k23, l1, l2, l3, l4, l5, l6, l7, l8, l9, l10, l11, l12, l13, l14, l15, l16, l17, l18, l19, l20, l21, l22, l23, true_and, true_or, or_true, j0, v0, e6, e7]
    clear k0 r1 r2 r3 r4 r5 r6 r7 r8 r9 r10 r11 r12 r13 r14 r15 r16 r17 r18 r19 r20 r21 r22 r23 k1 k2 k3 k4 k5 k6 k7 k8 k9 k10 k11 k12 k13 k14 k15 k16 k17 k18 k19 k20 k21 k22 k23 l1 l2 l3 l4 l5 l6 l7 l8 l9 l10 l11 l12 l13 l14 l15 l16 l17 l18 l19 l20 l21 l22 l23
    refine ⟨_, k83, ?_⟩
    rintro r _ ⟨rfl, rfl⟩
    have eL : (flt 0 G1).length = (sD S1 0).length := by rw [L.2 0 (Nat.zero_le _)]
    cases hx : sFx (pAb 0 3 (nI a) (nI b)) G1 0 with
    | some k =>
      obtain ⟨g, hg, -, hy, -⟩ := L.some (P := pFind 3 (nI a) (nI b)) (Nat.zero_le _) hx
      have hk := lt_at hg
      have z : (sD S1 0).length = 4 ∨ (sFx (pFind 3 (nI a) (nI b)) (sD S1 0) 0).isSome := Or.inr (by rw [hy]; rfl)
      rw [eC, if_pos z, sIx_pos hx]
      refine r107_153 ⟨fun _ => r107_207 ?_, fun q => absurd (nI_pos' (by omega)) q⟩
      rw [nI_1]; exact skip _ z
    | none =>
      have hy := L.none (P := pFind 3 (nI a) (nI b)) (Nat.zero_le _) hx
      refine r107_153 ⟨fun q => absurd (show sIx (pAb 0 3 (nI a) (nI b)) G1 0 < 0 by rw [sIx_lt0 hgl, hx]) (i32_nlt.mpr q), fun _ => ⟨X.1.1, _, c81 (v := 0) hw (by omega) L.1 X, ?_⟩⟩
      rintro r _ ⟨rfl, rfl⟩
      rw [eL]
      have e4 : ((4 : Int32) ≤ nI (sD S1 0).length) ↔ 4 ≤ (sD S1 0).length := nI_leI (a := 4) (by decide) (by omega)
      by_cases h4 : (sD S1 0).length = 4
      · rw [eC, if_pos (Or.inl h4)]
        refine r107_161 ⟨fun _ => r107_207 ?_, fun q => absurd (e4.mpr (by omega)) q⟩
        rw [nI_1]; exact skip _ (Or.inl h4)
      · have hlt : (sD S1 0).length < nC 0 := by rw [show nC 0 = 4 from rfl]; omega
        rw [eC, if_neg (by rw [hy]; rintro (z | z); exact h4 z; cases z)]
        have k84 := c84k (d := d) (v := 0) (kd := 2) (kk := 3) (su := nI b) (wi := nI a) (la := 4) a21 rfl rfl hw (Nat.zero_le _) (L.lt hw ol (Nat.zero_le _) hlt) X
        have hL : LG w (oBegin S1 0 3 (nI a) (nI b) (sClk S1 + 4) 0) (G1 ++ [(0, sRow [sL S1 0 + 1, 3, nI a, nI b, sClk S1 + 4, 0])]) := L.beg (Nat.zero_le _)
        have hol : okL w (oBegin S1 0 3 (nI a) (nI b) (sClk S1 + 4) 0) := okL_beg ol hlt
        have hCC : sC (oBegin S1 0 3 (nI a) (nI b) (sClk S1 + 4) 0) = sC S1 := rfl
        have hck : sClk (oBegin S1 0 3 (nI a) (nI b) (sClk S1 + 4) 0) = ck := eck
        generalize oBegin S1 0 3 (nI a) (nI b) (sClk S1 + 4) 0 = S2 at k84 hL hol hCC hck ⊢
        generalize G1 ++ [(0, sRow [sL S1 0 + 1, 3, nI a, nI b, sClk S1 + 4, 0])] = G2 at k84 hL
        refine r107_161 ⟨fun q => absurd (e4.mp q) (by omega), fun _ => ?_⟩
        obtain ⟨k0, ⟨r1, r2, r3, r4, r5, r6, r7, r8, r9, r10, r11, r12, r13, r14, r15, r16, r17, r18, r19, r20, r21, r22, r23⟩, ⟨k1, k2, k3, k4, k5, k6, k7, k8, k9, k10, k11, k12, k13, k14, k15, k16, k17, k18, k19, k20, k21, k22, k23⟩, ⟨l1, l2, l3, l4, l5, l6, l7, l8, l9, l10, l11, l12, l13, l14, l15, l16, l17, l18, l19, l20, l21, l22, l23⟩⟩ := X.1
        simp only [k0, r1, r2, r3, r4, r5, r6, r7, r8, r9, r10, r11, r12, r13, r14, r15, r16, r17, r18, r19, r20, r21, r22, r23, k1, k2, k3, k4, k5, k6, k7, k8, k9, k10, k11, k12, k13, k14, k15, k16, k17, k18, k19, k20, k21, k22, k23, l1, l2, l3, l4, l5, l6, l7, l8, l9, l10, l11, l12, l13, l14, l15, l16, l17, l18, l19, l20, l21, l22, l23, true_and, true_or, or_true, j0, v0, e6, e7]
        clear k0 r1 r2 r3 r4 r5 r6 r7 r8 r9 r10 r11 r12 r13 r14 r15 r16 r17 r18 r19 r20 r21 r22 r23 k1 k2 k3 k4 k5 k6 k7 k8 k9 k10 k11 k12 k13 k14 k15 k16 k17 k18 k19 k20 k21 k22 k23 l1 l2 l3 l4 l5 l6 l7 l8 l9 l10 l11 l12 l13 l14 l15 l16 l17 l18 l19 l20 l21 l22 l23
        refine ⟨_, k84, ?_⟩
        rintro r h2 ⟨rfl, X2, s2⟩
        obtain ⟨d1, d2, d3⟩ := X2.c
        obtain ⟨a', b', ha', hb', f6, f7, fp⟩ := d3 j p (by rw [hCC]; exact hp)
        have hab : a' = a ∧ b' = b := by
          have := (nI_eq (show 4 * a + b < 2 ^ 31 by omega) (show 4 * a' + b' < 2 ^ 31 by omega)).mp (ep.symm.trans fp)
          omega
        rw [hab.1] at f6
        rw [hab.2] at f7
        refine r107_184 ?_
        obtain ⟨k0, ⟨r1, r2, r3, r4, r5, r6, r7, r8, r9, r10, r11, r12, r13, r14, r15, r16, r17, r18, r19, r20, r21, r22, r23⟩, ⟨k1, k2, k3, k4, k5, k6, k7, k8, k9, k10, k11, k12, k13, k14, k15, k16, k17, k18, k19, k20, k21, k22, k23⟩, ⟨l1, l2, l3, l4, l5, l6, l7, l8, l9, l10, l11, l12, l13, l14, l15, l16, l17, l18, l19, l20, l21, l22, l23⟩⟩ := X2.1
        simp only [k0, r1, r2, r3, r4, r5, r6, r7, r8, r9, r10, r11, r12, r13, r14, r15, r16, r17, r18, r19, r20, r21, r22, r23, k1, k2, k3, k4, k5, k6, k7, k8, k9, k10, k11, k12, k13, k14, k15, k16, k17, k18, k19, k20, k21, k22, k23, l1, l2, l3, l4, l5, l6, l7, l8, l9, l10, l11, l12, l13, l14, l15, l16, l17, l18, l19, l20, l21, l22, l23, true_and, true_or, or_true, j0, v0, f6, f7]
        clear k0 r1 r2 r3 r4 r5 r6 r7 r8 r9 r10 r11 r12 r13 r14 r15 r16 r17 r18 r19 r20 r21 r22 r23 k1 k2 k3 k4 k5 k6 k7 k8 k9 k10 k11 k12 k13 k14 k15 k16 k17 k18 k19 k20 k21 k22 k23 l1 l2 l3 l4 l5 l6 l7 l8 l9 l10 l11 l12 l13 l14 l15 l16 l17 l18 l19 l20 l21 l22 l23
        refine ⟨_, c87 X2, ?_⟩
        rintro r h3 ⟨rfl, X3, s3⟩
        refine r107_207 ?_
        rw [nI_1]
        exact ih (j + 1) h3 (oSend S2 (sRow [0, nI a, 13, nI b, sL S1 0 + 1, 0, 0])) G2 _ (by show (sC S2).length - _ = _; rw [hCC]; omega) (by show _ ≤ (sC S2).length; rw [hCC]; omega) X3 hL hol hck (s1.tr (s2.tr s3))
