/-! ===== the reference receives: update ===== -/
theorem c96 {d : Nat} {h : zH} {m w vn sn lo : Nat} {S : sS} {f : Nat → Int32} (hw : w ≤ 4) (hv : vn ≤ w) (hs : sn < 4) (X : MM h m w S) (ol : okL w S) (hf0 : f 0 = nI vn) (hf1 : f 1 = 0) (hf3 : f 3 = nI sn) (hlo : sLo S sn = nI lo) (hlw : lo ≤ w) : zD (d + 3) 96 [.inr m, .inl (f 0), .inl (f 4), .inl (f 3)] h (fun r h' => r = none ∧ MM h' m w (oUpd S sn f) ∧ zJ (yA m) h h') := by
  obtain ⟨G, X, L⟩ := X
  have eU : oUpd S sn f = if (sFx (pUpd (nI vn) (f 4)) (sD S 0) 0).isSome then S else oUp2 S sn (nI vn) (f 4) := by unfold oUpd oUp2 oAbort; rw [hf0, hf1, hf3]
  rw [eU, hf0, hf3]
  generalize f 4 = f4
  clear eU hf0 hf1 hf3
  cases hx : sFx (fun p => decide (p.1 = 0) && pUpd (nI vn) f4 p.2) G 0 with
  | some k0 =>
    obtain ⟨g, -, -, hy, -⟩ := L.some (P := pUpd (nI vn) f4) (Nat.zero_le _) hx
    rw [hy]
    refine zD.mono ?_ (c96a hw X L hx)
    rintro r h' ⟨rfl, rfl⟩
    exact ⟨rfl, ⟨G, X, L⟩, zJ.rf⟩
  | none =>
    have hy := L.none (P := pUpd (nI vn) f4) (Nat.zero_le _) hx
    rw [hy]
    show zD (d + 3) 96 [.inr m, .inl (nI vn), .inl f4, .inl (nI sn)] h (fun r h' => r = none ∧ MM h' m w (oUp2 S sn (nI vn) f4) ∧ zJ (yA m) h h')
    have hgl := X.gl
    obtain ⟨y1, y2, y3⟩ := X.gg
    have hcl : (sC S).length < 2 ^ 31 := by have := X.c.1; omega
    have jS := nI_clamp (show sn < 2 ^ 31 by omega)
    have vS : vp_in (nI sn) 4 := vp_in_nI (by omega) (by omega)
    have lo2 : zI h (m + 2) sn = nI lo := (X.lo hs).trans hlo
    have n1 : ((1 : Int32) = 0) = False := by simp
    refine zD_of rfl (r96_0 ?_)
    suffices H : ∀ t j, G.length - j = t → j ≤ G.length → zWp zm96 (zD (d + 2)) (fun r h' => r = none ∧ MM h' m w (oUp2 S sn (nI vn) f4) ∧ zJ (yA m) h h') 0 0 3 [some (.inr m), some (.inl (nI vn)), some (.inl f4), some (.inl (nI sn)), some (.inl (nI j)), none, none, none, none] [] h from H _ 0 rfl (Nat.zero_le _)
    intro t
    induction t with
    | zero =>
      intro j ht hj
      refine r96_3 ⟨X.1.1, fun _ => ?_, fun q => absurd (by rw [y2]; exact nI_le (by omega) (by omega)) q⟩
      obtain ⟨k0, ⟨r1, r2, r3, r4, r5, r6, r7, r8, r9, r10, r11, r12, r13, r14, r15, r16, r17, r18, r19, r20, r21, r22, r23⟩, ⟨k1, k2, k3, k4, k5, k6, k7, k8, k9, k10, k11, k12, k13, k14, k15, k16, k17, k18, k19, k20, k21, k22, k23⟩, ⟨l1, l2, l3, l4, l5, l6, l7, l8, l9, l10, l11, l12, l13, l14, l15, l16, l17, l18, l19, l20, l21, l22, l23⟩⟩ := X.1
      simp only [k0, r1, r2, r3, r4, r5, r6, r7, r8, r9, r10, r11, r12, r13, r14, r15, r16, r17, r18, r19, r20, r21, r22, r23, k1, k2, k3, k4, k5, k6, k7, k8, k9, k10, k11, k12, k13, k14, k15, k16, k17, k18, k19, k20, k21, k22, k23, l1, l2, l3, l4, l5, l6, l7, l8, l9, l10, l11, l12, l13, l14, l15, l16, l17, l18, l19, l20, l21, l22, l23, true_and, true_or, or_true, jS, vS, lo2, n1, not_true_eq_false, not_false_eq_true, false_implies, true_implies]
      clear k0 r1 r2 r3 r4 r5 r6 r7 r8 r9 r10 r11 r12 r13 r14 r15 r16 r17 r18 r19 r20 r21 r22 r23 k1 k2 k3 k4 k5 k6 k7 k8 k9 k10 k11 k12 k13 k14 k15 k16 k17 k18 k19 k20 k21 k22 k23 l1 l2 l3 l4 l5 l6 l7 l8 l9 l10 l11 l12 l13 l14 l15 l16 l17 l18 l19 l20 l21 l22 l23
      refine ⟨fun q => ⟨⟨_, c81 (v := 0) hw (by omega) L.1 X, ?_⟩, trivial⟩, fun q => ⟨fun q2 => ⟨⟨_, c81 (v := 0) hw (by omega) L.1 X, ?_⟩, trivial⟩, fun q2 => ⟨_, c93 hw (by omega) hs X, ?_⟩⟩⟩
      · rintro r _ ⟨rfl, rfl⟩
        exact c96d hw hv hs X L ol hlo hlw (Or.inl ⟨rfl, fun z => z.1.1 (by rw [hlo]; exact q)⟩)
      · rintro r _ ⟨rfl, rfl⟩
        exact c96d hw hv hs X L ol hlo hlw (Or.inl ⟨rfl, fun z => z.1.2 (by rw [hlo]; exact q2)⟩)
      · rintro r _ ⟨rfl, rfl⟩
        have hE : sEls S sn (nI vn) := ⟨by rw [hlo]; exact q, by rw [hlo]; exact q2⟩
        refine r96_100 ⟨fun q3 => ⟨X.1.1, _, c81 (v := 0) hw (by omega) L.1 X, ?_⟩, fun q3 => ⟨X.1.1, _, c81 (v := 0) hw (by omega) L.1 X, ?_⟩⟩
        · rintro r _ ⟨rfl, rfl⟩
          refine c96d hw hv hs X L ol hlo hlw (Or.inl ⟨rfl, fun z => ?_⟩)
          have := mem_fx.mpr z.2
          rw [← sIx_lt0 hcl] at this
          exact absurd this (i32_nlt.mpr q3)
        · rintro r _ ⟨rfl, rfl⟩
          refine c96d hw hv hs X L ol hlo hlw (Or.inr ⟨rfl, hE, ?_⟩)
          rw [i32_nle, sIx_lt0 hcl] at q3
          exact mem_fx.mp q3
    | succ t ih =>
      intro j ht hj
      have hjl : j < G.length := by omega
      obtain ⟨p, hp⟩ := at_lt hjl
      have hpw := L.1 p (List.mem_of_getElem? hp)
      have hno := sFx_none hx p (List.mem_of_getElem? hp)
      obtain ⟨z1, z2, z3, z4, z5, z6, z7⟩ := y3 j p hp
      have j0 := nI_clamp (show j < 2 ^ 31 by omega)
      have v1 : vp_in (nI j) 12 := vp_in_nI (by omega) (by omega)
      have q1 : ¬ nI G.length ≤ nI j := nI_ge hjl (by omega)
      have e0 : (nI p.1 = 0) ↔ p.1 = 0 := nI_eq (b := 0) (by omega) (by decide)
      have e1 : (zI h (m + 15) j = 1) = (p.2 1 = 2) := by rw [← z3]; exact propext i32_add1
      have nxt := ih (j + 1) (by omega) (by omega)
      refine r96_3 ⟨X.1.1, fun q => absurd (by rw [← y2]; exact q) q1, fun _ => ?_⟩
      obtain ⟨k0, ⟨r1, r2, r3, r4, r5, r6, r7, r8, r9, r10, r11, r12, r13, r14, r15, r16, r17, r18, r19, r20, r21, r22, r23⟩, ⟨k1, k2, k3, k4, k5, k6, k7, k8, k9, k10, k11, k12, k13, k14, k15, k16, k17, k18, k19, k20, k21, k22, k23⟩, ⟨l1, l2, l3, l4, l5, l6, l7, l8, l9, l10, l11, l12, l13, l14, l15, l16, l17, l18, l19, l20, l21, l22, l23⟩⟩ := X.1
      simp only [k0, r1, r2, r3, r4, r5, r6, r7, r8, r9, r10, r11, r12, r13, r14, r15, r16, r17, r18, r19, r20, r21, r22, r23, k1, k2, k3, k4, k5, k6, k7, k8, k9, k10, k11, k12, k13, k14, k15, k16, k17, k18, k19, k20, k21, k22, k23, l1, l2, l3, l4, l5, l6, l7, l8, l9, l10, l11, l12, l13, l14, l15, l16, l17, l18, l19, l20, l21, l22, l23, true_and, true_or, or_true, j0, v1, z1, e0, e1, z5, z7, nI_1]
      clear k0 r1 r2 r3 r4 r5 r6 r7 r8 r9 r10 r11 r12 r13 r14 r15 r16 r17 r18 r19 r20 r21 r22 r23 k1 k2 k3 k4 k5 k6 k7 k8 k9 k10 k11 k12 k13 k14 k15 k16 k17 k18 k19 k20 k21 k22 k23 l1 l2 l3 l4 l5 l6 l7 l8 l9 l10 l11 l12 l13 l14 l15 l16 l17 l18 l19 l20 l21 l22 l23
      refine ⟨fun _ => nxt, fun q => ⟨fun _ => nxt, fun q2 => ⟨fun _ => nxt, fun q3 => ⟨fun _ => nxt, fun q4 => ?_⟩⟩⟩⟩
      simp [pUpd, q, q2, q3, q4] at hno
/-! ===== the reference receives: cancel ===== -/
theorem c98 {d : Nat} {h : zH} {m w rn sn : Nat} {S : sS} {f : Nat → Int32} (hw : w ≤ 4) (hr : rn ≤ w) (hs : sn < 4) (X : MM h m w S) (hf0 : f 0 = 0) (hf1 : f 1 = nI rn) (hf3 : f 3 = nI sn) : zD (d + 3) 98 [.inr m, .inl (f 1), .inl (f 0), .inl (f 4), .inl (f 3)] h (fun r h' => r = none ∧ MM h' m w (oCan S rn sn f) ∧ zJ (yA m) h h') := by
  obtain ⟨G, X, L⟩ := X
  have eU : oCan S rn sn f = oSend (match sFx (pFind 1 0 (nI sn)) (sD S rn) 0 with
    | some k => oEndR (oHold S (4 * rn + sn) 0) rn k sn 3
    | none => oHold S (4 * rn + sn) 0) (sRow [nI rn, 0, 33, nI sn, 0, f 4, 0]) := by unfold oCan; rw [hf1, hf3]; rfl
  rw [eU, hf0, hf1, hf3]
  generalize f 4 = f4
  clear eU hf0 hf1 hf3
  have jS := nI_clamp (show 4 * rn + sn < 2 ^ 31 by omega)
  have vS : vp_in (nI (4 * rn + sn)) 20 := vp_in_nI (by omega) (by omega)
  have hX : MH (zwI h (m + 8) (4 * rn + sn) 0) m w (oHold S (4 * rn + sn) 0) G := X.whe
  have hL : LG w (oHold S (4 * rn + sn) 0) G := L
  have hD : sD S rn = sD (oHold S (4 * rn + sn) 0) rn := rfl
  rw [hD]
  generalize oHold S (4 * rn + sn) 0 = S1 at hX hL hD ⊢
  have hgl := hX.gl
  have s1 : zJ (yA m) h (zwI h (m + 8) (4 * rn + sn) 0) := zJ.wI (by unfold yA; omega)
  have k83 := c83 (d := d + 1) (v := rn) (kd := 0) (ot := 0) (su := nI sn) hw (by omega) hL.1 hX
  rw [a01] at k83
  refine zD_of rfl (r98_0 ?_)
  obtain ⟨k0, ⟨r1, r2, r3, r4, r5, r6, r7, r8, r9, r10, r11, r12, r13, r14, r15, r16, r17, r18, r19, r20, r21, r22, r23⟩, ⟨k1, k2, k3, k4, k5, k6, k7, k8, k9, k10, k11, k12, k13, k14, k15, k16, k17, k18, k19, k20, k21, k22, k23⟩, ⟨l1, l2, l3, l4, l5, l6, l7, l8, l9, l10, l11, l12, l13, l14, l15, l16, l17, l18, l19, l20, l21, l22, l23⟩⟩ := X.1
  simp only [k0, r1, r2, r3, r4, r5, r6, r7, r8, r9, r10, r11, r12, r13, r14, r15, r16, r17, r18, r19, r20, r21, r22, r23, k1, k2, k3, k4, k5, k6, k7, k8, k9, k10, k11, k12, k13, k14, k15, k16, k17, k18, k19, k20, k21, k22, k23, l1, l2, l3, l4, l5, l6, l7, l8, l9, l10, l11, l12, l13, l14, l15, l16, l17, l18, l19, l20, l21, l22, l23, true_and, true_or, or_true, zK_wI, zL_wI, zR_wI, forall_eq, e4x, jS, vS, show vp_nar FieldType.boolean 0 = 0 from rfl]
  clear k0 r1 r2 r3 r4 r5 r6 r7 r8 r9 r10 r11 r12 r13 r14 r15 r16 r17 r18 r19 r20 r21 r22 r23 k1 k2 k3 k4 k5 k6 k7 k8 k9 k10 k11 k12 k13 k14 k15 k16 k17 k18 k19 k20 k21 k22 k23 l1 l2 l3 l4 l5 l6 l7 l8 l9 l10 l11 l12 l13 l14 l15 l16 l17 l18 l19 l20 l21 l22 l23
  have tail : ∀ (h2 : zH) (S2 : sS) (G2 : List (Nat × (Nat → Int32))) (l5 : Int32), MH h2 m w S2 G2 → LG w S2 G2 → zJ (yA m) h h2 → zWp zm98 (zD (d + 2)) (fun r h' => r = none ∧ MM h' m w (oSend S2 (sRow [nI rn, 0, 33, nI sn, 0, f4, 0])) ∧ zJ (yA m) h h') 0 0 35 [some (.inr m), some (.inl (nI rn)), some (.inl 0), some (.inl f4), some (.inl (nI sn)), some (.inl l5)] [] h2 := by
    intro h2 S2 G2 l5 X2 L2 s2
    refine r98_35 ⟨X2.1.1, _, c87 X2, ?_⟩
    rintro r h3 ⟨rfl, X3, s3⟩
    exact r98_48 ⟨rfl, ⟨G2, X3, L2⟩, s2.tr s3⟩
  refine ⟨_, k83, ?_⟩
  rintro r _ ⟨rfl, rfl⟩
  cases hx : sFx (pAb rn 1 0 (nI sn)) G 0 with
  | none =>
    have hy := hL.none (P := pFind 1 0 (nI sn)) hr hx
    rw [hy]
    exact r98_21 ⟨fun _ => tail _ S1 G _ hX hL s1, fun q => absurd (by rw [sIx_lt0 hgl, hx]) q⟩
  | some k =>
    obtain ⟨g, hg, hgp, hy, -⟩ := hL.some (P := pFind 1 0 (nI sn)) hr hx
    have hk := lt_at hg
    have hgp : g 1 = 1 ∧ g 2 = 0 ∧ g 3 = nI sn := by simpa [pFind] using hgp
    rw [hy, sIx_pos hx]
    refine r98_21 ⟨fun q => absurd q (nI_pos (by omega)), fun _ => ⟨hX.1.1, _, c86 hw hX hg hr hs hgp.2.2, ?_⟩⟩
    rintro r h2 ⟨rfl, X2, s2⟩
    have X2 : MH h2 m w (if g 1 = 1 then oStand S1 (4 * rn + sn) 3 else S1) (G.eraseIdx k) := X2
    rw [if_pos hgp.1] at X2
    exact tail h2 (oEndR S1 rn (rk rn G k) sn 3) (G.eraseIdx k) _ X2.oE (LG.er (S := oStand S1 (4 * rn + sn) 3) hL hg) (s1.tr s2)
