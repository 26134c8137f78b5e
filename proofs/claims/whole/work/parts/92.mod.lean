/-! ===== the reference receives: provide ===== -/
theorem c99 {d : Nat} {h : zH} {m w rn sn : Nat} {S : sS} {f : Nat → Int32} (hw : w ≤ 4) (hr : rn ≤ w) (hs : sn < 4) (X : MM h m w S) (hf0 : f 0 = 0) (hf1 : f 1 = nI rn) (hf3 : f 3 = nI sn) (hO : ∀ k, sO S k = -1 ∨ 0 ≤ sO S k) : zD (d + 2) 99 [.inr m, .inl (f 1), .inl (f 0), .inl (f 4), .inl (f 3)] h (fun r h' => r = none ∧ MM h' m w (oPro S rn sn f) ∧ zJ (yA m) h h') := by
  obtain ⟨G, X, L⟩ := X
  have jS := nI_clamp (show 4 * rn + sn < 2 ^ 31 by omega)
  have vS : vp_in (nI (4 * rn + sn)) 20 := vp_in_nI (by omega) (by omega)
  have he := X.he (show 4 * rn + sn < 4 * (w + 1) by omega)
  rw [hf0, hf1, hf3]
  refine zD_of rfl (r99_0 ?_)
  obtain ⟨k0, ⟨r1, r2, r3, r4, r5, r6, r7, r8, r9, r10, r11, r12, r13, r14, r15, r16, r17, r18, r19, r20, r21, r22, r23⟩, ⟨k1, k2, k3, k4, k5, k6, k7, k8, k9, k10, k11, k12, k13, k14, k15, k16, k17, k18, k19, k20, k21, k22, k23⟩, ⟨l1, l2, l3, l4, l5, l6, l7, l8, l9, l10, l11, l12, l13, l14, l15, l16, l17, l18, l19, l20, l21, l22, l23⟩⟩ := X.1
  simp only [k0, r1, r2, r3, r4, r5, r6, r7, r8, r9, r10, r11, r12, r13, r14, r15, r16, r17, r18, r19, r20, r21, r22, r23, k1, k2, k3, k4, k5, k6, k7, k8, k9, k10, k11, k12, k13, k14, k15, k16, k17, k18, k19, k20, k21, k22, k23, l1, l2, l3, l4, l5, l6, l7, l8, l9, l10, l11, l12, l13, l14, l15, l16, l17, l18, l19, l20, l21, l22, l23, true_and, true_or, or_true, e4x, jS, vS, he]
  clear k0 r1 r2 r3 r4 r5 r6 r7 r8 r9 r10 r11 r12 r13 r14 r15 r16 r17 r18 r19 r20 r21 r22 r23 k1 k2 k3 k4 k5 k6 k7 k8 k9 k10 k11 k12 k13 k14 k15 k16 k17 k18 k19 k20 k21 k22 k23 l1 l2 l3 l4 l5 l6 l7 l8 l9 l10 l11 l12 l13 l14 l15 l16 l17 l18 l19 l20 l21 l22 l23
  refine ⟨fun q => ?_, fun q => ?_⟩
  · have eU : oPro S rn sn f = oSend S (sRow [nI rn, 0, 34, nI sn, 0, f 4, -1]) := by unfold oPro; rw [if_pos q, hf1, hf3]
    rw [eU]
    refine r99_25 ⟨fun q => absurd q (by decide), fun _ => ⟨fun _ => ⟨fun _ => ⟨X.1.1, _, c87 X, ?_⟩, fun q => absurd (show (-1 : Int32) < 0 by decide) q⟩, fun q => absurd rfl q⟩⟩
    rintro r h1 ⟨rfl, X1, s1⟩
    exact r99_126 ⟨rfl, ⟨G, X1, L⟩, s1⟩
  · have eU : oPro S rn sn f = oSend (stU (stO S (sUpK (sO S) rn (sAlK (sO S) rn) (nI sn))) (sUpK (sU S) rn (sAlK (sO S) rn) (sClk S + 8))) (sRow [nI rn, 0, 34, nI sn, 0, f 4, aR rn (sAlK (sO S) rn)]) := by
      unfold oPro; rw [if_neg q, hf1, hf3]; rfl
    rw [eU]
    have hA : ∀ k, sAlK (sO S) rn = some k → k < 2 := fun k hk => by
      unfold sAlK at hk
      split at hk
      · cases hk; decide
      · split at hk
        · cases hk; decide
        · cases hk
    have j0 := nI_clamp (show 2 * rn + 0 < 2 ^ 31 by omega)
    have j1 := nI_clamp (show 2 * rn + 1 < 2 ^ 31 by omega)
    have v0 : vp_in (nI (2 * rn + 0)) 10 := vp_in_nI (by omega) (by omega)
    have v1 : vp_in (nI (2 * rn + 1)) 10 := vp_in_nI (by omega) (by omega)
    have i0 : (2 : Int32) * nI rn + 0 = nI (2 * rn + 0) := e2x rn 0
    have i1 : (2 : Int32) * nI rn + 1 = nI (2 * rn + 1) := e2x rn 1
    have h0 : (100 : Int32) * nI rn + 0 = aR rn (some 0) := e100x rn 0
    have h1 : (100 : Int32) * nI rn + 1 = aR rn (some 1) := e100x rn 1
    have o0 : zI h (m + 10) (2 * rn + 0) = sO S (2 * rn) := (X.ou (show 2 * rn + 0 < 10 by omega)).1
    have o1 : zI h (m + 10) (2 * rn + 1) = sO S (2 * rn + 1) := (X.ou (show 2 * rn + 1 < 10 by omega)).1
    have neg : ∀ k, 0 ≤ sO S k → ¬ sO S k = -1 := fun k h1 h2 => by rw [h2] at h1; exact absurd h1 (by decide)
    have pos : ∀ k, ¬ 0 ≤ sO S k → sO S k = -1 := fun k h1 => (hO k).resolve_right h1
    have step0 : ∀ p : Option Nat, (∀ k, p = some k → k < 2) → (p = if sO S (2 * rn + 1) = -1 then some 1 else none) → zWp zm99 (zD (d + 1)) (fun r h' => r = none ∧ MM h' m w (oSend (stU (stO S (sUpK (sO S) rn (sAlK (sO S) rn) (nI sn))) (sUpK (sU S) rn (sAlK (sO S) rn) (sClk S + 8))) (sRow [nI rn, 0, 34, nI sn, 0, f 4, aR rn (sAlK (sO S) rn)])) ∧ zJ (yA m) h h') 0 0 25 [some (.inr m), some (.inl (nI rn)), some (.inl 0), some (.inl (f 4)), some (.inl (nI sn)), some (.inl (aR rn p)), some (.inl 0)] [] h := by
      intro p hp ep
      have na : ¬ aR rn p = -1 := by
        cases p with
        | none => exact (by decide : ¬ (-2 : Int32) = -1)
        | some k => exact nI_m1 (by have := hp k rfl; omega)
      refine r99_25 ⟨fun q => absurd q (by decide), fun _ => ⟨fun q => absurd q na, fun _ => ?_⟩⟩
      obtain ⟨k0, ⟨r1, r2, r3, r4, r5, r6, r7, r8, r9, r10, r11, r12, r13, r14, r15, r16, r17, r18, r19, r20, r21, r22, r23⟩, ⟨k1, k2, k3, k4, k5, k6, k7, k8, k9, k10, k11, k12, k13, k14, k15, k16, k17, k18, k19, k20, k21, k22, k23⟩, ⟨l1, l2, l3, l4, l5, l6, l7, l8, l9, l10, l11, l12, l13, l14, l15, l16, l17, l18, l19, l20, l21, l22, l23⟩⟩ := X.1
      simp only [k0, r1, r2, r3, r4, r5, r6, r7, r8, r9, r10, r11, r12, r13, r14, r15, r16, r17, r18, r19, r20, r21, r22, r23, k1, k2, k3, k4, k5, k6, k7, k8, k9, k10, k11, k12, k13, k14, k15, k16, k17, k18, k19, k20, k21, k22, k23, l1, l2, l3, l4, l5, l6, l7, l8, l9, l10, l11, l12, l13, l14, l15, l16, l17, l18, l19, l20, l21, l22, l23, true_and, true_or, or_true, i0, j0, v0, o0, h0]
      clear k0 r1 r2 r3 r4 r5 r6 r7 r8 r9 r10 r11 r12 r13 r14 r15 r16 r17 r18 r19 r20 r21 r22 r23 k1 k2 k3 k4 k5 k6 k7 k8 k9 k10 k11 k12 k13 k14 k15 k16 k17 k18 k19 k20 k21 k22 k23 l1 l2 l3 l4 l5 l6 l7 l8 l9 l10 l11 l12 l13 l14 l15 l16 l17 l18 l19 l20 l21 l22 l23
      rw [show (0 : Int32) + -1 = -1 by decide]
      refine ⟨fun q => ?_, fun q => ?_⟩
      · have e : p = sAlK (sO S) rn := by rw [ep]; unfold sAlK; rw [if_neg (neg _ q)]
        rw [e]
        exact c99t hw hr X L hA
      · have e : (some 0 : Option Nat) = sAlK (sO S) rn := by unfold sAlK; rw [if_pos (pos _ q)]
        rw [e]
        exact c99t hw hr X L hA
    refine r99_25 ⟨fun q => absurd q (by decide), fun _ => ⟨fun q => absurd q (by decide), fun _ => ?_⟩⟩
    obtain ⟨k0, ⟨r1, r2, r3, r4, r5, r6, r7, r8, r9, r10, r11, r12, r13, r14, r15, r16, r17, r18, r19, r20, r21, r22, r23⟩, ⟨k1, k2, k3, k4, k5, k6, k7, k8, k9, k10, k11, k12, k13, k14, k15, k16, k17, k18, k19, k20, k21, k22, k23⟩, ⟨l1, l2, l3, l4, l5, l6, l7, l8, l9, l10, l11, l12, l13, l14, l15, l16, l17, l18, l19, l20, l21, l22, l23⟩⟩ := X.1
    simp only [k0, r1, r2, r3, r4, r5, r6, r7, r8, r9, r10, r11, r12, r13, r14, r15, r16, r17, r18, r19, r20, r21, r22, r23, k1, k2, k3, k4, k5, k6, k7, k8, k9, k10, k11, k12, k13, k14, k15, k16, k17, k18, k19, k20, k21, k22, k23, l1, l2, l3, l4, l5, l6, l7, l8, l9, l10, l11, l12, l13, l14, l15, l16, l17, l18, l19, l20, l21, l22, l23, true_and, true_or, or_true, i1, j1, v1, o1, h1]
    clear k0 r1 r2 r3 r4 r5 r6 r7 r8 r9 r10 r11 r12 r13 r14 r15 r16 r17 r18 r19 r20 r21 r22 r23 k1 k2 k3 k4 k5 k6 k7 k8 k9 k10 k11 k12 k13 k14 k15 k16 k17 k18 k19 k20 k21 k22 k23 l1 l2 l3 l4 l5 l6 l7 l8 l9 l10 l11 l12 l13 l14 l15 l16 l17 l18 l19 l20 l21 l22 l23
    rw [show (1 : Int32) + -1 = 0 by decide]
    refine ⟨fun q => step0 none (fun _ z => by cases z) (by rw [if_neg (neg _ q)]), fun q => step0 (some 1) (fun _ z => by cases z; decide) (by rw [if_pos (pos _ q)])⟩
