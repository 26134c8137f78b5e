/-! ===== the reference: answer, copy, dialogue ===== -/
theorem pAns_u {Q : List (Int32 × Int32)} {n x y : Int32} (oq : okQ Q) (hx : pAns Q n x) (hy : pAns Q n y) : x = y := by
  rcases hx with ⟨i, p, h1, h2, h3, h4⟩ | ⟨h1, h2⟩ <;> rcases hy with ⟨j, q, g1, g2, g3, g4⟩ | ⟨g1, g2⟩
  · have := oq.2 i j p q h1 g1 (h3.trans g3.symm)
    subst this
    rw [h1] at g1
    cases g1
    rw [h4, g4]
  · exact absurd h3 (g1 i p h1 h2)
  · exact absurd g3 (h1 j q g1 g2)
  · rw [h2, g2]
theorem c92 {d : Nat} {h : zH} {m w : Nat} {S : sS} {n : Int32} (X : MM h m w S) (oq : okQ (sQ S)) : zD (d + 2) 92 [.inr m, .inl n] h (fun r h' => (∃ x, r = some (.inl x) ∧ pAns (sQ S) n x) ∧ MM h' m w S ∧ zJ (yA m) h h') := by
  obtain ⟨G, X, L⟩ := X
  obtain ⟨y1, y2, y3⟩ := X.q
  refine zD_of rfl (r92_0 ⟨X.1.1, _, c91 X, ?_⟩)
  rintro r _ ⟨rfl, rfl⟩
  cases hx : sFx (fun q => decide (q.1 = n)) (sQ S) 0 with
  | none =>
    refine r92_5 ⟨fun q => ⟨⟨-9, rfl, Or.inr ⟨fun i q hq _ e => ?_, rfl⟩⟩, ⟨G, X, L⟩, zJ.rf⟩, fun q => absurd (by rw [sIx_lt0 (by omega), hx]) q⟩
    have := sFx_none hx q (List.mem_of_getElem? hq)
    simp [e] at this
  | some k =>
    obtain ⟨p, hk, hp, -⟩ := sFx_some hx
    have hp : p.1 = n := by simpa using hp
    have hkl := lt_at hk
    obtain ⟨l, hl⟩ : ∃ l, (sQ S).length = l := ⟨_, rfl⟩
    rw [hl] at y1 y2 hkl
    have j0 := nI_clamp (show k < 2 ^ 31 by omega)
    have v1 : vp_in (nI k) 520 := vp_in_nI (by omega) (by omega)
    have es : nI l - 1 - nI k = nI (l - 1 - k) := by rw [show nI l - 1 = nI (l - 1) from pk_sub (b := 1) (by omega)]; exact pk_sub (by omega)
    have e20 : (nI (l - 1 - k) < 20) ↔ l - 1 - k < 20 := nI_ltI (b := 20) (by omega) (by decide)
    have z2 := (y3 k p hk).2
    rw [sIx_pos hx]
    refine r92_5 ⟨fun q => absurd q (nI_pos (by omega)), fun _ => ?_⟩
    obtain ⟨k0, ⟨r1, r2, r3, r4, r5, r6, r7, r8, r9, r10, r11, r12, r13, r14, r15, r16, r17, r18, r19, r20, r21, r22, r23⟩, ⟨k1, k2, k3, k4, k5, k6, k7, k8, k9, k10, k11, k12, k13, k14, k15, k16, k17, k18, k19, k20, k21, k22, k23⟩, ⟨l1, l2, l3, l4, l5, l6, l7, l8, l9, l10, l11, l12, l13, l14, l15, l16, l17, l18, l19, l20, l21, l22, l23⟩⟩ := X.1
    simp only [k0, r1, r2, r3, r4, r5, r6, r7, r8, r9, r10, r11, r12, r13, r14, r15, r16, r17, r18, r19, r20, r21, r22, r23, k1, k2, k3, k4, k5, k6, k7, k8, k9, k10, k11, k12, k13, k14, k15, k16, k17, k18, k19, k20, k21, k22, k23, l1, l2, l3, l4, l5, l6, l7, l8, l9, l10, l11, l12, l13, l14, l15, l16, l17, l18, l19, l20, l21, l22, l23, true_and, true_or, or_true, y2, es, e20, j0, v1, z2]
    refine ⟨fun q => ⟨⟨_, rfl, Or.inl ⟨k, p, hk, by omega, hp, rfl⟩⟩, ⟨G, X, L⟩, zJ.rf⟩, fun q => ⟨⟨-9, rfl, Or.inr ⟨fun i q2 hq hle e => ?_, rfl⟩⟩, ⟨G, X, L⟩, zJ.rf⟩⟩
    have := oq.2 i k q2 p hq hk (e.trans hp.symm)
    omega
theorem c103 {d : Nat} {h : zH} {m w : Nat} {S : sS} {i : Int32} (X : MM h m w S) : zD (d + 1) 103 [.inr m, .inl i] h (fun r h' => r = some (.inl (oCopy S i).1) ∧ MM h' m w (oCopy S i).2 ∧ zJ (yA m) h h') := by
  obtain ⟨G, X, L⟩ := X
  obtain ⟨y1, y2, y3⟩ := X.f
  refine zD_of rfl (r103_0 ⟨fun q => ?_, fun q => ⟨X.1.1, ?_⟩⟩)
  · unfold oCopy; rw [lx_neg q]; exact ⟨Or.inl rfl, rfl, ⟨G, X, L⟩, zJ.rf⟩
  rw [y2]
  refine ⟨fun q2 => ?_, fun q2 => ⟨X.1.1, ?_⟩⟩
  · unfold oCopy; rw [lx_ge (by omega) q (by rw [i32_nlt]; exact q2)]; exact ⟨Or.inl rfl, rfl, ⟨G, X, L⟩, zJ.rf⟩
  obtain ⟨k, f, hx, rfl, hf⟩ := lx_lt (by omega) q (i32_nle.mp q2)
  have hk := lt_at hf
  unfold oCopy; rw [hx]
  obtain ⟨n, hn⟩ : ∃ n, (sF S).length = n := ⟨_, rfl⟩
  rw [hn] at y1 y2 hk ⊢
  have e24 : (nI n = 24) ↔ n = 24 := nI_eq (b := 24) (by omega) (by decide)
  rw [e24]
  refine ⟨fun q3 => ?_, fun q3 => ?_⟩
  rotate_left
  · show _ ∧ some (Sum.inl 0) = some (Sum.inl (if n = 24 then (0, S) else (1, stF S (sF S ++ [f]))).1) ∧ MM h m w (if n = 24 then (0, S) else (1, stF S (sF S ++ [f]))).2 ∧ _
    rw [if_pos q3]; exact ⟨Or.inl rfl, rfl, ⟨G, X, L⟩, zJ.rf⟩
  show zWp zm103 (zD d) (fun r h' => r = some (Sum.inl (if n = 24 then (0, S) else (1, stF S (sF S ++ [f]))).1) ∧ MM h' m w (if n = 24 then (0, S) else (1, stF S (sF S ++ [f]))).2 ∧ zJ (yA m) h h') _ _ _ _ _ _
  rw [if_neg q3]
  suffices H : ∀ t j h3, 8 - j = t → j ≤ 8 → zJ (fun q => q = m ∨ q = m + 22 ∨ q = m + 23) h h3 → (∀ c, zI h3 m c = zI h m c) → (∀ q, q < 8 * n → zI h3 (m + 22) q = zI h (m + 22) q) → (∀ u, u < j → zI h3 (m + 22) (8 * n + u) = sPart f (nI u)) → zWp zm103 (zD d) (fun r h' => r = some (Sum.inl ((1, stF S (sF S ++ [f])) : Int32 × sS).1) ∧ MM h' m w ((1, stF S (sF S ++ [f])) : Int32 × sS).2 ∧ zJ (yA m) h h') 0 0 25 [some (.inr m), some (.inl (nI k)), some (.inl (nI j))] [] h3 from
    H _ 0 h rfl (by omega) zJ.rf (fun _ => rfl) (fun _ _ => rfl) (fun u hu => by omega)
  intro t
  induction t with
  | zero =>
    intro j h3 ht hj s3 h0 hlo hhi
    have ej : j = 8 := by omega
    subst ej
    have g3 := gM_J s3 X.1
    refine r103_25 ⟨fun _ => ⟨g3.1, g3.1, fun h4 e4 => ⟨Or.inr rfl, rfl, ?_⟩⟩, fun q => absurd (nI_le (Nat.le_refl 8) (by decide)) q⟩
    have s4 : zJ (fun q => q = m ∨ q = m + 22 ∨ q = m + 23) h h4 := s3.tr (by rw [e4]; exact zJ.wI (Or.inl rfl))
    refine ⟨⟨G, X.F s4 (fun c hc => by rw [e4, zI_ok hc]; exact h0 c) ⟨by rw [List.length_append, hn]; show n + 1 ≤ 24; omega, by rw [e4, zI_at, h0, y2, nI_1, List.length_append, hn]; rfl, fun q g hg u hu => ?_⟩, L⟩, s4.wd (fun q hq => by unfold yA; omega)⟩
    rw [e4, zI_oa (by omega)]
    by_cases hq : q < n
    · rw [List.getElem?_append_left (by omega)] at hg
      rw [hlo _ (by omega)]; exact y3 q g hg u hu
    · have hl := lt_at hg
      rw [List.length_append, hn] at hl
      have hl : q < n + 1 := hl
      have eq : q = n := by omega
      subst eq
      rw [List.getElem?_append_right (by omega), hn, Nat.sub_self] at hg
      cases hg
      exact hhi u hu
  | succ t ih =>
    intro j h3 ht hj s3 h0 hlo hhi
    have g3 := gM_J s3 X.1
    have j1 := nI_clamp (show 8 * k + j < 2 ^ 31 by omega)
    have j2 := nI_clamp (show 8 * n + j < 2 ^ 31 by omega)
    have v1 : vp_in (nI (8 * k + j)) 192 := vp_in_nI (by omega) (by omega)
    have v2 : vp_in (nI (8 * n + j)) 192 := vp_in_nI (by omega) (by omega)
    have q1 : ¬ (8 : Int32) ≤ nI j := show ¬ nI 8 ≤ nI j from nI_ge (by omega) (by decide)
    have ec : zI h3 (m + 22) (8 * k + j) = sPart f (nI j) := (hlo _ (by omega)).trans (y3 k f hf j (by omega))
    have n27 : zI h3 m 27 = nI n := (h0 27).trans y2
    have nxt := ih (j + 1) (zwI h3 (m + 22) (8 * n + j) (sPart f (nI j))) (by omega) (by omega) (s3.tr (zJ.wI (Or.inr (Or.inl rfl)))) (fun c => by rw [zI_oa (by omega)]; exact h0 c) (fun q hq => by rw [zI_ok (by omega)]; exact hlo q hq) (fun u hu => by
      by_cases e : u = j
      · subst e; rw [zI_at]
      · rw [zI_ok (by omega)]; exact hhi u (by omega))
    refine r103_25 ?_
    obtain ⟨k0, ⟨r1, r2, r3, r4, r5, r6, r7, r8, r9, r10, r11, r12, r13, r14, r15, r16, r17, r18, r19, r20, r21, r22, r23⟩, ⟨k1, k2, k3, k4, k5, k6, k7, k8, k9, k10, k11, k12, k13, k14, k15, k16, k17, k18, k19, k20, k21, k22, k23⟩, ⟨l1, l2, l3, l4, l5, l6, l7, l8, l9, l10, l11, l12, l13, l14, l15, l16, l17, l18, l19, l20, l21, l22, l23⟩⟩ := g3
    simp only [k0, r1, r2, r3, r4, r5, r6, r7, r8, r9, r10, r11, r12, r13, r14, r15, r16, r17, r18, r19, r20, r21, r22, r23, k1, k2, k3, k4, k5, k6, k7, k8, k9, k10, k11, k12, k13, k14, k15, k16, k17, k18, k19, k20, k21, k22, k23, l1, l2, l3, l4, l5, l6, l7, l8, l9, l10, l11, l12, l13, l14, l15, l16, l17, l18, l19, l20, l21, l22, l23, true_and, true_or, or_true, forall_eq, n27, e8x, nI_1, j1, j2, v1, v2, ec]
    exact ⟨fun q => absurd q q1, fun _ => nxt⟩
theorem rk_0 {v : Nat} (G : List (Nat × (Nat → Int32))) : rk v G 0 = 0 := by cases G <;> rfl
theorem rk_s {v : Nat} : ∀ {G : List (Nat × (Nat → Int32))} {j : Nat} {p : Nat × (Nat → Int32)}, G[j]? = some p → rk v G (j + 1) = rk v G j + (if p.1 = v then 1 else 0)
  | [], j, p, h => by simp at h
  | q :: G, 0, p, h => by
    have h : some q = some p := h
    cases h
    show (if q.1 = v then 1 else 0) + rk v G 0 = 0 + _
    rw [rk_0]; omega
  | q :: G, j + 1, p, h => by
    rw [List.getElem?_cons_succ] at h
    have ih := rk_s (v := v) h
    show (if q.1 = v then 1 else 0) + rk v G (j + 1) = (if q.1 = v then 1 else 0) + rk v G j + _
    rw [ih]; omega
theorem rk_len {v : Nat} : ∀ (G : List (Nat × (Nat → Int32))), rk v G G.length = (flt v G).length
  | [] => rfl
  | q :: G => by
    show (if q.1 = v then 1 else 0) + rk v G G.length = _
    rw [rk_len G, flt_c]
    by_cases e : q.1 = v
    · rw [if_pos e, if_pos e, List.length_cons]; omega
    · rw [if_neg e, if_neg e]; omega
theorem c112 {d : Nat} {h : zH} {m w : Nat} {S : sS} {v k : Int32} (hw : w ≤ 4) (X : MM h m w S) : zD (d + 1) 112 [.inr m, .inl v, .inl k] h (fun r h' => r = some (.inl (oDlg w S v k)) ∧ MM h' m w S ∧ zJ (yA m) h h') := by
  obtain ⟨G, X, L⟩ := X
  obtain ⟨y1, y2, y3⟩ := X.gg
  obtain ⟨n, hn⟩ : ∃ n, G.length = n := ⟨_, rfl⟩
  rw [hn] at y1 y2
  refine zD_of rfl (r112_0 ?_)
  by_cases hk : k < 0
  · have e9 : oDlg w S v k = -9 := by
      unfold oDlg
      cases ix (w + 1) v with
      | none => rfl
      | some a => show (match lx (sD S a) k with | some (_, g) => g 0 | none => -9) = _; rw [lx_neg hk]
    rw [e9]
    exact r112_5 ⟨X.1.1, fun _ => ⟨rfl, ⟨G, X, L⟩, zJ.rf⟩, fun _ => ⟨fun _ => ⟨rfl, ⟨G, X, L⟩, zJ.rf⟩, fun q => absurd hk q⟩⟩
  obtain ⟨kk, hkk, rfl⟩ := nI_of hk
  have j0 : ∀ j, j < n → (nI j).toNatClampNeg = j := fun j hj => nI_clamp (by omega)
  have v1 : ∀ j, j < n → vp_in (nI j) 12 := fun j hj => vp_in_nI (by omega) (by omega)
  cases hv : ix (w + 1) v with
  | none =>
    have e9 : oDlg w S v (nI kk) = -9 := by unfold oDlg; rw [hv]
    rw [e9]
    suffices H : ∀ t j, n - j = t → j ≤ n → zWp zm112 (zD d) (fun r h' => r = some (Sum.inl (-9)) ∧ MM h' m w S ∧ zJ (yA m) h h') 0 0 5 [some (.inr m), some (.inl v), some (.inl (nI kk)), some (.inl (nI kk)), some (.inl (nI j))] [] h from H _ 0 rfl (Nat.zero_le _)
    intro t
    induction t with
    | zero =>
      intro j ht hj
      refine r112_5 ⟨X.1.1, fun _ => ⟨rfl, ⟨G, X, L⟩, zJ.rf⟩, fun q => absurd (by rw [y2]; exact nI_le (by omega) (by omega)) q⟩
    | succ t ih =>
      intro j ht hj
      obtain ⟨p, hp⟩ := at_lt (show j < G.length by omega)
      have hpw := L.1 p (List.mem_of_getElem? hp)
      have z1 := (y3 j p hp).1
      have ne : ¬ nI p.1 = v := fun e => ix_none (by omega) hv (show p.1 < w + 1 by omega) e.symm
      have jj := j0 j (by omega)
      have vv := v1 j (by omega)
      have nxt := ih (j + 1) (by omega) (by omega)
      refine r112_5 ?_
      obtain ⟨k0, ⟨r1, r2, r3, r4, r5, r6, r7, r8, r9, r10, r11, r12, r13, r14, r15, r16, r17, r18, r19, r20, r21, r22, r23⟩, ⟨k1, k2, k3, k4, k5, k6, k7, k8, k9, k10, k11, k12, k13, k14, k15, k16, k17, k18, k19, k20, k21, k22, k23⟩, ⟨l1, l2, l3, l4, l5, l6, l7, l8, l9, l10, l11, l12, l13, l14, l15, l16, l17, l18, l19, l20, l21, l22, l23⟩⟩ := X.1
      simp only [k0, r1, r2, r3, r4, r5, r6, r7, r8, r9, r10, r11, r12, r13, r14, r15, r16, r17, r18, r19, r20, r21, r22, r23, k1, k2, k3, k4, k5, k6, k7, k8, k9, k10, k11, k12, k13, k14, k15, k16, k17, k18, k19, k20, k21, k22, k23, l1, l2, l3, l4, l5, l6, l7, l8, l9, l10, l11, l12, l13, l14, l15, l16, l17, l18, l19, l20, l21, l22, l23, true_and, true_or, or_true, y2, jj, vv, z1, ne, hk, nI_1, not_false_eq_true, true_implies, false_implies]
      exact ⟨fun _ => ⟨⟨G, X, L⟩, zJ.rf⟩, fun _ => ⟨nxt, trivial⟩⟩
  | some a =>
    obtain ⟨ha, rfl⟩ := ix_some hv
    have e9 : oDlg w S (nI a) (nI kk) = match lx (sD S a) (nI kk) with | some (_, g) => g 0 | none => -9 := by unfold oDlg; rw [hv]; rfl
    rw [e9]
    have hLa := L.2 a (by omega)
    suffices H : ∀ t j, n - j = t → j ≤ n → rk a G j ≤ kk → zWp zm112 (zD d) (fun r h' => r = some (Sum.inl (match lx (sD S a) (nI kk) with | some (_, g) => g 0 | none => -9)) ∧ MM h' m w S ∧ zJ (yA m) h h') 0 0 5 [some (.inr m), some (.inl (nI a)), some (.inl (nI kk)), some (.inl (nI (kk - rk a G j))), some (.inl (nI j))] [] h from by
      have := H _ 0 rfl (Nat.zero_le _) (by rw [rk_0]; exact Nat.zero_le _)
      rw [rk_0] at this; exact this
    intro t
    induction t with
    | zero =>
      intro j ht hj hr
      have ej : j = n := by omega
      subst ej
      rw [← hn, rk_len] at hr
      have el : lx (sD S a) (nI kk) = none := by unfold lx; rw [hLa, ix_ge hr hkk]
      rw [el]
      refine r112_5 ⟨X.1.1, fun _ => ⟨rfl, ⟨G, X, L⟩, zJ.rf⟩, fun q => absurd (by rw [y2]; exact nI_le (by omega) (by omega)) q⟩
    | succ t ih =>
      intro j ht hj hr
      obtain ⟨p, hp⟩ := at_lt (show j < G.length by omega)
      have hpw := L.1 p (List.mem_of_getElem? hp)
      have z1 := (y3 j p hp).1
      have z2 := (y3 j p hp).2.1
      have jj := j0 j (by omega)
      have vv := v1 j (by omega)
      have q1 : ¬ nI n ≤ nI j := nI_ge (by omega) (by omega)
      have ea : (nI p.1 = nI a) ↔ p.1 = a := nI_eq (by omega) (by omega)
      have e0 : (nI (kk - rk a G j) = 0) ↔ kk - rk a G j = 0 := nI_eq (b := 0) (by omega) (by decide)
      have hs := rk_s (v := a) hp
      have nxt := ih (j + 1) (by omega) (by omega)
      refine r112_5 ?_
      obtain ⟨k0, ⟨r1, r2, r3, r4, r5, r6, r7, r8, r9, r10, r11, r12, r13, r14, r15, r16, r17, r18, r19, r20, r21, r22, r23⟩, ⟨k1, k2, k3, k4, k5, k6, k7, k8, k9, k10, k11, k12, k13, k14, k15, k16, k17, k18, k19, k20, k21, k22, k23⟩, ⟨l1, l2, l3, l4, l5, l6, l7, l8, l9, l10, l11, l12, l13, l14, l15, l16, l17, l18, l19, l20, l21, l22, l23⟩⟩ := X.1
      simp only [k0, r1, r2, r3, r4, r5, r6, r7, r8, r9, r10, r11, r12, r13, r14, r15, r16, r17, r18, r19, r20, r21, r22, r23, k1, k2, k3, k4, k5, k6, k7, k8, k9, k10, k11, k12, k13, k14, k15, k16, k17, k18, k19, k20, k21, k22, k23, l1, l2, l3, l4, l5, l6, l7, l8, l9, l10, l11, l12, l13, l14, l15, l16, l17, l18, l19, l20, l21, l22, l23, true_and, true_or, or_true, y2, jj, vv, z1, z2, ea, e0, q1, hk, nI_1, not_false_eq_true, true_implies, false_implies]
      clear k0 r1 r2 r3 r4 r5 r6 r7 r8 r9 r10 r11 r12 r13 r14 r15 r16 r17 r18 r19 r20 r21 r22 r23 k1 k2 k3 k4 k5 k6 k7 k8 k9 k10 k11 k12 k13 k14 k15 k16 k17 k18 k19 k20 k21 k22 k23 l1 l2 l3 l4 l5 l6 l7 l8 l9 l10 l11 l12 l13 l14 l15 l16 l17 l18 l19 l20 l21 l22 l23
      refine ⟨fun q => ?_, fun q => ⟨fun q2 => ?_, fun q2 => ?_⟩⟩
      · rw [if_neg q] at hs
        rw [hs] at nxt
        exact nxt hr
      · rw [if_pos q] at hs
        rw [hs] at nxt
        have e1 : nI (kk - rk a G j) + (-1) = nI (kk - (rk a G j + 1)) := by
          rw [show nI (kk - rk a G j) + (-1) = nI (kk - rk a G j) - 1 from (Int32.sub_eq_add_neg _ _).symm, show kk - (rk a G j + 1) = kk - rk a G j - 1 by omega]
          exact pk_sub (b := 1) (by omega)
        rw [e1]
        exact nxt (by omega)
      · have hr2 : rk a G j = kk := by omega
        obtain ⟨u, g⟩ := p
        have q : u = a := q
        subst q
        have hat := flt_at hp
        rw [hr2] at hat
        have el : lx (sD S u) (nI kk) = some (kk, g) := by
          rw [hLa]; exact lx_nI (by have hfl : (flt u G).length ≤ G.length := (by unfold flt; rw [List.length_map]; exact List.length_filter_le _ _); omega) hat
        rw [el]
        exact ⟨rfl, ⟨G, X, L⟩, zJ.rf⟩
