/-! ===== the reference: tick, the numbers ===== -/
theorem c107n {d : Nat} {h : zH} {m w : Nat} {S : sS} {G : List (Nat × (Nat → Int32))} {K : zT} {o2 : Option zV} (X : MH h m w S G) (hO : ∀ k, sO S k = -1 ∨ 0 ≤ sO S k) (hlow : ∀ k, k < 2 → sO S k = -1)
    (hK : ∀ h2 : zH, MH h2 m w (oFree S) G → zJ (yA m) h h2 → zWp zm107 (zD d) K 0 0 127 [some (.inr m), some (.inl 0), o2] [] h2) : zWp zm107 (zD d) K 0 0 75 [some (.inr m), some (.inl 2), o2] [] h := by
  suffices H : ∀ t j h1 O1, 10 - j = t → 2 ≤ j → j ≤ 10 → MH h1 m w (stO S O1) G → zJ (yA m) h h1 → (∀ k, k < 10 → O1 k = if 2 ≤ k ∧ k < j ∧ sU S k = sClk S then -1 else sO S k) → zWp zm107 (zD d) K 0 0 75 [some (.inr m), some (.inl (nI j)), o2] [] h1 from
    H _ 2 h (sO S) rfl (by omega) (by omega) X zJ.rf (fun k _ => by rw [if_neg (by omega)])
  intro t
  induction t with
  | zero =>
    intro j h1 O1 ht hj hj2 X1 s1 hO1
    have ej : j = 10 := by omega
    subst ej
    refine r107_75 ⟨fun _ => hK h1 ?_ s1, fun q => absurd (nI_le (Nat.le_refl 10) (by decide)) q⟩
    refine X1.A (S' := oFree S) zJ.rf (fun k hk => X1.dg hk) (fun k hk => X1.lo hk) (fun k hk => X1.he hk) (fun k hk => X1.st hk) (fun k hk => ⟨?_, (X1.ou hk).2⟩) rfl rfl rfl rfl rfl rfl
    rw [(X1.ou hk).1]
    show O1 k = if sU S k = sClk S then -1 else sO S k
    rw [hO1 k hk]
    by_cases e : sU S k = sClk S
    · rw [if_pos e]
      by_cases e2 : 2 ≤ k
      · rw [if_pos ⟨e2, hk, e⟩]
      · rw [if_neg (fun z => e2 z.1)]; exact hlow k (by omega)
    · rw [if_neg e, if_neg (fun z => e z.2.2)]
  | succ t ih =>
    intro j h1 O1 ht hj hj2 X1 s1 hO1
    have j0 := nI_clamp (show j < 2 ^ 31 by omega)
    have v0 : vp_in (nI j) 10 := vp_in_nI (by omega) (by omega)
    have q1 : ¬ (10 : Int32) ≤ nI j := show ¬ nI 10 ≤ nI j from nI_ge (by omega) (by decide)
    have eO : O1 j = sO S j := by rw [hO1 j (by omega), if_neg (by omega)]
    have b1 : zI h1 (m + 10) j = sO S j := (X1.ou (show j < 10 by omega)).1.trans eO
    have b2 : zI h1 (m + 11) j = sU S j := (X1.ou (show j < 10 by omega)).2
    have b3 : zI h1 m 1 = sClk S := X1.clk
    have nxt (x : Int32) (hx : x = if sU S j = sClk S then -1 else sO S j) : zWp zm107 (zD d) K 0 0 75 [some (.inr m), some (.inl (nI (j + 1))), o2] [] (zwI h1 (m + 10) j x) := by
      refine ih (j + 1) _ (upd O1 j x) (by omega) (by omega) (by omega) X1.wO (s1.tr (zJ.wI (by unfold yA; omega))) (fun k hk => ?_)
      unfold upd
      by_cases e : k = j
      · subst e
        rw [if_pos rfl, hx]
        by_cases e2 : sU S k = sClk S
        · rw [if_pos e2, if_pos ⟨hj, by omega, e2⟩]
        · rw [if_neg e2, if_neg (fun z => e2 z.2.2)]
      · rw [if_neg e, hO1 k hk]
        by_cases e2 : 2 ≤ k ∧ k < j ∧ sU S k = sClk S
        · rw [if_pos e2, if_pos ⟨e2.1, by omega, e2.2.2⟩]
        · rw [if_neg e2, if_neg (fun z => e2 ⟨z.1, by omega, z.2.2⟩)]
    refine r107_75 ⟨fun q => absurd q q1, fun _ => ?_⟩
    obtain ⟨k0, ⟨r1, r2, r3, r4, r5, r6, r7, r8, r9, r10, r11, r12, r13, r14, r15, r16, r17, r18, r19, r20, r21, r22, r23⟩, ⟨k1, k2, k3, k4, k5, k6, k7, k8, k9, k10, k11, k12, k13, k14, k15, k16, k17, k18, k19, k20, k21, k22, k23⟩, ⟨l1, l2, l3, l4, l5, l6, l7, l8, l9, l10, l11, l12, l13, l14, l15, l16, l17, l18, l19, l20, l21, l22, l23⟩⟩ := X1.1
    simp only [k0, r1, r2, r3, r4, r5, r6, r7, r8, r9, r10, r11, r12, r13, r14, r15, r16, r17, r18, r19, r20, r21, r22, r23, k1, k2, k3, k4, k5, k6, k7, k8, k9, k10, k11, k12, k13, k14, k15, k16, k17, k18, k19, k20, k21, k22, k23, l1, l2, l3, l4, l5, l6, l7, l8, l9, l10, l11, l12, l13, l14, l15, l16, l17, l18, l19, l20, l21, l22, l23, true_and, true_or, or_true, forall_eq, j0, v0, b1, b2, b3, nI_1]
    clear k0 r1 r2 r3 r4 r5 r6 r7 r8 r9 r10 r11 r12 r13 r14 r15 r16 r17 r18 r19 r20 r21 r22 r23 k1 k2 k3 k4 k5 k6 k7 k8 k9 k10 k11 k12 k13 k14 k15 k16 k17 k18 k19 k20 k21 k22 k23 l1 l2 l3 l4 l5 l6 l7 l8 l9 l10 l11 l12 l13 l14 l15 l16 l17 l18 l19 l20 l21 l22 l23
    refine ⟨fun q => nxt _ ?_, fun q => ⟨fun q2 => nxt _ ?_, fun q2 => nxt _ ?_⟩⟩
    · have e : sO S j = -1 := (hO j).resolve_right (fun z => absurd q (i32_nlt.mpr z))
      rw [e]; split <;> rfl
    · rw [if_neg q2]
    · rw [if_pos q2]
