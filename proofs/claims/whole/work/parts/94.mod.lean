/-! ===== the reference: deliver, its head ===== -/
theorem MH.arr {h h' : zH} {m w : Nat} {S : sS} {G : List (Nat × (Nat → Int32))} (X : MH h m w S G) (s : zJ (fun q => q = m + 23) h h') : MH h' m w S G := by
  have := X.F (F := sF S) (s.wd (fun q hq => Or.inr (Or.inr hq))) (fun k _ => s.2.2.2.2 m (by omega) k) (mF_J s (s.2.2.2.2 m (by omega) 27) (by omega) X.f)
  exact this
theorem c101a {d : Nat} {h : zH} {m w k : Nat} {S : sS} {G : List (Nat × (Nat → Int32))} {f : Nat → Int32} {K : zT} (X : MH h m w S G) (hf : (sF S)[k]? = some f)
    (hK : ∀ (h2 : zH) (l2 : Int32), MH h2 m w (stF S ((sF S).eraseIdx k)) G → zJ (yA m) h h2 → (∀ u, u < 8 → zI h2 (m + 23) u = sPart f (nI u)) → zWp zm101 (zD (d + 1)) K 0 0 51 [some (.inr m), some (.inl (nI k)), some (.inl l2), none, none, none] [] h2) : zD (d + 2) 101 [.inr m, .inl (nI k)] h K := by
  obtain ⟨y1, y2, y3⟩ := X.f
  have hk := lt_at hf
  have q1 : nI k < nI (sF S).length := (nI_ltI (by omega) (by omega)).mpr hk
  refine zD_of rfl (r101_0 ⟨fun q => absurd q (nI_pos (by omega)), fun _ => ⟨X.1.1, fun _ => ?_, fun q => absurd (by rw [y2]; exact q1) q⟩⟩)
  suffices H : ∀ t j h3, 8 - j = t → j ≤ 8 → zJ (fun q => q = m + 23) h h3 → (∀ u, u < j → zI h3 (m + 23) u = sPart f (nI u)) → zWp zm101 (zD (d + 1)) K 0 0 17 [some (.inr m), some (.inl (nI k)), some (.inl (nI j)), none, none, none] [] h3 from H _ 0 h rfl (by omega) zJ.rf (fun u hu => by omega)
  intro t
  induction t with
  | zero =>
    intro j h3 ht hj s3 hu
    have ej : j = 8 := by omega
    subst ej
    have X3 := X.arr s3
    refine r101_17 ⟨fun _ => ⟨X3.1.1, _, c88 X3 hk, ?_⟩, fun q => absurd (nI_le (Nat.le_refl 8) (by decide)) q⟩
    rintro r h4 ⟨rfl, X4, s4, e4⟩
    exact hK h4 _ X4 ((s3.wd (fun q hq => by unfold yA; omega)).tr s4) (fun u hu8 => (e4 u).trans (hu u hu8))
  | succ t ih =>
    intro j h3 ht hj s3 hu
    have X3 := X.arr s3
    have j0 := nI_clamp (show j < 2 ^ 31 by omega)
    have j1 := nI_clamp (show 8 * k + j < 2 ^ 31 by omega)
    have v0 : vp_in (nI j) 8 := vp_in_nI (by omega) (by omega)
    have v1 : vp_in (nI (8 * k + j)) 192 := vp_in_nI (by omega) (by omega)
    have q8 : ¬ (8 : Int32) ≤ nI j := show ¬ nI 8 ≤ nI j from nI_ge (by omega) (by decide)
    have ec : zI h3 (m + 22) (8 * k + j) = sPart f (nI j) := X3.f.2.2 k f hf j (by omega)
    have nxt := ih (j + 1) (zwI h3 (m + 23) j (sPart f (nI j))) (by omega) (by omega) (s3.tr (zJ.wI rfl)) (fun u hu2 => by
      by_cases e : u = j
      · subst e; rw [zI_at]
      · rw [zI_ok e]; exact hu u (by omega))
    refine r101_17 ⟨fun q => absurd q q8, fun _ => ?_⟩
    obtain ⟨k0, ⟨r1, r2, r3, r4, r5, r6, r7, r8, r9, r10, r11, r12, r13, r14, r15, r16, r17, r18, r19, r20, r21, r22, r23⟩, ⟨k1, k2, k3, k4, k5, k6, k7, k8, k9, k10, k11, k12, k13, k14, k15, k16, k17, k18, k19, k20, k21, k22, k23⟩, ⟨l1, l2, l3, l4, l5, l6, l7, l8, l9, l10, l11, l12, l13, l14, l15, l16, l17, l18, l19, l20, l21, l22, l23⟩⟩ := X3.1
    simp only [k0, r1, r2, r3, r4, r5, r6, r7, r8, r9, r10, r11, r12, r13, r14, r15, r16, r17, r18, r19, r20, r21, r22, r23, k1, k2, k3, k4, k5, k6, k7, k8, k9, k10, k11, k12, k13, k14, k15, k16, k17, k18, k19, k20, k21, k22, k23, l1, l2, l3, l4, l5, l6, l7, l8, l9, l10, l11, l12, l13, l14, l15, l16, l17, l18, l19, l20, l21, l22, l23, true_and, true_or, or_true, forall_eq, e8x, nI_1, j0, j1, v0, v1, ec]
    exact nxt
