/-! ===== the reference's writers ===== -/
theorem yAJ {m : Nat} {A : Nat → Prop} {h h' : zH} (s : zJ A h h') (hA : ∀ q, A q → m ≤ q ∧ q < m + 24) : zJ (yA m) h h' := s.wd hA
theorem MH.push {h : zH} {m w n : Nat} {S : sS} {G : List (Nat × (Nat → Int32))} {a b c e k p q : Int32} (X : MH h m w S G) (hn : (sF S).length = n) (hlt : n < 24) :
    MH (zwI (zwI (zwI (zwI (zwI (zwI (zwI (zwI (zwI h (m + 22) (8 * n) a) (m + 22) (8 * n + 1) b) (m + 22) (8 * n + 2) (c / 10)) (m + 22) (8 * n + 3) (c - c / 10 * 10)) (m + 22) (8 * n + 4) e) (m + 22) (8 * n + 5) k) (m + 22) (8 * n + 6) p) (m + 22) (8 * n + 7) q) m 27 (nI n + 1)) m w (oSend S (sRow [a, b, c, e, k, p, q])) G ∧
    zJ (yA m) h (zwI (zwI (zwI (zwI (zwI (zwI (zwI (zwI (zwI h (m + 22) (8 * n) a) (m + 22) (8 * n + 1) b) (m + 22) (8 * n + 2) (c / 10)) (m + 22) (8 * n + 3) (c - c / 10 * 10)) (m + 22) (8 * n + 4) e) (m + 22) (8 * n + 5) k) (m + 22) (8 * n + 6) p) (m + 22) (8 * n + 7) q) m 27 (nI n + 1)) := by
  obtain ⟨y1, y2, y3⟩ := X.f
  have x22_0 : ∀ (h : zH) (k i : Nat) (v : Int32), zI (zwI h (m + 22) k v) m i = zI h m i := fun _ _ _ _ => zI_oa (by omega)
  have sJ : ∀ (hh : zH) (j : Nat) (v : Int32), zJ (fun q => q = m ∨ q = m + 22 ∨ q = m + 23) hh (zwI hh (m + 22) j v) := fun _ _ _ => zJ.wI (Or.inr (Or.inl rfl))
  have sM : ∀ (hh : zH) (j : Nat) (v : Int32), zJ (fun q => q = m ∨ q = m + 22 ∨ q = m + 23) hh (zwI hh m j v) := fun _ _ _ => zJ.wI (Or.inl rfl)
  have s9 := ((((((((sJ h (8 * n) a).tr (sJ _ (8 * n + 1) b)).tr (sJ _ (8 * n + 2) (c / 10))).tr (sJ _ (8 * n + 3) (c - c / 10 * 10))).tr (sJ _ (8 * n + 4) e)).tr (sJ _ (8 * n + 5) k)).tr (sJ _ (8 * n + 6) p)).tr (sJ _ (8 * n + 7) q)).tr (sM _ 27 (nI n + 1))
  refine ⟨?_, s9.wd (fun q hq => by unfold yA; omega)⟩
  have hF : oSend S (sRow [a, b, c, e, k, p, q]) = stF S (sF S ++ [sRow [a, b, c, e, k, p, q]]) := by unfold oSend sSnd; rw [hn, if_neg (by omega)]
  rw [hF]
  refine X.F s9 (fun i hi => ?_) ⟨?_, ?_, fun j f hf i hi => ?_⟩
  · rw [zI_ok hi]; simp only [x22_0]
  · rw [List.length_append, hn]; exact hlt
  · rw [zI_at, nI_1, List.length_append, hn]; rfl
  · by_cases hj : j < n
    · rw [List.getElem?_append_left (by omega)] at hf
      rw [zI_oa (by omega), zI_ok (by omega), zI_ok (by omega), zI_ok (by omega), zI_ok (by omega), zI_ok (by omega), zI_ok (by omega), zI_ok (by omega), zI_ok (by omega)]
      exact y3 j f hf i hi
    · have hl := lt_at hf
      rw [List.length_append, hn] at hl
      have hl : j < n + 1 := hl
      have ej : j = n := by omega
      subst ej
      rw [List.getElem?_append_right (by omega), hn, Nat.sub_self] at hf
      cases hf
      rw [zI_oa (by omega)]
      have : i = 0 ∨ i = 1 ∨ i = 2 ∨ i = 3 ∨ i = 4 ∨ i = 5 ∨ i = 6 ∨ i = 7 := by omega
      rcases this with rfl | rfl | rfl | rfl | rfl | rfl | rfl | rfl
      · rw [zI_ok (by omega), zI_ok (by omega), zI_ok (by omega), zI_ok (by omega), zI_ok (by omega), zI_ok (by omega), zI_ok (by omega)]; exact zI_at
      · rw [zI_ok (by omega), zI_ok (by omega), zI_ok (by omega), zI_ok (by omega), zI_ok (by omega), zI_ok (by omega), zI_at]; rfl
      · rw [zI_ok (by omega), zI_ok (by omega), zI_ok (by omega), zI_ok (by omega), zI_ok (by omega), zI_at]; rfl
      · rw [zI_ok (by omega), zI_ok (by omega), zI_ok (by omega), zI_ok (by omega), zI_at]; rfl
      · rw [zI_ok (by omega), zI_ok (by omega), zI_ok (by omega), zI_at]; rfl
      · rw [zI_ok (by omega), zI_ok (by omega), zI_at]; rfl
      · rw [zI_ok (by omega), zI_at]; rfl
      · rw [zI_at]; rfl
theorem c87 {d : Nat} {h : zH} {m w : Nat} {S : sS} {G : List (Nat × (Nat → Int32))} {a b c e k p q : Int32} (X : MH h m w S G) : zD (d + 1) 87 [.inr m, .inl a, .inl b, .inl c, .inl e, .inl k, .inl p, .inl q] h (fun r h' => r = none ∧ MH h' m w (oSend S (sRow [a, b, c, e, k, p, q])) G ∧ zJ (yA m) h h') := by
  obtain ⟨y1, y2, y3⟩ := X.f
  obtain ⟨n, hn⟩ : ∃ n, (sF S).length = n := ⟨_, rfl⟩
  rw [hn] at y1 y2
  have x22_0 : ∀ (h : zH) (k i : Nat) (v : Int32), zI (zwI h (m + 22) k v) m i = zI h m i := fun _ _ _ _ => zI_oa (by omega)
  have n10 : ((10 : Int32) = 0) = False := by simp
  have i0 : (8 : Int32) * nI n = nI (8 * n) := by rw [show (8 : Int32) = nI 8 from rfl, pk_mul]
  have i1 : nI (8 * n) + 1 = nI (8 * n + 1) := nI_1 _
  have i2 : nI (8 * n) + 2 = nI (8 * n + 2) := by rw [show (2 : Int32) = nI 2 from rfl, nI_add]
  have i3 : nI (8 * n) + 3 = nI (8 * n + 3) := by rw [show (3 : Int32) = nI 3 from rfl, nI_add]
  have i4 : nI (8 * n) + 4 = nI (8 * n + 4) := by rw [show (4 : Int32) = nI 4 from rfl, nI_add]
  have i5 : nI (8 * n) + 5 = nI (8 * n + 5) := by rw [show (5 : Int32) = nI 5 from rfl, nI_add]
  have i6 : nI (8 * n) + 6 = nI (8 * n + 6) := by rw [show (6 : Int32) = nI 6 from rfl, nI_add]
  have i7 : nI (8 * n) + 7 = nI (8 * n + 7) := by rw [show (7 : Int32) = nI 7 from rfl, nI_add]
  have e24 : (nI n = 24) ↔ n = 24 := nI_eq (b := 24) (by omega) (by decide)
  have j0 := nI_clamp (show 8 * n < 2 ^ 31 by omega)
  have j1 := nI_clamp (show 8 * n + 1 < 2 ^ 31 by omega)
  have j2 := nI_clamp (show 8 * n + 2 < 2 ^ 31 by omega)
  have j3 := nI_clamp (show 8 * n + 3 < 2 ^ 31 by omega)
  have j4 := nI_clamp (show 8 * n + 4 < 2 ^ 31 by omega)
  have j5 := nI_clamp (show 8 * n + 5 < 2 ^ 31 by omega)
  have j6 := nI_clamp (show 8 * n + 6 < 2 ^ 31 by omega)
  have j7 := nI_clamp (show 8 * n + 7 < 2 ^ 31 by omega)
  have v8 : ∀ j, n < 24 → j < 8 → vp_in (nI (8 * n + j)) 192 := fun j h1 h2 => vp_in_nI (by omega) (by omega)
  refine zD_of rfl (r87_0 ?_)
  obtain ⟨k0, ⟨r1, r2, r3, r4, r5, r6, r7, r8, r9, r10, r11, r12, r13, r14, r15, r16, r17, r18, r19, r20, r21, r22, r23⟩, ⟨k1, k2, k3, k4, k5, k6, k7, k8, k9, k10, k11, k12, k13, k14, k15, k16, k17, k18, k19, k20, k21, k22, k23⟩, ⟨l1, l2, l3, l4, l5, l6, l7, l8, l9, l10, l11, l12, l13, l14, l15, l16, l17, l18, l19, l20, l21, l22, l23⟩⟩ := X.1
  simp only [k0, r1, r2, r3, r4, r5, r6, r7, r8, r9, r10, r11, r12, r13, r14, r15, r16, r17, r18, r19, r20, r21, r22, r23, k1, k2, k3, k4, k5, k6, k7, k8, k9, k10, k11, k12, k13, k14, k15, k16, k17, k18, k19, k20, k21, k22, k23, l1, l2, l3, l4, l5, l6, l7, l8, l9, l10, l11, l12, l13, l14, l15, l16, l17, l18, l19, l20, l21, l22, l23, true_and, true_or, or_true, zK_wI, zL_wI, zR_wI, forall_eq, x22_0, y2, e24, n10, not_false_eq_true, i0, i1, i2, i3, i4, i5, i6, i7, j0, j1, j2, j3, j4, j5, j6, j7]
  clear k0 r1 r2 r3 r4 r5 r6 r7 r8 r9 r10 r11 r12 r13 r14 r15 r16 r17 r18 r19 r20 r21 r22 r23 k1 k2 k3 k4 k5 k6 k7 k8 k9 k10 k11 k12 k13 k14 k15 k16 k17 k18 k19 k20 k21 k22 k23 l1 l2 l3 l4 l5 l6 l7 l8 l9 l10 l11 l12 l13 l14 l15 l16 l17 l18 l19 l20 l21 l22 l23
  refine ⟨fun q24 => ?_, fun q24 => ⟨?_, zJ.rf⟩⟩
  rotate_left
  · unfold oSend sSnd; rw [hn, if_pos q24]; exact X
  have hlt : n < 24 := by omega
  exact ⟨v8 0 hlt (by decide), v8 1 hlt (by decide), v8 2 hlt (by decide), v8 3 hlt (by decide), v8 4 hlt (by decide), v8 5 hlt (by decide), v8 6 hlt (by decide), v8 7 hlt (by decide), X.push hn hlt⟩
theorem c95 {d : Nat} {h : zH} {m w : Nat} {S : sS} {G : List (Nat × (Nat → Int32))} {a b c e : Int32} (X : MH h m w S G) : zD (d + 2) 95 [.inr m, .inl a, .inl b, .inl c, .inl e] h (fun r h' => r = none ∧ MH h' m w (oSend S (sRow [a, b, 40, 0, e, c, 0])) G ∧ zJ (yA m) h h') := by
  refine zD_of rfl (r95_0 ⟨X.1.1, _, c87 X, ?_⟩)
  rintro r h1 ⟨rfl, X1, s1⟩
  exact r95_13 ⟨rfl, X1, s1⟩
