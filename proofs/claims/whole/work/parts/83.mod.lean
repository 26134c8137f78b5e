/-! ===== the reference: title, answer, copy, dialogue ===== -/
theorem MH.tw {h : zH} {m w n k j : Nat} {S : sS} {G : List (Nat × (Nat → Int32))} {f c y : Int32} {T : List (Nat → Int32)} (X : MH h m w S G) (hT : T.length ≤ 6) (hj : T.length = j) (hk : T[k]? = some (sRow [f, c, y])) (hne : ∀ i t, i ≠ k → T[i]? = some t → (sT S)[i]? = some t) :
    MH (zwI (zwI (zwI (zwI h (m + 3) k f) (m + 4) k c) (m + 5) k y) m 4 (nI j)) m w (stT S T) G ∧ zJ (yA m) h (zwI (zwI (zwI (zwI h (m + 3) k f) (m + 4) k c) (m + 5) k y) m 4 (nI j)) := by
  obtain ⟨y1, y2, y3⟩ := X.t
  have s : zJ (fun q => q = m ∨ (m + 3 ≤ q ∧ q ≤ m + 5)) h (zwI (zwI (zwI (zwI h (m + 3) k f) (m + 4) k c) (m + 5) k y) m 4 (nI j)) := (((zJ.wI (by omega)).tr (zJ.wI (by omega))).tr (zJ.wI (by omega))).tr (zJ.wI (by omega))
  refine ⟨X.T s (fun i hi => by rw [zI_ok hi, zI_oa (by omega), zI_oa (by omega), zI_oa (by omega)]) ⟨hT, by rw [zI_at, hj], fun i t ht => ?_⟩, s.wd (fun q hq => by unfold yA; omega)⟩
  by_cases e : i = k
  · subst e
    rw [hk] at ht
    cases ht
    refine ⟨?_, ?_, ?_⟩
    · rw [zI_oa (by omega), zI_oa (by omega), zI_oa (by omega), zI_at]; rfl
    · rw [zI_oa (by omega), zI_oa (by omega), zI_at]; rfl
    · rw [zI_oa (by omega), zI_at]; rfl
  · obtain ⟨z0, z1, z2⟩ := y3 i t (hne i t e ht)
    refine ⟨?_, ?_, ?_⟩
    · rw [zI_oa (by omega), zI_ok e, zI_ok e, zI_ok e]; exact z0
    · rw [zI_oa (by omega), zI_ok e, zI_ok e, zI_ok e]; exact z1
    · rw [zI_oa (by omega), zI_ok e, zI_ok e, zI_ok e]; exact z2
theorem c79 {d : Nat} {h : zH} {m w : Nat} {S : sS} {f c y : Int32} (hy : y = 0 ∨ y = 1) (X : MM h m w S) : zD (d + 2) 79 [.inr m, .inl f, .inl c, .inl y] h (fun r h' => r = some (.inl (oTitle S f c y).1) ∧ MM h' m w (oTitle S f c y).2 ∧ zJ (yA m) h h') := by
  obtain ⟨G, X, L⟩ := X
  obtain ⟨c1, c2, c3⟩ := X.t
  refine zD_of rfl (r79_0 ⟨_, c75 (n := 5) (by decide), ?_⟩)
  rintro r _ ⟨rfl, rfl⟩
  unfold oTitle
  refine r79_6 ⟨fun q => ?_, fun q => ⟨fun q2 => ?_, fun q2 => ?_⟩⟩
  · rw [io0 q]; exact ⟨Or.inl rfl, rfl, ⟨G, X, L⟩, zJ.rf⟩
  · obtain ⟨n, hn⟩ := io1 q
    rw [show ix 6 c = some n from hn]
    show _ ∧ some (Sum.inl 0) = some (Sum.inl (match ix (10 ^ n) f with | none => (0, S) | some _ => (sPutR (sT S) (sRow [f, c, y]), stT S (sPut (sT S) (sRow [f, c, y])))).1) ∧ MM h m w (match ix (10 ^ n) f with | none => (0, S) | some _ => (sPutR (sT S) (sRow [f, c, y]), stT S (sPut (sT S) (sRow [f, c, y])))).2 ∧ _
    rw [ix_neg q2]; exact ⟨Or.inl rfl, rfl, ⟨G, X, L⟩, zJ.rf⟩
  obtain ⟨n, hn⟩ := io1 q
  obtain ⟨hn6, rfl⟩ := ix_some hn
  obtain ⟨fn, hfn, rfl⟩ := nI_of q2
  rw [show ix 6 (nI n) = some n from hn]
  show ∃ Q, _
  have hten : 10 ^ n < 2 ^ 31 := Nat.lt_of_le_of_lt (Nat.pow_le_pow_right (by decide) (show n ≤ 5 by omega)) (by decide)
  refine ⟨_, c77 (by omega), ?_⟩
  rintro r _ ⟨rfl, rfl⟩
  refine r79_18 ⟨fun q3 => ?_, fun q3 => ?_⟩
  rotate_left
  · rw [nI_ltI hfn hten] at q3
    show _ ∧ some (Sum.inl 0) = some (Sum.inl (match ix (10 ^ n) (nI fn) with | none => (0, S) | some _ => (sPutR (sT S) (sRow [nI fn, nI n, y]), stT S (sPut (sT S) (sRow [nI fn, nI n, y])))).1) ∧ MM h m w (match ix (10 ^ n) (nI fn) with | none => (0, S) | some _ => (sPutR (sT S) (sRow [nI fn, nI n, y]), stT S (sPut (sT S) (sRow [nI fn, nI n, y])))).2 ∧ _
    rw [ix_ge (by omega) hfn]; exact ⟨Or.inl rfl, rfl, ⟨G, X, L⟩, zJ.rf⟩
  rw [nI_ltI hfn hten] at q3
  show zWp zm79 _ (fun r h' => r = some (Sum.inl (match ix (10 ^ n) (nI fn) with | none => (0, S) | some _ => (sPutR (sT S) (sRow [nI fn, nI n, y]), stT S (sPut (sT S) (sRow [nI fn, nI n, y])))).1) ∧ MM h' m w (match ix (10 ^ n) (nI fn) with | none => (0, S) | some _ => (sPutR (sT S) (sRow [nI fn, nI n, y]), stT S (sPut (sT S) (sRow [nI fn, nI n, y])))).2 ∧ zJ (yA m) h h') _ _ _ _ _ _
  rw [ix_nI (by omega) q3]
  show zWp zm79 _ (fun r h' => r = some (Sum.inl (sPutR (sT S) (sRow [nI fn, nI n, y]))) ∧ MM h' m w (stT S (sPut (sT S) (sRow [nI fn, nI n, y]))) ∧ zJ (yA m) h h') _ _ _ _ _ _
  generalize nI fn = f
  generalize nI n = c
  have eR : sPutR (sT S) (sRow [f, c, y]) = match sFx (pT f c) (sT S) 0 with | some _ => 1 | none => if (sT S).length = 6 then 0 else 1 := rfl
  have eP : sPut (sT S) (sRow [f, c, y]) = match sFx (pT f c) (sT S) 0 with | some k => (sT S).set k (sRow [f, c, y]) | none => if (sT S).length = 6 then sT S else sT S ++ [sRow [f, c, y]] := rfl
  rw [eR, eP]
  suffices H : ∀ t j, (sT S).length - j = t → j ≤ (sT S).length → sFx (pT f c) (sT S) 0 = sFx (pT f c) (sT S) j → zWp zm79 (zD (d + 1)) (fun r h' => r = some (Sum.inl (match sFx (pT f c) (sT S) 0 with | some _ => 1 | none => if (sT S).length = 6 then 0 else 1)) ∧ MM h' m w (stT S (match sFx (pT f c) (sT S) 0 with | some k => (sT S).set k (sRow [f, c, y]) | none => if (sT S).length = 6 then sT S else sT S ++ [sRow [f, c, y]])) ∧ zJ (yA m) h h') 0 0 26 [some (.inr m), some (.inl f), some (.inl c), some (.inl y), some (.inl (nI j))] [] h from H _ 0 rfl (Nat.zero_le _) rfl
  obtain ⟨n, hn⟩ : ∃ n, (sT S).length = n := ⟨_, rfl⟩
  rw [hn] at c1 c2
  intro t
  induction t with
  | zero =>
    intro j hm hj hs
    have ej : j = n := by omega
    subst ej
    rw [show sFx (pT f c) (sT S) j = none from sFx_end (by omega)] at hs
    rw [hs]
    show zWp zm79 (zD (d + 1)) (fun r h' => r = some (Sum.inl (if (sT S).length = 6 then 0 else 1)) ∧ MM h' m w (stT S (if (sT S).length = 6 then sT S else sT S ++ [sRow [f, c, y]])) ∧ zJ (yA m) h h') 0 0 26 [some (.inr m), some (.inl f), some (.inl c), some (.inl y), some (.inl (nI j))] [] h
    rw [hn]
    have e6 : (nI j = 6) ↔ j = 6 := nI_eq (b := 6) (by omega) (by decide)
    have j0 := nI_clamp (show j < 2 ^ 31 by omega)
    have q1 := nI_le (Nat.le_refl j) (show j < 2 ^ 31 by omega)
    have vv : ¬ j = 6 → vp_in (nI j) 6 := fun z => vp_in_nI (by omega) (by omega)
    have P := fun (z : ¬ j = 6) => X.tw (k := j) (j := j + 1) (f := f) (c := c) (y := y) (T := sT S ++ [sRow [f, c, y]]) (n := 0) (by rw [List.length_append, hn]; show j + 1 ≤ 6; omega) (by rw [List.length_append, hn]; rfl) (by rw [List.getElem?_append_right (by omega), hn, Nat.sub_self]; rfl) (fun i t hi ht => by
      have hl := lt_at ht
      rw [List.length_append, hn] at hl
      have hl : i < j + 1 := hl
      rw [List.getElem?_append_left (by omega)] at ht; exact ht)
    have x3_0 : ∀ (h : zH) (k i : Nat) (v : Int32), zI (zwI h (m + 3) k v) m i = zI h m i := fun _ _ _ _ => zI_oa (by omega)
    have x4_0 : ∀ (h : zH) (k i : Nat) (v : Int32), zI (zwI h (m + 4) k v) m i = zI h m i := fun _ _ _ _ => zI_oa (by omega)
    have x5_0 : ∀ (h : zH) (k i : Nat) (v : Int32), zI (zwI h (m + 5) k v) m i = zI h m i := fun _ _ _ _ => zI_oa (by omega)
    refine r79_26 ?_
    obtain ⟨k0, ⟨r1, r2, r3, r4, r5, r6, r7, r8, r9, r10, r11, r12, r13, r14, r15, r16, r17, r18, r19, r20, r21, r22, r23⟩, ⟨k1, k2, k3, k4, k5, k6, k7, k8, k9, k10, k11, k12, k13, k14, k15, k16, k17, k18, k19, k20, k21, k22, k23⟩, ⟨l1, l2, l3, l4, l5, l6, l7, l8, l9, l10, l11, l12, l13, l14, l15, l16, l17, l18, l19, l20, l21, l22, l23⟩⟩ := X.1
    simp only [k0, r1, r2, r3, r4, r5, r6, r7, r8, r9, r10, r11, r12, r13, r14, r15, r16, r17, r18, r19, r20, r21, r22, r23, k1, k2, k3, k4, k5, k6, k7, k8, k9, k10, k11, k12, k13, k14, k15, k16, k17, k18, k19, k20, k21, k22, k23, l1, l2, l3, l4, l5, l6, l7, l8, l9, l10, l11, l12, l13, l14, l15, l16, l17, l18, l19, l20, l21, l22, l23, true_and, true_or, or_true, zK_wI, zL_wI, zR_wI, forall_eq, x3_0, x4_0, x5_0, nar01 hy, c2, e6, j0, q1, nI_1, not_true_eq_false, false_implies, true_implies]
    clear k0 r1 r2 r3 r4 r5 r6 r7 r8 r9 r10 r11 r12 r13 r14 r15 r16 r17 r18 r19 r20 r21 r22 r23 k1 k2 k3 k4 k5 k6 k7 k8 k9 k10 k11 k12 k13 k14 k15 k16 k17 k18 k19 k20 k21 k22 k23 l1 l2 l3 l4 l5 l6 l7 l8 l9 l10 l11 l12 l13 l14 l15 l16 l17 l18 l19 l20 l21 l22 l23
    refine ⟨⟨fun q6 => ⟨vv q6, vv q6, vv q6, ?_⟩, fun q6 => ?_⟩, trivial⟩
    · rw [if_neg q6, if_neg q6]; exact ⟨rfl, ⟨G, (P q6).1, L⟩, (P q6).2⟩
    · rw [if_pos q6, if_pos q6]; exact ⟨rfl, ⟨G, X, L⟩, zJ.rf⟩
  | succ t ih =>
    intro j hm hj hs
    have hlt : j < n := by omega
    obtain ⟨p, hp⟩ := at_lt (show j < (sT S).length by omega)
    obtain ⟨z0, z1, z2⟩ := c3 j p hp
    have e6 : ¬ nI j = 6 := fun z => by have := (nI_eq (b := 6) (show j < 2 ^ 31 by omega) (by decide)).mp z; omega
    have en : ¬ nI j = nI n := fun z => by have := (nI_eq (show j < 2 ^ 31 by omega) (show n < 2 ^ 31 by omega)).mp z; omega
    have j0 := nI_clamp (show j < 2 ^ 31 by omega)
    have q1 : ¬ nI n ≤ nI j := nI_ge hlt (by omega)
    have vv : vp_in (nI j) 6 := vp_in_nI (by omega) (by omega)
    have P := X.tw (k := j) (j := n) (f := f) (c := c) (y := y) (T := (sT S).set j (sRow [f, c, y])) (n := 0) (by rw [List.length_set, hn]; exact c1) (by rw [List.length_set, hn]) (by rw [List.getElem?_set_self (by omega)]) (fun i t hi ht => by rw [List.getElem?_set_ne (fun z => hi z.symm)] at ht; exact ht)
    have nxt := ih (j + 1) (by omega) (by omega)
    have x3_0 : ∀ (h : zH) (k i : Nat) (v : Int32), zI (zwI h (m + 3) k v) m i = zI h m i := fun _ _ _ _ => zI_oa (by omega)
    have x4_0 : ∀ (h : zH) (k i : Nat) (v : Int32), zI (zwI h (m + 4) k v) m i = zI h m i := fun _ _ _ _ => zI_oa (by omega)
    have x5_0 : ∀ (h : zH) (k i : Nat) (v : Int32), zI (zwI h (m + 5) k v) m i = zI h m i := fun _ _ _ _ => zI_oa (by omega)
    refine r79_26 ?_
    obtain ⟨k0, ⟨r1, r2, r3, r4, r5, r6, r7, r8, r9, r10, r11, r12, r13, r14, r15, r16, r17, r18, r19, r20, r21, r22, r23⟩, ⟨k1, k2, k3, k4, k5, k6, k7, k8, k9, k10, k11, k12, k13, k14, k15, k16, k17, k18, k19, k20, k21, k22, k23⟩, ⟨l1, l2, l3, l4, l5, l6, l7, l8, l9, l10, l11, l12, l13, l14, l15, l16, l17, l18, l19, l20, l21, l22, l23⟩⟩ := X.1
    simp only [k0, r1, r2, r3, r4, r5, r6, r7, r8, r9, r10, r11, r12, r13, r14, r15, r16, r17, r18, r19, r20, r21, r22, r23, k1, k2, k3, k4, k5, k6, k7, k8, k9, k10, k11, k12, k13, k14, k15, k16, k17, k18, k19, k20, k21, k22, k23, l1, l2, l3, l4, l5, l6, l7, l8, l9, l10, l11, l12, l13, l14, l15, l16, l17, l18, l19, l20, l21, l22, l23, true_and, true_or, or_true, zK_wI, zL_wI, zR_wI, forall_eq, x3_0, x4_0, x5_0, nar01 hy, c2, e6, en, j0, q1, z0, z1, vv, nI_1, not_true_eq_false, not_false_eq_true, false_implies, true_implies]
    clear k0 r1 r2 r3 r4 r5 r6 r7 r8 r9 r10 r11 r12 r13 r14 r15 r16 r17 r18 r19 r20 r21 r22 r23 k1 k2 k3 k4 k5 k6 k7 k8 k9 k10 k11 k12 k13 k14 k15 k16 k17 k18 k19 k20 k21 k22 k23 l1 l2 l3 l4 l5 l6 l7 l8 l9 l10 l11 l12 l13 l14 l15 l16 l17 l18 l19 l20 l21 l22 l23
    have miss (hne : pT f c p = false) := nxt (by rw [hs, sFx_miss hp hne])
    refine ⟨fun q => miss (by simp [pT, q]), fun q => ⟨fun q2 => ?_, fun q2 => miss (by simp [pT, q2])⟩⟩
    have hit : sFx (pT f c) (sT S) 0 = some j := by rw [hs]; exact sFx_hit hp (by simp [pT, q, q2])
    rw [hit]
    exact ⟨⟨⟨rfl, ⟨G, P.1, L⟩, P.2⟩, trivial⟩, trivial⟩
