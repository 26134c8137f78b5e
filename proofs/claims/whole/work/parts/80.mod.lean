/-! ===== the reference's writers: single cells, end, take out, strike ===== -/
theorem MH.wst {h : zH} {m w k : Nat} {S : sS} {G : List (Nat × (Nat → Int32))} {x : Int32} (X : MH h m w S G) : MH (zwI h (m + 9) k x) m w (oStand S k x) G :=
  X.A (S' := oStand S k x) (zJ.wI (by omega)) (fun j hj => (zI_oa (by omega)).trans (X.dg hj)) (fun j hj => (zI_oa (by omega)).trans (X.lo hj)) (fun j hj => (zI_oa (by omega)).trans (X.he hj)) (fun j hj => by
    show _ = upd (sSt S) k x j
    unfold upd
    by_cases e : j = k
    · subst e; rw [if_pos rfl, zI_at]
    · rw [if_neg e, zI_ok e]; exact X.st hj) (fun j hj => ⟨(zI_oa (by omega)).trans (X.ou hj).1, (zI_oa (by omega)).trans (X.ou hj).2⟩) rfl rfl rfl rfl rfl rfl
theorem MH.whe {h : zH} {m w k : Nat} {S : sS} {G : List (Nat × (Nat → Int32))} {x : Int32} (X : MH h m w S G) : MH (zwI h (m + 8) k x) m w (oHold S k x) G :=
  X.A (S' := oHold S k x) (zJ.wI (by omega)) (fun j hj => (zI_oa (by omega)).trans (X.dg hj)) (fun j hj => (zI_oa (by omega)).trans (X.lo hj)) (fun j hj => by
    show _ = upd (sHe S) k x j
    unfold upd
    by_cases e : j = k
    · subst e; rw [if_pos rfl, zI_at]
    · rw [if_neg e, zI_ok e]; exact X.he hj) (fun j hj => (zI_oa (by omega)).trans (X.st hj)) (fun j hj => ⟨(zI_oa (by omega)).trans (X.ou hj).1, (zI_oa (by omega)).trans (X.ou hj).2⟩) rfl rfl rfl rfl rfl rfl
theorem MH.wlo {h : zH} {m w k : Nat} {S : sS} {G : List (Nat × (Nat → Int32))} {x : Int32} (X : MH h m w S G) : MH (zwI h (m + 2) k x) m w (stLo S (upd (sLo S) k x)) G :=
  X.A (S' := stLo S (upd (sLo S) k x)) (zJ.wI (by omega)) (fun j hj => (zI_oa (by omega)).trans (X.dg hj)) (fun j hj => by
    show _ = upd (sLo S) k x j
    unfold upd
    by_cases e : j = k
    · subst e; rw [if_pos rfl, zI_at]
    · rw [if_neg e, zI_ok e]; exact X.lo hj) (fun j hj => (zI_oa (by omega)).trans (X.he hj)) (fun j hj => (zI_oa (by omega)).trans (X.st hj)) (fun j hj => ⟨(zI_oa (by omega)).trans (X.ou hj).1, (zI_oa (by omega)).trans (X.ou hj).2⟩) rfl rfl rfl rfl rfl rfl
theorem MH.wdg {h : zH} {m w k : Nat} {S : sS} {G : List (Nat × (Nat → Int32))} {x : Int32} (X : MH h m w S G) : MH (zwI h (m + 1) k x) m w (stDg S (upd (sDg S) k x)) G :=
  X.A (S' := stDg S (upd (sDg S) k x)) (zJ.wI (by omega)) (fun j hj => by
    show _ = upd (sDg S) k x j
    unfold upd
    by_cases e : j = k
    · subst e; rw [if_pos rfl, zI_at]
    · rw [if_neg e, zI_ok e]; exact X.dg hj) (fun j hj => (zI_oa (by omega)).trans (X.lo hj)) (fun j hj => (zI_oa (by omega)).trans (X.he hj)) (fun j hj => (zI_oa (by omega)).trans (X.st hj)) (fun j hj => ⟨(zI_oa (by omega)).trans (X.ou hj).1, (zI_oa (by omega)).trans (X.ou hj).2⟩) rfl rfl rfl rfl rfl rfl
theorem MH.wO {h : zH} {m w k : Nat} {S : sS} {G : List (Nat × (Nat → Int32))} {x : Int32} (X : MH h m w S G) : MH (zwI h (m + 10) k x) m w (stO S (upd (sO S) k x)) G :=
  X.A (S' := stO S (upd (sO S) k x)) (zJ.wI (by omega)) (fun j hj => (zI_oa (by omega)).trans (X.dg hj)) (fun j hj => (zI_oa (by omega)).trans (X.lo hj)) (fun j hj => (zI_oa (by omega)).trans (X.he hj)) (fun j hj => (zI_oa (by omega)).trans (X.st hj)) (fun j hj => ⟨by
    show _ = upd (sO S) k x j
    unfold upd
    by_cases e : j = k
    · subst e; rw [if_pos rfl, zI_at]
    · rw [if_neg e, zI_ok e]; exact (X.ou hj).1, (zI_oa (by omega)).trans (X.ou hj).2⟩) rfl rfl rfl rfl rfl rfl
theorem MH.wU {h : zH} {m w k : Nat} {S : sS} {G : List (Nat × (Nat → Int32))} {x : Int32} (X : MH h m w S G) : MH (zwI h (m + 11) k x) m w (stU S (upd (sU S) k x)) G :=
  X.A (S' := stU S (upd (sU S) k x)) (zJ.wI (by omega)) (fun j hj => (zI_oa (by omega)).trans (X.dg hj)) (fun j hj => (zI_oa (by omega)).trans (X.lo hj)) (fun j hj => (zI_oa (by omega)).trans (X.he hj)) (fun j hj => (zI_oa (by omega)).trans (X.st hj)) (fun j hj => ⟨(zI_oa (by omega)).trans (X.ou hj).1, by
    show _ = upd (sU S) k x j
    unfold upd
    by_cases e : j = k
    · subst e; rw [if_pos rfl, zI_at]
    · rw [if_neg e, zI_ok e]; exact (X.ou hj).2⟩) rfl rfl rfl rfl rfl rfl
theorem i32_k0 {x y : Int32} (e : x + 1 = y) : (x = 0) = (y = 1) := by
  rw [← e]; exact propext (i32_add1 (a := x) (b := 0))
theorem c86 {d : Nat} {h : zH} {m w k sn : Nat} {S : sS} {G : List (Nat × (Nat → Int32))} {p : Nat × (Nat → Int32)} {how : Int32} (hw : w ≤ 4) (X : MH h m w S G) (hp : G[k]? = some p) (hv : p.1 ≤ w) (hs : sn < 4) (hsn : p.2 3 = nI sn) : zD (d + 2) 86 [.inr m, .inl (nI k), .inl how] h (fun r h' => r = none ∧ MH h' m w (if p.2 1 = 1 then oStand S (4 * p.1 + sn) how else S) (G.eraseIdx k) ∧ zJ (yA m) h h') := by
  obtain ⟨y1, y2, y3⟩ := X.gg
  have hk := lt_at hp
  obtain ⟨z1, z2, z3, z4, z5, -⟩ := y3 k p hp
  have j0 := nI_clamp (show k < 2 ^ 31 by omega)
  have j1 := nI_clamp (show 4 * p.1 + sn < 2 ^ 31 by omega)
  have v1 : vp_in (nI k) 12 := vp_in_nI (by omega) (by omega)
  have v2 : vp_in (nI (4 * p.1 + sn)) 20 := vp_in_nI (by omega) (by omega)
  refine zD_of rfl (r86_0 ?_)
  obtain ⟨k0, ⟨r1, r2, r3, r4, r5, r6, r7, r8, r9, r10, r11, r12, r13, r14, r15, r16, r17, r18, r19, r20, r21, r22, r23⟩, ⟨k1, k2, k3, k4, k5, k6, k7, k8, k9, k10, k11, k12, k13, k14, k15, k16, k17, k18, k19, k20, k21, k22, k23⟩, ⟨l1, l2, l3, l4, l5, l6, l7, l8, l9, l10, l11, l12, l13, l14, l15, l16, l17, l18, l19, l20, l21, l22, l23⟩⟩ := X.1
  simp only [k0, r1, r2, r3, r4, r5, r6, r7, r8, r9, r10, r11, r12, r13, r14, r15, r16, r17, r18, r19, r20, r21, r22, r23, k1, k2, k3, k4, k5, k6, k7, k8, k9, k10, k11, k12, k13, k14, k15, k16, k17, k18, k19, k20, k21, k22, k23, l1, l2, l3, l4, l5, l6, l7, l8, l9, l10, l11, l12, l13, l14, l15, l16, l17, l18, l19, l20, l21, l22, l23, true_and, true_or, or_true, zK_wI, zL_wI, zR_wI, forall_eq, j0, v1, z1, z4, hsn, i32_k0 z3, e4x, j1, v2]
  clear k0 r1 r2 r3 r4 r5 r6 r7 r8 r9 r10 r11 r12 r13 r14 r15 r16 r17 r18 r19 r20 r21 r22 r23 k1 k2 k3 k4 k5 k6 k7 k8 k9 k10 k11 k12 k13 k14 k15 k16 k17 k18 k19 k20 k21 k22 k23 l1 l2 l3 l4 l5 l6 l7 l8 l9 l10 l11 l12 l13 l14 l15 l16 l17 l18 l19 l20 l21 l22 l23
  refine ⟨fun q => ⟨_, c85 X hk, ?_⟩, fun q => ⟨_, c85 X.wst hk, ?_⟩⟩
  · rintro r h1 ⟨rfl, X1, s1⟩
    exact r86_35 ⟨rfl, by rw [if_neg q]; exact X1, s1⟩
  · rintro r h1 ⟨rfl, X1, s1⟩
    exact r86_35 ⟨rfl, by rw [if_pos q]; exact X1, (zJ.wI (by unfold yA; omega)).tr s1⟩
theorem c88 {d : Nat} {h : zH} {m w i : Nat} {S : sS} {G : List (Nat × (Nat → Int32))} (X : MH h m w S G) (hi : i < (sF S).length) : zD (d + 1) 88 [.inr m, .inl (nI i)] h (fun r h' => r = none ∧ MH h' m w (stF S ((sF S).eraseIdx i)) G ∧ zJ (yA m) h h' ∧ ∀ j, zI h' (m + 23) j = zI h (m + 23) j) := by
  obtain ⟨y1, y2, y3⟩ := X.f
  obtain ⟨n, hn⟩ : ∃ n, (sF S).length = n := ⟨_, rfl⟩
  have hel : ((sF S).eraseIdx i).length = (sF S).length - 1 := List.length_eraseIdx_of_lt hi
  rw [hn] at y1 y2 hi hel
  refine zD_of rfl (r88_0 ⟨X.1.1, X.1.1, fun h1 e1 => ?_⟩)
  have s1 : zJ (fun q => q = m ∨ q = m + 22 ∨ q = m + 23) h h1 := by rw [e1]; exact zJ.wI (Or.inl rfl)
  rw [show (8 : Int32) = nI 8 from rfl, pk_mul]
  suffices H : ∀ t j h3, 8 * (n - 1) - j = t → 8 * i ≤ j → j ≤ 8 * (n - 1) → zJ (fun q => q = m ∨ q = m + 22 ∨ q = m + 23) h h3 → (∀ k, k ≠ 27 → zI h3 m k = zI h m k) → (∀ k, zI h3 (m + 23) k = zI h (m + 23) k) → zI h3 m 27 = nI (n - 1) → (∀ q, q < j → zI h3 (m + 22) q = if q < 8 * i then zI h (m + 22) q else zI h (m + 22) (q + 8)) → (∀ q, j ≤ q → zI h3 (m + 22) q = zI h (m + 22) q) → zWp zm88 (zD d) (fun r h' => r = none ∧ MH h' m w (stF S ((sF S).eraseIdx i)) G ∧ zJ (yA m) h h' ∧ ∀ j, zI h' (m + 23) j = zI h (m + 23) j) 0 0 15 [some (.inr m), some (.inl (nI i)), some (.inl (nI j))] [] h3 from
    H _ (8 * i) h1 rfl (Nat.le_refl _) (by omega) s1 (fun k hk => by rw [e1, zI_ok hk]) (fun k => by rw [e1, zI_oa (by omega)]) (by rw [e1, zI_at, y2]; exact pk_sub (b := 1) (by omega)) (fun q hq => by rw [if_pos hq, e1, zI_oa (by omega)]) (fun q _ => by rw [e1, zI_oa (by omega)])
  intro t
  induction t with
  | zero =>
    intro j h3 ht hj1 hj s3 h0 h23 h27 hlo hhi
    refine r88_15 ?_
    have g3 := gM_J s3 X.1
    simp only [g3.1, h27, true_and, show (8 : Int32) = nI 8 from rfl, pk_mul]
    refine ⟨fun _ => ⟨X.F s3 h0 ⟨by omega, by rw [h27, hel], fun q f hf u hu => ?_⟩, s3.wd (fun q hq => by unfold yA; omega), h23⟩, fun q => absurd (nI_le (by omega) (by omega)) q⟩
    have hql := lt_at hf
    rw [hlo _ (by omega)]
    rw [List.getElem?_eraseIdx] at hf
    by_cases e : q < i
    · rw [if_pos e] at hf
      rw [if_pos (by omega)]; exact y3 q f hf u hu
    · rw [if_neg e] at hf
      rw [if_neg (by omega), show 8 * q + u + 8 = 8 * (q + 1) + u by omega]; exact y3 (q + 1) f hf u hu
  | succ t ih =>
    intro j h3 ht hj1 hj s3 h0 h23 h27 hlo hhi
    have g3 := gM_J s3 X.1
    have j0 := nI_clamp (show j < 2 ^ 31 by omega)
    have j1 := nI_clamp (show j + 8 < 2 ^ 31 by omega)
    have v1 : vp_in (nI j) 192 := vp_in_nI (by omega) (by omega)
    have v2 : vp_in (nI (j + 8)) 192 := vp_in_nI (by omega) (by omega)
    have q1 : ¬ nI (8 * (n - 1)) ≤ nI j := nI_ge (by omega) (by omega)
    have i8 : (8 : Int32) * nI (n - 1) = nI (8 * (n - 1)) := by rw [show (8 : Int32) = nI 8 from rfl, pk_mul]
    have a8 : nI j + 8 = nI (j + 8) := by rw [show (8 : Int32) = nI 8 from rfl, nI_add]
    have nxt := ih (j + 1) (zwI h3 (m + 22) j (zI h3 (m + 22) (j + 8))) (by omega) (by omega) (by omega) (s3.tr (zJ.wI (Or.inr (Or.inl rfl)))) (fun k hk => by rw [zI_oa (by omega)]; exact h0 k hk) (fun k => by rw [zI_oa (by omega)]; exact h23 k) (by rw [zI_oa (by omega)]; exact h27) (fun q hq => by
      by_cases e : q = j
      · subst e; rw [zI_at, if_neg (by omega)]; exact hhi _ (by omega)
      · rw [zI_ok e]; exact hlo q (by omega)) (fun q hq => by rw [zI_ok (by omega)]; exact hhi q (by omega))
    refine r88_15 ?_
    obtain ⟨k0, ⟨r1, r2, r3, r4, r5, r6, r7, r8, r9, r10, r11, r12, r13, r14, r15, r16, r17, r18, r19, r20, r21, r22, r23⟩, ⟨k1, k2, k3, k4, k5, k6, k7, k8, k9, k10, k11, k12, k13, k14, k15, k16, k17, k18, k19, k20, k21, k22, k23⟩, ⟨l1, l2, l3, l4, l5, l6, l7, l8, l9, l10, l11, l12, l13, l14, l15, l16, l17, l18, l19, l20, l21, l22, l23⟩⟩ := g3
    simp only [k0, r1, r2, r3, r4, r5, r6, r7, r8, r9, r10, r11, r12, r13, r14, r15, r16, r17, r18, r19, r20, r21, r22, r23, k1, k2, k3, k4, k5, k6, k7, k8, k9, k10, k11, k12, k13, k14, k15, k16, k17, k18, k19, k20, k21, k22, k23, l1, l2, l3, l4, l5, l6, l7, l8, l9, l10, l11, l12, l13, l14, l15, l16, l17, l18, l19, l20, l21, l22, l23, true_and, true_or, or_true, forall_eq, h27, i8, a8, nI_1, j0, j1, v1, v2]
    exact ⟨fun q => absurd q q1, fun _ => nxt⟩
def rC (h : zH) (m w j : Nat) (c : Int32) : Prop := ∃ a b : Nat, a ≤ w ∧ b < 4 ∧ zI h (m + 6) j = nI a ∧ zI h (m + 7) j = nI b ∧ c = nI (4 * a + b)
theorem rC_mv {h h' : zH} {m w i j : Nat} {c : Int32} (e1 : zI h' (m + 6) i = zI h (m + 6) j) (e2 : zI h' (m + 7) i = zI h (m + 7) j) (r : rC h m w j c) : rC h' m w i c := by
  unfold rC; rw [e1, e2]; exact r
theorem c94 {d : Nat} {h : zH} {m w a b : Nat} {S : sS} {G : List (Nat × (Nat → Int32))} (hw : w ≤ 4) (ha : a ≤ 4) (hb : b < 4) (X : MH h m w S G) : zD (d + 2) 94 [.inr m, .inl (nI a), .inl (nI b)] h (fun r h' => r = none ∧ MH h' m w (stC S (sDrop (sC S) (nI (4 * a + b)))) G ∧ zJ (yA m) h h') := by
  obtain ⟨y1, y2, y3⟩ := X.c
  refine zD_of rfl (r94_0 ⟨X.1.1, _, c93 hw ha hb X, ?_⟩)
  rintro r _ ⟨rfl, rfl⟩
  obtain ⟨C, hC⟩ : ∃ C, sC S = C := ⟨_, rfl⟩
  rw [hC] at y1 y2 y3 ⊢
  cases hx : sFx (fun x => decide (x = nI (4 * a + b))) C 0 with
  | none =>
    have e0 : sIx (fun x => decide (x = nI (4 * a + b))) C 0 = -1 := by unfold sIx; rw [hx]
    rw [e0]
    refine r94_6 ⟨fun q => absurd q (by decide), fun _ => ⟨rfl, ?_, zJ.rf⟩⟩
    unfold sDrop; rw [hx, ← hC]; exact X
  | some k =>
    obtain ⟨x, hk, -⟩ := sFx_some hx
    have hkl := lt_at hk
    rw [sIx_pos hx]
    have hsd : sDrop C (nI (4 * a + b)) = C.eraseIdx k := by unfold sDrop; rw [hx]
    rw [hsd]
    have hel : (C.eraseIdx k).length = C.length - 1 := List.length_eraseIdx_of_lt hkl
    refine r94_6 ⟨fun _ => ⟨X.1.1, X.1.1, fun h1 e1 => ?_⟩, fun q => absurd (nI_pos' (by omega)) q⟩
    obtain ⟨n, hn⟩ : ∃ n, C.length = n := ⟨_, rfl⟩
    rw [hn] at y1 y2 hkl hel
    have s1 : zJ (fun q => q = m ∨ q = m + 6 ∨ q = m + 7) h h1 := by rw [e1]; exact zJ.wI (Or.inl rfl)
    suffices H : ∀ t j h3, n - 1 - j = t → k ≤ j → j ≤ n - 1 → zJ (fun q => q = m ∨ q = m + 6 ∨ q = m + 7) h h3 → (∀ i, i ≠ 8 → zI h3 m i = zI h m i) → zI h3 m 8 = nI (n - 1) → (∀ i y, i < j → (C.eraseIdx k)[i]? = some y → rC h3 m w i y) → (∀ i y, j ≤ i → C[i]? = some y → rC h3 m w i y) → zWp zm94 (zD (d + 1)) (fun r h' => r = none ∧ MH h' m w (stC S (C.eraseIdx k)) G ∧ zJ (yA m) h h') 0 0 25 [some (.inr m), some (.inl (nI a)), some (.inl (nI b)), some (.inl (nI k)), some (.inl (nI j))] [] h3 from
      H _ k h1 rfl (Nat.le_refl _) (by omega) s1 (fun i hi => by rw [e1, zI_ok hi]) (by rw [e1, zI_at, y2]; exact pk_sub (b := 1) (by omega)) (fun i y hi hy => by
        rw [List.getElem?_eraseIdx, if_pos hi] at hy
        exact rC_mv (by rw [e1, zI_oa (by omega)]) (by rw [e1, zI_oa (by omega)]) (y3 i y hy)) (fun i y _ hy => rC_mv (by rw [e1, zI_oa (by omega)]) (by rw [e1, zI_oa (by omega)]) (y3 i y hy))
    intro t
    induction t with
    | zero =>
      intro j h3 ht hk1 hj s3 h0 h8 hlo hhi
      refine r94_25 ?_
      have g3 := gM_J s3 X.1
      simp only [g3.1, h8, true_and]
      refine ⟨fun _ => ⟨X.C s3 h0 ⟨by omega, by rw [h8, hel], fun i y hy => hlo i y (by have := lt_at hy; omega) hy⟩, s3.wd (fun q hq => by unfold yA; omega)⟩, fun q => absurd (nI_le (by omega) (by omega)) q⟩
    | succ t ih =>
      intro j h3 ht hk1 hj s3 h0 h8 hlo hhi
      have g3 := gM_J s3 X.1
      have j0 := nI_clamp (show j < 2 ^ 31 by omega)
      have j1 := nI_clamp (show j + 1 < 2 ^ 31 by omega)
      have v1 : vp_in (nI j) 7 := vp_in_nI (by omega) (by omega)
      have v2 : vp_in (nI (j + 1)) 7 := vp_in_nI (by omega) (by omega)
      have q1 : ¬ nI (n - 1) ≤ nI j := nI_ge (by omega) (by omega)
      obtain ⟨z, hz⟩ := at_lt (show j + 1 < C.length by omega)
      have nxt := ih (j + 1) (zwI (zwI h3 (m + 6) j (zI h3 (m + 6) (j + 1))) (m + 7) j (zI h3 (m + 7) (j + 1))) (by omega) (by omega) (by omega) (s3.tr ((zJ.wI (Or.inr (Or.inl rfl))).tr (zJ.wI (Or.inr (Or.inr rfl))))) (fun i hi => by rw [zI_oa (by omega), zI_oa (by omega)]; exact h0 i hi) (by rw [zI_oa (by omega), zI_oa (by omega)]; exact h8) (fun i y hi hy => by
        by_cases e : i = j
        · subst e
          rw [List.getElem?_eraseIdx, if_neg (by omega), hz] at hy
          cases hy
          exact rC_mv (by rw [zI_oa (by omega), zI_at]) (by rw [zI_at]) (hhi (i + 1) z (by omega) hz)
        · exact rC_mv (by rw [zI_ok e, zI_ok e]) (by rw [zI_ok e, zI_ok e]) (hlo i y (by omega) hy)) (fun i y hi hy => rC_mv (by rw [zI_ok (by omega), zI_ok (by omega)]) (by rw [zI_ok (by omega), zI_ok (by omega)]) (hhi i y (by omega) hy))
      have x6_7 : ∀ (h : zH) (k i : Nat) (v : Int32), zI (zwI h (m + 6) k v) (m + 7) i = zI h (m + 7) i := fun _ _ _ _ => zI_oa (by omega)
      refine r94_25 ?_
      obtain ⟨k0, ⟨r1, r2, r3, r4, r5, r6, r7, r8, r9, r10, r11, r12, r13, r14, r15, r16, r17, r18, r19, r20, r21, r22, r23⟩, ⟨k1, k2, k3, k4, k5, k6, k7, k8, k9, k10, k11, k12, k13, k14, k15, k16, k17, k18, k19, k20, k21, k22, k23⟩, ⟨l1, l2, l3, l4, l5, l6, l7, l8, l9, l10, l11, l12, l13, l14, l15, l16, l17, l18, l19, l20, l21, l22, l23⟩⟩ := g3
      simp only [k0, r1, r2, r3, r4, r5, r6, r7, r8, r9, r10, r11, r12, r13, r14, r15, r16, r17, r18, r19, r20, r21, r22, r23, k1, k2, k3, k4, k5, k6, k7, k8, k9, k10, k11, k12, k13, k14, k15, k16, k17, k18, k19, k20, k21, k22, k23, l1, l2, l3, l4, l5, l6, l7, l8, l9, l10, l11, l12, l13, l14, l15, l16, l17, l18, l19, l20, l21, l22, l23, true_and, true_or, or_true, zK_wI, zL_wI, zR_wI, forall_eq, x6_7, h8, nI_1, j0, j1, v1, v2]
      exact ⟨fun q => absurd q q1, fun _ => nxt⟩
