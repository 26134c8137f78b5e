/-! ===== the reference's writers: dialogues ===== -/
theorem rG_mv {h h' : zH} {m j i : Nat} {p : Nat × (Nat → Int32)} (e : ∀ t, t < 7 → zI h' (m + (13 + t)) i = zI h (m + (13 + t)) j) (r : rG h m j p) : rG h' m i p := by
  unfold rG at r ⊢
  rw [show zI h' (m + 13) i = zI h (m + 13) j from e 0 (by decide), show zI h' (m + 14) i = zI h (m + 14) j from e 1 (by decide), show zI h' (m + 15) i = zI h (m + 15) j from e 2 (by decide), show zI h' (m + 16) i = zI h (m + 16) j from e 3 (by decide), show zI h' (m + 17) i = zI h (m + 17) j from e 4 (by decide), show zI h' (m + 18) i = zI h (m + 18) j from e 5 (by decide), show zI h' (m + 19) i = zI h (m + 19) j from e 6 (by decide)]
  exact r
/-- seven writes, one in each column -/
def w7 (h : zH) (m j : Nat) (a b c e k p q : Int32) : zH := zwI (zwI (zwI (zwI (zwI (zwI (zwI h (m + 13) j a) (m + 14) j b) (m + 15) j c) (m + 16) j e) (m + 17) j k) (m + 18) j p) (m + 19) j q
theorem w7_J {h : zH} {m j : Nat} {a b c e k p q : Int32} : zJ (fun q => m + 13 ≤ q ∧ q ≤ m + 19) h (w7 h m j a b c e k p q) := by
  have sJ : ∀ (hh : zH) (t : Nat) (v : Int32), t < 7 → zJ (fun q => m + 13 ≤ q ∧ q ≤ m + 19) hh (zwI hh (m + (13 + t)) j v) := fun _ t _ ht => zJ.wI ⟨by omega, by omega⟩
  exact ((((((sJ h 0 a (by decide)).tr (sJ _ 1 b (by decide))).tr (sJ _ 2 c (by decide))).tr (sJ _ 3 e (by decide))).tr (sJ _ 4 k (by decide))).tr (sJ _ 5 p (by decide))).tr (sJ _ 6 q (by decide))
theorem w7_ne {h : zH} {m j i b' : Nat} {a b c e k p q : Int32} (hi : i ≠ j) : zI (w7 h m j a b c e k p q) b' i = zI h b' i := by
  unfold w7
  rw [zI_ok hi, zI_ok hi, zI_ok hi, zI_ok hi, zI_ok hi, zI_ok hi, zI_ok hi]
theorem w7_13 {h : zH} {m j : Nat} {a b c e k p q : Int32} : zI (w7 h m j a b c e k p q) (m + 13) j = a := by
  unfold w7; rw [zI_oa (by omega), zI_oa (by omega), zI_oa (by omega), zI_oa (by omega), zI_oa (by omega), zI_oa (by omega), zI_at]
theorem w7_14 {h : zH} {m j : Nat} {a b c e k p q : Int32} : zI (w7 h m j a b c e k p q) (m + 14) j = b := by
  unfold w7; rw [zI_oa (by omega), zI_oa (by omega), zI_oa (by omega), zI_oa (by omega), zI_oa (by omega), zI_at]
theorem w7_15 {h : zH} {m j : Nat} {a b c e k p q : Int32} : zI (w7 h m j a b c e k p q) (m + 15) j = c := by
  unfold w7; rw [zI_oa (by omega), zI_oa (by omega), zI_oa (by omega), zI_oa (by omega), zI_at]
theorem w7_16 {h : zH} {m j : Nat} {a b c e k p q : Int32} : zI (w7 h m j a b c e k p q) (m + 16) j = e := by
  unfold w7; rw [zI_oa (by omega), zI_oa (by omega), zI_oa (by omega), zI_at]
theorem w7_17 {h : zH} {m j : Nat} {a b c e k p q : Int32} : zI (w7 h m j a b c e k p q) (m + 17) j = k := by
  unfold w7; rw [zI_oa (by omega), zI_oa (by omega), zI_at]
theorem w7_18 {h : zH} {m j : Nat} {a b c e k p q : Int32} : zI (w7 h m j a b c e k p q) (m + 18) j = p := by
  unfold w7; rw [zI_oa (by omega), zI_at]
theorem w7_19 {h : zH} {m j : Nat} {a b c e k p q : Int32} : zI (w7 h m j a b c e k p q) (m + 19) j = q := by
  unfold w7; rw [zI_at]
theorem MH.beg {h : zH} {m w v n : Nat} {S : sS} {G : List (Nat × (Nat → Int32))} {kd su wi la : Int32} (hv : v ≤ w) (X : MH h m w S G) (hn : G.length = n) (hlt : n < 12) :
    MH (zwI (w7 (zwI h (m + 12) v (sL S v + 1)) m n (nI v) (sL S v + 1) kd su wi (sClk S + la) 0) m 16 (nI n + 1)) m w (oBegin S v (kd + 1) wi su (sClk S + la) 0) (G ++ [(v, sRow [sL S v + 1, kd + 1, wi, su, sClk S + la, 0])]) ∧
    zJ (yA m) h (zwI (w7 (zwI h (m + 12) v (sL S v + 1)) m n (nI v) (sL S v + 1) kd su wi (sClk S + la) 0) m 16 (nI n + 1)) := by
  obtain ⟨y1, y2, y3⟩ := X.gg
  have s1 : zJ (fun q => q = m ∨ q = m + 12 ∨ (m + 13 ≤ q ∧ q ≤ m + 19)) h (zwI h (m + 12) v (sL S v + 1)) := zJ.wI (Or.inr (Or.inl rfl))
  have s2 : zJ (fun q => q = m ∨ q = m + 12 ∨ (m + 13 ≤ q ∧ q ≤ m + 19)) (zwI h (m + 12) v (sL S v + 1)) (w7 (zwI h (m + 12) v (sL S v + 1)) m n (nI v) (sL S v + 1) kd su wi (sClk S + la) 0) := w7_J.wd (fun q hq => Or.inr (Or.inr hq))
  have s3 : zJ (fun q => q = m ∨ q = m + 12 ∨ (m + 13 ≤ q ∧ q ≤ m + 19)) (w7 (zwI h (m + 12) v (sL S v + 1)) m n (nI v) (sL S v + 1) kd su wi (sClk S + la) 0) (zwI (w7 (zwI h (m + 12) v (sL S v + 1)) m n (nI v) (sL S v + 1) kd su wi (sClk S + la) 0) m 16 (nI n + 1)) := zJ.wI (Or.inl rfl)
  have s := (s1.tr s2).tr s3
  have sw := w7_J (h := zwI h (m + 12) v (sL S v + 1)) (m := m) (j := n) (a := nI v) (b := sL S v + 1) (c := kd) (e := su) (k := wi) (p := sClk S + la) (q := 0)
  refine ⟨X.G s (fun i hi => ?_) (fun u hu => ?_) ⟨?_, ?_, fun j p hp => ?_⟩ rfl rfl rfl rfl rfl rfl rfl rfl rfl rfl rfl, s.wd (fun q hq => by unfold yA; omega)⟩
  · rw [zI_ok hi, sw.2.2.2.2 m (by omega), zI_oa (by omega)]
  · rw [zI_oa (by omega), sw.2.2.2.2 (m + 12) (by omega)]
    show _ = upd (sL S) v (sL S v + 1) u
    unfold upd
    by_cases e : u = v
    · subst e; rw [if_pos rfl, zI_at]
    · rw [if_neg e, zI_ok e]; exact X.l hu
  · rw [List.length_append, hn]; exact hlt
  · rw [zI_at, nI_1, List.length_append, hn]; rfl
  · by_cases hj : j < n
    · rw [List.getElem?_append_left (by omega)] at hp
      refine rG_mv (fun t ht => ?_) (y3 j p hp)
      rw [zI_oa (by omega), w7_ne (by omega), zI_oa (by omega)]
    · have hl := lt_at hp
      rw [List.length_append, hn] at hl
      have hl : j < n + 1 := hl
      have ej : j = n := by omega
      subst ej
      rw [List.getElem?_append_right (by omega), hn, Nat.sub_self] at hp
      cases hp
      unfold rG
      rw [zI_oa (by omega), zI_oa (by omega), zI_oa (by omega), zI_oa (by omega), zI_oa (by omega), zI_oa (by omega), zI_oa (by omega), w7_13, w7_14, w7_15, w7_16, w7_17, w7_18, w7_19]
      exact ⟨rfl, rfl, rfl, rfl, rfl, rfl, rfl⟩
theorem c84 {d : Nat} {h : zH} {m w v : Nat} {S : sS} {G : List (Nat × (Nat → Int32))} {kd su wi la : Int32} (hw : w ≤ 4) (hv : v ≤ w) (hG : G.length < 12) (X : MH h m w S G) : zD (d + 1) 84 [.inr m, .inl (nI v), .inl kd, .inl su, .inl wi, .inl la] h (fun r h' => r = some (.inl (sL S v + 1)) ∧ MH h' m w (oBegin S v (kd + 1) wi su (sClk S + la) 0) (G ++ [(v, sRow [sL S v + 1, kd + 1, wi, su, sClk S + la, 0])]) ∧ zJ (yA m) h h') := by
  obtain ⟨y1, y2, y3⟩ := X.gg
  obtain ⟨n, hn⟩ : ∃ n, G.length = n := ⟨_, rfl⟩
  rw [hn] at y1 y2 hG
  have x12_0 : ∀ (h : zH) (k i : Nat) (v : Int32), zI (zwI h (m + 12) k v) m i = zI h m i := fun _ _ _ _ => zI_oa (by omega)
  have x13_0 : ∀ (h : zH) (k i : Nat) (v : Int32), zI (zwI h (m + 13) k v) m i = zI h m i := fun _ _ _ _ => zI_oa (by omega)
  have x13_12 : ∀ (h : zH) (k i : Nat) (v : Int32), zI (zwI h (m + 13) k v) (m + 12) i = zI h (m + 12) i := fun _ _ _ _ => zI_oa (by omega)
  have x14_0 : ∀ (h : zH) (k i : Nat) (v : Int32), zI (zwI h (m + 14) k v) m i = zI h m i := fun _ _ _ _ => zI_oa (by omega)
  have x14_12 : ∀ (h : zH) (k i : Nat) (v : Int32), zI (zwI h (m + 14) k v) (m + 12) i = zI h (m + 12) i := fun _ _ _ _ => zI_oa (by omega)
  have x15_0 : ∀ (h : zH) (k i : Nat) (v : Int32), zI (zwI h (m + 15) k v) m i = zI h m i := fun _ _ _ _ => zI_oa (by omega)
  have x15_12 : ∀ (h : zH) (k i : Nat) (v : Int32), zI (zwI h (m + 15) k v) (m + 12) i = zI h (m + 12) i := fun _ _ _ _ => zI_oa (by omega)
  have x16_0 : ∀ (h : zH) (k i : Nat) (v : Int32), zI (zwI h (m + 16) k v) m i = zI h m i := fun _ _ _ _ => zI_oa (by omega)
  have x16_12 : ∀ (h : zH) (k i : Nat) (v : Int32), zI (zwI h (m + 16) k v) (m + 12) i = zI h (m + 12) i := fun _ _ _ _ => zI_oa (by omega)
  have x17_0 : ∀ (h : zH) (k i : Nat) (v : Int32), zI (zwI h (m + 17) k v) m i = zI h m i := fun _ _ _ _ => zI_oa (by omega)
  have x17_12 : ∀ (h : zH) (k i : Nat) (v : Int32), zI (zwI h (m + 17) k v) (m + 12) i = zI h (m + 12) i := fun _ _ _ _ => zI_oa (by omega)
  have x18_0 : ∀ (h : zH) (k i : Nat) (v : Int32), zI (zwI h (m + 18) k v) m i = zI h m i := fun _ _ _ _ => zI_oa (by omega)
  have x18_12 : ∀ (h : zH) (k i : Nat) (v : Int32), zI (zwI h (m + 18) k v) (m + 12) i = zI h (m + 12) i := fun _ _ _ _ => zI_oa (by omega)
  have x19_0 : ∀ (h : zH) (k i : Nat) (v : Int32), zI (zwI h (m + 19) k v) m i = zI h m i := fun _ _ _ _ => zI_oa (by omega)
  have x19_12 : ∀ (h : zH) (k i : Nat) (v : Int32), zI (zwI h (m + 19) k v) (m + 12) i = zI h (m + 12) i := fun _ _ _ _ => zI_oa (by omega)
  have x0_12 : ∀ (h : zH) (k i : Nat) (v : Int32), zI (zwI h m k v) (m + 12) i = zI h (m + 12) i := fun _ _ _ _ => zI_oa (by omega)
  have ck := X.clk
  have lv := X.l hv
  have j0 := nI_clamp (show n < 2 ^ 31 by omega)
  have j1 := nI_clamp (show v < 2 ^ 31 by omega)
  have v1 : vp_in (nI v) 5 := vp_in_nI (by omega) (by omega)
  have v2 : vp_in (nI n) 12 := vp_in_nI (by omega) (by omega)
  refine zD_of rfl (r84_0 ?_)
  obtain ⟨k0, ⟨r1, r2, r3, r4, r5, r6, r7, r8, r9, r10, r11, r12, r13, r14, r15, r16, r17, r18, r19, r20, r21, r22, r23⟩, ⟨k1, k2, k3, k4, k5, k6, k7, k8, k9, k10, k11, k12, k13, k14, k15, k16, k17, k18, k19, k20, k21, k22, k23⟩, ⟨l1, l2, l3, l4, l5, l6, l7, l8, l9, l10, l11, l12, l13, l14, l15, l16, l17, l18, l19, l20, l21, l22, l23⟩⟩ := X.1
  simp only [k0, r1, r2, r3, r4, r5, r6, r7, r8, r9, r10, r11, r12, r13, r14, r15, r16, r17, r18, r19, r20, r21, r22, r23, k1, k2, k3, k4, k5, k6, k7, k8, k9, k10, k11, k12, k13, k14, k15, k16, k17, k18, k19, k20, k21, k22, k23, l1, l2, l3, l4, l5, l6, l7, l8, l9, l10, l11, l12, l13, l14, l15, l16, l17, l18, l19, l20, l21, l22, l23, true_and, true_or, or_true, zK_wI, zL_wI, zR_wI, forall_eq, x12_0, x13_0, x13_12, x14_0, x14_12, x15_0, x15_12, x16_0, x16_12, x17_0, x17_12, x18_0, x18_12, x19_0, x19_12, x0_12, zI_at, y2, ck, lv, j0, j1, v1, v2]
  exact X.beg hv hn hG
theorem c85 {d : Nat} {h : zH} {m w k : Nat} {S : sS} {G : List (Nat × (Nat → Int32))} (X : MH h m w S G) (hk : k < G.length) : zD (d + 1) 85 [.inr m, .inl (nI k)] h (fun r h' => r = none ∧ MH h' m w S (G.eraseIdx k) ∧ zJ (yA m) h h') := by
  obtain ⟨y1, y2, y3⟩ := X.gg
  obtain ⟨n, hn⟩ : ∃ n, G.length = n := ⟨_, rfl⟩
  have hel : (G.eraseIdx k).length = G.length - 1 := List.length_eraseIdx_of_lt hk
  rw [hn] at y1 y2 hk hel
  refine zD_of rfl (r85_0 ⟨X.1.1, X.1.1, fun h1 e1 => ?_⟩)
  have s1 : zJ (fun q => q = m ∨ q = m + 12 ∨ (m + 13 ≤ q ∧ q ≤ m + 19)) h h1 := by rw [e1]; exact zJ.wI (Or.inl rfl)
  suffices H : ∀ t j h3, n - 1 - j = t → k ≤ j → j ≤ n - 1 → zJ (fun q => q = m ∨ q = m + 12 ∨ (m + 13 ≤ q ∧ q ≤ m + 19)) h h3 → (∀ i, i ≠ 16 → zI h3 m i = zI h m i) → (∀ i, zI h3 (m + 12) i = zI h (m + 12) i) → zI h3 m 16 = nI (n - 1) → (∀ i y, i < j → (G.eraseIdx k)[i]? = some y → rG h3 m i y) → (∀ i y, j ≤ i → G[i]? = some y → rG h3 m i y) → zWp zm85 (zD d) (fun r h' => r = none ∧ MH h' m w S (G.eraseIdx k) ∧ zJ (yA m) h h') 0 0 12 [some (.inr m), some (.inl (nI k)), some (.inl (nI j))] [] h3 from
    H _ k h1 rfl (Nat.le_refl _) (by omega) s1 (fun i hi => by rw [e1, zI_ok hi]) (fun i => by rw [e1, zI_oa (by omega)]) (by rw [e1, zI_at, y2]; exact pk_sub (b := 1) (by omega)) (fun i y hi hy => by
      rw [List.getElem?_eraseIdx, if_pos hi] at hy
      exact rG_mv (fun t ht => by rw [e1, zI_oa (by omega)]) (y3 i y hy)) (fun i y _ hy => rG_mv (fun t ht => by rw [e1, zI_oa (by omega)]) (y3 i y hy))
  intro t
  induction t with
  | zero =>
    intro j h3 ht hk1 hj s3 h0 h12 h16 hlo hhi
    refine r85_12 ?_
    have g3 := gM_J s3 X.1
    simp only [g3.1, h16, true_and]
    refine ⟨fun _ => ⟨X.G s3 h0 (fun v hv => (h12 v).trans (X.l hv)) ⟨by omega, by rw [h16, hel], fun i y hy => hlo i y (by have := lt_at hy; omega) hy⟩ rfl rfl rfl rfl rfl rfl rfl rfl rfl rfl rfl, s3.wd (fun q hq => by unfold yA; omega)⟩, fun q => absurd (nI_le (by omega) (by omega)) q⟩
  | succ t ih =>
    intro j h3 ht hk1 hj s3 h0 h12 h16 hlo hhi
    have g3 := gM_J s3 X.1
    have j0 := nI_clamp (show j < 2 ^ 31 by omega)
    have j1 := nI_clamp (show j + 1 < 2 ^ 31 by omega)
    have v1 : vp_in (nI j) 12 := vp_in_nI (by omega) (by omega)
    have v2 : vp_in (nI (j + 1)) 12 := vp_in_nI (by omega) (by omega)
    have q1 : ¬ nI (n - 1) ≤ nI j := nI_ge (by omega) (by omega)
    obtain ⟨z, hz⟩ := at_lt (show j + 1 < G.length by omega)
    have sw := w7_J (h := h3) (m := m) (j := j) (a := zI h3 (m + 13) (j + 1)) (b := zI h3 (m + 14) (j + 1)) (c := zI h3 (m + 15) (j + 1)) (e := zI h3 (m + 16) (j + 1)) (k := zI h3 (m + 17) (j + 1)) (p := zI h3 (m + 18) (j + 1)) (q := zI h3 (m + 19) (j + 1))
    have nxt := ih (j + 1) _ (by omega) (by omega) (by omega) (s3.tr (sw.wd (fun q hq => Or.inr (Or.inr hq)))) (fun i hi => by rw [sw.2.2.2.2 m (by omega)]; exact h0 i hi) (fun i => by rw [sw.2.2.2.2 (m + 12) (by omega)]; exact h12 i) (by rw [sw.2.2.2.2 m (by omega)]; exact h16) (fun i y hi hy => by
      by_cases e : i = j
      · subst e
        rw [List.getElem?_eraseIdx, if_neg (by omega), hz] at hy
        cases hy
        have rz := hhi (i + 1) z (by omega) hz
        unfold rG at rz ⊢
        rw [w7_13, w7_14, w7_15, w7_16, w7_17, w7_18, w7_19]
        exact rz
      · exact rG_mv (fun t ht => by rw [w7_ne e]) (hlo i y (by omega) hy)) (fun i y hi hy => rG_mv (fun t ht => by rw [w7_ne (by omega)]) (hhi i y (by omega) hy))
    have x13_14 : ∀ (h : zH) (k i : Nat) (v : Int32), zI (zwI h (m + 13) k v) (m + 14) i = zI h (m + 14) i := fun _ _ _ _ => zI_oa (by omega)
    have x13_15 : ∀ (h : zH) (k i : Nat) (v : Int32), zI (zwI h (m + 13) k v) (m + 15) i = zI h (m + 15) i := fun _ _ _ _ => zI_oa (by omega)
    have x13_16 : ∀ (h : zH) (k i : Nat) (v : Int32), zI (zwI h (m + 13) k v) (m + 16) i = zI h (m + 16) i := fun _ _ _ _ => zI_oa (by omega)
    have x13_17 : ∀ (h : zH) (k i : Nat) (v : Int32), zI (zwI h (m + 13) k v) (m + 17) i = zI h (m + 17) i := fun _ _ _ _ => zI_oa (by omega)
    have x13_18 : ∀ (h : zH) (k i : Nat) (v : Int32), zI (zwI h (m + 13) k v) (m + 18) i = zI h (m + 18) i := fun _ _ _ _ => zI_oa (by omega)
    have x13_19 : ∀ (h : zH) (k i : Nat) (v : Int32), zI (zwI h (m + 13) k v) (m + 19) i = zI h (m + 19) i := fun _ _ _ _ => zI_oa (by omega)
    have x14_13 : ∀ (h : zH) (k i : Nat) (v : Int32), zI (zwI h (m + 14) k v) (m + 13) i = zI h (m + 13) i := fun _ _ _ _ => zI_oa (by omega)
    have x14_15 : ∀ (h : zH) (k i : Nat) (v : Int32), zI (zwI h (m + 14) k v) (m + 15) i = zI h (m + 15) i := fun _ _ _ _ => zI_oa (by omega)
    have x14_16 : ∀ (h : zH) (k i : Nat) (v : Int32), zI (zwI h (m + 14) k v) (m + 16) i = zI h (m + 16) i := fun _ _ _ _ => zI_oa (by omega)
    have x14_17 : ∀ (h : zH) (k i : Nat) (v : Int32), zI (zwI h (m + 14) k v) (m + 17) i = zI h (m + 17) i := fun _ _ _ _ => zI_oa (by omega)
    have x14_18 : ∀ (h : zH) (k i : Nat) (v : Int32), zI (zwI h (m + 14) k v) (m + 18) i = zI h (m + 18) i := fun _ _ _ _ => zI_oa (by omega)
    have x14_19 : ∀ (h : zH) (k i : Nat) (v : Int32), zI (zwI h (m + 14) k v) (m + 19) i = zI h (m + 19) i := fun _ _ _ _ => zI_oa (by omega)
    have x15_13 : ∀ (h : zH) (k i : Nat) (v : Int32), zI (zwI h (m + 15) k v) (m + 13) i = zI h (m + 13) i := fun _ _ _ _ => zI_oa (by omega)
    have x15_14 : ∀ (h : zH) (k i : Nat) (v : Int32), zI (zwI h (m + 15) k v) (m + 14) i = zI h (m + 14) i := fun _ _ _ _ => zI_oa (by omega)
    have x15_16 : ∀ (h : zH) (k i : Nat) (v : Int32), zI (zwI h (m + 15) k v) (m + 16) i = zI h (m + 16) i := fun _ _ _ _ => zI_oa (by omega)
    have x15_17 : ∀ (h : zH) (k i : Nat) (v : Int32), zI (zwI h (m + 15) k v) (m + 17) i = zI h (m + 17) i := fun _ _ _ _ => zI_oa (by omega)
    have x15_18 : ∀ (h : zH) (k i : Nat) (v : Int32), zI (zwI h (m + 15) k v) (m + 18) i = zI h (m + 18) i := fun _ _ _ _ => zI_oa (by omega)
    have x15_19 : ∀ (h : zH) (k i : Nat) (v : Int32), zI (zwI h (m + 15) k v) (m + 19) i = zI h (m + 19) i := fun _ _ _ _ => zI_oa (by omega)
    have x16_13 : ∀ (h : zH) (k i : Nat) (v : Int32), zI (zwI h (m + 16) k v) (m + 13) i = zI h (m + 13) i := fun _ _ _ _ => zI_oa (by omega)
    have x16_14 : ∀ (h : zH) (k i : Nat) (v : Int32), zI (zwI h (m + 16) k v) (m + 14) i = zI h (m + 14) i := fun _ _ _ _ => zI_oa (by omega)
    have x16_15 : ∀ (h : zH) (k i : Nat) (v : Int32), zI (zwI h (m + 16) k v) (m + 15) i = zI h (m + 15) i := fun _ _ _ _ => zI_oa (by omega)
    have x16_17 : ∀ (h : zH) (k i : Nat) (v : Int32), zI (zwI h (m + 16) k v) (m + 17) i = zI h (m + 17) i := fun _ _ _ _ => zI_oa (by omega)
    have x16_18 : ∀ (h : zH) (k i : Nat) (v : Int32), zI (zwI h (m + 16) k v) (m + 18) i = zI h (m + 18) i := fun _ _ _ _ => zI_oa (by omega)
    have x16_19 : ∀ (h : zH) (k i : Nat) (v : Int32), zI (zwI h (m + 16) k v) (m + 19) i = zI h (m + 19) i := fun _ _ _ _ => zI_oa (by omega)
    have x17_13 : ∀ (h : zH) (k i : Nat) (v : Int32), zI (zwI h (m + 17) k v) (m + 13) i = zI h (m + 13) i := fun _ _ _ _ => zI_oa (by omega)
    have x17_14 : ∀ (h : zH) (k i : Nat) (v : Int32), zI (zwI h (m + 17) k v) (m + 14) i = zI h (m + 14) i := fun _ _ _ _ => zI_oa (by omega)
    have x17_15 : ∀ (h : zH) (k i : Nat) (v : Int32), zI (zwI h (m + 17) k v) (m + 15) i = zI h (m + 15) i := fun _ _ _ _ => zI_oa (by omega)
    have x17_16 : ∀ (h : zH) (k i : Nat) (v : Int32), zI (zwI h (m + 17) k v) (m + 16) i = zI h (m + 16) i := fun _ _ _ _ => zI_oa (by omega)
    have x17_18 : ∀ (h : zH) (k i : Nat) (v : Int32), zI (zwI h (m + 17) k v) (m + 18) i = zI h (m + 18) i := fun _ _ _ _ => zI_oa (by omega)
    have x17_19 : ∀ (h : zH) (k i : Nat) (v : Int32), zI (zwI h (m + 17) k v) (m + 19) i = zI h (m + 19) i := fun _ _ _ _ => zI_oa (by omega)
    have x18_13 : ∀ (h : zH) (k i : Nat) (v : Int32), zI (zwI h (m + 18) k v) (m + 13) i = zI h (m + 13) i := fun _ _ _ _ => zI_oa (by omega)
    have x18_14 : ∀ (h : zH) (k i : Nat) (v : Int32), zI (zwI h (m + 18) k v) (m + 14) i = zI h (m + 14) i := fun _ _ _ _ => zI_oa (by omega)
    have x18_15 : ∀ (h : zH) (k i : Nat) (v : Int32), zI (zwI h (m + 18) k v) (m + 15) i = zI h (m + 15) i := fun _ _ _ _ => zI_oa (by omega)
    have x18_16 : ∀ (h : zH) (k i : Nat) (v : Int32), zI (zwI h (m + 18) k v) (m + 16) i = zI h (m + 16) i := fun _ _ _ _ => zI_oa (by omega)
    have x18_17 : ∀ (h : zH) (k i : Nat) (v : Int32), zI (zwI h (m + 18) k v) (m + 17) i = zI h (m + 17) i := fun _ _ _ _ => zI_oa (by omega)
    have x18_19 : ∀ (h : zH) (k i : Nat) (v : Int32), zI (zwI h (m + 18) k v) (m + 19) i = zI h (m + 19) i := fun _ _ _ _ => zI_oa (by omega)
    have x19_13 : ∀ (h : zH) (k i : Nat) (v : Int32), zI (zwI h (m + 19) k v) (m + 13) i = zI h (m + 13) i := fun _ _ _ _ => zI_oa (by omega)
    have x19_14 : ∀ (h : zH) (k i : Nat) (v : Int32), zI (zwI h (m + 19) k v) (m + 14) i = zI h (m + 14) i := fun _ _ _ _ => zI_oa (by omega)
    have x19_15 : ∀ (h : zH) (k i : Nat) (v : Int32), zI (zwI h (m + 19) k v) (m + 15) i = zI h (m + 15) i := fun _ _ _ _ => zI_oa (by omega)
    have x19_16 : ∀ (h : zH) (k i : Nat) (v : Int32), zI (zwI h (m + 19) k v) (m + 16) i = zI h (m + 16) i := fun _ _ _ _ => zI_oa (by omega)
    have x19_17 : ∀ (h : zH) (k i : Nat) (v : Int32), zI (zwI h (m + 19) k v) (m + 17) i = zI h (m + 17) i := fun _ _ _ _ => zI_oa (by omega)
    have x19_18 : ∀ (h : zH) (k i : Nat) (v : Int32), zI (zwI h (m + 19) k v) (m + 18) i = zI h (m + 18) i := fun _ _ _ _ => zI_oa (by omega)
    refine r85_12 ?_
    obtain ⟨k0, ⟨r1, r2, r3, r4, r5, r6, r7, r8, r9, r10, r11, r12, r13, r14, r15, r16, r17, r18, r19, r20, r21, r22, r23⟩, ⟨k1, k2, k3, k4, k5, k6, k7, k8, k9, k10, k11, k12, k13, k14, k15, k16, k17, k18, k19, k20, k21, k22, k23⟩, ⟨l1, l2, l3, l4, l5, l6, l7, l8, l9, l10, l11, l12, l13, l14, l15, l16, l17, l18, l19, l20, l21, l22, l23⟩⟩ := g3
    simp only [k0, r1, r2, r3, r4, r5, r6, r7, r8, r9, r10, r11, r12, r13, r14, r15, r16, r17, r18, r19, r20, r21, r22, r23, k1, k2, k3, k4, k5, k6, k7, k8, k9, k10, k11, k12, k13, k14, k15, k16, k17, k18, k19, k20, k21, k22, k23, l1, l2, l3, l4, l5, l6, l7, l8, l9, l10, l11, l12, l13, l14, l15, l16, l17, l18, l19, l20, l21, l22, l23, true_and, true_or, or_true, zK_wI, zL_wI, zR_wI, forall_eq, x13_14, x13_15, x13_16, x13_17, x13_18, x13_19, x14_13, x14_15, x14_16, x14_17, x14_18, x14_19, x15_13, x15_14, x15_16, x15_17, x15_18, x15_19, x16_13, x16_14, x16_15, x16_17, x16_18, x16_19, x17_13, x17_14, x17_15, x17_16, x17_18, x17_19, x18_13, x18_14, x18_15, x18_16, x18_17, x18_19, x19_13, x19_14, x19_15, x19_16, x19_17, x19_18, h16, nI_1, j0, j1, v1, v2]
    exact ⟨fun q => absurd q q1, fun _ => nxt⟩
