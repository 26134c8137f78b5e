/-! ===== Places: the cancellations ===== -/
def gC (h : zH) : Prop := zK h 10 = 7 ∧ zR h 10 0 = 11 ∧ zK h 11 = 1 ∧ zL h 11 = 6
def xC (h : zH) (C : List Int32) : Prop := C.length ≤ 6 ∧ zI h 10 1 = nI C.length ∧ ∀ j x, C[j]? = some x → zI h 11 j = x
theorem c47 {d : Nat} {h : zH} {C : List Int32} {p : Int32} (g : gC h) (c : xC h C) : zD (d + 1) 47 [.inr 10, .inl p] h (fun v h' => v = some (.inl (sIx (fun x => decide (x = p)) C 0)) ∧ h = h') := by
  obtain ⟨g1, g2, g3, g4⟩ := g
  obtain ⟨c1, c2, c3⟩ := c
  refine zD_of rfl (r47_0 ?_)
  suffices H : ∀ m j, C.length - j = m → j ≤ C.length → sIx (fun x => decide (x = p)) C j = sIx (fun x => decide (x = p)) C 0 → zWp zm47 (zD d) (fun v h' => v = some (.inl (sIx (fun x => decide (x = p)) C 0)) ∧ h = h') 0 0 2 [some (.inr 10), some (.inl p), some (.inl (nI j))] [] h from H _ 0 rfl (Nat.zero_le _) rfl
  intro m
  induction m with
  | zero =>
    intro j hm hj hs
    refine r47_2 ?_
    simp only [g1, g2, g3, g4, c2, true_and, true_or]
    exact ⟨fun _ => ⟨by rw [← hs, sIx_end (by omega)], trivial⟩, fun q => absurd (nI_le (by omega) (by omega)) q⟩
  | succ m ih =>
    intro j hm hj hs
    have hlt : j < C.length := by omega
    obtain ⟨x, hx⟩ := at_lt hlt
    refine r47_2 ?_
    simp only [g1, g2, g3, g4, c2, nI_clamp (show j < 2 ^ 31 by omega), c3 j x hx, true_and, true_or]
    refine ⟨fun q => absurd q (nI_ge hlt (by omega)), fun _ => ⟨vp_in_nI (by omega) (by omega), fun q => ?_, fun q => ?_⟩⟩
    · rw [nI_1]
      exact ih (j + 1) (by omega) (by omega) (by rw [← hs, sIx_miss hx (by simpa using q)])
    · exact ⟨by rw [← hs, sIx_hit hx (by simpa using q)], trivial⟩
theorem c42 {d : Nat} {h : zH} {C : List Int32} (g : gC h) (c : xC h C) : zD (d + 1) 42 [.inr 10] h (fun v h' => v = some (.inl (if C.length = 6 then 1 else 0)) ∧ h = h') := by
  obtain ⟨g1, g2, g3, g4⟩ := g
  obtain ⟨c1, c2, c3⟩ := c
  refine zD_of rfl (r42_0 ?_)
  simp only [g1, c2, true_and]
  refine ⟨fun q => ⟨Or.inl trivial, ?_, trivial⟩, fun q => ⟨Or.inr trivial, ?_, trivial⟩⟩
  · rw [if_neg (fun e => q (by rw [e]; rfl))]
  · rw [if_pos ((nI_eq (b := 6) (by omega) (by omega)).mp q)]
theorem c43 {d : Nat} {h : zH} {C : List Int32} {p : Int32} (g : gC h) (c : xC h C) : zD (d + 2) 43 [.inr 10, .inl p] h (fun v h' => v = some (.inl (if p ∈ C then 1 else 0)) ∧ h = h') := by
  refine zD_of rfl (r43_0 ⟨g.1, _, c47 g c, ?_⟩)
  rintro v h1 ⟨rfl, rfl⟩
  refine r43_5 ⟨fun q => ⟨Or.inl rfl, ?_, rfl⟩, fun q => ⟨Or.inr rfl, ?_, rfl⟩⟩
  · have hn := (sIx_neg (by have := c.1; omega)).mp q
    rw [if_neg (fun hm => by have := sFx_none hn p hm; simp at this)]
  · have hn : ¬ sFx (fun x => decide (x = p)) C 0 = none := fun e => q ((sIx_neg (by have := c.1; omega)).mpr e)
    obtain ⟨k, hk⟩ := Option.ne_none_iff_exists'.mp hn
    obtain ⟨x, hx, hp, -⟩ := sFx_some hk
    have e : x = p := of_decide_eq_true hp
    rw [if_pos (by rw [← e]; exact List.mem_of_getElem? hx)]
theorem c44 {d : Nat} {h : zH} {C : List Int32} {k : Int32} (g : gC h) (c : xC h C) : zD (d + 1) 44 [.inr 10, .inl k] h (fun v h' => v = some (.inl (if 0 ≤ k then (C[k.toNatClampNeg]?).getD (-1) else -1)) ∧ h = h') := by
  obtain ⟨g1, g2, g3, g4⟩ := g
  obtain ⟨c1, c2, c3⟩ := c
  refine zD_of rfl (r44_0 ?_)
  refine ⟨fun q => ⟨by rw [if_neg (by rw [Int32.not_le]; exact q)], rfl⟩, fun q => ?_⟩
  obtain ⟨n, hn, rfl⟩ := nI_of q
  simp only [g1, g2, g3, g4, c2, true_and, true_or, nI_clamp hn, nI_leI (show C.length < 2 ^ 31 by omega) hn]
  refine ⟨fun q => ⟨by rw [if_pos (nI_pos' hn), List.getElem?_eq_none q]; rfl, trivial⟩, fun q => ⟨vp_in_nI (by omega) (by omega), ?_, trivial⟩⟩
  obtain ⟨x, hx⟩ := at_lt (Nat.not_le.mp q)
  rw [if_pos (nI_pos' hn), hx, c3 n x hx]; rfl
theorem xC_same {A : Nat → Prop} {h h' : zH} {C : List Int32} (s : zSame A h h') (h1 : ¬ A 10) (h2 : ¬ A 11) (c : xC h C) : xC h' C :=
  ⟨c.1, (s.2.2.2 10 h1 1).1.trans c.2.1, fun j x hx => (s.2.2.2 11 h2 j).1.trans (c.2.2 j x hx)⟩
theorem gC_same {A : Nat → Prop} {h h' : zH} (s : zSame A h h') (h1 : ¬ A 10) (c : gC h) : gC h' :=
  ⟨(s.1 10).trans c.1, (s.2.2.2 10 h1 0).2.trans c.2.1, (s.1 11).trans c.2.2.1, (s.2.1 11).trans c.2.2.2⟩
/-- a place is added, if it isn't there and there is room -/
def sAdd (C : List Int32) (p : Int32) : List Int32 := if p ∈ C then C else if C.length = 6 then C else C ++ [p]
/-- a place is taken out, if it is there -/
def sDrop (C : List Int32) (p : Int32) : List Int32 := match sFx (fun x => decide (x = p)) C 0 with
  | some k => C.eraseIdx k
  | none => C
theorem c45 {d : Nat} {h : zH} {C : List Int32} {p : Int32} (g : gC h) (c : xC h C) : zD (d + 3) 45 [.inr 10, .inl p] h (fun v h' => v = none ∧ gC h' ∧ xC h' (sAdd C p) ∧ zSame (fun a => a = 10 ∨ a = 11) h h') := by
  refine zD_of rfl (r45_0 ⟨g.1, _, c43 g c, ?_⟩)
  rintro v h1 ⟨rfl, rfl⟩
  refine r45_5 ⟨fun q => ?_, fun q => ⟨g.1, _, c42 g c, ?_⟩⟩
  · have hm : p ∈ C := Classical.byContradiction fun hm => q (by rw [if_neg hm])
    exact ⟨rfl, g, by unfold sAdd; rw [if_pos hm]; exact c, zSame.rf⟩
  have hm : ¬ p ∈ C := fun hm => by rw [if_pos hm] at q; exact absurd q (by decide)
  rintro v h2 ⟨rfl, rfl⟩
  refine r45_12 ⟨fun q => ?_, fun q => ?_⟩
  · have hf : C.length = 6 := Classical.byContradiction fun hf => q (by rw [if_neg hf])
    exact ⟨rfl, g, by unfold sAdd; rw [if_neg hm, if_pos hf]; exact c, zSame.rf⟩
  have hf : ¬ C.length = 6 := fun hf => by rw [if_pos hf] at q; exact absurd q (by decide)
  have g0 := g
  obtain ⟨g1, g2, g3, g4⟩ := g
  obtain ⟨c1, c2, c3⟩ := c
  simp only [zK_wI, zL_wI, zR_wI, g1, g2, g3, g4, c2, true_and, true_or, forall_eq, nI_clamp (show C.length < 2 ^ 31 by omega)]
  refine ⟨vp_in_nI (by omega) (by omega), g0, ?_, (zSame.wI (Or.inr rfl)).tr (zSame.wI (Or.inl rfl))⟩
  unfold sAdd
  rw [if_neg hm, if_neg hf, zI_oa (by decide), c2, nI_1]
  refine ⟨by rw [List.length_append]; simp; omega, by rw [zI_at, List.length_append]; rfl, fun j x hx => ?_⟩
  rw [zI_oa (by decide)]
  by_cases hj : j < C.length
  · rw [List.getElem?_append_left hj] at hx
    rw [zI_ok (by omega)]; exact c3 j x hx
  · rw [List.getElem?_append_right (by omega)] at hx
    have hz : j - C.length < 1 := lt_at hx
    have hz : j = C.length := by omega
    subst hz
    rw [Nat.sub_self] at hx
    rw [zI_at]; exact Option.some.inj hx
theorem c46 {d : Nat} {h : zH} {C : List Int32} {p : Int32} (g : gC h) (c : xC h C) : zD (d + 2) 46 [.inr 10, .inl p] h (fun v h' => v = none ∧ gC h' ∧ xC h' (sDrop C p) ∧ zSame (fun a => a = 10 ∨ a = 11) h h') := by
  refine zD_of rfl (r46_0 ⟨g.1, _, c47 g c, ?_⟩)
  rintro v h1 ⟨rfl, rfl⟩
  have hL := c.1
  refine r46_5 ⟨fun q => ?_, fun q => ⟨rfl, g, by unfold sDrop; rw [(sIx_neg (by omega)).mp q]; exact c, zSame.rf⟩⟩
  have hn : ¬ sFx (fun x => decide (x = p)) C 0 = none := fun e => q ((sIx_neg (by omega)).mpr e)
  obtain ⟨k, hk⟩ := Option.ne_none_iff_exists'.mp hn
  obtain ⟨x, hx, -⟩ := sFx_some hk
  have hkl := lt_at hx
  rw [sIx_pos hk]
  have hsd : sDrop C p = C.eraseIdx k := by unfold sDrop; rw [hk]
  rw [hsd]
  have hel : (C.eraseIdx k).length = C.length - 1 := List.length_eraseIdx_of_lt hkl
  refine ⟨g.1, g.1, fun h2 e2 => ?_⟩
  have g' : gC h2 := by rw [e2]; exact g
  have hs0 : zSame (fun a => a = 10 ∨ a = 11) h h2 := by rw [e2]; exact zSame.wI (Or.inl rfl)
  have hsz : zI h2 10 1 = nI (C.length - 1) := by
    rw [e2, zI_at, c.2.1]
    exact pk_sub (b := 1) (by omega)
  suffices H : ∀ m j h3, C.length - 1 - j = m → k ≤ j → j ≤ C.length - 1 → gC h3 → zI h3 10 1 = nI (C.length - 1) → zSame (fun a => a = 10 ∨ a = 11) h h3 → (∀ i y, i < j → (C.eraseIdx k)[i]? = some y → zI h3 11 i = y) → (∀ i y, j ≤ i → C[i]? = some y → zI h3 11 i = y) → zWp zm46 (zD (d + 1)) (fun v h' => v = none ∧ gC h' ∧ xC h' (C.eraseIdx k) ∧ zSame (fun a => a = 10 ∨ a = 11) h h') 0 0 24 [some (.inr 10), some (.inl p), some (.inl (nI k)), some (.inl (nI j))] [] h3 from
    H _ k h2 rfl (Nat.le_refl _) (by omega) g' hsz hs0 (fun i y hi hy => by
      rw [List.getElem?_eraseIdx, if_pos hi] at hy
      rw [e2, zI_oa (by decide)]; exact c.2.2 i y hy) (fun i y _ hy => by rw [e2, zI_oa (by decide)]; exact c.2.2 i y hy)
  intro m
  induction m with
  | zero =>
    intro j h3 hm hk1 hj g3 hs3 hsm hlo hhi
    refine r46_24 ?_
    simp only [g3.1, hs3, true_and]
    refine ⟨fun _ => ⟨g3, ⟨by omega, by rw [hs3, hel], fun i y hy => hlo i y (by have := lt_at hy; omega) hy⟩, hsm⟩, fun q => absurd (nI_le (by omega) (by omega)) q⟩
  | succ m ih =>
    intro j h3 hm hk1 hj g3 hs3 hsm hlo hhi
    refine r46_24 ?_
    simp only [g3.1, g3.2.1, g3.2.2.1, g3.2.2.2, hs3, true_and, true_or, nI_1, nI_clamp (show j < 2 ^ 31 by omega), nI_clamp (show j + 1 < 2 ^ 31 by omega), forall_eq]
    refine ⟨fun q => absurd q (nI_ge (by omega) (by omega)), fun _ => ⟨vp_in_nI (by omega) (by omega), vp_in_nI (by omega) (by omega), ?_⟩⟩
    obtain ⟨z, hz⟩ := at_lt (show j + 1 < C.length by omega)
    refine ih (j + 1) _ (by omega) (by omega) (by omega) g3 (by rw [zI_oa (by decide)]; exact hs3) (hsm.tr (zSame.wI (Or.inr rfl))) (fun i y hi hy => ?_) (fun i y hi hy => ?_)
    · by_cases e : i = j
      · subst e
        rw [zI_at, hhi (i + 1) z (by omega) hz]
        rw [List.getElem?_eraseIdx, if_neg (by omega), hz] at hy
        exact Option.some.inj hy
      · rw [zI_ok e]; exact hlo i y (by omega) hy
    · rw [zI_ok (by omega)]; exact hhi i y (by omega) hy
