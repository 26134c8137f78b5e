/-! ===== Titles ===== -/
def gT (h : zH) : Prop := zK h 6 = 5 ∧ zR h 6 0 = 7 ∧ zR h 6 1 = 8 ∧ zR h 6 2 = 9 ∧ zK h 7 = 1 ∧ zK h 8 = 1 ∧ zK h 9 = 2 ∧ zL h 7 = 6 ∧ zL h 8 = 6 ∧ zL h 9 = 6
def xT (h : zH) (T : List (Nat → Int32)) : Prop := T.length ≤ 6 ∧ zI h 6 3 = nI T.length ∧ ∀ j t, T[j]? = some t → zI h 7 j = t 0 ∧ zI h 8 j = t 1 ∧ zI h 9 j = t 2
theorem gT_same {A : Nat → Prop} {h h' : zH} (s : zSame A h h') (h1 : ¬ A 6) (c : gT h) : gT h' := by
  obtain ⟨c1, c2, c3, c4, c5, c6, c7, c8, c9, c10⟩ := c
  exact ⟨(s.1 6).trans c1, (s.2.2.2 6 h1 0).2.trans c2, (s.2.2.2 6 h1 1).2.trans c3, (s.2.2.2 6 h1 2).2.trans c4, (s.1 7).trans c5, (s.1 8).trans c6, (s.1 9).trans c7, (s.2.1 7).trans c8, (s.2.1 8).trans c9, (s.2.1 9).trans c10⟩
theorem xT_same {A : Nat → Prop} {h h' : zH} {T : List (Nat → Int32)} (s : zSame A h h') (h1 : ¬ A 6) (h2 : ¬ A 7) (h3 : ¬ A 8) (h4 : ¬ A 9) (c : xT h T) : xT h' T :=
  ⟨c.1, (s.2.2.2 6 h1 3).1.trans c.2.1, fun j t ht => ⟨(s.2.2.2 7 h2 j).1.trans (c.2.2 j t ht).1, (s.2.2.2 8 h3 j).1.trans (c.2.2 j t ht).2.1, (s.2.2.2 9 h4 j).1.trans (c.2.2 j t ht).2.2⟩⟩
def pT (a b : Int32) : (Nat → Int32) → Bool := fun t => decide (t 0 = a ∧ t 1 = b)
theorem c39 {d : Nat} {h : zH} {T : List (Nat → Int32)} {a b : Int32} (g : gT h) (c : xT h T) : zD (d + 1) 39 [.inr 6, .inl a, .inl b] h (fun v h' => v = some (.inl (nI ((sFx (pT a b) T 0).getD T.length))) ∧ h = h') := by
  obtain ⟨g1, g2, g3, g4, g5, g6, g7, g8, g9, g10⟩ := g
  obtain ⟨c1, c2, c3⟩ := c
  refine zD_of rfl (r39_0 ?_)
  suffices H : ∀ m j, T.length - j = m → j ≤ T.length → sFx (pT a b) T j = sFx (pT a b) T 0 → zWp zm39 (zD d) (fun v h' => v = some (.inl (nI ((sFx (pT a b) T 0).getD T.length))) ∧ h = h') 0 0 2 [some (.inr 6), some (.inl a), some (.inl b), some (.inl (nI j))] [] h from H _ 0 rfl (Nat.zero_le _) rfl
  intro m
  induction m with
  | zero =>
    intro j hm hj hs
    refine r39_2 ?_
    simp only [g1, c2, true_and]
    exact ⟨fun _ => ⟨by rw [← hs, sFx_end (by omega)]; rfl, trivial⟩, fun q => absurd (nI_le (by omega) (by omega)) q⟩
  | succ m ih =>
    intro j hm hj hs
    have hlt : j < T.length := by omega
    obtain ⟨t, ht⟩ := at_lt hlt
    obtain ⟨t0, t1, t2⟩ := c3 j t ht
    refine r39_2 ?_
    simp only [g1, g2, g3, g5, g6, g8, g9, c2, nI_clamp (show j < 2 ^ 31 by omega), t0, t1, true_and, true_or, nI_1]
    refine ⟨fun q => absurd q (nI_ge hlt (by omega)), fun _ => ⟨vp_in_nI (by omega) (by omega), fun q => ?_, fun q1 => ⟨vp_in_nI (by omega) (by omega), fun q => ?_, fun q2 => ?_⟩⟩⟩
    · exact ih (j + 1) (by omega) (by omega) (by rw [← hs, sFx_miss ht (decide_eq_false (fun z => q z.1))])
    · exact ih (j + 1) (by omega) (by omega) (by rw [← hs, sFx_miss ht (decide_eq_false (fun z => q z.2))])
    · exact ⟨by rw [← hs, sFx_hit ht (decide_eq_true ⟨q1, q2⟩)]; rfl, trivial⟩
/-- a title is put in its place, or behind the others; 1, or 0 where there is no room -/
def sPut (T : List (Nat → Int32)) (f : Nat → Int32) : List (Nat → Int32) := match sFx (pT (f 0) (f 1)) T 0 with
  | some k => T.set k f
  | none => if T.length = 6 then T else T ++ [f]
def sPutR (T : List (Nat → Int32)) (f : Nat → Int32) : Int32 := match sFx (pT (f 0) (f 1)) T 0 with
  | some _ => 1
  | none => if T.length = 6 then 0 else 1
theorem nar01 {y : Int32} (h : y = 0 ∨ y = 1) : vp_nar .boolean y = y := by rcases h with rfl | rfl <;> rfl
theorem c38 {d : Nat} {h : zH} {T : List (Nat → Int32)} {a b y : Int32} (hy : y = 0 ∨ y = 1) (g : gT h) (c : xT h T) : zD (d + 2) 38 [.inr 6, .inl a, .inl b, .inl y] h (fun v h' => v = some (.inl (sPutR T (sRow [a, b, y]))) ∧ gT h' ∧ xT h' (sPut T (sRow [a, b, y])) ∧ zSame (fun q => 6 ≤ q ∧ q < 10) h h') := by
  refine zD_of rfl (r38_0 ⟨g.1, _, c39 g c, ?_⟩)
  rintro v _ ⟨rfl, rfl⟩
  have e0 : sRow [a, b, y] 0 = a := rfl
  have e1 : sRow [a, b, y] 1 = b := rfl
  have g0 := g
  have c0 := c
  obtain ⟨g1, g2, g3, g4, g5, g6, g7, g8, g9, g10⟩ := g
  obtain ⟨c1, c2, c3⟩ := c
  have key : ∀ k, k < 6 → ∀ h2 : zH, (h2 = h ∨ h2 = zwI h 6 3 (nI T.length + 1)) → zSame (fun q => 6 ≤ q ∧ q < 10) h (zwI (zwI (zwI h2 7 k a) 8 k b) 9 k y) := by
    intro k _ h2 hh
    have s0 : zSame (fun q => 6 ≤ q ∧ q < 10) h h2 := by
      rcases hh with rfl | rfl
      · exact zSame.rf
      · exact zSame.wI (by constructor <;> omega)
    exact ((s0.tr (zSame.wI (by constructor <;> omega))).tr (zSame.wI (by constructor <;> omega))).tr (zSame.wI (by constructor <;> omega))
  refine r38_6 ?_
  unfold sPut sPutR
  rw [e0, e1]
  cases hf : sFx (pT a b) T 0 with
  | some k =>
    obtain ⟨t, ht, -⟩ := sFx_some hf
    have hk := lt_at ht
    simp only [Option.getD_some, g1, g2, g3, g4, g5, g6, g7, g8, g9, g10, c2, zK_wI, zL_wI, zR_wI, true_and, forall_eq, nI_clamp (show k < 2 ^ 31 by omega), nar01 hy]
    refine ⟨fun _ => ⟨fun _ => ⟨vp_in_nI (by omega) (by omega), vp_in_nI (by omega) (by omega), vp_in_nI (by omega) (by omega), Or.inr trivial, g0, ?_, key k (by omega) h (Or.inl rfl)⟩, fun q => absurd ((nI_eq (by omega) (by omega)).mp q) (by omega)⟩, fun q => absurd ((nI_eq (b := 6) (by omega) (by omega)).mp q) (by omega)⟩
    refine ⟨by rw [List.length_set]; exact c1, by rw [List.length_set]; exact c2, fun j t' ht' => ?_⟩
    by_cases e : j = k
    · subst e
      rw [List.getElem?_set_self hk] at ht'
      cases ht'
      exact ⟨by simp [zI_wI, sRow], by simp [zI_wI, sRow], by simp [zI_wI, sRow]⟩
    · rw [List.getElem?_set_ne (Ne.symm e)] at ht'
      obtain ⟨t0, t1, t2⟩ := c3 j t' ht'
      exact ⟨by simp [zI_wI, e, t0], by simp [zI_wI, e, t1], by simp [zI_wI, e, t2]⟩
  | none =>
    simp only [Option.getD_none, g1, g2, g3, g4, g5, g6, g7, g8, g9, g10, c2, zK_wI, zL_wI, zR_wI, true_and, forall_eq, nI_clamp (show T.length < 2 ^ 31 by omega), nar01 hy]
    refine ⟨fun q => ⟨fun q2 => absurd trivial q2, fun _ => ?_⟩, fun q => ?_⟩
    · have h6 : ¬ T.length = 6 := fun e => q (by rw [e]; rfl)
      rw [if_neg h6, if_neg h6]
      refine ⟨vp_in_nI (by omega) (by omega), vp_in_nI (by omega) (by omega), vp_in_nI (by omega) (by omega), Or.inr trivial, rfl, g0, ?_, key T.length (by omega) _ (Or.inr rfl)⟩
      refine ⟨by rw [List.length_append]; simp; omega, by rw [List.length_append]; simp [zI_wI, nI_1], fun j t' ht' => ?_⟩
      by_cases e : j = T.length
      · subst e
        rw [List.getElem?_append_right (Nat.le_refl _), Nat.sub_self] at ht'
        cases ht'
        exact ⟨by simp [zI_wI, sRow], by simp [zI_wI, sRow], by simp [zI_wI, sRow]⟩
      · have hj := lt_at ht'
        rw [List.length_append] at hj
        have hj' : j < T.length := by simp at hj; omega
        rw [List.getElem?_append_left hj'] at ht'
        obtain ⟨t0, t1, t2⟩ := c3 j t' ht'
        exact ⟨by simp [zI_wI, e, t0], by simp [zI_wI, e, t1], by simp [zI_wI, e, t2]⟩
    · have h6 : T.length = 6 := (nI_eq (b := 6) (by omega) (by omega)).mp q
      rw [if_pos h6, if_pos h6]
      exact ⟨Or.inl trivial, rfl, g0, c0, zSame.rf⟩
/-- the powers of ten lie at 2 -/
def gP (h : zH) : Prop := zK h 2 = 101 ∧ zL h 2 = 6 ∧ ∀ j, j < 6 → zI h 2 j = nI (10 ^ j)
/-- the ints of a title are as they must be: at most five digits, yes or no -/
def okT (T : List (Nat → Int32)) : Prop := ∀ t ∈ T, (∃ c : Nat, c ≤ 5 ∧ t 1 = nI c) ∧ (t 2 = 0 ∨ t 2 = 1)
def sTen (c : Int32) : Int32 := nI (10 ^ c.toNatClampNeg)
/-- is a subscriber with these digits reached? by the longest title that fits -/
def sReach (dg : Int32) : List (Nat → Int32) → Int32 → Int32 → Int32
  | [], _, y => y
  | t :: r, b, y => if b < t 1 ∧ dg / sTen (5 - t 1) = t 0 then sReach dg r (t 1) (t 2) else sReach dg r b y
theorem c40 {d : Nat} {h : zH} {T : List (Nat → Int32)} {dg : Int32} (g : gT h) (gp : gP h) (c : xT h T) (ok : okT T) : zD (d + 1) 40 [.inr 6, .inl dg] h (fun v h' => v = some (.inl (sReach dg T (-1) 0)) ∧ h = h') := by
  obtain ⟨g1, g2, g3, g4, g5, g6, g7, g8, g9, g10⟩ := g
  obtain ⟨p1, p2, p3⟩ := gp
  obtain ⟨c1, c2, c3⟩ := c
  refine zD_of rfl (r40_0 ?_)
  suffices H : ∀ m j b y, T.length - j = m → j ≤ T.length → (y = 0 ∨ y = 1) → sReach dg (T.drop j) b y = sReach dg T (-1) 0 → zWp zm40 (zD d) (fun v h' => v = some (.inl (sReach dg T (-1) 0)) ∧ h = h') 0 0 7 [some (.inr 6), some (.inl dg), some (.inl b), some (.inl y), some (.inl (nI j))] [] h from H _ 0 _ _ rfl (Nat.zero_le _) (Or.inl rfl) rfl
  intro m
  induction m with
  | zero =>
    intro j b y hm hj hy hs
    rw [List.drop_eq_nil_of_le (by omega)] at hs
    refine r40_7 ?_
    simp only [g1, c2, true_and]
    exact ⟨fun _ => ⟨hy, by rw [← hs]; rfl, trivial⟩, fun q => absurd (nI_le (by omega) (by omega)) q⟩
  | succ m ih =>
    intro j b y hm hj hy hs
    have hlt : j < T.length := by omega
    obtain ⟨t, ht⟩ := at_lt hlt
    obtain ⟨t0, t1, t2⟩ := c3 j t ht
    obtain ⟨⟨n, hn, e1⟩, hy2⟩ := ok t (List.mem_of_getElem? ht)
    rw [drop_at ht] at hs
    have e5 : (5 : Int32) - t 1 = nI (5 - n) := by rw [e1]; exact pk_sub (a := 5) hn
    have hten : sTen (5 - t 1) = nI (10 ^ (5 - n)) := by unfold sTen; rw [e5, nI_clamp (by omega)]
    have hp : zI h 2 (5 - n) = nI (10 ^ (5 - n)) := p3 _ (by omega)
    have hlt10 : 10 ^ (5 - n) < 2 ^ 31 := Nat.lt_of_le_of_lt (Nat.pow_le_pow_right (by decide) (show 5 - n ≤ 5 by omega)) (by decide)
    have hne : ¬ nI (10 ^ (5 - n)) = 0 := nI_ne0 (Nat.pos_of_ne_zero (by exact Nat.ne_of_gt (Nat.pow_pos (by decide)))) hlt10
    refine r40_7 ?_
    simp only [g1, g2, g3, g4, g5, g6, g7, g8, g9, g10, p1, p2, c2, nI_clamp (show j < 2 ^ 31 by omega), t0, t1, t2, e5, nI_clamp (show 5 - n < 2 ^ 31 by omega), hp, hne, true_and, true_or, or_true, nI_1, not_false_eq_true]
    refine ⟨fun q => absurd q (nI_ge hlt (by omega)), fun _ => ⟨vp_in_nI (by omega) (by omega), fun q => ?_, fun q1 => ⟨vp_in_nI (by omega) (by omega), vp_in_nI (by omega) (by omega), vp_in_nI (by omega) (by omega), fun q => ?_, fun q2 => ⟨vp_in_nI (by omega) (by omega), vp_in_nI (by omega) (by omega), ?_⟩⟩⟩⟩
    · refine ih (j + 1) b y (by omega) (by omega) hy ?_
      rw [← hs]
      show _ = if _ then _ else _
      rw [if_neg (fun z => absurd z.1 (by rw [Int32.not_lt]; exact q))]
    · refine ih (j + 1) b y (by omega) (by omega) hy ?_
      rw [← hs]
      show _ = if _ then _ else _
      rw [hten, if_neg (fun z => q z.2)]
    · refine ih (j + 1) _ _ (by omega) (by omega) hy2 ?_
      rw [← hs]
      show _ = if _ then _ else _
      rw [hten, if_pos ⟨by rw [← Int32.not_le]; exact q1, q2⟩]
