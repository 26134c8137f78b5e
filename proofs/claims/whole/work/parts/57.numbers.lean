/-! ===== RoamingNumbers ===== -/
def gN (h : zH) (w : Nat) : Prop := zK h 44 = 11 ∧ zR h 44 0 = 45 ∧ zR h 44 1 = 46 ∧ zK h 45 = 1 ∧ zK h 46 = 1 ∧ zL h 45 = 2 * (w + 1) ∧ zL h 46 = 2 * (w + 1)
def xN (h : zH) (w : Nat) (O U : Nat → Int32) : Prop := ∀ k, k < 2 * (w + 1) → zI h 45 k = O k ∧ zI h 46 k = U k
theorem gN_same {A : Nat → Prop} {h h' : zH} {w : Nat} (s : zSame A h h') (h1 : ¬ A 44) (c : gN h w) : gN h' w := by
  obtain ⟨c1, c2, c3, c4, c5, c6, c7⟩ := c
  exact ⟨(s.1 _).trans c1, (s.2.2.2 44 h1 0).2.trans c2, (s.2.2.2 44 h1 1).2.trans c3, (s.1 _).trans c4, (s.1 _).trans c5, (s.2.1 _).trans c6, (s.2.1 _).trans c7⟩
theorem xN_same {A : Nat → Prop} {h h' : zH} {w : Nat} {O U : Nat → Int32} (s : zSame A h h') (h1 : ¬ A 45) (h2 : ¬ A 46) (c : xN h w O U) : xN h' w O U :=
  fun k hk => ⟨(s.2.2.2 45 h1 k).1.trans (c k hk).1, (s.2.2.2 46 h2 k).1.trans (c k hk).2⟩
/-- the number that is allotted: the first that is free, or -2 -/
def sAlK (O : Nat → Int32) (n : Nat) : Option Nat := if O (2 * n) = -1 then some 0 else if O (2 * n + 1) = -1 then some 1 else none
def sAlR (O : Nat → Int32) (n : Nat) : Int32 := match sAlK O n with
  | some k => nI (100 * n + k)
  | none => -2
def sUpK (f : Nat → Int32) (n : Nat) (o : Option Nat) (v : Int32) : Nat → Int32 := match o with
  | some k => upd f (2 * n + k) v
  | none => f
theorem c54 {d : Nat} {h : zH} {w n : Nat} {O U : Nat → Int32} {s u : Int32} (hw : w ≤ 4) (hn : n ≤ w) (g : gN h w) (c : xN h w O U) : zD (d + 1) 54 [.inr 44, .inl (nI n), .inl s, .inl u] h (fun v h' => v = some (.inl (sAlR O n)) ∧ xN h' w (sUpK O n (sAlK O n) s) (sUpK U n (sAlK O n) u) ∧ (∀ a j, zR h' a j = zR h a j) ∧ zSame (fun q => q = 45 ∨ q = 46) h h') := by
  obtain ⟨g1, g2, g3, g4, g5, g6, g7⟩ := g
  have key : ∀ k, k < 2 → sAlK O n = some k → xN (zwI (zwI h 45 (2 * n + k) s) 46 (2 * n + k) u) w (sUpK O n (sAlK O n) s) (sUpK U n (sAlK O n) u) := by
    intro k hk e q hq
    rw [e]
    show _ = upd O _ _ _ ∧ _ = upd U _ _ _
    unfold upd
    obtain ⟨q1, q2⟩ := c q hq
    by_cases hqk : q = 2 * n + k
    · simp [zI_wI, hqk]
    · simp [zI_wI, hqk, q1, q2]
  have hs : ∀ k : Nat, zSame (fun q => q = 45 ∨ q = 46) h (zwI (zwI h 45 k s) 46 k u) := fun k => (zSame.wI (Or.inl rfl)).tr (zSame.wI (Or.inr rfl))
  have em : ∀ k : Nat, (2 : Int32) * nI n + nI k = nI (2 * n + k) := fun k => by rw [show (2 : Int32) = nI 2 from rfl, pk_mul, nI_add]
  have eh : ∀ k : Nat, (100 : Int32) * nI n + nI k = nI (100 * n + k) := fun k => by rw [show (100 : Int32) = nI 100 from rfl, pk_mul, nI_add]
  refine zD_of rfl (r54_0 (show zWp _ _ _ _ _ _ [_, _, _, _, some (.inl (nI 0)), _] _ _ from ?_))
  refine r54_3 ⟨fun q => absurd (show nI 2 ≤ nI 0 from q) (nI_ge (by decide) (by decide)), fun _ => ?_⟩
  obtain ⟨c0, -⟩ := c (2 * n) (by omega)
  obtain ⟨c1, -⟩ := c (2 * n + 1) (by omega)
  simp only [zK_wI, zL_wI, zR_wI, g1, g2, g3, g4, g5, g6, g7, true_and, true_or, forall_eq, em 0, eh 0, nI_clamp (show 2 * n + 0 < 2 ^ 31 by omega), nI_1]
  rw [show 2 * n + 0 = 2 * n from rfl, c0]
  refine ⟨vp_in_nI (by omega) (by omega), fun q => ?_, fun q => ⟨vp_in_nI (by omega) (by omega), vp_in_nI (by omega) (by omega), ?_⟩⟩
  · refine r54_3 ⟨fun q => absurd (show nI 2 ≤ nI 1 from q) (nI_ge (by decide) (by decide)), fun _ => ?_⟩
    simp only [zK_wI, zL_wI, zR_wI, g1, g2, g3, g4, g5, g6, g7, true_and, true_or, forall_eq, em (0 + 1), eh (0 + 1), nI_clamp (show 2 * n + (0 + 1) < 2 ^ 31 by omega), nI_1]
    rw [show 2 * n + (0 + 1) = 2 * n + 1 from rfl, c1]
    refine ⟨vp_in_nI (by omega) (by omega), fun q1 => ?_, fun q1 => ⟨vp_in_nI (by omega) (by omega), vp_in_nI (by omega) (by omega), ?_⟩⟩
    · have e : sAlK O n = none := by unfold sAlK; rw [if_neg q, if_neg q1]
      refine r54_3 ⟨fun _ => ?_, fun q => absurd (show nI 2 ≤ nI 2 from nI_le (by decide) (by decide)) q⟩
      unfold sAlR
      rw [e]
      exact ⟨rfl, c, fun _ _ => rfl, zSame.rf⟩
    · have e : sAlK O n = some 1 := by unfold sAlK; rw [if_neg q, if_pos q1]
      refine ⟨by unfold sAlR; rw [e], key 1 (by decide) e, fun _ _ => ?_, hs _⟩
      trivial
  · have e : sAlK O n = some 0 := by unfold sAlK; rw [if_pos q]
    refine ⟨by unfold sAlR; rw [e], key 0 (by decide) e, fun _ _ => ?_, hs _⟩
    trivial
theorem c55 {d : Nat} {h : zH} {w n k : Nat} {O U : Nat → Int32} (hw : w ≤ 4) (hn : n ≤ w) (hk : k < 2) (g : gN h w) (c : xN h w O U) : zD (d + 1) 55 [.inr 44, .inl (nI n), .inl (nI k)] h (fun v h' => v = some (.inl (O (2 * n + k))) ∧ xN h' w (upd O (2 * n + k) (-1)) U ∧ (∀ a j, zR h' a j = zR h a j) ∧ zSame (fun q => q = 45 ∨ q = 46) h h') := by
  obtain ⟨g1, g2, g3, g4, g5, g6, g7⟩ := g
  have em : (2 : Int32) * nI n + nI k = nI (2 * n + k) := by rw [show (2 : Int32) = nI 2 from rfl, pk_mul, nI_add]
  refine zD_of rfl (r55_0 ?_)
  simp only [g1, g2, g3, g4, g5, g6, g7, true_and, true_or, forall_eq, em, nI_clamp (show 2 * n + k < 2 ^ 31 by omega), (c (2 * n + k) (by omega)).1]
  refine ⟨vp_in_nI (by omega) (by omega), vp_in_nI (by omega) (by omega), fun q hq => ?_, fun _ _ => rfl, zSame.wI (Or.inl rfl)⟩
  obtain ⟨q1, q2⟩ := c q hq
  unfold upd
  by_cases e : q = 2 * n + k
  · simp [zI_wI, e]; rw [← e]; exact q2
  · simp [zI_wI, e, q1, q2]
theorem c56 {d : Nat} {h : zH} {w : Nat} {O U : Nat → Int32} {t : Int32} (hw : w ≤ 4) (g : gN h w) (c : xN h w O U) : zD (d + 1) 56 [.inr 44, .inl t] h (fun v h' => v = none ∧ xN h' w (fun k => if U k = t then -1 else O k) U ∧ (∀ a j, zR h' a j = zR h a j) ∧ zSame (fun q => q = 45 ∨ q = 46) h h') := by
  obtain ⟨g1, g2, g3, g4, g5, g6, g7⟩ := g
  refine zD_of rfl (r56_0 ?_)
  suffices H : ∀ m j h3, 2 * (w + 1) - j = m → j ≤ 2 * (w + 1) → (∀ a j, zR h3 a j = zR h a j) → zSame (fun q => q = 45 ∨ q = 46) h h3 → (∀ k, k < 2 * (w + 1) → zI h3 46 k = U k) → (∀ k, k < j → zI h3 45 k = if U k = t then -1 else O k) → (∀ k, j ≤ k → k < 2 * (w + 1) → zI h3 45 k = O k) → zWp zm56 (zD d) (fun v h' => v = none ∧ xN h' w (fun k => if U k = t then -1 else O k) U ∧ (∀ a j, zR h' a j = zR h a j) ∧ zSame (fun q => q = 45 ∨ q = 46) h h') 0 0 2 [some (.inr 44), some (.inl t), some (.inl (nI j))] [] h3 from
    H _ 0 h rfl (Nat.zero_le _) (fun _ _ => rfl) zSame.rf (fun k hk => (c k hk).2) (fun k hk => absurd hk (Nat.not_lt_zero k)) (fun k _ hk => (c k hk).1)
  intro m
  induction m with
  | zero =>
    intro j h3 hm hj hr hs hu hlo hhi
    have ej : j = 2 * (w + 1) := by omega
    subst ej
    refine r56_2 ?_
    simp only [hs.1 44, hs.1 45, hs.2.1 45, hr 44 0, g1, g2, g4, g6, true_and]
    exact ⟨fun _ => ⟨fun k hk => ⟨hlo k hk, hu k hk⟩, hr, hs⟩, fun q => absurd (nI_le (Nat.le_refl _) (by omega)) q⟩
  | succ m ih =>
    intro j h3 hm hj hr hs hu hlo hhi
    refine r56_2 ?_
    simp only [hs.1 44, hs.1 45, hs.1 46, hs.2.1 45, hs.2.1 46, hr 44 0, hr 44 1, g1, g2, g3, g4, g5, g6, g7, true_and, true_or, forall_eq, nI_clamp (show j < 2 ^ 31 by omega), hu j (by omega), nI_1]
    refine ⟨fun q => absurd q (nI_ge (by omega) (by omega)), fun _ => ⟨vp_in_nI (by omega) (by omega), fun q => ?_, fun q => ⟨vp_in_nI (by omega) (by omega), ?_⟩⟩⟩
    · refine ih (j + 1) h3 (by omega) (by omega) hr hs hu (fun k hk => ?_) (fun k hk hk2 => hhi k (by omega) hk2)
      by_cases e : k = j
      · rw [e, if_neg q]; exact hhi j (Nat.le_refl _) (by omega)
      · exact hlo k (by omega)
    · refine ih (j + 1) _ (by omega) (by omega) hr (hs.tr (zSame.wI (Or.inl rfl))) (fun k hk => by rw [zI_oa (by decide)]; exact hu k hk) (fun k hk => ?_) (fun k hk hk2 => by rw [zI_ok (by omega)]; exact hhi k (by omega) hk2)
      by_cases e : k = j
      · rw [e, if_pos q, zI_at]
      · rw [zI_ok e]; exact hlo k (by omega)
