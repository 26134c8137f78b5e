/-! ===== rows of objects: an object a, its rows at a + 1, a pool of cap objects from a + 2 on ===== -/
def gW (h : zH) (a ka kr kd cap : Nat) : Prop := zK h a = ka ∧ zR h a 0 = a + 1 ∧ zK h (a + 1) = kr ∧ zL h (a + 1) = cap ∧ (∀ b, a + 2 ≤ b → b < a + 2 + cap → zK h b = kd) ∧ (∀ k, k < cap → a + 2 ≤ zR h (a + 1) k ∧ zR h (a + 1) k < a + 2 + cap) ∧ (∀ j k, j < cap → k < cap → zR h (a + 1) j = zR h (a + 1) k → j = k)
def xW (h : zH) (a cap nf : Nat) (F : List (Nat → Int32)) : Prop := F.length ≤ cap ∧ zI h a 1 = nI F.length ∧ ∀ k f, F[k]? = some f → ∀ i, i < nf → zI h (zR h (a + 1) k) i = f i
theorem gW.row {h : zH} {a ka kr kd cap k : Nat} (g : gW h a ka kr kd cap) (hk : k < cap) : zK h (zR h (a + 1) k) = kd := g.2.2.2.2.1 _ (g.2.2.2.2.2.1 k hk).1 (g.2.2.2.2.2.1 k hk).2
theorem gW.ne {h : zH} {a ka kr kd cap k : Nat} (g : gW h a ka kr kd cap) (hk : k < cap) : zR h (a + 1) k ≠ a := by
  have := g.2.2.2.2.2.1 k hk; omega
theorem gW_same {A : Nat → Prop} {h h' : zH} {a ka kr kd cap : Nat} (s : zSame A h h') (h1 : ¬ A a) (h2 : ¬ A (a + 1)) (g : gW h a ka kr kd cap) : gW h' a ka kr kd cap := by
  obtain ⟨g1, g2, g3, g4, g5, g6, g7⟩ := g
  refine ⟨(s.1 _).trans g1, (s.2.2.2 a h1 0).2.trans g2, (s.1 _).trans g3, (s.2.1 _).trans g4, fun b q1 q2 => (s.1 _).trans (g5 b q1 q2), fun k hk => ?_, fun j k hj hk e => ?_⟩
  · rw [(s.2.2.2 (a + 1) h2 k).2]; exact g6 k hk
  · rw [(s.2.2.2 (a + 1) h2 j).2, (s.2.2.2 (a + 1) h2 k).2] at e; exact g7 j k hj hk e
theorem xW_same {A : Nat → Prop} {h h' : zH} {a ka kr kd cap nf : Nat} {F : List (Nat → Int32)} (s : zSame A h h') (hA : ∀ b, a ≤ b → b < a + 2 + cap → ¬ A b) (g : gW h a ka kr kd cap) (x : xW h a cap nf F) : xW h' a cap nf F := by
  obtain ⟨x1, x2, x3⟩ := x
  refine ⟨x1, (s.2.2.2 a (hA a (by omega) (by omega)) 1).1.trans x2, fun k f hf i hi => ?_⟩
  have hk := lt_at hf
  have h6 := g.2.2.2.2.2.1 k (by omega)
  rw [(s.2.2.2 (a + 1) (hA (a + 1) (by omega) (by omega)) k).2, (s.2.2.2 _ (hA _ (by omega) h6.2) i).1]
  exact x3 k f hf i hi
def sRot (i n k : Nat) : Nat := if k < i then k else if k + 1 < n then k + 1 else if k + 1 = n then i else k
theorem sRot_lt {i n k cap : Nat} (hi : i < n) (hn : n ≤ cap) (hk : k < cap) : sRot i n k < cap := by
  unfold sRot; split
  · omega
  · split
    · omega
    · split <;> omega
theorem sRot_inj {i n j k : Nat} (hi : i < n) (e : sRot i n j = sRot i n k) : j = k := by
  unfold sRot at e
  repeat' split at e
  all_goals omega
theorem pool_rot {h h' : zH} {a ka kr kd cap nf i : Nat} {F : List (Nat → Int32)} (g : gW h a ka kr kd cap) (x : xW h a cap nf F) (hi : i < F.length) (s : zSame (fun b => b = a ∨ b = a + 1) h h') (hsz : zI h' a 1 = nI (F.length - 1)) (hr0 : zR h' a 0 = zR h a 0)
    (hR : ∀ k, k < cap → zR h' (a + 1) k = zR h (a + 1) (sRot i F.length k)) : gW h' a ka kr kd cap ∧ xW h' a cap nf (F.eraseIdx i) := by
  obtain ⟨g1, g2, g3, g4, g5, g6, g7⟩ := g
  obtain ⟨x1, x2, x3⟩ := x
  have hel : (F.eraseIdx i).length = F.length - 1 := List.length_eraseIdx_of_lt hi
  refine ⟨⟨(s.1 _).trans g1, hr0.trans g2, (s.1 _).trans g3, (s.2.1 _).trans g4, fun b q1 q2 => (s.1 _).trans (g5 b q1 q2), fun k hk => ?_, fun j k hj hk e => ?_⟩, by omega, by rw [hsz, hel], fun k f hf q hq => ?_⟩
  · rw [hR k hk]; exact g6 _ (sRot_lt hi x1 hk)
  · rw [hR j hj, hR k hk] at e
    exact sRot_inj hi (g7 _ _ (sRot_lt hi x1 hj) (sRot_lt hi x1 hk) e)
  · have hk := lt_at hf
    rw [hel] at hk
    rw [hR k (by omega)]
    have h6 := g6 _ (sRot_lt (k := k) hi x1 (by omega))
    rw [(s.2.2.2 _ (by omega) q).1]
    refine x3 _ f ?_ q hq
    rw [List.getElem?_eraseIdx] at hf
    unfold sRot
    split
    · rename_i hlt; rw [if_pos hlt] at hf; exact hf
    · rename_i hlt; rw [if_neg hlt] at hf; rw [if_pos (by omega)]; exact hf
theorem pool_push {h h' : zH} {a ka kr kd cap nf : Nat} {F : List (Nat → Int32)} {f : Nat → Int32} (g : gW h a ka kr kd cap) (x : xW h a cap nf F) (hn : F.length < cap) (hsz : zI h' a 1 = nI (F.length + 1)) (hR : ∀ j, zR h' (a + 1) j = zR h (a + 1) j)
    (hrow : ∀ i, i < nf → zI h' (zR h (a + 1) F.length) i = f i) (hoth : ∀ b, a + 2 ≤ b → b < a + 2 + cap → b ≠ zR h (a + 1) F.length → ∀ i, zI h' b i = zI h b i) : xW h' a cap nf (F ++ [f]) := by
  obtain ⟨g1, g2, g3, g4, g5, g6, g7⟩ := g
  obtain ⟨x1, x2, x3⟩ := x
  have hl : (F ++ [f]).length = F.length + 1 := by rw [List.length_append]; rfl
  refine ⟨by omega, by rw [hsz, hl], fun k q hq i hi => ?_⟩
  have hk := lt_at hq
  rw [hR k]
  by_cases e : k = F.length
  · subst e
    rw [List.getElem?_append_right (Nat.le_refl _), Nat.sub_self] at hq
    cases hq
    exact hrow i hi
  · have hk' : k < F.length := by omega
    rw [List.getElem?_append_left hk'] at hq
    have h6 := g6 k (by omega)
    rw [hoth _ h6.1 h6.2 (fun z => e (g7 _ _ (by omega) (by omega) z)) i]
    exact x3 k q hq i hi
def sRow (l : List Int32) : Nat → Int32 := fun i => l.getD i 0
