/-! ===== contracts over the small machine: how a call begins, searches ===== -/
theorem zD_of {d y : Nat} {as : List zV} {h : zH} {K : zT} (hl : Nat.ble as.length (zMl y) = true) (k : zWp (zTab y) (zD d) K 0 0 0 (as.map some ++ List.replicate (zMl y - as.length) none) [] h) : zD (d + 1) y as h K := by
  unfold zD
  rw [hl]
  exact k
theorem drop_at {α : Type} {L : List α} {j : Nat} {x : α} (h : L[j]? = some x) : L.drop j = x :: L.drop (j + 1) := by
  obtain ⟨hlt, e⟩ := List.getElem?_eq_some_iff.mp h
  rw [List.drop_eq_getElem_cons hlt, e]
theorem at_lt {α : Type} {L : List α} {j : Nat} (h : j < L.length) : ∃ x, L[j]? = some x := ⟨_, List.getElem?_eq_getElem h⟩
theorem lt_at {α : Type} {L : List α} {j : Nat} {x : α} (h : L[j]? = some x) : j < L.length := (List.getElem?_eq_some_iff.mp h).1
/-- the first place from j on where P holds, or none -/
def sFx {α : Type} (P : α → Bool) (L : List α) (j : Nat) : Option Nat := ((L.drop j).findIdx? P).map (fun k => j + k)
/-- the same as an int: -1 where there is none -/
def sIx {α : Type} (P : α → Bool) (L : List α) (j : Nat) : Int32 := match sFx P L j with
  | some k => nI k
  | none => -1
theorem sFx_end {α : Type} {P : α → Bool} {L : List α} {j : Nat} (h : L.length ≤ j) : sFx P L j = none := by
  unfold sFx; rw [List.drop_eq_nil_of_le h]; rfl
theorem sFx_hit {α : Type} {P : α → Bool} {L : List α} {j : Nat} {x : α} (h : L[j]? = some x) (hp : P x = true) : sFx P L j = some j := by
  unfold sFx; rw [drop_at h, List.findIdx?_cons, hp]; rfl
theorem sFx_miss {α : Type} {P : α → Bool} {L : List α} {j : Nat} {x : α} (h : L[j]? = some x) (hp : P x = false) : sFx P L j = sFx P L (j + 1) := by
  unfold sFx; rw [drop_at h, List.findIdx?_cons, hp]
  cases (L.drop (j + 1)).findIdx? P with
  | none => rfl
  | some k => show some (j + (k + 1)) = some (j + 1 + k); congr 1; omega
theorem sIx_end {α : Type} {P : α → Bool} {L : List α} {j : Nat} (h : L.length ≤ j) : sIx P L j = -1 := by unfold sIx; rw [sFx_end h]
theorem sIx_hit {α : Type} {P : α → Bool} {L : List α} {j : Nat} {x : α} (h : L[j]? = some x) (hp : P x = true) : sIx P L j = nI j := by unfold sIx; rw [sFx_hit h hp]
theorem sIx_miss {α : Type} {P : α → Bool} {L : List α} {j : Nat} {x : α} (h : L[j]? = some x) (hp : P x = false) : sIx P L j = sIx P L (j + 1) := by unfold sIx; rw [sFx_miss h hp]
/-- what a search finds -/
theorem sFx_some {α : Type} {P : α → Bool} {L : List α} {k : Nat} (h : sFx P L 0 = some k) : ∃ x, L[k]? = some x ∧ P x = true ∧ ∀ j y, j < k → L[j]? = some y → P y = false := by
  unfold sFx at h
  rw [List.drop_zero] at h
  cases hf : L.findIdx? P with
  | none => rw [hf] at h; cases h
  | some q =>
    rw [hf] at h
    have h : some (0 + q) = some k := h
    have hq : q = k := by have := Option.some.inj h; omega
    subst hq
    obtain ⟨h1, h2, h3⟩ := List.findIdx?_eq_some_iff_getElem.mp hf
    refine ⟨L[q], List.getElem?_eq_getElem h1, h2, fun j y hj hy => ?_⟩
    obtain ⟨hl, e⟩ := List.getElem?_eq_some_iff.mp hy
    have := h3 j hj
    rw [e] at this
    simpa using this
theorem sFx_none {α : Type} {P : α → Bool} {L : List α} (h : sFx P L 0 = none) : ∀ x ∈ L, P x = false := by
  unfold sFx at h
  rw [List.drop_zero] at h
  cases hf : L.findIdx? P with
  | none => intro x hx; simpa using (List.findIdx?_eq_none_iff.mp hf) x hx
  | some q => rw [hf] at h; cases h
theorem sIx_neg {α : Type} {P : α → Bool} {L : List α} (hl : L.length < 2 ^ 31) : sIx P L 0 = -1 ↔ sFx P L 0 = none := by
  unfold sIx
  cases hf : sFx P L 0 with
  | none => simp
  | some k =>
    obtain ⟨x, hx, -⟩ := sFx_some hf
    have hk := lt_at hx
    refine ⟨fun e => ?_, fun e => by cases e⟩
    have e : nI k = -1 := e
    have hp := nI_pos (show k < 2 ^ 31 by omega)
    rw [e] at hp
    exact absurd (by decide) hp
theorem sIx_pos {α : Type} {P : α → Bool} {L : List α} {k : Nat} (hf : sFx P L 0 = some k) : sIx P L 0 = nI k := by
  unfold sIx; rw [hf]
/-- two heaps alike but for the cells of A: kinds, lengths, number too -/
def zSame (A : Nat → Prop) (h h' : zH) : Prop := (∀ b, zK h' b = zK h b) ∧ (∀ b, zL h' b = zL h b) ∧ zN h' = zN h ∧ ∀ b, ¬ A b → ∀ j, zI h' b j = zI h b j ∧ zR h' b j = zR h b j
theorem zSame.rf {A : Nat → Prop} {h : zH} : zSame A h h := ⟨fun _ => rfl, fun _ => rfl, rfl, fun _ _ _ => ⟨rfl, rfl⟩⟩
theorem zSame.tr {A : Nat → Prop} {h h1 h2 : zH} (a : zSame A h h1) (b : zSame A h1 h2) : zSame A h h2 := ⟨fun q => (b.1 q).trans (a.1 q), fun q => (b.2.1 q).trans (a.2.1 q), b.2.2.1.trans a.2.2.1, fun q hq j => ⟨(b.2.2.2 q hq j).1.trans (a.2.2.2 q hq j).1, (b.2.2.2 q hq j).2.trans (a.2.2.2 q hq j).2⟩⟩
theorem zSame.wd {A B : Nat → Prop} {h h' : zH} (a : zSame A h h') (hAB : ∀ b, A b → B b) : zSame B h h' := ⟨a.1, a.2.1, a.2.2.1, fun q hq j => a.2.2.2 q (fun z => hq (hAB q z)) j⟩
theorem zSame.wI {A : Nat → Prop} {h : zH} {a k : Nat} {v : Int32} (ha : A a) : zSame A h (zwI h a k v) := ⟨fun _ => rfl, fun _ => rfl, rfl, fun b hb j => ⟨by rw [zI_wI, if_neg (fun q => hb (by rw [q.1]; exact ha))], rfl⟩⟩
theorem zSame.wR {A : Nat → Prop} {h : zH} {a k v : Nat} (ha : A a) : zSame A h (zwR h a k v) := ⟨fun _ => rfl, fun _ => rfl, rfl, fun b hb j => ⟨rfl, by rw [zR_wR, if_neg (fun q => hb (by rw [q.1]; exact ha))]⟩⟩
theorem zI_at {h : zH} {a k : Nat} {v : Int32} : zI (zwI h a k v) a k = v := by rw [zI_wI, if_pos ⟨rfl, rfl⟩]
theorem zI_oa {h : zH} {a k : Nat} {v : Int32} {b j : Nat} (e : b ≠ a) : zI (zwI h a k v) b j = zI h b j := by rw [zI_wI, if_neg (fun q => e q.1)]
theorem zI_ok {h : zH} {a k : Nat} {v : Int32} {b j : Nat} (e : j ≠ k) : zI (zwI h a k v) b j = zI h b j := by rw [zI_wI, if_neg (fun q => e q.2)]
theorem zR_at {h : zH} {a k v : Nat} : zR (zwR h a k v) a k = v := by rw [zR_wR, if_pos ⟨rfl, rfl⟩]
theorem zR_oa {h : zH} {a k v : Nat} {b j : Nat} (e : b ≠ a) : zR (zwR h a k v) b j = zR h b j := by rw [zR_wR, if_neg (fun q => e q.1)]
theorem zR_ok {h : zH} {a k v : Nat} {b j : Nat} (e : j ≠ k) : zR (zwR h a k v) b j = zR h b j := by rw [zR_wR, if_neg (fun q => e q.2)]
