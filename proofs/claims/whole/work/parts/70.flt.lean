/-! ===== one list of dialogues of all nodes, and each node's own ===== -/
def flt (v : Nat) (G : List (Nat × (Nat → Int32))) : List (Nat → Int32) := (G.filter (fun p => decide (p.1 = v))).map (fun p => p.2)
/-- how many of v stand before the place d -/
def rk (v : Nat) : List (Nat × (Nat → Int32)) → Nat → Nat
  | [], _ => 0
  | _ :: _, 0 => 0
  | p :: G, d + 1 => (if p.1 = v then 1 else 0) + rk v G d
theorem flt_nil (v : Nat) : flt v [] = [] := rfl
theorem flt_c (v : Nat) (p : Nat × (Nat → Int32)) (G : List (Nat × (Nat → Int32))) : flt v (p :: G) = if p.1 = v then p.2 :: flt v G else flt v G := by
  unfold flt
  by_cases e : p.1 = v
  · rw [List.filter_cons_of_pos (by simpa using e), if_pos e]; rfl
  · rw [List.filter_cons_of_neg (by simpa using e), if_neg e]
theorem flt_app (v : Nat) (G : List (Nat × (Nat → Int32))) (u : Nat) (g : Nat → Int32) : flt v (G ++ [(u, g)]) = if u = v then flt v G ++ [g] else flt v G := by
  unfold flt
  rw [List.filter_append, List.map_append]
  by_cases e : u = v
  · rw [if_pos e, List.filter_cons_of_pos (by simpa using e)]; rfl
  · rw [if_neg e, List.filter_cons_of_neg (by simpa using e)]
    show _ ++ [] = _
    rw [List.append_nil]
theorem flt_at {v : Nat} {g : Nat → Int32} : ∀ {G : List (Nat × (Nat → Int32))} {d : Nat}, G[d]? = some (v, g) → (flt v G)[rk v G d]? = some g
  | [], d, h => by simp at h
  | p :: G, 0, h => by
    have h : some p = some (v, g) := h
    cases h
    rw [flt_c, if_pos rfl]; rfl
  | p :: G, d + 1, h => by
    rw [List.getElem?_cons_succ] at h
    have ih := flt_at h
    rw [flt_c]
    unfold rk
    by_cases e : p.1 = v
    · rw [if_pos e, if_pos e, Nat.add_comm 1, List.getElem?_cons_succ]; exact ih
    · rw [if_neg e, if_neg e, Nat.zero_add]; exact ih
theorem flt_er {v : Nat} {g : Nat → Int32} : ∀ {G : List (Nat × (Nat → Int32))} {d : Nat}, G[d]? = some (v, g) → flt v (G.eraseIdx d) = (flt v G).eraseIdx (rk v G d)
  | [], d, h => by simp at h
  | p :: G, 0, h => by
    have h : some p = some (v, g) := h
    cases h
    rw [flt_c, if_pos rfl]; rfl
  | p :: G, d + 1, h => by
    rw [List.getElem?_cons_succ] at h
    have ih := flt_er h
    show flt v (p :: G.eraseIdx d) = _
    rw [flt_c, flt_c]
    unfold rk
    by_cases e : p.1 = v
    · rw [if_pos e, if_pos e, if_pos e, Nat.add_comm 1, List.eraseIdx_cons_succ, ih]
    · rw [if_neg e, if_neg e, if_neg e, Nat.zero_add]; exact ih
theorem flt_ero {v u : Nat} {g : Nat → Int32} (hne : u ≠ v) : ∀ {G : List (Nat × (Nat → Int32))} {d : Nat}, G[d]? = some (u, g) → flt v (G.eraseIdx d) = flt v G
  | [], d, h => by simp at h
  | p :: G, 0, h => by
    have h : some p = some (u, g) := h
    cases h
    show flt v G = _
    rw [flt_c, if_neg hne]
  | p :: G, d + 1, h => by
    rw [List.getElem?_cons_succ] at h
    have ih := flt_ero hne h
    show flt v (p :: G.eraseIdx d) = _
    rw [flt_c, flt_c, ih]
theorem flt_set {v : Nat} {g g' : Nat → Int32} : ∀ {G : List (Nat × (Nat → Int32))} {d : Nat}, G[d]? = some (v, g) → flt v (G.set d (v, g')) = (flt v G).set (rk v G d) g'
  | [], d, h => by simp at h
  | p :: G, 0, h => by
    have h : some p = some (v, g) := h
    cases h
    show flt v ((v, g') :: G) = _
    rw [flt_c, flt_c, if_pos rfl, if_pos rfl]; rfl
  | p :: G, d + 1, h => by
    rw [List.getElem?_cons_succ] at h
    have ih := flt_set (g' := g') h
    show flt v (p :: G.set d (v, g')) = _
    rw [flt_c, flt_c]
    unfold rk
    by_cases e : p.1 = v
    · rw [if_pos e, if_pos e, if_pos e, Nat.add_comm 1, List.set_cons_succ, ih]
    · rw [if_neg e, if_neg e, if_neg e, Nat.zero_add]; exact ih
theorem flt_seto {v u : Nat} {g g' : Nat → Int32} (hne : u ≠ v) : ∀ {G : List (Nat × (Nat → Int32))} {d : Nat}, G[d]? = some (u, g) → flt v (G.set d (u, g')) = flt v G
  | [], d, h => by simp at h
  | p :: G, 0, h => by
    have h : some p = some (u, g) := h
    cases h
    show flt v ((u, g') :: G) = _
    rw [flt_c, flt_c, if_neg hne, if_neg hne]
  | p :: G, d + 1, h => by
    rw [List.getElem?_cons_succ] at h
    have ih := flt_seto (g' := g') hne h
    show flt v (p :: G.set d (u, g')) = _
    rw [flt_c, flt_c, ih]
theorem sFx_c {α : Type} {P : α → Bool} {x : α} {L : List α} : sFx P (x :: L) 0 = if P x = true then some 0 else (sFx P L 0).map (fun k => k + 1) := by
  unfold sFx
  rw [List.drop_zero, List.drop_zero, List.findIdx?_cons]
  by_cases e : P x = true
  · rw [e, if_pos rfl]; rfl
  · rw [if_neg e, if_neg (by simpa using e)]
    cases L.findIdx? P with
    | none => rfl
    | some k => show some (0 + (k + 1)) = some (0 + k + 1); rfl
/-- a search among all is a search among v's own -/
theorem flt_fx {v : Nat} {P : (Nat → Int32) → Bool} : ∀ (G : List (Nat × (Nat → Int32))), sFx P (flt v G) 0 = (sFx (fun p => decide (p.1 = v) && P p.2) G 0).map (fun d => rk v G d)
  | [] => rfl
  | p :: G => by
    have ih := flt_fx (v := v) (P := P) G
    rw [flt_c, sFx_c]
    by_cases e : p.1 = v
    · rw [if_pos e, sFx_c]
      by_cases hp : P p.2 = true
      · rw [if_pos hp, if_pos (by simp [e, hp])]; rfl
      · rw [if_neg hp, if_neg (by simp [hp]), ih]
        cases sFx (fun p => decide (p.1 = v) && P p.2) G 0 with
        | none => rfl
        | some d =>
          show some (rk v G d + 1) = some (rk v (p :: G) (d + 1))
          congr 1
          show _ = (if p.1 = v then 1 else 0) + rk v G d
          rw [if_pos e]; omega
    · rw [if_neg e, if_neg (by simp [e]), ih]
      cases sFx (fun p => decide (p.1 = v) && P p.2) G 0 with
      | none => rfl
      | some d =>
        show some (rk v G d) = some (rk v (p :: G) (d + 1))
        congr 1
        show _ = (if p.1 = v then 1 else 0) + rk v G d
        rw [if_neg e]; omega
theorem flt_len {w : Nat} : ∀ (G : List (Nat × (Nat → Int32))), (∀ p ∈ G, p.1 ≤ w) → w ≤ 4 → G.length ≤ (flt 0 G).length + (flt 1 G).length + (flt 2 G).length + (flt 3 G).length + (flt 4 G).length
  | [], _, _ => by simp
  | p :: G, h, hw => by
    have ih := flt_len G (fun q hq => h q (List.mem_cons_of_mem _ hq)) hw
    have hp := h p List.mem_cons_self
    rw [flt_c, flt_c, flt_c, flt_c, flt_c]
    have : p.1 = 0 ∨ p.1 = 1 ∨ p.1 = 2 ∨ p.1 = 3 ∨ p.1 = 4 := by omega
    rcases this with e | e | e | e | e <;> rw [e] <;> simp <;> omega
/-- the nodes' own lists are those of the one list -/
def LG (w : Nat) (S : sS) (G : List (Nat × (Nat → Int32))) : Prop := (∀ p ∈ G, p.1 ≤ w) ∧ ∀ v, v ≤ w → sD S v = flt v G
