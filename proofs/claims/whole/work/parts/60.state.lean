/-! ===== the state, as mathematics: clock, digits, location, held, standing, owners, untils, titles, cancellations, queries, in flight, dialogues of each node, latest numbers ===== -/
abbrev sS : Type := Int32 × (Nat → Int32) × (Nat → Int32) × (Nat → Int32) × (Nat → Int32) × (Nat → Int32) × (Nat → Int32) × (List (Nat → Int32)) × List Int32 × List (Int32 × Int32) × (List (Nat → Int32)) × (Nat → List (Nat → Int32)) × (Nat → Int32)
def sClk (S : sS) : Int32 := S.1
def sDg (S : sS) : Nat → Int32 := S.2.1
def sLo (S : sS) : Nat → Int32 := S.2.2.1
def sHe (S : sS) : Nat → Int32 := S.2.2.2.1
def sSt (S : sS) : Nat → Int32 := S.2.2.2.2.1
def sO (S : sS) : Nat → Int32 := S.2.2.2.2.2.1
def sU (S : sS) : Nat → Int32 := S.2.2.2.2.2.2.1
def sT (S : sS) : List (Nat → Int32) := S.2.2.2.2.2.2.2.1
def sC (S : sS) : List Int32 := S.2.2.2.2.2.2.2.2.1
def sQ (S : sS) : List (Int32 × Int32) := S.2.2.2.2.2.2.2.2.2.1
def sF (S : sS) : List (Nat → Int32) := S.2.2.2.2.2.2.2.2.2.2.1
def sD (S : sS) : Nat → List (Nat → Int32) := S.2.2.2.2.2.2.2.2.2.2.2.1
def sL (S : sS) : Nat → Int32 := S.2.2.2.2.2.2.2.2.2.2.2.2
def stClk (S : sS) (x : Int32) : sS := (x, S.2.1, S.2.2.1, S.2.2.2.1, S.2.2.2.2.1, S.2.2.2.2.2.1, S.2.2.2.2.2.2.1, S.2.2.2.2.2.2.2.1, S.2.2.2.2.2.2.2.2.1, S.2.2.2.2.2.2.2.2.2.1, S.2.2.2.2.2.2.2.2.2.2.1, S.2.2.2.2.2.2.2.2.2.2.2.1, S.2.2.2.2.2.2.2.2.2.2.2.2)
def stDg (S : sS) (x : Nat → Int32) : sS := (S.1, x, S.2.2.1, S.2.2.2.1, S.2.2.2.2.1, S.2.2.2.2.2.1, S.2.2.2.2.2.2.1, S.2.2.2.2.2.2.2.1, S.2.2.2.2.2.2.2.2.1, S.2.2.2.2.2.2.2.2.2.1, S.2.2.2.2.2.2.2.2.2.2.1, S.2.2.2.2.2.2.2.2.2.2.2.1, S.2.2.2.2.2.2.2.2.2.2.2.2)
def stLo (S : sS) (x : Nat → Int32) : sS := (S.1, S.2.1, x, S.2.2.2.1, S.2.2.2.2.1, S.2.2.2.2.2.1, S.2.2.2.2.2.2.1, S.2.2.2.2.2.2.2.1, S.2.2.2.2.2.2.2.2.1, S.2.2.2.2.2.2.2.2.2.1, S.2.2.2.2.2.2.2.2.2.2.1, S.2.2.2.2.2.2.2.2.2.2.2.1, S.2.2.2.2.2.2.2.2.2.2.2.2)
def stHe (S : sS) (x : Nat → Int32) : sS := (S.1, S.2.1, S.2.2.1, x, S.2.2.2.2.1, S.2.2.2.2.2.1, S.2.2.2.2.2.2.1, S.2.2.2.2.2.2.2.1, S.2.2.2.2.2.2.2.2.1, S.2.2.2.2.2.2.2.2.2.1, S.2.2.2.2.2.2.2.2.2.2.1, S.2.2.2.2.2.2.2.2.2.2.2.1, S.2.2.2.2.2.2.2.2.2.2.2.2)
def stSt (S : sS) (x : Nat → Int32) : sS := (S.1, S.2.1, S.2.2.1, S.2.2.2.1, x, S.2.2.2.2.2.1, S.2.2.2.2.2.2.1, S.2.2.2.2.2.2.2.1, S.2.2.2.2.2.2.2.2.1, S.2.2.2.2.2.2.2.2.2.1, S.2.2.2.2.2.2.2.2.2.2.1, S.2.2.2.2.2.2.2.2.2.2.2.1, S.2.2.2.2.2.2.2.2.2.2.2.2)
def stO (S : sS) (x : Nat → Int32) : sS := (S.1, S.2.1, S.2.2.1, S.2.2.2.1, S.2.2.2.2.1, x, S.2.2.2.2.2.2.1, S.2.2.2.2.2.2.2.1, S.2.2.2.2.2.2.2.2.1, S.2.2.2.2.2.2.2.2.2.1, S.2.2.2.2.2.2.2.2.2.2.1, S.2.2.2.2.2.2.2.2.2.2.2.1, S.2.2.2.2.2.2.2.2.2.2.2.2)
def stU (S : sS) (x : Nat → Int32) : sS := (S.1, S.2.1, S.2.2.1, S.2.2.2.1, S.2.2.2.2.1, S.2.2.2.2.2.1, x, S.2.2.2.2.2.2.2.1, S.2.2.2.2.2.2.2.2.1, S.2.2.2.2.2.2.2.2.2.1, S.2.2.2.2.2.2.2.2.2.2.1, S.2.2.2.2.2.2.2.2.2.2.2.1, S.2.2.2.2.2.2.2.2.2.2.2.2)
def stT (S : sS) (x : List (Nat → Int32)) : sS := (S.1, S.2.1, S.2.2.1, S.2.2.2.1, S.2.2.2.2.1, S.2.2.2.2.2.1, S.2.2.2.2.2.2.1, x, S.2.2.2.2.2.2.2.2.1, S.2.2.2.2.2.2.2.2.2.1, S.2.2.2.2.2.2.2.2.2.2.1, S.2.2.2.2.2.2.2.2.2.2.2.1, S.2.2.2.2.2.2.2.2.2.2.2.2)
def stC (S : sS) (x : List Int32) : sS := (S.1, S.2.1, S.2.2.1, S.2.2.2.1, S.2.2.2.2.1, S.2.2.2.2.2.1, S.2.2.2.2.2.2.1, S.2.2.2.2.2.2.2.1, x, S.2.2.2.2.2.2.2.2.2.1, S.2.2.2.2.2.2.2.2.2.2.1, S.2.2.2.2.2.2.2.2.2.2.2.1, S.2.2.2.2.2.2.2.2.2.2.2.2)
def stQ (S : sS) (x : List (Int32 × Int32)) : sS := (S.1, S.2.1, S.2.2.1, S.2.2.2.1, S.2.2.2.2.1, S.2.2.2.2.2.1, S.2.2.2.2.2.2.1, S.2.2.2.2.2.2.2.1, S.2.2.2.2.2.2.2.2.1, x, S.2.2.2.2.2.2.2.2.2.2.1, S.2.2.2.2.2.2.2.2.2.2.2.1, S.2.2.2.2.2.2.2.2.2.2.2.2)
def stF (S : sS) (x : List (Nat → Int32)) : sS := (S.1, S.2.1, S.2.2.1, S.2.2.2.1, S.2.2.2.2.1, S.2.2.2.2.2.1, S.2.2.2.2.2.2.1, S.2.2.2.2.2.2.2.1, S.2.2.2.2.2.2.2.2.1, S.2.2.2.2.2.2.2.2.2.1, x, S.2.2.2.2.2.2.2.2.2.2.2.1, S.2.2.2.2.2.2.2.2.2.2.2.2)
def stD (S : sS) (x : Nat → List (Nat → Int32)) : sS := (S.1, S.2.1, S.2.2.1, S.2.2.2.1, S.2.2.2.2.1, S.2.2.2.2.2.1, S.2.2.2.2.2.2.1, S.2.2.2.2.2.2.2.1, S.2.2.2.2.2.2.2.2.1, S.2.2.2.2.2.2.2.2.2.1, S.2.2.2.2.2.2.2.2.2.2.1, x, S.2.2.2.2.2.2.2.2.2.2.2.2)
def stL (S : sS) (x : Nat → Int32) : sS := (S.1, S.2.1, S.2.2.1, S.2.2.2.1, S.2.2.2.2.1, S.2.2.2.2.2.1, S.2.2.2.2.2.2.1, S.2.2.2.2.2.2.2.1, S.2.2.2.2.2.2.2.2.1, S.2.2.2.2.2.2.2.2.2.1, S.2.2.2.2.2.2.2.2.2.2.1, S.2.2.2.2.2.2.2.2.2.2.2.1, x)
def updD (f : Nat → List (Nat → Int32)) (k : Nat) (x : List (Nat → Int32)) : Nat → List (Nat → Int32) := fun j => if j = k then x else f j
/-- which of the first m numbers an int is -/
def ix (m : Nat) (x : Int32) : Option Nat := if 0 ≤ x ∧ x.toNatClampNeg < m then some x.toNatClampNeg else none
theorem ix_some {m : Nat} {x : Int32} {n : Nat} (h : ix m x = some n) : n < m ∧ x = nI n := by
  unfold ix at h
  split at h
  · rename_i q
    cases h
    obtain ⟨j, hj, rfl⟩ := nI_of (by rw [Int32.not_lt]; exact q.1)
    rw [nI_clamp hj] at q ⊢
    exact ⟨q.2, rfl⟩
  · cases h
theorem ix_nI {m n : Nat} (hm : m ≤ 2 ^ 31) (h : n < m) : ix m (nI n) = some n := by
  unfold ix
  rw [nI_clamp (by omega), if_pos ⟨nI_pos' (by omega), h⟩]
theorem ix_none {m : Nat} {x : Int32} (hm : m ≤ 2 ^ 31) (h : ix m x = none) {n : Nat} (hn : n < m) : x ≠ nI n := fun e => by
  rw [e, ix_nI hm hn] at h; cases h
theorem ix_neg {m : Nat} {x : Int32} (h : x < 0) : ix m x = none := by
  unfold ix; rw [if_neg (fun q => absurd q.1 (by rw [Int32.not_le]; exact h))]
theorem ix_ge {m n : Nat} (h : m ≤ n) (hn : n < 2 ^ 31) : ix m (nI n) = none := by
  unfold ix; rw [nI_clamp hn, if_neg (fun q => absurd q.2 (by omega))]
/-- which visited node an int is -/
def iv (w : Nat) (x : Int32) : Option Nat := match ix (w + 1) x with
  | some 0 => none
  | o => o
theorem iv_some {w : Nat} {x : Int32} {n : Nat} (h : iv w x = some n) : 1 ≤ n ∧ n ≤ w ∧ x = nI n := by
  unfold iv at h
  split at h
  · cases h
  · rename_i h0
    obtain ⟨h1, h2⟩ := ix_some h
    refine ⟨Nat.pos_of_ne_zero (fun e => ?_), by omega, h2⟩
    subst e
    exact h0 h
theorem iv_nI {w n : Nat} (hw : w ≤ 4) (h1 : 1 ≤ n) (h : n ≤ w) : iv w (nI n) = some n := by
  unfold iv
  rw [ix_nI (by omega) (by omega)]
  cases n with
  | zero => omega
  | succ n => rfl
theorem iv_neg {w : Nat} {x : Int32} (h : x < 0) : iv w x = none := by unfold iv; rw [ix_neg h]
theorem iv_0 {w : Nat} (hw : w ≤ 4) : iv w (nI 0) = none := by
  unfold iv; rw [ix_nI (by omega) (Nat.succ_pos w)]; rfl
theorem iv_ge {w n : Nat} (h : w < n) (hn : n < 2 ^ 31) : iv w (nI n) = none := by unfold iv; rw [ix_ge h hn]
/-- the cells of a node's dialogues, and their room -/
def nA (v : Nat) : Nat := if v = 0 then 47 else 50 + 4 * v
def nC (v : Nat) : Nat := if v = 0 then 4 else 2
theorem nA_pos {v : Nat} (h : 1 ≤ v) : nA v = 50 + 4 * v := by unfold nA; rw [if_neg (by omega)]
theorem nC_pos {v : Nat} (h : 1 ≤ v) : nC v = 2 := by unfold nC; rw [if_neg (by omega)]
theorem nC_le (v : Nat) : nC v ≤ 24 := by unfold nC; split <;> decide
theorem nA_in (v : Nat) : 47 ≤ nA v ∧ (v = 0 → nA v + 2 + nC v = 53) ∧ (1 ≤ v → 54 ≤ nA v) := by
  unfold nA nC; split <;> omega
theorem nA_apart {v u b : Nat} (h : v ≠ u) (h1 : nA v ≤ b) (h2 : b < nA v + 2 + nC v) : ¬ (nA u ≤ b ∧ b < nA u + 2 + nC u) := by
  unfold nA nC at *
  split at h1 <;> split <;> (try split at h2) <;> omega
theorem nA_not {v b : Nat} (h : b < 47 ∨ b = 53) : ¬ (nA v ≤ b ∧ b < nA v + 2 + nC v) := by
  unfold nA nC
  split <;> omega
/-- what never changes of the object: where its parts lie -/
def gX (h : zH) (w : Nat) : Prop := zK h 3 = 3 ∧ zI h 3 0 = nI w ∧ (zR h 3 2 = 4 ∧ zR h 3 3 = 5 ∧ zR h 3 4 = 42 ∧ zR h 3 5 = 43 ∧ zR h 3 6 = 6 ∧ zR h 3 7 = 10 ∧ zR h 3 8 = 12 ∧ zR h 3 9 = 15 ∧ zR h 3 10 = 41 ∧ zR h 3 11 = 44 ∧ zR h 3 12 = 47 ∧ zR h 3 13 = 53) ∧
  (zK h 4 = 1 ∧ zL h 4 = 4 ∧ zK h 5 = 1 ∧ zL h 5 = 4 ∧ zK h 42 = 2 ∧ zL h 42 = 4 * (w + 1) ∧ zK h 43 = 1 ∧ zL h 43 = 4 * (w + 1) ∧ zK h 41 = 17 ∧ zK h 53 = 16 ∧ zL h 53 = w + 1) ∧ ∀ v, v ≤ w → zR h 53 v = nA v
/-- the heap holds the state -/
def XS (h : zH) (w : Nat) (S : sS) : Prop := gX h w ∧ gT h ∧ gC h ∧ gQ h ∧ gN h w ∧ gP h ∧ gW h 15 19 18 17 24 ∧ (∀ v, v ≤ w → gW h (nA v) 15 14 13 (nC v)) ∧
  zI h 3 1 = sClk S ∧ (∀ s, s < 4 → zI h 4 s = sDg S s) ∧ (∀ s, s < 4 → zI h 5 s = sLo S s) ∧ (∀ k, k < 4 * (w + 1) → zI h 42 k = sHe S k) ∧ (∀ k, k < 4 * (w + 1) → zI h 43 k = sSt S k) ∧
  xN h w (sO S) (sU S) ∧ xT h (sT S) ∧ xC h (sC S) ∧ xQ h (sQ S) ∧ xW h 15 24 7 (sF S) ∧ ∀ v, v ≤ w → xW h (nA v) (nC v) 6 (sD S v) ∧ zI h (nA v) 2 = sL S v
theorem gX_same {A : Nat → Prop} {h h' : zH} {w : Nat} (s : zSame A h h') (h1 : zI h' 3 0 = zI h 3 0) (h2 : ∀ j, zR h' 3 j = zR h 3 j) (h3 : ∀ j, zR h' 53 j = zR h 53 j) (g : gX h w) : gX h' w := by
  obtain ⟨g1, g2, ⟨a1, a2, a3, a4, a5, a6, a7, a8, a9, a10, a11, a12⟩, ⟨b1, b2, b3, b4, b5, b6, b7, b8, b9, b10, b11⟩, g5⟩ := g
  refine ⟨(s.1 _).trans g1, h1.trans g2, ?_, ?_, fun v hv => (h3 v).trans (g5 v hv)⟩
  · simp only [h2]; exact ⟨a1, a2, a3, a4, a5, a6, a7, a8, a9, a10, a11, a12⟩
  · simp only [s.1, s.2.1]; exact ⟨b1, b2, b3, b4, b5, b6, b7, b8, b9, b10, b11⟩
theorem gP_same {A : Nat → Prop} {h h' : zH} (s : zSame A h h') (h1 : ¬ A 2) (g : gP h) : gP h' :=
  ⟨(s.1 _).trans g.1, (s.2.1 _).trans g.2.1, fun j hj => (s.2.2.2 2 h1 j).1.trans (g.2.2 j hj)⟩
