/-! ===== the small machine: ints and references of cells by number, a heap of them; what a method's code does, as a predicate transformer ===== -/
/-- a value: an int, or a reference (0 is null) -/
abbrev zV : Type := Int32 ⊕ Nat
/-- a heap: each cell's kind and length, how many there are, the ints in it, the references in it -/
abbrev zH : Type := (Nat → Nat) × (Nat → Nat) × Nat × (Nat → Nat → Int32) × (Nat → Nat → Nat)
def zK (h : zH) (a : Nat) : Nat := h.1 a
def zL (h : zH) (a : Nat) : Nat := h.2.1 a
def zN (h : zH) : Nat := h.2.2.1
def zI (h : zH) (a k : Nat) : Int32 := h.2.2.2.1 a k
def zR (h : zH) (a k : Nat) : Nat := h.2.2.2.2 a k
def zwI (h : zH) (a k : Nat) (v : Int32) : zH := (h.1, h.2.1, h.2.2.1, (fun b j => if b = a ∧ j = k then v else h.2.2.2.1 b j), h.2.2.2.2)
def zwR (h : zH) (a k v : Nat) : zH := (h.1, h.2.1, h.2.2.1, h.2.2.2.1, (fun b j => if b = a ∧ j = k then v else h.2.2.2.2 b j))
def zNew (h : zH) (kd len : Nat) : zH := ((fun b => if b = h.2.2.1 then kd else h.1 b), (fun b => if b = h.2.2.1 then len else h.2.1 b), h.2.2.1 + 1, (fun b j => if b = h.2.2.1 then 0 else h.2.2.2.1 b j), (fun b j => if b = h.2.2.1 then 0 else h.2.2.2.2 b j))
theorem zK_wI {h : zH} {a k : Nat} {v : Int32} {b : Nat} : zK (zwI h a k v) b = zK h b := rfl
theorem zL_wI {h : zH} {a k : Nat} {v : Int32} {b : Nat} : zL (zwI h a k v) b = zL h b := rfl
theorem zN_wI {h : zH} {a k : Nat} {v : Int32} : zN (zwI h a k v) = zN h := rfl
theorem zR_wI {h : zH} {a k : Nat} {v : Int32} {b j : Nat} : zR (zwI h a k v) b j = zR h b j := rfl
theorem zI_wI {h : zH} {a k : Nat} {v : Int32} {b j : Nat} : zI (zwI h a k v) b j = if b = a ∧ j = k then v else zI h b j := rfl
theorem zK_wR {h : zH} {a k v : Nat} {b : Nat} : zK (zwR h a k v) b = zK h b := rfl
theorem zL_wR {h : zH} {a k v : Nat} {b : Nat} : zL (zwR h a k v) b = zL h b := rfl
theorem zN_wR {h : zH} {a k v : Nat} : zN (zwR h a k v) = zN h := rfl
theorem zI_wR {h : zH} {a k v : Nat} {b j : Nat} : zI (zwR h a k v) b j = zI h b j := rfl
theorem zR_wR {h : zH} {a k v : Nat} {b j : Nat} : zR (zwR h a k v) b j = if b = a ∧ j = k then v else zR h b j := rfl
theorem zK_new {h : zH} {kd len b : Nat} : zK (zNew h kd len) b = if b = zN h then kd else zK h b := rfl
theorem zL_new {h : zH} {kd len b : Nat} : zL (zNew h kd len) b = if b = zN h then len else zL h b := rfl
theorem zN_new {h : zH} {kd len : Nat} : zN (zNew h kd len) = zN h + 1 := rfl
theorem zI_new {h : zH} {kd len b j : Nat} : zI (zNew h kd len) b j = if b = zN h then 0 else zI h b j := rfl
theorem zR_new {h : zH} {kd len b j : Nat} : zR (zNew h kd len) b j = if b = zN h then 0 else zR h b j := rfl
/-- an instruction of a table: it, its length, three numbers (a target, a kind, a place ..), an int -/
abbrev zE : Type := Instr × Nat × Nat × Nat × Nat × Int32
/-- a method's table: its instructions by their places, what it returns (0 an int, 1 a boolean, 2 nothing), how many cells and slots it may make -/
abbrev zMt : Type := List (Option zE) × Nat × Nat × Nat
def zAt : List (Option zE) → Nat → Option zE
  | [], _ => none
  | e :: _, 0 => e
  | _ :: t, n + 1 => zAt t n
abbrev zP : Type := Nat → Nat → Nat → List (Option zV) → List zV → zH → Prop
abbrev zT : Type := Option zV → zH → Prop
abbrev zCall : Type := Nat → List zV → zH → zT → Prop
def zGi (ls : List (Option zV)) (i : Nat) (f : Int32 → Prop) : Prop := match ls[i]? with
  | some (some (.inl v)) => f v
  | _ => False
def zGr (ls : List (Option zV)) (i : Nat) (f : Nat → Prop) : Prop := match ls[i]? with
  | some (some (.inr v)) => f v
  | _ => False
def zSt (ls : List (Option zV)) (i : Nat) (f : Prop) : Prop := match Nat.blt i ls.length with
  | true => f
  | false => False
def z1i (st : List zV) (f : Int32 → List zV → Prop) : Prop := match st with
  | .inl a :: r => f a r
  | _ => False
def z1r (st : List zV) (f : Nat → List zV → Prop) : Prop := match st with
  | .inr a :: r => f a r
  | _ => False
def z2i (st : List zV) (f : Int32 → Int32 → List zV → Prop) : Prop := match st with
  | .inl b :: .inl a :: r => f a b r
  | _ => False
def z2ir (st : List zV) (f : Int32 → Nat → List zV → Prop) : Prop := match st with
  | .inl j :: .inr a :: r => f j a r
  | _ => False
def z2rr (st : List zV) (f : Nat → Nat → List zV → Prop) : Prop := match st with
  | .inr b :: .inr a :: r => f b a r
  | _ => False
def z3i (st : List zV) (f : Int32 → Int32 → Nat → List zV → Prop) : Prop := match st with
  | .inl v :: .inl j :: .inr a :: r => f v j a r
  | _ => False
def z3r (st : List zV) (f : Nat → Int32 → Nat → List zV → Prop) : Prop := match st with
  | .inr b :: .inl j :: .inr a :: r => f b j a r
  | _ => False
/-- a switch: 'P tgt' for each value from lo on -/
def zSw (P : Nat → Prop) (pc : Nat) (v : Int32) : Int → List Int → Prop
  | _, [] => True
  | lo, o :: os => (v.toInt = lo → P ((pc : Int) + o).toNat) ∧ zSw P pc v (lo + 1) os
/-- a lookup: the first pair that fits, else the default -/
def zLk (P : Nat → Prop) (pc : Nat) (v : Int32) (d : Int) : List (Int × Int) → Prop
  | [] => P ((pc : Int) + d).toNat
  | (k, o) :: r => (v.toInt = k → P ((pc : Int) + o).toNat) ∧ (¬ v.toInt = k → zLk P pc v d r)
def zSt8 (r : List zV) (f : Prop) : Prop := match Nat.ble r.length 8 with
  | true => f
  | false => False
def zLe (n : Nat) (r : List zV) (f : Prop) : Prop := match Nat.ble n r.length with
  | true => f
  | false => False
