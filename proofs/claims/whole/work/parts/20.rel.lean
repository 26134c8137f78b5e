/-! ===== the small machine's heap and the machine's own ===== -/
def zcv (ad : Nat → Nat) : zV → Value
  | .inl x => .int x
  | .inr 0 => .null
  | .inr (a + 1) => .ref (ad (a + 1))
theorem zcv_cat (ad : Nat → Nat) (v : zV) : (zcv ad v).category = 1 := by
  cases v with
  | inl x => rfl
  | inr a => cases a <;> rfl
theorem zcv_ref {ad : Nat → Nat} {a : Nat} (h : 0 < a) : zcv ad (.inr a) = .ref (ad a) := by
  cases a with
  | zero => exact absurd h (Nat.lt_irrefl 0)
  | succ n => rfl
theorem zcv_null {ad : Nat → Nat} {a : Nat} (h : ¬ 0 < a) : zcv ad (.inr a) = .null := by
  cases a with
  | zero => rfl
  | succ n => exact absurd (Nat.succ_pos n) h
/-- where the cells lie: the script, the table of powers, then those that are made -/
def zAd (b t base : Nat) : Nat → Nat := fun a => if a = 1 then b else if a = 2 then t else base + (a - 3)
theorem zAd_hi {b t base a : Nat} (h : 3 ≤ a) : zAd b t base a = base + (a - 3) := by
  unfold zAd; rw [if_neg (by omega), if_neg (by omega)]
theorem zAd_ne {b t base a a' : Nat} (hb : b < base) (ht : t < base) (h : 3 ≤ a) (h0 : 0 < a') (hne : a' ≠ a) : zAd b t base a' ≠ zAd b t base a := by
  rw [zAd_hi h]
  unfold zAd
  split
  · omega
  · split
    · omega
    · omega
def zFv (ad : Nat → Nat) (h : zH) (a ci k : Nat) : Value := if zFr ci k = true then zcv ad (.inr (zR h a k)) else .int (zI h a k)
/-- what a cell of a kind is -/
def zCell (D : va_G) (ad : Nat → Nat) (s : State) (h : zH) (a : Nat) (H : Heap) : Prop :=
  (zK h a = 1 → ∃ cA : ClassId, H[ad a]? = some (arrV cA (zL h a) (fun j => .int (zI h a j))) ∧ ArrOfT s cA .int) ∧
  (zK h a = 2 → ∃ cA : ClassId, H[ad a]? = some (arrV cA (zL h a) (fun j => .int (zI h a j))) ∧ ArrOfT s cA .boolean) ∧
  (zK h a = 101 → ∃ cell : Cell, H[ad a]? = some cell ∧ s.isArrayOf cell .int ∧ cell.vm ≠ .unknown ∧ zL h a ≤ cell.slots.size ∧ cell.slots.size.toInt32 = Int32.ofNat (zL h a) ∧ ∀ j, j < zL h a → cell.slots[j]? = some (.int (zI h a j))) ∧
  (∀ (ci : Nat) (r : vw_C), zK h a = 3 + 2 * ci → zCl[ci]? = some r → t_OB (ad a) (D.1 ci) r.2.2 (D.2 ci) H (zFv ad h a ci)) ∧
  (∀ (ci : Nat) (r : vw_C), zK h a = 4 + 2 * ci → zCl[ci]? = some r → ∃ (cA : ClassId) (kA : Class) (comp : ClassId), H[ad a]? = some (arrV cA (zL h a) (fun j => zcv ad (.inr (zR h a j)))) ∧ s.vm.classes[cA]? = some kA ∧ kA.kind = .array comp (.object r.1) ∧ s.vm.findClass r.1 = some comp)
theorem zCell.congr {D : va_G} {ad : Nat → Nat} {s : State} {h h' : zH} {a : Nat} {H H' : Heap} (c : zCell D ad s h a H) (hk : zK h' a = zK h a) (hl : zL h' a = zL h a) (hI : zI h' a = zI h a) (hR : zR h' a = zR h a) (hq : H'[ad a]? = H[ad a]?) : zCell D ad s h' a H' := by
  obtain ⟨c1, c2, c3, c4, c5⟩ := c
  refine ⟨?_, ?_, ?_, ?_, ?_⟩
  · rw [hk, hl, hI, hq]; exact c1
  · rw [hk, hl, hI, hq]; exact c2
  · rw [hk, hl, hI, hq]; exact c3
  · intro ci r h1 h2
    rw [hk] at h1
    have e : zFv ad h' a ci = zFv ad h a ci := by
      funext k; unfold zFv; rw [hI, hR]
    rw [e]
    exact (c4 ci r h1 h2).kept hq
  · rw [hk, hl, hR, hq]; exact c5
theorem zCell.moved {D : va_G} {ad : Nat → Nat} {s U : State} {h : zH} {a : Nat} {H : Heap} (hvm : s.vm.Alike U.vm) (c : zCell D ad s h a H) : zCell D ad U h a H := by
  obtain ⟨c1, c2, c3, c4, c5⟩ := c
  refine ⟨fun e => ?_, fun e => ?_, fun e => ?_, c4, fun ci r h1 h2 => ?_⟩
  · obtain ⟨cA, q1, q2⟩ := c1 e
    exact ⟨cA, q1, arrOfT_moved hvm q2⟩
  · obtain ⟨cA, q1, q2⟩ := c2 e
    exact ⟨cA, q1, arrOfT_moved hvm q2⟩
  · obtain ⟨cell, q1, q2, q3⟩ := c3 e
    exact ⟨cell, q1, State.isArrayOf_alike hvm q2, q3⟩
  · obtain ⟨cA, kA, comp, q1, q2, q3, q4⟩ := c5 ci r h1 h2
    obtain ⟨k', hk', he⟩ := hvm.2.2 _ _ q2
    exact ⟨cA, k', comp, q1, hk', by rw [he]; exact q3, by rw [hvm.findClass]; exact q4⟩
theorem zCell_1 {D : va_G} {ad : Nat → Nat} {s : State} {h : zH} {a : Nat} {H : Heap} (hk : zK h a = 1) (k : ∃ cA : ClassId, H[ad a]? = some (arrV cA (zL h a) (fun j => .int (zI h a j))) ∧ ArrOfT s cA .int) : zCell D ad s h a H :=
  ⟨fun _ => k, fun e => by omega, fun e => by omega, fun ci r e => by omega, fun ci r e => by omega⟩
theorem zCell_2 {D : va_G} {ad : Nat → Nat} {s : State} {h : zH} {a : Nat} {H : Heap} (hk : zK h a = 2) (k : ∃ cA : ClassId, H[ad a]? = some (arrV cA (zL h a) (fun j => .int (zI h a j))) ∧ ArrOfT s cA .boolean) : zCell D ad s h a H :=
  ⟨fun e => by omega, fun _ => k, fun e => by omega, fun ci r e => by omega, fun ci r e => by omega⟩
theorem zCell_obj {D : va_G} {ad : Nat → Nat} {s : State} {h : zH} {a ci : Nat} {r : vw_C} {H : Heap} (hc : zCl[ci]? = some r) (hk : zK h a = 3 + 2 * ci) (k : t_OB (ad a) (D.1 ci) r.2.2 (D.2 ci) H (zFv ad h a ci)) : zCell D ad s h a H := by
  have hlt : ci < zCl.length := (List.getElem?_eq_some_iff.mp hc).1
  have hlen : zCl.length < 40 := zCl_len
  refine ⟨fun e => by omega, fun e => by omega, fun e => by omega, fun cj r' e hc' => ?_, fun cj r' e => by omega⟩
  have he : cj = ci := by omega
  subst he
  obtain rfl : r = r' := Option.some.inj (hc.symm.trans hc')
  exact k
theorem zCell_r {D : va_G} {ad : Nat → Nat} {s : State} {h : zH} {a ci : Nat} {r : vw_C} {H : Heap} (hc : zCl[ci]? = some r) (hk : zK h a = 4 + 2 * ci) (k : ∃ (cA : ClassId) (kA : Class) (comp : ClassId), H[ad a]? = some (arrV cA (zL h a) (fun j => zcv ad (.inr (zR h a j)))) ∧ s.vm.classes[cA]? = some kA ∧ kA.kind = .array comp (.object r.1) ∧ s.vm.findClass r.1 = some comp) : zCell D ad s h a H := by
  refine ⟨fun e => by omega, fun e => by omega, fun e => by omega, fun cj r' e => by omega, fun cj r' e hc' => ?_⟩
  have he : cj = ci := by omega
  subst he
  obtain rfl : r = r' := Option.some.inj (hc.symm.trans hc')
  exact k
/-- the heap of the small machine is held by the machine's -/
def zRel (D : va_G) (b t base : Nat) (s : State) (h : zH) (H : Heap) : Prop :=
  b < base ∧ t < base ∧ 3 ≤ zN h ∧ H.size = base + (zN h - 3) ∧ (∀ a, zK h a ≠ 0 → 0 < a ∧ a < zN h) ∧ (∀ a, zK h a ≠ 0 → zK h a ≠ 101 → 3 ≤ a) ∧ (∀ a, zK h a ≠ 0 → zCell D (zAd b t base) s h a H) ∧ va_Z zSc zSn "[I" (.ref t) (fun q => base ≤ q) s H
theorem zRel.moved {D : va_G} {b t base : Nat} {s U : State} {h : zH} {H : Heap} (hvm : s.vm.Alike U.vm) (r : zRel D b t base s h H) : zRel D b t base U h H := by
  obtain ⟨r1, r2, r3, r4, r5, r6, r7, r8⟩ := r
  exact ⟨r1, r2, r3, r4, r5, r6, fun a ha => (r7 a ha).moved hvm, r8.moved hvm⟩
theorem zRel.upd {D : va_G} {b t base : Nat} {s : State} {h h' : zH} {H H' : Heap} (r : zRel D b t base s h H) {a : Nat} (ha : 3 ≤ a) (hk : ∀ x, zK h' x = zK h x) (hl : ∀ x, zL h' x = zL h x) (hn : zN h' = zN h) (hI : ∀ x, x ≠ a → zI h' x = zI h x) (hR : ∀ x, x ≠ a → zR h' x = zR h x)
    (hz : H'.size = H.size) (hq : ∀ q, q ≠ zAd b t base a → H'[q]? = H[q]?) (hc : zCell D (zAd b t base) s h' a H') : zRel D b t base s h' H' := by
  obtain ⟨r1, r2, r3, r4, r5, r6, r7, r8⟩ := r
  refine ⟨r1, r2, by rw [hn]; exact r3, by rw [hz, hn]; exact r4, fun x hx => ?_, fun x hx hx' => ?_, fun x hx => ?_, r8.kept (fun q _ hq' => hq q (fun e => hq' ?_))⟩
  · rw [hk] at hx; rw [hn]; exact r5 x hx
  · rw [hk] at hx hx'; exact r6 x hx hx'
  · by_cases e : x = a
    · rw [e]; exact hc
    · rw [hk] at hx
      exact (r7 x hx).congr (hk x) (hl x) (hI x e) (hR x e) (hq _ (zAd_ne r1 r2 ha (r5 x hx).1 e))
  · show base ≤ q
    rw [e, zAd_hi ha]; omega
theorem zwI_ne {h : zH} {a k : Nat} {v : Int32} {x : Nat} (e : x ≠ a) : zI (zwI h a k v) x = zI h x := by
  funext j; rw [zI_wI, if_neg (fun q => e q.1)]
theorem zwR_ne {h : zH} {a k v : Nat} {x : Nat} (e : x ≠ a) : zR (zwR h a k v) x = zR h x := by
  funext j; rw [zR_wR, if_neg (fun q => e q.1)]
theorem zRel.new {D : va_G} {b t base : Nat} {s : State} {h : zH} {H H' : Heap} {kd len : Nat} (r : zRel D b t base s h H) (h0 : kd ≠ 0) (hz : H'.size = H.size + 1) (hq : ∀ q, q < H.size → H'[q]? = H[q]?) (hc : zCell D (zAd b t base) s (zNew h kd len) (zN h) H') : zRel D b t base s (zNew h kd len) H' := by
  obtain ⟨r1, r2, r3, r4, r5, r6, r7, r8⟩ := r
  have hlt : ∀ x, zK h x ≠ 0 → zAd b t base x < H.size := by
    intro x hx
    have := r5 x hx
    unfold zAd
    split
    · omega
    · split <;> omega
  refine ⟨r1, r2, by rw [zN_new]; omega, by rw [zN_new, hz, r4]; omega, fun x hx => ?_, fun x hx hx' => ?_, fun x hx => ?_, r8.kept (fun q hq1 _ => hq q hq1)⟩
  · rw [zK_new] at hx; rw [zN_new]
    by_cases e : x = zN h
    · omega
    · rw [if_neg e] at hx
      have := r5 x hx
      omega
  · rw [zK_new] at hx hx'
    by_cases e : x = zN h
    · omega
    · rw [if_neg e] at hx hx'
      exact r6 x hx hx'
  · by_cases e : x = zN h
    · rw [e]; exact hc
    · rw [zK_new, if_neg e] at hx
      refine (r7 x hx).congr (by rw [zK_new, if_neg e]) (by rw [zL_new, if_neg e]) ?_ ?_ (hq _ (hlt x hx))
      · funext j; rw [zI_new, if_neg e]
      · funext j; rw [zR_new, if_neg e]
def zLv (ad : Nat → Nat) (ls : List (Option zV)) : List (Nat × Value) := (List.range ls.length).filterMap fun i => match ls[i]? with
  | some (some v) => some (i, zcv ad v)
  | _ => none
theorem zLv_mem {ad : Nat → Nat} {ls : List (Option zV)} {i : Nat} {v : zV} (h : ls[i]? = some (some v)) : (i, zcv ad v) ∈ zLv ad ls := by
  refine List.mem_filterMap.mpr ⟨i, List.mem_range.mpr (List.getElem?_eq_some_iff.mp h).1, ?_⟩
  simp [h]
theorem zLv_of {ad : Nat → Nat} {ls : List (Option zV)} {q : Nat × Value} (h : q ∈ zLv ad ls) : ∃ v, ls[q.1]? = some (some v) ∧ q.2 = zcv ad v := by
  obtain ⟨i, -, hi⟩ := List.mem_filterMap.mp h
  split at hi
  · rename_i v hv
    cases hi
    exact ⟨v, hv, rfl⟩
  · cases hi
theorem zLv_set {ad : Nat → Nat} {ls : List (Option zV)} {nL i : Nat} {v : zV} {lsR : Array Slot} (hi : i < ls.length) (h : lv_has lsR nL ((i, zcv ad v) :: (zLv ad ls).filter (fun q => !(q.1 == i) && !(q.1 + 1 == i && q.2.category == 2)))) : lv_has lsR nL (zLv ad (ls.set i (some v))) := by
  obtain ⟨h1, h2, h3⟩ := h
  refine ⟨h1, h2, fun q hq => ?_⟩
  obtain ⟨w, hw, e⟩ := zLv_of hq
  by_cases hqi : q.1 = i
  · rw [hqi, List.getElem?_set_self hi] at hw
    cases hw
    have := h3 (i, zcv ad v) List.mem_cons_self
    rw [hqi, e]
    exact this
  · rw [List.getElem?_set_ne (Ne.symm hqi)] at hw
    have hm : q ∈ (zLv ad ls).filter (fun q => !(q.1 == i) && !(q.1 + 1 == i && q.2.category == 2)) := by
      refine List.mem_filter.mpr ⟨?_, ?_⟩
      · have := zLv_mem (ad := ad) hw
        rw [← e] at this
        exact this
      · have hcat : q.2.category = 1 := by rw [e]; exact zcv_cat ad w
        simp [hqi, hcat]
    exact h3 q (List.mem_cons_of_mem _ hm)
theorem zLv_at {ad : Nat → Nat} {ls : List (Option zV)} {nL i : Nat} {v : zV} {lsR : Array Slot} (h : lv_has lsR nL (zLv ad ls)) (hi : ls[i]? = some (some v)) : lsR[i]? = some (.val (zcv ad v)) := h.2.2 _ (zLv_mem hi)
