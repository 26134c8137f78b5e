/-! ===== what every state keeps ===== -/
def nu (S : sS) (v : Nat) (x : Int32) : Prop := ∃ y : Nat, y ≤ (sL S v).toNatClampNeg ∧ x = nI y
/-- a number that has been given at a node; what is open there under it is about s -/
def nm (S : sS) (v : Nat) (x s : Int32) : Prop := nu S v x ∧ ∀ g ∈ sD S v, g 0 = x → g 3 = s
/-- what is known of a datagram in flight -/
def dG (w : Nat) (S : sS) (f : Nat → Int32) : Prop := (∃ vn : Nat, vn ≤ w ∧ f 0 = nI vn) ∧ (∃ rn : Nat, rn ≤ w ∧ f 1 = nI rn) ∧ (∃ sn : Nat, sn < 4 ∧ f 3 = nI sn) ∧
  ((f 2 = 11 ∧ f 1 = 0 ∧ nm S (f 0).toNatClampNeg (f 4) (f 3)) ∨ (f 2 = 13 ∧ f 0 = 0) ∨ (f 2 = 14 ∧ f 0 = 0 ∧ ¬ f 1 = 0 ∧ qIn S (f 4)) ∨
   (f 2 = 22 ∧ f 0 = 0 ∧ nm S (f 1).toNatClampNeg (f 5) (f 3) ∧ nm S 0 (f 4) (f 3)) ∨ (f 2 = 22 ∧ f 1 = 0 ∧ nm S 0 (f 5) (f 3)) ∨ f 2 = 31 ∨ f 2 = 40 ∨ (f 2 = 33 ∧ f 1 = 0) ∨ (f 2 = 34 ∧ f 1 = 0 ∧ qIn S (f 5)))
def gro (w : Nat) (S S' : sS) : Prop := (∀ n, qIn S n → qIn S' n) ∧ ∀ v, v ≤ w → ∀ x s, nm S v x s → nm S' v x s
theorem gro.rf {w : Nat} {S : sS} : gro w S S := ⟨fun _ h => h, fun _ _ _ _ h => h⟩
theorem gro.tr {w : Nat} {S S1 S2 : sS} (a : gro w S S1) (b : gro w S1 S2) : gro w S S2 := ⟨fun n h => b.1 n (a.1 n h), fun v hv x s h => b.2 v hv x s (a.2 v hv x s h)⟩
theorem clampI {x : Int32} {n w : Nat} (hw : w ≤ 4) (h : n ≤ w) (e : x = nI n) : x.toNatClampNeg = n := by rw [e, nI_clamp (by omega)]
theorem dG.gro {w : Nat} {S S' : sS} {f : Nat → Int32} (hw : w ≤ 4) (G : gro w S S') (d : dG w S f) : dG w S' f := by
  obtain ⟨⟨vn, hv, e0⟩, ⟨rn, hr, e1⟩, e3, d⟩ := d
  have c0 := clampI hw hv e0
  have c1 := clampI hw hr e1
  refine ⟨⟨vn, hv, e0⟩, ⟨rn, hr, e1⟩, e3, ?_⟩
  rw [c0, c1] at d ⊢
  rcases d with ⟨a, b, c⟩ | d | ⟨a, b, c, d⟩ | ⟨a, b, c, d⟩ | ⟨a, b, c⟩ | d | d | d | ⟨a, b, c⟩
  · exact Or.inl ⟨a, b, G.2 _ hv _ _ c⟩
  · exact Or.inr (Or.inl d)
  · exact Or.inr (Or.inr (Or.inl ⟨a, b, c, G.1 _ d⟩))
  · exact Or.inr (Or.inr (Or.inr (Or.inl ⟨a, b, G.2 _ hr _ _ c, G.2 _ (Nat.zero_le _) _ _ d⟩)))
  · exact Or.inr (Or.inr (Or.inr (Or.inr (Or.inl ⟨a, b, G.2 _ (Nat.zero_le _) _ _ c⟩))))
  · exact Or.inr (Or.inr (Or.inr (Or.inr (Or.inr (Or.inl d)))))
  · exact Or.inr (Or.inr (Or.inr (Or.inr (Or.inr (Or.inr (Or.inl d))))))
  · exact Or.inr (Or.inr (Or.inr (Or.inr (Or.inr (Or.inr (Or.inr (Or.inl d)))))))
  · exact Or.inr (Or.inr (Or.inr (Or.inr (Or.inr (Or.inr (Or.inr (Or.inr ⟨a, b, G.1 _ c⟩)))))))
/-- a row of a node's dialogues -/
def rO (w : Nat) (S : sS) (v : Nat) (g : Nat → Int32) : Prop := (∃ sn : Nat, sn < 4 ∧ g 3 = nI sn) ∧ nu S v (g 0) ∧ (¬ v = 0 → g 1 = 1) ∧ (v = 0 → ¬ g 1 = 1 ∧ ∃ a : Nat, a ≤ w ∧ g 2 = nI a)
def pO (w : Nat) (p : Int32) : Prop := ∃ a c : Nat, a ≤ w ∧ c < 4 ∧ p = nI (4 * a + c)
def IV (w q b : Nat) (S : sS) : Prop := okT (sT S) ∧ okQ (sQ S) ∧ (sQ S).length ≤ q ∧ (sC S).length ≤ 6 ∧ (∀ p ∈ sC S, pO w p) ∧ (∀ k, sO S k = -1 ∨ 0 ≤ sO S k) ∧ (∀ k, k < 2 → sO S k = -1) ∧ (∀ s, s < 4 → ∃ lo : Nat, lo ≤ w ∧ sLo S s = nI lo) ∧ okL w S ∧
  (∀ v, v ≤ w → ∃ l : Nat, l ≤ b ∧ sL S v = nI l) ∧ (∀ v, v ≤ w → ∀ g ∈ sD S v, rO w S v g) ∧ (∀ x ∈ sQ S, nu S 0 x.1) ∧ (∀ g ∈ sD S 0, g 1 = 4 → qIn S (g 0)) ∧ ∀ f ∈ sF S, dG w S f
theorem IV.mono {w q b q' b' : Nat} {S : sS} (I : IV w q b S) (hq : q ≤ q') (hb : b ≤ b') : IV w q' b' S := by
  obtain ⟨i1, i2, i3, i4, i5, i6, i7, i8, i9, i10, i11⟩ := I
  exact ⟨i1, i2, by omega, i4, i5, i6, i7, i8, i9, fun v hv => by obtain ⟨l, h1, h2⟩ := i10 v hv; exact ⟨l, by omega, h2⟩, i11⟩
theorem IV.sub {w q b : Nat} {S S' : sS} (hw : w ≤ 4) (I : IV w q b S) (e1 : sT S' = sT S) (e2 : sQ S' = sQ S) (e3 : sC S' = sC S) (e4 : sO S' = sO S) (e5 : sLo S' = sLo S) (e6 : sL S' = sL S) (e7 : sF S' = sF S)
    (hl : ∀ u, u ≤ w → (sD S' u).length ≤ (sD S u).length) (hD : ∀ u, u ≤ w → ∀ g ∈ sD S' u, ∃ g' ∈ sD S u, g 0 = g' 0 ∧ g 1 = g' 1 ∧ g 2 = g' 2 ∧ g 3 = g' 3) : IV w q b S' ∧ gro w S S' := by
  have G : gro w S S' := ⟨fun n h => by unfold qIn; rw [e2]; exact h, fun v hv x s h => ⟨by unfold nu; rw [e6]; exact h.1, fun g hg e => by
    obtain ⟨g', hg', a0, a1, a2, a3⟩ := hD v hv g hg
    rw [a3]; exact h.2 g' hg' (a0.symm.trans e)⟩⟩
  obtain ⟨i1, i2, i3, i4, i5, i6, i7, i8, i9, i10, i11, i12, i13, i14⟩ := I
  refine ⟨⟨by rw [e1]; exact i1, by rw [e2]; exact i2, by rw [e2]; exact i3, by rw [e3]; exact i4, by rw [e3]; exact i5, by rw [e4]; exact i6, by rw [e4]; exact i7, by rw [e5]; exact i8, fun u hu => Nat.le_trans (hl u hu) (i9 u hu), by rw [e6]; exact i10, fun v hv g hg => ?_, fun x hx => ?_, fun g hg e => ?_, fun f hf => dG.gro hw G (i14 f (by rw [← e7]; exact hf))⟩, G⟩
  · obtain ⟨g', hg', a0, a1, a2, a3⟩ := hD v hv g hg
    have := i11 v hv g' hg'
    unfold rO nu at this ⊢
    rw [a0, a1, a2, a3, e6]; exact this
  · have := i12 x (by rw [← e2]; exact hx)
    unfold nu at this ⊢
    rw [e6]; exact this
  · obtain ⟨g', hg', a0, a1, a2, a3⟩ := hD 0 (Nat.zero_le _) g hg
    unfold qIn; rw [e2, a0]; exact i13 g' hg' (a1.symm.trans e)
theorem IV.same {w q b : Nat} {S S' : sS} (hw : w ≤ 4) (I : IV w q b S) (e1 : sT S' = sT S) (e2 : sQ S' = sQ S) (e3 : sC S' = sC S) (e4 : sO S' = sO S) (e5 : sLo S' = sLo S) (e6 : sL S' = sL S) (e7 : sF S' = sF S) (e8 : sD S' = sD S) : IV w q b S' ∧ gro w S S' :=
  I.sub hw e1 e2 e3 e4 e5 e6 e7 (fun u _ => by rw [e8]; exact Nat.le_refl _) (fun u _ g hg => ⟨g, by rw [← e8]; exact hg, rfl, rfl, rfl, rfl⟩)
theorem IV.en {w q b v k : Nat} {S : sS} (hw : w ≤ 4) (I : IV w q b S) : IV w q b (oEnd S v k) ∧ gro w S (oEnd S v k) := by
  refine I.sub hw rfl rfl rfl rfl rfl rfl rfl (fun u _ => ?_) (fun u _ g hg => ⟨g, ?_, rfl, rfl, rfl, rfl⟩)
  · show (updD (sD S) v ((sD S v).eraseIdx k) u).length ≤ _
    by_cases e : u = v
    · subst e; rw [updD_at]; exact List.length_eraseIdx_le ..
    · rw [updD_ne e]; exact Nat.le_refl _
  · have hg : g ∈ updD (sD S) v ((sD S v).eraseIdx k) u := hg
    by_cases e : u = v
    · subst e; rw [updD_at] at hg; exact List.mem_of_mem_eraseIdx hg
    · rw [updD_ne e] at hg; exact hg
theorem IV.enR {w q b v k sn : Nat} {S : sS} {x : Int32} (hw : w ≤ 4) (I : IV w q b S) : IV w q b (oEndR S v k sn x) ∧ gro w S (oEndR S v k sn x) := by
  obtain ⟨I1, G1⟩ := I.same (S' := oStand S (4 * v + sn) x) hw rfl rfl rfl rfl rfl rfl rfl rfl
  obtain ⟨I2, G2⟩ := I1.en (v := v) (k := k) hw
  exact ⟨I2, G1.tr G2⟩
theorem IV.dead {w q b v k : Nat} {S : sS} {g : Nat → Int32} {x : Int32} (hw : w ≤ 4) (I : IV w q b S) (hk : (sD S v)[k]? = some g) : IV w q b (oDead S v k g x) ∧ gro w S (oDead S v k g x) := by
  refine I.sub hw rfl rfl rfl rfl rfl rfl rfl (fun u _ => ?_) (fun u _ y hy => ?_)
  · show (updD (sD S) v ((sD S v).set k (upd g 4 x)) u).length ≤ _
    by_cases e : u = v
    · subst e; rw [updD_at, List.length_set]; exact Nat.le_refl _
    · rw [updD_ne e]; exact Nat.le_refl _
  · have hy : y ∈ updD (sD S) v ((sD S v).set k (upd g 4 x)) u := hy
    by_cases e : u = v
    · subst e; rw [updD_at] at hy
      rcases List.mem_or_eq_of_mem_set hy with h | h
      · exact ⟨y, h, rfl, rfl, rfl, rfl⟩
      · subst h; exact ⟨g, List.mem_of_getElem? hk, rfl, rfl, rfl, rfl⟩
    · rw [updD_ne e] at hy; exact ⟨y, hy, rfl, rfl, rfl, rfl⟩
theorem IV.C {w q b : Nat} {S : sS} {C : List Int32} (I : IV w q b S) (h1 : C.length ≤ 6) (h2 : ∀ p ∈ C, pO w p) : IV w q b (stC S C) ∧ gro w S (stC S C) := by
  obtain ⟨i1, i2, i3, i4, i5, i6⟩ := I
  exact ⟨⟨i1, i2, i3, h1, h2, i6⟩, ⟨fun _ h => h, fun _ _ _ _ h => h⟩⟩
theorem IV.F {w q b : Nat} {S : sS} {F : List (Nat → Int32)} (I : IV w q b S) (h : ∀ f ∈ F, dG w S f) : IV w q b (stF S F) ∧ gro w S (stF S F) := by
  obtain ⟨i1, i2, i3, i4, i5, i6, i7, i8, i9, i10, i11, i12, i13, i14⟩ := I
  exact ⟨⟨i1, i2, i3, i4, i5, i6, i7, i8, i9, i10, i11, i12, i13, h⟩, ⟨fun _ h => h, fun _ _ _ _ h => h⟩⟩
theorem IV.send {w q b : Nat} {S : sS} {f : Nat → Int32} (I : IV w q b S) (d : dG w S f) : IV w q b (oSend S f) := by
  have h := I.2.2.2.2.2.2.2.2.2.2.2.2.2
  refine (I.F (F := sSnd (sF S) f) (fun x hx => ?_)).1
  unfold sSnd at hx
  split at hx
  · exact h x hx
  · rcases List.mem_append.mp hx with hx | hx
    · exact h x hx
    · rw [List.mem_singleton] at hx; subst hx; exact d
theorem IV.O {w q b : Nat} {S : sS} {O U : Nat → Int32} (I : IV w q b S) (h1 : ∀ k, O k = -1 ∨ 0 ≤ O k) (h2 : ∀ k, k < 2 → O k = -1) : IV w q b (stU (stO S O) U) ∧ gro w S (stU (stO S O) U) := by
  obtain ⟨i1, i2, i3, i4, i5, i6, i7, i8⟩ := I
  exact ⟨⟨i1, i2, i3, i4, i5, h1, h2, i8⟩, ⟨fun _ h => h, fun _ _ _ _ h => h⟩⟩
theorem IV.Lo {w q b : Nat} {S : sS} {x : Nat → Int32} (I : IV w q b S) (h : ∀ s, s < 4 → ∃ lo : Nat, lo ≤ w ∧ x s = nI lo) : IV w q b (stLo S x) ∧ gro w S (stLo S x) := by
  obtain ⟨i1, i2, i3, i4, i5, i6, i7, i8, i9⟩ := I
  exact ⟨⟨i1, i2, i3, i4, i5, i6, i7, h, i9⟩, ⟨fun _ h => h, fun _ _ _ _ h => h⟩⟩
theorem IV.T {w q b : Nat} {S : sS} {x : List (Nat → Int32)} (I : IV w q b S) (h : okT x) : IV w q b (stT S x) := by
  obtain ⟨i1, i2⟩ := I
  exact ⟨h, i2⟩
theorem IV.Qs {w q b : Nat} {S : sS} {n x : Int32} (hw : w ≤ 4) (I : IV w q b S) : IV w q b (stQ S (sSet (sQ S) n x)) ∧ gro w S (stQ S (sSet (sQ S) n x)) := by
  have E : ∀ m, qIn (stQ S (sSet (sQ S) n x)) m = qIn S m := fun m => by
    show (m ∈ (sSet (sQ S) n x).map Prod.fst) = _
    rw [sSet_fst]; rfl
  have G : gro w S (stQ S (sSet (sQ S) n x)) := ⟨fun m h => by rw [E]; exact h, fun _ _ _ _ h => h⟩
  obtain ⟨i1, i2, i3, i4, i5, i6, i7, i8, i9, i10, i11, i12, i13, i14⟩ := I
  refine ⟨⟨i1, okQ_set i2, ?_, i4, i5, i6, i7, i8, i9, i10, i11, fun y hy => ?_, fun g hg e => by rw [E]; exact i13 g hg e, fun f hf => dG.gro hw G (i14 f hf)⟩, G⟩
  · show (sSet (sQ S) n x).length ≤ q
    unfold sSet; rw [List.length_map]; exact i3
  · have hy : y ∈ sSet (sQ S) n x := hy
    unfold sSet at hy
    obtain ⟨z, hz, rfl⟩ := List.mem_map.mp hy
    have := i12 z hz
    split
    · exact this
    · exact this
theorem nI_ne {a b : Nat} (h : a < b) (hb : b < 2 ^ 31) : nI a ≠ nI b := fun e => by
  have := (nI_eq (by omega) hb).mp e; omega
theorem IV.begQ {w q b q' v : Nat} {S : sS} {kd ot su dl an : Int32} {Q' : List (Int32 × Int32)} (hw : w ≤ 4) (hv : v ≤ w) (I : IV w q b S) (hb : b < 2 ^ 30) (hlen : (sD S v).length < nC v) (hs : ∃ sn : Nat, sn < 4 ∧ su = nI sn) (hk1 : ¬ v = 0 → kd = 1) (hk2 : v = 0 → ¬ kd = 1 ∧ ∃ a : Nat, a ≤ w ∧ ot = nI a)
    (h1 : okQ Q') (h2 : Q'.length ≤ q') (h3 : ∀ n, n ∈ (sQ S).map Prod.fst → n ∈ Q'.map Prod.fst) (h4 : ∀ x ∈ Q', nu (oBegin S v kd ot su dl an) 0 x.1) (h5 : v = 0 → kd = 4 → (sL S 0 + 1) ∈ Q'.map Prod.fst) :
    IV w q' (b + 1) (stQ (oBegin S v kd ot su dl an) Q') ∧ gro w S (stQ (oBegin S v kd ot su dl an) Q') ∧ nm (stQ (oBegin S v kd ot su dl an) Q') v (sL S v + 1) su := by
  obtain ⟨i1, i2, i3, i4, i5, i6, i7, i8, i9, i10, i11, i12, i13, i14⟩ := I
  obtain ⟨l, hl, el⟩ := i10 v hv
  have el1 : sL S v + 1 = nI (l + 1) := by rw [el, nI_1]
  have c0 : (sL S v).toNatClampNeg = l := by rw [el, nI_clamp (by omega)]
  have c1 : (nI (l + 1)).toNatClampNeg = l + 1 := nI_clamp (by omega)
  have eD : ∀ u, sD (stQ (oBegin S v kd ot su dl an) Q') u = if u = v then sD S v ++ [sRow [sL S v + 1, kd, ot, su, dl, an]] else sD S u := fun u => by
    show updD (sD S) v _ u = _
    unfold updD; rfl
  have eL : ∀ u, sL (stQ (oBegin S v kd ot su dl an) Q') u = if u = v then nI (l + 1) else sL S u := fun u => by
    show upd (sL S) v (sL S v + 1) u = _
    rw [el1]; unfold upd; rfl
  have hnu : ∀ u x, nu S u x → nu (stQ (oBegin S v kd ot su dl an) Q') u x := fun u x ⟨y, hy, e⟩ => by
    refine ⟨y, ?_, e⟩
    rw [eL]
    by_cases e : u = v
    · subst e; rw [if_pos rfl, c1]; omega
    · rw [if_neg e]; exact hy
  have r0 : sRow [sL S v + 1, kd, ot, su, dl, an] 0 = nI (l + 1) := el1
  have G : gro w S (stQ (oBegin S v kd ot su dl an) Q') := by
    refine ⟨fun n h => h3 n h, fun u hu x s h => ⟨hnu u x h.1, fun g hg e => ?_⟩⟩
    rw [eD] at hg
    by_cases eu : u = v
    · subst eu
      rw [if_pos rfl] at hg
      rcases List.mem_append.mp hg with hg | hg
      · exact h.2 g hg e
      · rw [List.mem_singleton] at hg; subst hg
        obtain ⟨y, hy, ey⟩ := h.1
        rw [r0, ey] at e
        exact absurd e.symm (nI_ne (by omega) (by omega))
    · rw [if_neg eu] at hg; exact h.2 g hg e
  have N : nm (stQ (oBegin S v kd ot su dl an) Q') v (sL S v + 1) su := by
    refine ⟨⟨l + 1, by rw [eL, if_pos rfl, c1]; exact Nat.le_refl _, el1⟩, fun g hg e => ?_⟩
    rw [eD, if_pos rfl] at hg
    rcases List.mem_append.mp hg with hg | hg
    · obtain ⟨y, hy, ey⟩ := (i11 v hv g hg).2.1
      rw [el1, ey] at e
      exact absurd e (nI_ne (by omega) (by omega))
    · rw [List.mem_singleton] at hg; subst hg; rfl
  refine ⟨⟨i1, h1, h2, i4, i5, i6, i7, i8, fun u hu => ?_, fun u hu => ?_, fun u hu g hg => ?_, h4, fun g hg e => ?_, fun f hf => dG.gro hw G (i14 f hf)⟩, G, N⟩
  · rw [eD]
    by_cases e : u = v
    · subst e; rw [if_pos rfl, List.length_append]; exact hlen
    · rw [if_neg e]; exact i9 u hu
  · rw [eL]
    by_cases e : u = v
    · rw [if_pos e]; exact ⟨l + 1, by omega, rfl⟩
    · rw [if_neg e]; obtain ⟨l', a, b⟩ := i10 u hu; exact ⟨l', by omega, b⟩
  · rw [eD] at hg
    have old : g ∈ sD S u → rO w (stQ (oBegin S v kd ot su dl an) Q') u g := fun h => ⟨(i11 u hu g h).1, hnu u _ (i11 u hu g h).2.1, (i11 u hu g h).2.2⟩
    by_cases e : u = v
    · subst e
      rw [if_pos rfl] at hg
      rcases List.mem_append.mp hg with hg | hg
      · exact old hg
      · rw [List.mem_singleton] at hg; subst hg
        exact ⟨hs, N.1, hk1, hk2⟩
    · rw [if_neg e] at hg; exact old hg
  · rw [eD] at hg
    by_cases e0 : 0 = v
    · subst e0
      rw [if_pos rfl] at hg
      rcases List.mem_append.mp hg with hg | hg
      · exact h3 _ (i13 g hg e)
      · rw [List.mem_singleton] at hg; subst hg
        exact h5 rfl e
    · rw [if_neg e0] at hg; exact h3 _ (i13 g hg e)
theorem nu_beg {w q b v : Nat} {S : sS} {kd ot su dl an : Int32} (I : IV w q b S) (hb : b < 2 ^ 30) (hv : v ≤ w) {x : Int32} {u : Nat} (h : nu S u x) : nu (oBegin S v kd ot su dl an) u x := by
  obtain ⟨y, hy, e⟩ := h
  obtain ⟨l, hl, el⟩ := I.2.2.2.2.2.2.2.2.2.1 v hv
  refine ⟨y, ?_, e⟩
  show y ≤ (upd (sL S) v (sL S v + 1) u).toNatClampNeg
  unfold upd
  by_cases e : u = v
  · subst e; rw [if_pos rfl, el, nI_1, nI_clamp (by omega)]; rw [el, nI_clamp (by omega)] at hy; omega
  · rw [if_neg e]; exact hy
theorem IV.beg {w q b v : Nat} {S : sS} {kd ot su dl an : Int32} (hw : w ≤ 4) (hv : v ≤ w) (I : IV w q b S) (hb : b < 2 ^ 30) (hlen : (sD S v).length < nC v) (hs : ∃ sn : Nat, sn < 4 ∧ su = nI sn) (hk1 : ¬ v = 0 → kd = 1) (hk2 : v = 0 → ¬ kd = 1 ∧ ∃ a : Nat, a ≤ w ∧ ot = nI a) (hk4 : ¬ kd = 4) :
    IV w q (b + 1) (oBegin S v kd ot su dl an) ∧ gro w S (oBegin S v kd ot su dl an) ∧ nm (oBegin S v kd ot su dl an) v (sL S v + 1) su := by
  have h := IV.begQ (q' := q) (dl := dl) (an := an) (Q' := sQ S) hw hv I hb hlen hs hk1 hk2 I.2.1 I.2.2.1 (fun _ h => h) (fun x hx => nu_beg I hb hv (I.2.2.2.2.2.2.2.2.2.2.2.1 x hx)) (fun _ e => absurd e hk4)
  have e : stQ (oBegin S v kd ot su dl an) (sQ S) = oBegin S v kd ot su dl an := rfl
  rw [e] at h; exact h
