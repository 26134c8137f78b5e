/-! ===== constructors: the cells that they make ===== -/
abbrev zC : Type := Nat × Nat × (Nat → Int32) × (Nat → Nat)
def z0 : Nat → Int32 := fun _ => 0
def r0 : Nat → Nat := fun _ => 0
def updN (f : Nat → Nat) (k x : Nat) : Nat → Nat := fun j => if j = k then x else f j
def cellsAt (h : zH) (b : Nat) (L : List zC) : Prop := ∀ (i : Nat) (c : zC), L[i]? = some c → zK h (b + i) = c.1 ∧ zL h (b + i) = c.2.1 ∧ (∀ j, zI h (b + i) j = c.2.2.1 j) ∧ ∀ j, zR h (b + i) j = c.2.2.2 j
def zBel (b : Nat) (h h' : zH) : Prop := ∀ q, q < b → zK h' q = zK h q ∧ zL h' q = zL h q ∧ (∀ j, zI h' q j = zI h q j) ∧ ∀ j, zR h' q j = zR h q j
theorem zBel.rf {b : Nat} {h : zH} : zBel b h h := fun _ _ => ⟨rfl, rfl, fun _ => rfl, fun _ => rfl⟩
theorem zBel.tr {b c : Nat} {h h1 h2 : zH} (a1 : zBel b h h1) (a2 : zBel c h1 h2) (hb : b ≤ c) : zBel b h h2 := fun q hq => by
  obtain ⟨x1, x2, x3, x4⟩ := a1 q hq
  obtain ⟨y1, y2, y3, y4⟩ := a2 q (by omega)
  exact ⟨y1.trans x1, y2.trans x2, fun j => (y3 j).trans (x3 j), fun j => (y4 j).trans (x4 j)⟩
def Hp (h0 h : zH) (b : Nat) (L : List zC) : Prop := zN h = b + L.length ∧ cellsAt h b L ∧ zBel b h0 h
theorem Hp.new {h0 h : zH} {b kd len : Nat} {L : List zC} (H : Hp h0 h b L) : Hp h0 (zNew h kd len) b (L ++ [(kd, len, z0, r0)]) := by
  obtain ⟨H1, H2, H3⟩ := H
  refine ⟨by rw [zN_new, H1, List.length_append, List.length_singleton]; omega, fun i c hc => ?_, fun q hq => ?_⟩
  · by_cases hi : i < L.length
    · rw [List.getElem?_append_left hi] at hc
      have := H2 i c hc
      simp only [zK_new, zL_new, zI_new, zR_new, H1, if_neg (show ¬ b + i = b + L.length by omega)]
      exact this
    · rw [List.getElem?_append_right (by omega)] at hc
      have h2 := (List.getElem?_eq_some_iff.mp hc).1
      rw [List.length_singleton] at h2
      have e : i = L.length := by omega
      subst e
      rw [Nat.sub_self] at hc
      cases hc
      simp only [zK_new, zL_new, zI_new, zR_new, H1, if_pos]
      exact ⟨trivial, trivial, fun _ => rfl, fun _ => rfl⟩
  · have := H3 q hq
    simp only [zK_new, zL_new, zI_new, zR_new, H1, if_neg (show ¬ q = b + L.length by omega)]
    exact this
theorem set_at {α : Type} {L : List α} {i j : Nat} {x c : α} (h : (L.set i x)[j]? = some c) : (j = i ∧ c = x) ∨ (j ≠ i ∧ L[j]? = some c) := by
  by_cases e : j = i
  · subst e
    have hl := (List.getElem?_eq_some_iff.mp h).1
    rw [List.length_set] at hl
    rw [List.getElem?_set_self hl] at h
    cases h
    exact Or.inl ⟨rfl, rfl⟩
  · rw [List.getElem?_set_ne (fun z => e z.symm)] at h
    exact Or.inr ⟨e, h⟩
theorem Hp.wR {h0 h : zH} {b i k v : Nat} {L : List zC} {c : zC} (H : Hp h0 h b L) (hi : L[i]? = some c) : Hp h0 (zwR h (b + i) k v) b (L.set i (c.1, c.2.1, c.2.2.1, updN c.2.2.2 k v)) := by
  obtain ⟨H1, H2, H3⟩ := H
  refine ⟨by rw [zN_wR, H1, List.length_set], fun j x hx => ?_, fun q hq => ?_⟩
  · rcases set_at hx with ⟨rfl, rfl⟩ | ⟨e, hx⟩
    · obtain ⟨a1, a2, a3, a4⟩ := H2 j c hi
      refine ⟨a1, a2, a3, fun t => ?_⟩
      rw [zR_wR]
      show _ = updN c.2.2.2 k v t
      unfold updN
      by_cases et : t = k
      · rw [if_pos ⟨rfl, et⟩, if_pos et]
      · rw [if_neg (fun z => et z.2), if_neg et]; exact a4 t
    · obtain ⟨a1, a2, a3, a4⟩ := H2 j x hx
      refine ⟨a1, a2, a3, fun t => ?_⟩
      rw [zR_wR, if_neg (fun z => e (by omega))]; exact a4 t
  · obtain ⟨a1, a2, a3, a4⟩ := H3 q hq
    exact ⟨a1, a2, a3, fun t => by rw [zR_wR, if_neg (fun z => by omega)]; exact a4 t⟩
theorem Hp.wI {h0 h : zH} {b i k : Nat} {v : Int32} {L : List zC} {c : zC} (H : Hp h0 h b L) (hi : L[i]? = some c) : Hp h0 (zwI h (b + i) k v) b (L.set i (c.1, c.2.1, upd c.2.2.1 k v, c.2.2.2)) := by
  obtain ⟨H1, H2, H3⟩ := H
  refine ⟨by rw [zN_wI, H1, List.length_set], fun j x hx => ?_, fun q hq => ?_⟩
  · rcases set_at hx with ⟨rfl, rfl⟩ | ⟨e, hx⟩
    · obtain ⟨a1, a2, a3, a4⟩ := H2 j c hi
      refine ⟨a1, a2, fun t => ?_, a4⟩
      rw [zI_wI]
      show _ = upd c.2.2.1 k v t
      unfold upd
      by_cases et : t = k
      · rw [if_pos ⟨rfl, et⟩, if_pos et]
      · rw [if_neg (fun z => et z.2), if_neg et]; exact a3 t
    · obtain ⟨a1, a2, a3, a4⟩ := H2 j x hx
      refine ⟨a1, a2, fun t => ?_, a4⟩
      rw [zI_wI, if_neg (fun z => e (by omega))]; exact a3 t
  · obtain ⟨a1, a2, a3, a4⟩ := H3 q hq
    exact ⟨a1, a2, fun t => by rw [zI_wI, if_neg (fun z => by omega)]; exact a3 t, a4⟩
theorem Hp.sub {h0 h : zH} {b a : Nat} {L M : List zC} (H : Hp h0 h b (L ++ M)) (ha : a = b + L.length) : Hp h h a M := by
  subst ha
  obtain ⟨H1, H2, H3⟩ := H
  refine ⟨by rw [H1, List.length_append]; omega, fun i c hc => ?_, zBel.rf⟩
  have := H2 (L.length + i) c (by rw [List.getElem?_append_right (by omega), Nat.add_sub_cancel_left]; exact hc)
  rw [Nat.add_assoc]; exact this
theorem Hp.app {h0 h h' : zH} {b a : Nat} {L M M' : List zC} (H : Hp h0 h b (L ++ M)) (ha : a = b + L.length) (K : Hp h h' a M') : Hp h0 h' b (L ++ M') := by
  subst ha
  obtain ⟨H1, H2, H3⟩ := H
  obtain ⟨K1, K2, K3⟩ := K
  refine ⟨by rw [K1, List.length_append]; omega, fun i c hc => ?_, H3.tr K3 (by omega)⟩
  by_cases hi : i < L.length
  · rw [List.getElem?_append_left hi] at hc
    obtain ⟨a1, a2, a3, a4⟩ := H2 i c (by rw [List.getElem?_append_left hi]; exact hc)
    obtain ⟨b1, b2, b3, b4⟩ := K3 (b + i) (by omega)
    exact ⟨b1.trans a1, b2.trans a2, fun j => (b3 j).trans (a3 j), fun j => (b4 j).trans (a4 j)⟩
  · rw [List.getElem?_append_right (by omega)] at hc
    have := K2 (i - L.length) c hc
    rw [show b + L.length + (i - L.length) = b + i by omega] at this
    exact this
theorem Hp.k {h0 h : zH} {b i q : Nat} {L : List zC} {c : zC} (H : Hp h0 h b L) (hi : L[i]? = some c) (e : q = b + i) : zK h q = c.1 := by rw [e]; exact (H.2.1 i c hi).1
theorem Hp.l {h0 h : zH} {b i q : Nat} {L : List zC} {c : zC} (H : Hp h0 h b L) (hi : L[i]? = some c) (e : q = b + i) : zL h q = c.2.1 := by rw [e]; exact (H.2.1 i c hi).2.1
theorem Hp.i {h0 h : zH} {b i q j : Nat} {L : List zC} {c : zC} (H : Hp h0 h b L) (hi : L[i]? = some c) (e : q = b + i) : zI h q j = c.2.2.1 j := by rw [e]; exact (H.2.1 i c hi).2.2.1 j
theorem Hp.r {h0 h : zH} {b i q j : Nat} {L : List zC} {c : zC} (H : Hp h0 h b L) (hi : L[i]? = some c) (e : q = b + i) : zR h q j = c.2.2.2 j := by rw [e]; exact (H.2.1 i c hi).2.2.2 j
def cTi (a : Nat) : List zC := [(5, 0, z0, updN (updN (updN r0 0 (a + 1)) 1 (a + 2)) 2 (a + 3)), (1, 6, z0, r0), (1, 6, z0, r0), (2, 6, z0, r0)]
theorem c37 {d a : Nat} {h : zH} (H : Hp h h a [(5, 0, z0, r0)]) : zD (d + 1) 37 [.inr a] h (fun r h' => r = none ∧ Hp h h' a (cTi a)) := by
  refine zD_of rfl (r37_0 ⟨H.k (i := 0) rfl rfl, by decide, by decide, by decide, by decide, ?_⟩)
  intro h1 e1
  have H1 : Hp h h1 a [(5, 0, z0, r0), (1, 6, z0, r0)] := by rw [e1]; exact H.new
  refine ⟨H1.k (i := 0) rfl rfl, ?_⟩
  intro h2 e2
  have H2 : Hp h h2 a [(5, 0, z0, updN r0 0 (a + 1)), (1, 6, z0, r0)] := by rw [e2, H.1]; exact H1.wR (i := 0) rfl
  refine ⟨by decide, by decide, by decide, by decide, ?_⟩
  intro h3 e3
  have H3 : Hp h h3 a [(5, 0, z0, updN r0 0 (a + 1)), (1, 6, z0, r0), (1, 6, z0, r0)] := by rw [e3]; exact H2.new
  refine ⟨H3.k (i := 0) rfl rfl, ?_⟩
  intro h4 e4
  have H4 : Hp h h4 a [(5, 0, z0, updN (updN r0 0 (a + 1)) 1 (a + 2)), (1, 6, z0, r0), (1, 6, z0, r0)] := by rw [e4, H2.1]; exact H3.wR (i := 0) rfl
  refine ⟨by decide, by decide, by decide, by decide, ?_⟩
  intro h5 e5
  have H5 : Hp h h5 a [(5, 0, z0, updN (updN r0 0 (a + 1)) 1 (a + 2)), (1, 6, z0, r0), (1, 6, z0, r0), (2, 6, z0, r0)] := by rw [e5]; exact H4.new
  refine ⟨H5.k (i := 0) rfl rfl, ?_⟩
  intro h6 e6
  exact ⟨rfl, by rw [e6, H4.1]; exact H5.wR (i := 0) rfl⟩
def cPl (a : Nat) : List zC := [(7, 0, z0, updN r0 0 (a + 1)), (1, 6, z0, r0)]
theorem c41 {d a : Nat} {h : zH} (H : Hp h h a [(7, 0, z0, r0)]) : zD (d + 1) 41 [.inr a] h (fun r h' => r = none ∧ Hp h h' a (cPl a)) := by
  refine zD_of rfl (r41_0 ⟨H.k (i := 0) rfl rfl, by decide, by decide, by decide, by decide, ?_⟩)
  intro h1 e1
  have H1 : Hp h h1 a [(7, 0, z0, r0), (1, 6, z0, r0)] := by rw [e1]; exact H.new
  refine ⟨H1.k (i := 0) rfl rfl, ?_⟩
  intro h2 e2
  exact ⟨rfl, by rw [e2, H.1]; exact H1.wR (i := 0) rfl⟩
def cQu (a : Nat) : List zC := [(9, 0, z0, updN (updN r0 0 (a + 1)) 1 (a + 2)), (1, 20, z0, r0), (1, 20, z0, r0)]
theorem cK48 {d a : Nat} {h : zH} (H : Hp h h a [(9, 0, z0, r0)]) : zD (d + 1) 48 [.inr a] h (fun r h' => r = none ∧ Hp h h' a (cQu a)) := by
  refine zD_of rfl (r48_0 ⟨H.k (i := 0) rfl rfl, by decide, by decide, by decide, by decide, ?_⟩)
  intro h1 e1
  have H1 : Hp h h1 a [(9, 0, z0, r0), (1, 20, z0, r0)] := by rw [e1]; exact H.new
  refine ⟨H1.k (i := 0) rfl rfl, ?_⟩
  intro h2 e2
  have H2 : Hp h h2 a [(9, 0, z0, updN r0 0 (a + 1)), (1, 20, z0, r0)] := by rw [e2, H.1]; exact H1.wR (i := 0) rfl
  refine ⟨by decide, by decide, by decide, by decide, ?_⟩
  intro h3 e3
  have H3 : Hp h h3 a [(9, 0, z0, updN r0 0 (a + 1)), (1, 20, z0, r0), (1, 20, z0, r0)] := by rw [e3]; exact H2.new
  refine ⟨H3.k (i := 0) rfl rfl, ?_⟩
  intro h4 e4
  exact ⟨rfl, by rw [e4, H2.1]; exact H3.wR (i := 0) rfl⟩
def zfM (k : Nat) : Nat → Int32 := fun j => if j < k then -1 else 0
theorem fM_s {k : Nat} : upd (zfM k) k (-1) = zfM (k + 1) := by
  funext j; unfold upd zfM
  by_cases e : j = k
  · rw [if_pos e, if_pos (by omega)]
  · rw [if_neg e]
    by_cases e2 : j < k
    · rw [if_pos e2, if_pos (by omega)]
    · rw [if_neg e2, if_neg (by omega)]
theorem fM_0 : zfM 0 = z0 := by funext j; unfold zfM z0; rw [if_neg (by omega)]
def cNu (a n k : Nat) : List zC := [(11, 0, z0, updN (updN r0 0 (a + 1)) 1 (a + 2)), (1, n, zfM k, r0), (1, n, z0, r0)]
theorem c53 {d a w : Nat} {h : zH} (hw : w ≤ 4) (H : Hp h h a [(11, 0, z0, r0)]) : zD (d + 1) 53 [.inr a, .inl (nI w)] h (fun r h' => r = none ∧ Hp h h' a (cNu a (2 * (w + 1)) (2 * (w + 1)))) := by
  have e2 : (2 : Int32) * (nI w + 1) = nI (2 * (w + 1)) := by rw [nI_1, show (2 : Int32) = nI 2 from rfl, pk_mul]
  have cl := nI_clamp (show 2 * (w + 1) < 2 ^ 31 by omega)
  have m1 : zm53.2.2.1 = 2 := rfl
  have m2 : zm53.2.2.2 = 20 := rfl
  refine zD_of rfl (r53_0 ?_)
  rw [e2, cl, m1, m2]
  refine ⟨H.k (i := 0) rfl rfl, nI_pos (by omega), by omega, by omega, by omega, ?_⟩
  intro h1 e1
  have H1 : Hp h h1 a [(11, 0, z0, r0), (1, 2 * (w + 1), z0, r0)] := by rw [e1]; exact H.new
  refine ⟨H1.k (i := 0) rfl rfl, ?_⟩
  intro h2 e2
  have H2 : Hp h h2 a [(11, 0, z0, updN r0 0 (a + 1)), (1, 2 * (w + 1), z0, r0)] := by rw [e2, H.1]; exact H1.wR (i := 0) rfl
  refine ⟨nI_pos (by omega), by omega, by omega, by omega, ?_⟩
  intro h3 e3
  have H3 : Hp h h3 a [(11, 0, z0, updN r0 0 (a + 1)), (1, 2 * (w + 1), z0, r0), (1, 2 * (w + 1), z0, r0)] := by rw [e3]; exact H2.new
  refine ⟨H3.k (i := 0) rfl rfl, ?_⟩
  intro h4 e4
  have H4 : Hp h h4 a (cNu a (2 * (w + 1)) 0) := by
    unfold cNu; rw [fM_0, e4, H2.1]; exact H3.wR (i := 0) rfl
  clear e1 e2 e3 e4 H1 H2 H3
  suffices L : ∀ t k (h5 : zH) (cu su : Nat), k + t = 2 * (w + 1) → Hp h h5 a (cNu a (2 * (w + 1)) k) → zWp zm53 (zD d) (fun r h' => r = none ∧ Hp h h' a (cNu a (2 * (w + 1)) (2 * (w + 1)))) cu su 28 [some (.inr a), some (.inl (nI w)), some (.inl (nI k))] [] h5 from L (2 * (w + 1)) 0 h4 _ _ (by omega) H4
  intro t
  induction t with
  | zero =>
    intro k h5 cu su hk X
    have r1 : zR h5 a 0 = a + 1 := X.r (i := 0) rfl rfl
    have k1 : zK h5 (a + 1) = 1 := X.k (i := 1) rfl rfl
    have l1 : zL h5 (a + 1) = 2 * (w + 1) := X.l (i := 1) rfl rfl
    have hk : k = 2 * (w + 1) := hk
    refine r53_28 ?_
    rw [r1, k1, l1]
    refine ⟨X.k (i := 0) rfl rfl, rfl, fun _ => ⟨rfl, by rw [← hk] at X ⊢; exact X⟩, fun q => absurd (nI_le (by omega) (by omega)) q⟩
  | succ t ih =>
    intro k h5 cu su hk X
    have r1 : zR h5 a 0 = a + 1 := X.r (i := 0) rfl rfl
    have k1 : zK h5 (a + 1) = 1 := X.k (i := 1) rfl rfl
    have l1 : zL h5 (a + 1) = 2 * (w + 1) := X.l (i := 1) rfl rfl
    refine r53_28 ?_
    rw [r1, k1, l1, nI_clamp (show k < 2 ^ 31 by omega), nI_1]
    refine ⟨X.k (i := 0) rfl rfl, rfl, fun q => absurd q (nI_ge (by omega) (by omega)), fun _ => ⟨X.k (i := 0) rfl rfl, rfl, vp_in_nI (by omega) (by omega), ?_⟩⟩
    intro h6 e6
    refine ih (k + 1) h6 cu su (by omega) ?_
    rw [e6]; unfold cNu; rw [← fM_s]; exact X.wI (i := 1) rfl
def rW (a k : Nat) : Nat → Nat := fun j => if j < k then a + 2 + j else 0
theorem rW_s {a k : Nat} : updN (rW a k) k (a + 2 + k) = rW a (k + 1) := by
  funext j; unfold updN rW
  by_cases e : j = k
  · rw [if_pos e, if_pos (by omega), e]
  · rw [if_neg e]
    by_cases e2 : j < k
    · rw [if_pos e2, if_pos (by omega)]
    · rw [if_neg e2, if_neg (by omega)]
theorem rW_0 {a : Nat} : rW a 0 = r0 := by funext j; unfold rW r0; rw [if_neg (by omega)]
/-- an object with an array of k rows in a room of n -/
def cRo (ka kr kd a n k : Nat) : List zC := (ka, 0, z0, updN r0 0 (a + 1)) :: (kr, n, z0, rW a k) :: List.replicate k (kd, 0, z0, r0)
theorem cRo_len {ka kr kd a n k : Nat} : (cRo ka kr kd a n k).length = 2 + k := by
  show (List.replicate k _).length + 1 + 1 = _
  rw [List.length_replicate]; omega
theorem cRo_new {h0 h : zH} {ka kr kd a n k : Nat} (H : Hp h0 h a (cRo ka kr kd a n k)) : Hp h0 (zNew h kd 0) a ((ka, 0, z0, updN r0 0 (a + 1)) :: (kr, n, z0, rW a k) :: List.replicate (k + 1) (kd, 0, z0, r0)) := by
  have h1 := H.new (kd := kd) (len := 0)
  rw [List.replicate_succ']
  exact h1
theorem cRo_put {h0 h : zH} {ka kr kd a n k : Nat} (H : Hp h0 h a ((ka, 0, z0, updN r0 0 (a + 1)) :: (kr, n, z0, rW a k) :: List.replicate (k + 1) (kd, 0, z0, r0))) : Hp h0 (zwR h (a + 1) k (a + 2 + k)) a (cRo ka kr kd a n (k + 1)) := by
  unfold cRo; rw [← rW_s]; exact H.wR (i := 1) rfl
theorem c57 {d a : Nat} {h : zH} (hk : zK h a = 13) : zD (d + 1) 57 [.inr a] h (fun r h' => r = none ∧ h = h') := zD_of rfl (r57_0 ⟨hk, rfl, rfl⟩)
theorem c65 {d a : Nat} {h : zH} (hk : zK h a = 17) : zD (d + 1) 65 [.inr a] h (fun r h' => r = none ∧ h = h') := zD_of rfl (r65_0 ⟨hk, rfl, rfl⟩)
theorem rep_last {α : Type} {x : α} {k : Nat} {c1 c2 : α} : (c1 :: c2 :: List.replicate (k + 1) x)[2 + k]? = some x := by
  rw [show 2 + k = k + 1 + 1 by omega, List.getElem?_cons_succ, List.getElem?_cons_succ, List.getElem?_replicate, if_pos (by omega)]
theorem c58 {d a n : Nat} {h : zH} (hn : n ≤ 4) (H : Hp h h a [(15, 0, z0, r0)]) : zD (d + 2) 58 [.inr a, .inl (nI n)] h (fun r h' => r = none ∧ Hp h h' a (cRo 15 14 13 a n n)) := by
  have cl := nI_clamp (show n < 2 ^ 31 by omega)
  have m1 : zm58.2.2.1 = 5 := rfl
  have m2 : zm58.2.2.2 = 28 := rfl
  refine zD_of rfl (r58_0 ?_)
  rw [cl, m1, m2]
  refine ⟨H.k (i := 0) rfl rfl, nI_pos (by omega), by omega, by omega, by omega, ?_⟩
  intro h1 e1
  have H1 : Hp h h1 a [(15, 0, z0, r0), (14, n, z0, r0)] := by rw [e1]; exact H.new
  refine ⟨H1.k (i := 0) rfl rfl, ?_⟩
  intro h2 e2
  have H2 : Hp h h2 a (cRo 15 14 13 a n 0) := by
    unfold cRo; rw [rW_0, e2, H.1]; exact H1.wR (i := 0) rfl
  clear e1 e2 H1
  suffices L : ∀ t k (h5 : zH) (cu su : Nat), k + t = n → cu = 1 + k → su = n + 6 * k → Hp h h5 a (cRo 15 14 13 a n k) → zWp zm58 (zD (d + 1)) (fun r h' => r = none ∧ Hp h h' a (cRo 15 14 13 a n n)) cu su 14 [some (.inr a), some (.inl (nI n)), some (.inl (nI k))] [] h5 from L n 0 h2 _ _ (by omega) (by omega) (by omega) H2
  intro t
  induction t with
  | zero =>
    intro k h5 cu su hk hc hs X
    have hk : k = n := hk
    exact r58_14 ⟨fun _ => ⟨rfl, by rw [hk] at X; exact X⟩, fun q => absurd (nI_le (by omega) (by omega)) q⟩
  | succ t ih =>
    intro k h5 cu su hk hc hs X
    have cK0 : zMc 57 = 0 := rfl
    have s0 : zMs 57 = 0 := rfl
    have eN : zN h5 = a + (2 + k) := by rw [X.1, cRo_len]
    refine r58_14 ⟨fun q => absurd q (nI_ge (by omega) (by omega)), fun _ => ?_⟩
    rw [m1, m2, cK0, s0]
    refine ⟨X.k (i := 0) rfl rfl, by omega, by omega, ?_⟩
    intro h6 e6
    have X6 : Hp h h6 a ((15, 0, z0, updN r0 0 (a + 1)) :: (14, n, z0, rW a k) :: List.replicate (k + 1) (13, 0, z0, r0)) := by rw [e6]; exact cRo_new X
    have k6 : zK h6 (a + (2 + k)) = 13 := X6.k (i := 2 + k) rep_last rfl
    have r5 : zR h5 a 0 = a + 1 := X.r (i := 0) rfl rfl
    rw [eN, r5]
    refine ⟨k6, by omega, by omega, _, c57 k6, ?_⟩
    rintro r _ ⟨rfl, rfl⟩
    refine r58_31 ?_
    have l1 : zL h6 (a + 1) = n := X6.l (i := 1) rfl rfl
    rw [l1, nI_clamp (show k < 2 ^ 31 by omega), nI_1]
    refine ⟨X6.k (i := 1) rfl rfl, k6, vp_in_nI (by omega) (by omega), ?_⟩
    intro h7 e7
    refine ih (k + 1) h7 _ _ (by omega) (by omega) (by omega) ?_
    rw [e7, show a + (2 + k) = a + 2 + k by omega]
    exact cRo_put X6
theorem c68 {d a : Nat} {h : zH} (H : Hp h h a [(19, 0, z0, r0)]) : zD (d + 2) 68 [.inr a] h (fun r h' => r = none ∧ Hp h h' a (cRo 19 18 17 a 24 24)) := by
  have m1 : zm68.2.2.1 = 25 := rfl
  have m2 : zm68.2.2.2 = 192 := rfl
  refine zD_of rfl (r68_0 ⟨H.k (i := 0) rfl rfl, by decide, by decide, by decide, by decide, ?_⟩)
  intro h1 e1
  have H1 : Hp h h1 a [(19, 0, z0, r0), (18, 24, z0, r0)] := by rw [e1]; exact H.new
  refine ⟨H1.k (i := 0) rfl rfl, ?_⟩
  intro h2 e2
  have H2 : Hp h h2 a (cRo 19 18 17 a 24 0) := by
    unfold cRo; rw [rW_0, e2, H.1]; exact H1.wR (i := 0) rfl
  clear e1 e2 H1
  suffices L : ∀ t k (h5 : zH) (cu su : Nat), k + t = 24 → cu = 1 + k → su = 24 + 7 * k → Hp h h5 a (cRo 19 18 17 a 24 k) → zWp zm68 (zD (d + 1)) (fun r h' => r = none ∧ Hp h h' a (cRo 19 18 17 a 24 24)) cu su 15 [some (.inr a), some (.inl (nI k))] [] h5 from L 24 0 h2 _ _ (by omega) (by decide) (by decide) H2
  intro t
  induction t with
  | zero =>
    intro k h5 cu su hk hc hs X
    have hk : k = 24 := hk
    exact r68_15 ⟨fun _ => ⟨rfl, by rw [hk] at X; exact X⟩, fun q => absurd (show nI 24 ≤ nI k from nI_le (by omega) (by omega)) q⟩
  | succ t ih =>
    intro k h5 cu su hk hc hs X
    have cK0 : zMc 65 = 0 := rfl
    have s0 : zMs 65 = 0 := rfl
    have eN : zN h5 = a + (2 + k) := by rw [X.1, cRo_len]
    refine r68_15 ⟨fun q => absurd (show nI 24 ≤ nI k from q) (nI_ge (by omega) (by omega)), fun _ => ?_⟩
    rw [m1, m2, cK0, s0]
    refine ⟨X.k (i := 0) rfl rfl, by omega, by omega, ?_⟩
    intro h6 e6
    have X6 : Hp h h6 a ((19, 0, z0, updN r0 0 (a + 1)) :: (18, 24, z0, rW a k) :: List.replicate (k + 1) (17, 0, z0, r0)) := by rw [e6]; exact cRo_new X
    have k6 : zK h6 (a + (2 + k)) = 17 := X6.k (i := 2 + k) rep_last rfl
    have r5 : zR h5 a 0 = a + 1 := X.r (i := 0) rfl rfl
    rw [eN, r5]
    refine ⟨k6, by omega, by omega, _, c65 k6, ?_⟩
    rintro r _ ⟨rfl, rfl⟩
    refine r68_33 ?_
    have l1 : zL h6 (a + 1) = 24 := X6.l (i := 1) rfl rfl
    rw [l1, nI_clamp (show k < 2 ^ 31 by omega), nI_1]
    refine ⟨X6.k (i := 1) rfl rfl, k6, vp_in_nI (by omega) (by omega), ?_⟩
    intro h7 e7
    refine ih (k + 1) h7 _ _ (by omega) (by omega) (by omega) ?_
    rw [e7, show a + (2 + k) = a + 2 + k by omega]
    exact cRo_put X6
