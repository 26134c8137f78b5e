/-! ===== Queries: a ring of the latest twenty ===== -/
def gQ (h : zH) : Prop := zK h 12 = 9 ∧ zR h 12 0 = 13 ∧ zR h 12 1 = 14 ∧ zK h 13 = 1 ∧ zK h 14 = 1 ∧ zL h 13 = 20 ∧ zL h 14 = 20
def xQ (h : zH) (Q : List (Int32 × Int32)) : Prop := zI h 12 2 = nI (Q.length % 20) ∧ (∀ i q, Q[i]? = some q → Q.length ≤ i + 20 → zI h 13 (i % 20) = q.1 ∧ zI h 14 (i % 20) = q.2) ∧ ∀ k, k < 20 → Q.length ≤ k → zI h 13 k = 0
/-- the queries' numbers are positive, each another -/
def okQ (Q : List (Int32 × Int32)) : Prop := (∀ q ∈ Q, 0 < q.1) ∧ ∀ (i j : Nat) (p q : Int32 × Int32), Q[i]? = some p → Q[j]? = some q → p.1 = q.1 → i = j
theorem gQ_same {A : Nat → Prop} {h h' : zH} (s : zSame A h h') (h1 : ¬ A 12) (c : gQ h) : gQ h' := by
  obtain ⟨c1, c2, c3, c4, c5, c6, c7⟩ := c
  exact ⟨(s.1 _).trans c1, (s.2.2.2 12 h1 0).2.trans c2, (s.2.2.2 12 h1 1).2.trans c3, (s.1 _).trans c4, (s.1 _).trans c5, (s.2.1 _).trans c6, (s.2.1 _).trans c7⟩
theorem xQ_same {A : Nat → Prop} {h h' : zH} {Q : List (Int32 × Int32)} (s : zSame A h h') (h1 : ¬ A 12) (h2 : ¬ A 13) (h3 : ¬ A 14) (c : xQ h Q) : xQ h' Q :=
  ⟨(s.2.2.2 12 h1 2).1.trans c.1, fun i q hq hl => ⟨(s.2.2.2 13 h2 _).1.trans (c.2.1 i q hq hl).1, (s.2.2.2 14 h3 _).1.trans (c.2.1 i q hq hl).2⟩, fun k hk hl => (s.2.2.2 13 h2 k).1.trans (c.2.2 k hk hl)⟩
theorem c49 {d : Nat} {h : zH} {Q : List (Int32 × Int32)} {n : Int32} (g : gQ h) (c : xQ h Q) : zD (d + 1) 49 [.inr 12, .inl n] h (fun v h' => v = none ∧ xQ h' (Q ++ [(n, -6)]) ∧ (∀ a j, zR h' a j = zR h a j) ∧ zSame (fun q => 12 ≤ q ∧ q < 15) h h') := by
  obtain ⟨g1, g2, g3, g4, g5, g6, g7⟩ := g
  obtain ⟨c1, c2, c3⟩ := c
  have hl20 : Q.length % 20 < 20 := Nat.mod_lt _ (by decide)
  have key : ∀ w : Int32, w = nI ((Q.length + 1) % 20) → (xQ (zwI (zwI (zwI h 13 (Q.length % 20) n) 14 (Q.length % 20) (-6)) 12 2 w) (Q ++ [(n, -6)]) ∧ (∀ a j, zR (zwI (zwI (zwI h 13 (Q.length % 20) n) 14 (Q.length % 20) (-6)) 12 2 w) a j = zR h a j) ∧ zSame (fun q => 12 ≤ q ∧ q < 15) h (zwI (zwI (zwI h 13 (Q.length % 20) n) 14 (Q.length % 20) (-6)) 12 2 w)) := by
    intro w hw
    have hl : (Q ++ [(n, -6)]).length = Q.length + 1 := by rw [List.length_append]; rfl
    refine ⟨⟨by rw [zI_at, hl, hw], fun i q hq hli => ?_, fun k hk hlk => ?_⟩, fun _ _ => rfl, ?_⟩
    · rw [hl] at hli
      have hi := lt_at hq
      rw [hl] at hi
      by_cases e : i = Q.length
      · subst e
        rw [List.getElem?_append_right (Nat.le_refl _), Nat.sub_self] at hq
        cases hq
        exact ⟨by simp [zI_wI], by simp [zI_wI]⟩
      · rw [List.getElem?_append_left (by omega)] at hq
        obtain ⟨q1, q2⟩ := c2 i q hq (by omega)
        have hne : i % 20 ≠ Q.length % 20 := by omega
        exact ⟨by simp [zI_wI, hne, q1], by simp [zI_wI, hne, q2]⟩
    · rw [hl] at hlk
      have hne : k ≠ Q.length % 20 := by omega
      have := c3 k hk (by omega)
      simp [zI_wI, hne, this]
    · refine (((zSame.wI ?_).tr (zSame.wI ?_)).tr (zSame.wI ?_)) <;> (constructor <;> omega)
  refine zD_of rfl (r49_0 ?_)
  have e2 : zI (zwI h 13 (Q.length % 20) n) 12 2 = nI (Q.length % 20) := by rw [zI_oa (by decide)]; exact c1
  have e3 : zI (zwI (zwI h 13 (Q.length % 20) n) 14 (Q.length % 20) (-6)) 12 2 = nI (Q.length % 20) := by rw [zI_oa (by decide)]; exact e2
  simp only [zK_wI, zL_wI, zR_wI, g1, g2, g3, g4, g5, g6, g7, c1, true_and, forall_eq, nI_clamp (show Q.length % 20 < 2 ^ 31 by omega), e2, e3, nI_1]
  refine ⟨vp_in_nI hl20 (by decide), vp_in_nI hl20 (by decide), fun q => ?_, fun q => ?_⟩
  · have hne : Q.length % 20 + 1 ≠ 20 := fun e => q (by rw [e]; rfl)
    obtain ⟨k1, k2, k3⟩ := key (nI (Q.length % 20 + 1)) (by congr 1; omega)
    exact ⟨k1, fun _ _ => trivial, k3⟩
  · have he : Q.length % 20 + 1 = 20 := (nI_eq (b := 20) (by omega) (by decide)).mp q
    obtain ⟨k1, k2, k3⟩ := key 0 (by rw [show (Q.length + 1) % 20 = 0 by omega]; rfl)
    exact ⟨k1, fun _ _ => trivial, k3⟩
/-- a query of this number among the latest twenty, its place in the ring; or none, and -1 -/
def pQ (Q : List (Int32 × Int32)) (n v : Int32) : Prop := (∃ i q, Q[i]? = some q ∧ Q.length ≤ i + 20 ∧ q.1 = n ∧ v = nI (i % 20)) ∨ ((∀ i q, Q[i]? = some q → Q.length ≤ i + 20 → q.1 ≠ n) ∧ v = -1)
theorem c52 {d : Nat} {h : zH} {Q : List (Int32 × Int32)} {n : Int32} (g : gQ h) (c : xQ h Q) (ok : okQ Q) : zD (d + 1) 52 [.inr 12, .inl n] h (fun v h' => (∃ r, v = some (.inl r) ∧ pQ Q n r) ∧ h = h') := by
  obtain ⟨g1, g2, g3, g4, g5, g6, g7⟩ := g
  obtain ⟨c1, c2, c3⟩ := c
  refine zD_of rfl (r52_0 ⟨fun hp => ?_, fun hp => ?_⟩)
  · suffices H : ∀ m j, 20 - j = m → j ≤ 20 → (∀ k, k < j → zI h 13 k ≠ n) → zWp zm52 (zD d) (fun v h' => (∃ r, v = some (.inl r) ∧ pQ Q n r) ∧ h = h') 0 0 8 [some (.inr 12), some (.inl n), some (.inl (nI j))] [] h from H _ 0 rfl (by omega) (fun k hk => absurd hk (Nat.not_lt_zero k))
    intro m
    induction m with
    | zero =>
      intro j hm hj hs
      refine r52_8 ⟨fun _ => ⟨⟨_, rfl, Or.inr ⟨fun i q hq hl e => ?_, rfl⟩⟩, rfl⟩, fun q => absurd (show nI 20 ≤ nI j from nI_le (by omega) (by omega)) q⟩
      exact hs (i % 20) (by omega) ((c2 i q hq hl).1.trans e)
    | succ m ih =>
      intro j hm hj hs
      refine r52_8 ⟨fun q => absurd (show nI 20 ≤ nI j from q) (nI_ge (by omega) (by omega)), fun _ => ?_⟩
      simp only [g1, g2, g4, g6, true_and, true_or, nI_clamp (show j < 2 ^ 31 by omega), nI_1]
      refine ⟨vp_in_nI (by omega) (by omega), fun q => ?_, fun q => ?_⟩
      · exact ih (j + 1) (by omega) (by omega) (fun k hk => by
          by_cases e : k = j
          · rw [e]; exact q
          · exact hs k (by omega))
      · refine ⟨⟨_, rfl, Or.inl ?_⟩, trivial⟩
        have hlt : j < Q.length := Nat.not_le.mp fun hle => by
          have := c3 j (by omega) hle
          rw [this] at q
          rw [← q] at hp
          exact absurd hp (by decide)
        have hi : j + 20 * ((Q.length - 1 - j) / 20) < Q.length := by omega
        obtain ⟨x, hx⟩ := at_lt hi
        have hm : (j + 20 * ((Q.length - 1 - j) / 20)) % 20 = j := by omega
        refine ⟨_, x, hx, by omega, ?_, by rw [hm]⟩
        have := (c2 _ x hx (by omega)).1
        rw [hm, q] at this
        exact this.symm
  · refine ⟨⟨_, rfl, Or.inr ⟨fun i q hq hl e => ?_, rfl⟩⟩, rfl⟩
    have := ok.1 q (List.mem_of_getElem? hq)
    rw [e] at this
    exact hp this
/-- the query of this number has this answer now -/
def sSet (Q : List (Int32 × Int32)) (n v : Int32) : List (Int32 × Int32) := Q.map (fun q => if q.1 = n then (q.1, v) else q)
theorem sSet_at {Q : List (Int32 × Int32)} {n v : Int32} {i : Nat} {q : Int32 × Int32} (h : (sSet Q n v)[i]? = some q) : ∃ p, Q[i]? = some p ∧ q = (if p.1 = n then (p.1, v) else p) := by
  unfold sSet at h
  rw [List.getElem?_map] at h
  cases hp : Q[i]? with
  | none => rw [hp] at h; cases h
  | some p => rw [hp] at h; exact ⟨p, rfl, (Option.some.inj h).symm⟩
theorem sSet_len (Q : List (Int32 × Int32)) (n v : Int32) : (sSet Q n v).length = Q.length := List.length_map _
theorem nI_m1 {k : Nat} (h : k < 2 ^ 31) : ¬ nI k = -1 := fun e => by
  have hp := nI_pos h
  rw [e] at hp
  exact hp (by decide)
theorem c50 {d : Nat} {h : zH} {Q : List (Int32 × Int32)} {n w : Int32} (g : gQ h) (c : xQ h Q) (ok : okQ Q) : zD (d + 2) 50 [.inr 12, .inl n, .inl w] h (fun v h' => v = none ∧ xQ h' (sSet Q n w) ∧ (∀ a j, zR h' a j = zR h a j) ∧ zSame (fun q => 12 ≤ q ∧ q < 15) h h') := by
  refine zD_of rfl (r50_0 ⟨g.1, _, c52 g c ok, ?_⟩)
  rintro v _ ⟨⟨r, rfl, hr⟩, rfl⟩
  obtain ⟨g1, g2, g3, g4, g5, g6, g7⟩ := g
  obtain ⟨c1, c2, c3⟩ := c
  refine r50_5 ⟨fun q => ?_, fun q => ?_⟩
  · rcases hr with ⟨i, p, hp, hl, e, er⟩ | ⟨hno, -⟩
    · exact absurd (er.symm.trans q) (nI_m1 (by omega))
    · refine ⟨rfl, ⟨by rw [sSet_len]; exact c1, fun i q hq hl => ?_, by rw [sSet_len]; exact c3⟩, fun _ _ => rfl, zSame.rf⟩
      rw [sSet_len] at hl
      obtain ⟨p, hp, rfl⟩ := sSet_at hq
      rw [if_neg (hno i p hp hl)]
      exact c2 i p hp hl
  · rcases hr with ⟨i, p, hp, hl, e, rfl⟩ | ⟨-, er⟩
    · simp only [g1, g3, g5, g7, true_and, forall_eq, nI_clamp (show i % 20 < 2 ^ 31 by omega)]
      refine ⟨vp_in_nI (by omega) (by omega), ⟨by rw [sSet_len, zI_oa (by decide)]; exact c1, fun j q hq hlj => ?_, fun k hk hlk => by rw [sSet_len] at hlk; rw [zI_oa (by decide)]; exact c3 k hk hlk⟩, fun _ _ => rfl, zSame.wI (by constructor <;> omega)⟩
      rw [sSet_len] at hlj
      obtain ⟨p2, hp2, rfl⟩ := sSet_at hq
      obtain ⟨d1, d2⟩ := c2 j p2 hp2 hlj
      rw [zI_oa (by decide)]
      have hj := lt_at hp2
      have hi := lt_at hp
      by_cases eq : j = i
      · subst eq
        have : p2 = p := Option.some.inj (hp2.symm.trans hp)
        subst this
        rw [if_pos e, zI_at]
        exact ⟨d1, rfl⟩
      · have hne : ¬ p2.1 = n := fun e2 => eq (ok.2 j i p2 p hp2 hp (e2.trans e.symm))
        rw [if_neg hne, zI_ok (by omega)]
        exact ⟨d1, d2⟩
    · exact absurd er q
/-- what a query's asker is told: the answer if it is among the latest twenty, else BAD -/
def pAns (Q : List (Int32 × Int32)) (n v : Int32) : Prop := (∃ i q, Q[i]? = some q ∧ Q.length ≤ i + 20 ∧ q.1 = n ∧ v = q.2) ∨ ((∀ i q, Q[i]? = some q → Q.length ≤ i + 20 → q.1 ≠ n) ∧ v = -9)
theorem pAns_one {Q : List (Int32 × Int32)} {n v w : Int32} (ok : okQ Q) (h1 : pAns Q n v) (h2 : pAns Q n w) : v = w := by
  rcases h1 with ⟨i, p, a1, a2, a3, rfl⟩ | ⟨a1, rfl⟩ <;> rcases h2 with ⟨j, q, b1, b2, b3, rfl⟩ | ⟨b1, rfl⟩
  · have := ok.2 i j p q a1 b1 (a3.trans b3.symm)
    subst this
    rw [Option.some.inj (a1.symm.trans b1)]
  · exact absurd a3 (b1 i p a1 a2)
  · exact absurd b3 (a1 j q b1 b2)
  · rfl
theorem c51 {d : Nat} {h : zH} {Q : List (Int32 × Int32)} {n : Int32} (g : gQ h) (c : xQ h Q) (ok : okQ Q) : zD (d + 2) 51 [.inr 12, .inl n] h (fun v h' => (∃ r, v = some (.inl r) ∧ pAns Q n r) ∧ h = h') := by
  refine zD_of rfl (r51_0 ⟨g.1, _, c52 g c ok, ?_⟩)
  rintro v _ ⟨⟨r, rfl, hr⟩, rfl⟩
  obtain ⟨g1, g2, g3, g4, g5, g6, g7⟩ := g
  obtain ⟨c1, c2, c3⟩ := c
  refine r51_5 ⟨fun q => ?_, fun q => ?_⟩
  · rcases hr with ⟨i, p, hp, hl, e, rfl⟩ | ⟨-, er⟩
    · simp only [g1, g3, g5, g7, true_and, true_or, nI_clamp (show i % 20 < 2 ^ 31 by omega)]
      exact ⟨vp_in_nI (by omega) (by omega), ⟨_, rfl, Or.inl ⟨i, p, hp, hl, e, (c2 i p hp hl).2⟩⟩, trivial⟩
    · exact absurd er q
  · rcases hr with ⟨i, p, hp, hl, e, er⟩ | ⟨hno, -⟩
    · exact absurd (er.symm.trans q) (nI_m1 (by omega))
    · exact ⟨⟨_, rfl, Or.inr ⟨hno, rfl⟩⟩, rfl⟩
