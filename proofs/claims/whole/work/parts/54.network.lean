/-! ===== Datagram, Network: what is in flight ===== -/
theorem c66 {d : Nat} {h : zH} {b c : Nat} (hb : zK h b = 17) (hc : zK h c = 17) (hne : c ≠ b) : zD (d + 1) 66 [.inr b, .inr c] h (fun v h' => v = none ∧ (∀ i, i < 7 → zI h' b i = zI h c i) ∧ (∀ i, 7 ≤ i → zI h' b i = zI h b i) ∧ (∀ a j, zR h' a j = zR h a j) ∧ zSame (fun a => a = b) h h') := by
  refine zD_of rfl (r66_0 ?_)
  simp only [zK_wI, hb, hc, true_and, forall_eq]
  refine ⟨fun i hi => ?_, fun i hi => ?_, fun _ _ => rfl, ?_⟩
  · have : i = 0 ∨ i = 1 ∨ i = 2 ∨ i = 3 ∨ i = 4 ∨ i = 5 ∨ i = 6 := by omega
    rcases this with rfl | rfl | rfl | rfl | rfl | rfl | rfl <;> simp [zI_wI, hne]
  · have h0 : i ≠ 0 ∧ i ≠ 1 ∧ i ≠ 2 ∧ i ≠ 3 ∧ i ≠ 4 ∧ i ≠ 5 ∧ i ≠ 6 := by omega
    simp [zI_wI, h0]
  · refine (((((((zSame.wI ?_).tr (zSame.wI ?_)).tr (zSame.wI ?_)).tr (zSame.wI ?_)).tr (zSame.wI ?_)).tr (zSame.wI ?_)).tr (zSame.wI ?_)) <;> rfl
/-- a part of a datagram, by its number -/
def sPart (f : Nat → Int32) (w : Int32) : Int32 := if w = 0 then f 0 else if w = 1 then f 1 else if w = 2 then f 2 / 10 else if w = 3 then f 2 - f 2 / 10 * 10 else if w = 4 then f 3 else if w = 5 then f 4 else if w = 6 then f 5 else if w = 7 then f 6 else -9
theorem i32_of {w : Int32} {n : Nat} (hn : n < 2 ^ 31) (h : w.toInt = (n : Int)) : w = nI n := by
  apply Int32.toInt_inj.mp
  rw [h, nI_toInt hn]
theorem c67 {d : Nat} {h : zH} {b : Nat} {w : Int32} (hb : zK h b = 17) : zD (d + 1) 67 [.inr b, .inl w] h (fun v h' => v = some (.inl (sPart (fun i => zI h b i) w)) ∧ h = h') := by
  refine zD_of rfl (r67_0 ?_)
  simp only [hb, true_and]
  refine ⟨fun q => ⟨?_, trivial⟩, fun q => ⟨?_, trivial⟩, fun q => ⟨?_, trivial⟩, fun q => ⟨by decide, ?_, trivial⟩, fun q => ⟨by decide, ?_, trivial⟩, fun q => ⟨?_, trivial⟩, fun q => ⟨?_, trivial⟩, fun q => ⟨?_, trivial⟩, fun q => ⟨?_, trivial⟩, trivial⟩
  · have hx : ∀ n : Nat, n ≤ 7 → w ≠ nI n := by
      intro n hn e
      rw [e, nI_toInt (by omega)] at q
      omega
    unfold sPart
    rw [if_neg (show ¬ w = 0 from hx 0 (by decide)), if_neg (show ¬ w = 1 from hx 1 (by decide)), if_neg (show ¬ w = 2 from hx 2 (by decide)), if_neg (show ¬ w = 3 from hx 3 (by decide)), if_neg (show ¬ w = 4 from hx 4 (by decide)), if_neg (show ¬ w = 5 from hx 5 (by decide)), if_neg (show ¬ w = 6 from hx 6 (by decide)), if_neg (show ¬ w = 7 from hx 7 (by decide))]
  · rw [i32_of (n := 0) (by decide) q]; rfl
  · rw [i32_of (n := 1) (by decide) q]; rfl
  · rw [i32_of (n := 2) (by decide) q]; rfl
  · rw [i32_of (n := 3) (by decide) q]; rfl
  · rw [i32_of (n := 4) (by decide) q]; rfl
  · rw [i32_of (n := 5) (by decide) q]; rfl
  · rw [i32_of (n := 6) (by decide) q]; rfl
  · rw [i32_of (n := 7) (by decide) q]; rfl
theorem c69 {d : Nat} {h : zH} {F : List (Nat → Int32)} {i : Int32} (g : gW h 15 19 18 17 24) (x : xW h 15 24 7 F) : zD (d + 1) 69 [.inr 15, .inl i] h (fun v h' => v = some (.inl (if 0 ≤ i ∧ i.toNatClampNeg < F.length then 1 else 0)) ∧ h = h') := by
  obtain ⟨x1, x2, x3⟩ := x
  refine zD_of rfl (r69_0 ⟨fun q => ⟨Or.inl rfl, ?_, rfl⟩, fun q => ?_⟩)
  · rw [if_neg (fun z => absurd z.1 (by rw [Int32.not_le]; exact q))]
  obtain ⟨n, hn, rfl⟩ := nI_of q
  simp only [g.1, x2, true_and, nI_leI (show F.length < 2 ^ 31 by omega) hn, nI_clamp hn]
  refine ⟨fun q => ⟨Or.inl trivial, ?_, trivial⟩, fun q => ⟨Or.inr trivial, ?_, trivial⟩⟩
  · rw [if_neg (fun z => absurd z.2 (by omega))]
  · rw [if_pos ⟨nI_pos' hn, by omega⟩]
theorem c70 {d : Nat} {h : zH} {F : List (Nat → Int32)} (g : gW h 15 19 18 17 24) (x : xW h 15 24 7 F) : zD (d + 1) 70 [.inr 15] h (fun v h' => v = some (.inl (if F.length = 24 then 1 else 0)) ∧ h = h') := by
  obtain ⟨x1, x2, x3⟩ := x
  refine zD_of rfl (r70_0 ?_)
  simp only [g.1, x2, true_and]
  refine ⟨fun q => ⟨Or.inl trivial, ?_, trivial⟩, fun q => ⟨Or.inr trivial, ?_, trivial⟩⟩
  · rw [if_neg (fun e => q (by rw [e]; rfl))]
  · rw [if_pos ((nI_eq (b := 24) (by omega) (by omega)).mp q)]
/-- sent: behind the others, if there is room -/
def sSnd (F : List (Nat → Int32)) (f : Nat → Int32) : List (Nat → Int32) := if F.length = 24 then F else F ++ [f]
theorem c71 {d : Nat} {h : zH} {F : List (Nat → Int32)} {a b c e k m n : Int32} (g : gW h 15 19 18 17 24) (x : xW h 15 24 7 F) : zD (d + 2) 71 [.inr 15, .inl a, .inl b, .inl c, .inl e, .inl k, .inl m, .inl n] h (fun v h' => v = none ∧ gW h' 15 19 18 17 24 ∧ xW h' 15 24 7 (sSnd F (sRow [a, b, c, e, k, m, n])) ∧ zSame (fun q => 15 ≤ q ∧ q < 41) h h') := by
  refine zD_of rfl (r71_0 ⟨g.1, _, c70 g x, ?_⟩)
  rintro v _ ⟨rfl, rfl⟩
  refine r71_4 ⟨fun q => ?_, fun q => ?_⟩
  · have hf : ¬ F.length = 24 := fun e => by rw [if_pos e] at q; exact absurd q (by decide)
    have hn : F.length < 24 := by have := x.1; omega
    have hrow := g.row hn
    have hne := g.ne hn
    have hin := g.2.2.2.2.2.1 _ hn
    have g0 := g
    obtain ⟨g1, g2, g3, g4, g5, g6, g7⟩ := g
    have x0 := x
    obtain ⟨x1, x2, x3⟩ := x
    unfold sSnd
    rw [if_neg hf]
    simp only [zK_wI, zL_wI, zR_wI, g1, g2, g3, g4, x2, true_and, forall_eq, nI_clamp (show F.length < 2 ^ 31 by omega), hrow]
    generalize hr : zR h (15 + 1) F.length = r at hne hin
    have hne' : 15 ≠ r := fun e => hne e.symm
    refine ⟨vp_in_nI (by omega) (by omega), ⟨g1, g2, g3, g4, g5, g6, g7⟩, ?_, ?_⟩
    · refine pool_push g0 x0 hn (by simp [zI_wI, hne', nI_1]) (fun _ => rfl) (fun i hi => ?_) (fun b hb1 hb2 hb i => ?_)
      · rw [hr]
        have : i = 0 ∨ i = 1 ∨ i = 2 ∨ i = 3 ∨ i = 4 ∨ i = 5 ∨ i = 6 := by omega
        rcases this with rfl | rfl | rfl | rfl | rfl | rfl | rfl <;> simp [zI_wI, sRow]
      · rw [hr] at hb
        have hba : b ≠ 15 := by omega
        simp [zI_wI, hb, hba]
    · refine ((((((((zSame.wI ?_).tr (zSame.wI ?_)).tr (zSame.wI ?_)).tr (zSame.wI ?_)).tr (zSame.wI ?_)).tr (zSame.wI ?_)).tr (zSame.wI ?_)).tr (zSame.wI ?_)) <;> (constructor <;> omega)
  · have hf : F.length = 24 := Classical.byContradiction fun e => q (by rw [if_neg e])
    exact ⟨rfl, g, by unfold sSnd; rw [if_pos hf]; exact x, zSame.rf⟩
theorem c72 {d : Nat} {h : zH} {F : List (Nat → Int32)} {i : Nat} {f : Nat → Int32} (g : gW h 15 19 18 17 24) (x : xW h 15 24 7 F) (hf : F[i]? = some f) (hn : F.length < 24) : zD (d + 2) 72 [.inr 15, .inl (nI i)] h (fun v h' => v = none ∧ gW h' 15 19 18 17 24 ∧ xW h' 15 24 7 (F ++ [f]) ∧ zSame (fun q => 15 ≤ q ∧ q < 41) h h') := by
  have hi := lt_at hf
  have hrow := g.row hn
  have hrow2 := g.row (show i < 24 by omega)
  have hin := g.2.2.2.2.2.1 _ hn
  have hdif : zR h (15 + 1) i ≠ zR h (15 + 1) F.length := fun e => by have := g.2.2.2.2.2.2 _ _ (by omega) hn e; omega
  have g0 := g
  obtain ⟨g1, g2, g3, g4, g5, g6, g7⟩ := g
  have x0 := x
  obtain ⟨x1, x2, x3⟩ := x
  refine zD_of rfl (r72_0 ?_)
  simp only [g1, g2, g3, g4, x2, true_and, nI_clamp (show F.length < 2 ^ 31 by omega), nI_clamp (show i < 2 ^ 31 by omega), hrow]
  refine ⟨vp_in_nI (by omega) (by omega), vp_in_nI (by omega) (by omega), _, c66 hrow hrow2 hdif, ?_⟩
  rintro v h1 ⟨rfl, e1, e2, e3, s⟩
  have k15 : zI h1 15 1 = nI F.length := by rw [(s.2.2.2 15 (by omega) 1).1, x2]
  refine r72_18 ?_
  simp only [s.1 15, g1, k15, true_and, forall_eq]
  have hs : zSame (fun q => 15 ≤ q ∧ q < 41) h (zwI h1 15 1 (nI F.length + 1)) := (s.wd (fun b hb => by subst hb; constructor <;> omega)).tr (zSame.wI (by constructor <;> omega))
  refine ⟨⟨(s.1 _).trans g1, (e3 _ _).trans g2, (s.1 _).trans g3, (s.2.1 _).trans g4, fun b q1 q2 => (s.1 _).trans (g5 b q1 q2), fun k hk => ?_, fun j k hj hk e => ?_⟩, ?_, hs⟩
  · show _ ≤ zR h1 _ _ ∧ zR h1 _ _ < _
    rw [e3]; exact g6 k hk
  · have e : zR h1 (15 + 1) j = zR h1 (15 + 1) k := e
    rw [e3, e3] at e; exact g7 j k hj hk e
  · refine pool_push g0 x0 hn (by rw [zI_at, nI_1]) (fun j => e3 _ _) (fun q hq => ?_) (fun b hb1 hb2 hb q => ?_)
    · rw [zI_oa (by omega), e1 q hq]; exact x3 i f hf q hq
    · rw [zI_oa (by omega)]; exact (s.2.2.2 b hb q).1
theorem c73 {d : Nat} {h : zH} {F : List (Nat → Int32)} {n : Nat} (g : gW h 15 19 18 17 24) (x : xW h 15 24 7 F) (hlt : n < F.length) : zD (d + 1) 73 [.inr 15, .inl (nI n)] h (fun v h' => v = none ∧ gW h' 15 19 18 17 24 ∧ xW h' 15 24 7 (F.eraseIdx n) ∧ zSame (fun b => b = 15 ∨ b = 16) h h') := by
  have g0 := g
  have x0 := x
  obtain ⟨g1, g2, g3, g4, g5, g6, g7⟩ := g
  obtain ⟨x1, x2, x3⟩ := x
  refine zD_of rfl (r73_0 ?_)
  simp only [zK_wI, zL_wI, zR_wI, g1, g2, g3, g4, x2, true_and, nI_clamp (show n < 2 ^ 31 by omega)]
  refine ⟨vp_in_nI (by omega) (by omega), fun h1 e1 => ?_⟩
  have e0 : nI F.length - 1 = nI (F.length - 1) := pk_sub (b := 1) (by omega)
  rw [e0] at e1
  have hsz : zI h1 15 1 = nI (F.length - 1) := by rw [e1, zI_at]
  suffices H : ∀ m j h3, F.length - 1 - j = m → n ≤ j → j ≤ F.length - 1 → zI h3 15 1 = nI (F.length - 1) → zR h3 15 0 = 15 + 1 → zSame (fun b => b = 15 ∨ b = 15 + 1) h h3 → (∀ i, i < j → zR h3 (15 + 1) i = zR h (15 + 1) (sRot n F.length i)) → (∀ i, j ≤ i → zR h3 (15 + 1) i = zR h (15 + 1) i) → zWp zm73 (zD d) (fun v h' => v = none ∧ gW h' 15 19 18 17 24 ∧ xW h' 15 24 7 (F.eraseIdx n) ∧ zSame (fun b => b = 15 ∨ b = 16) h h') 0 0 19 [some (.inr 15), some (.inl (nI n)), some (.inr (zR h (15 + 1) n)), some (.inl (nI j))] [] h3 from
    H _ n h1 rfl (Nat.le_refl _) (by omega) hsz (by rw [e1]; exact g2) (by rw [e1]; exact zSame.wI (Or.inl rfl)) (fun i hi => by rw [e1]; unfold sRot; rw [if_pos hi]; rfl) (fun i _ => by rw [e1]; rfl)
  intro m
  induction m with
  | zero =>
    intro j h3 hm hk1 hj hs3 hr3 hsm hlo hhi
    have ej : j = F.length - 1 := by omega
    subst ej
    refine r73_19 ?_
    simp only [hsm.1 15, hsm.1 (15 + 1), hsm.2.1 (15 + 1), g1, g3, g4, hr3, hs3, true_and, forall_eq, nI_clamp (show F.length - 1 < 2 ^ 31 by omega)]
    refine ⟨fun _ => ⟨(hsm.1 _).trans (g0.row (by omega)), vp_in_nI (by omega) (by omega), ?_⟩, fun q => absurd (nI_le (Nat.le_refl _) (by omega)) q⟩
    have hsm' : zSame (fun b => b = 15 ∨ b = 15 + 1) h (zwR h3 (15 + 1) (F.length - 1) (zR h (15 + 1) n)) := hsm.tr (zSame.wR (Or.inr rfl))
    obtain ⟨p1, p2⟩ := pool_rot (i := n) (h' := zwR h3 (15 + 1) (F.length - 1) (zR h (15 + 1) n)) g0 x0 hlt hsm' hs3 (by rw [zR_oa (by omega), hr3, g2]) (fun k hk => by
      by_cases e : k = F.length - 1
      · subst e
        rw [zR_at]; unfold sRot; rw [if_neg (by omega), if_neg (by omega), if_pos (by omega)]
      · rw [zR_ok e]
        by_cases hk2 : k < F.length - 1
        · exact hlo k hk2
        · rw [hhi k (by omega)]; unfold sRot; rw [if_neg (by omega), if_neg (by omega), if_neg (by omega)])
    exact ⟨p1, p2, hsm'⟩
  | succ m ih =>
    intro j h3 hm hk1 hj hs3 hr3 hsm hlo hhi
    refine r73_19 ?_
    simp only [hsm.1 15, hsm.1 (15 + 1), hsm.2.1 (15 + 1), g1, g3, g4, hr3, hs3, true_and, forall_eq, nI_1, nI_clamp (show j < 2 ^ 31 by omega), nI_clamp (show j + 1 < 2 ^ 31 by omega)]
    refine ⟨fun q => absurd q (nI_ge (by omega) (by omega)), fun _ => ⟨vp_in_nI (by omega) (by omega), ?_, vp_in_nI (by omega) (by omega), ?_⟩⟩
    · rw [hhi (j + 1) (by omega)]; exact (hsm.1 _).trans (g0.row (by omega))
    refine ih (j + 1) _ (by omega) (by omega) (by omega) hs3 (by rw [zR_oa (by omega)]; exact hr3) (hsm.tr (zSame.wR (Or.inr rfl))) (fun i hi => ?_) (fun i hi => ?_)
    · by_cases e : i = j
      · subst e
        rw [zR_at, hhi (i + 1) (by omega)]; unfold sRot; rw [if_neg (by omega), if_pos (by omega)]
      · rw [zR_ok e]; exact hlo i (by omega)
    · rw [zR_ok (by omega)]; exact hhi i (by omega)
