/-! ===== Dialogues: the open dialogues of a node ===== -/
theorem c59 {d : Nat} {h : zH} {a cap : Nat} {F : List (Nat → Int32)} (hc : cap ≤ 24) (g : gW h a 15 14 13 cap) (x : xW h a cap 6 F) : zD (d + 1) 59 [.inr a] h (fun v h' => v = some (.inl (if F.length = cap then 1 else 0)) ∧ h = h') := by
  obtain ⟨g1, g2, g3, g4, g5, g6, g7⟩ := g
  obtain ⟨x1, x2, x3⟩ := x
  refine zD_of rfl (r59_0 ?_)
  simp only [g1, g2, g3, g4, x2, true_and]
  refine ⟨fun q => ⟨Or.inl trivial, ?_, trivial⟩, fun q => ⟨Or.inr trivial, ?_, trivial⟩⟩
  · rw [if_neg (fun e => q (by rw [e]))]
  · rw [if_pos ((nI_eq (by omega) (by omega)).mp q)]
theorem c61 {d : Nat} {h : zH} {a cap : Nat} {F : List (Nat → Int32)} {n : Int32} (hc : cap ≤ 24) (g : gW h a 15 14 13 cap) (x : xW h a cap 6 F) : zD (d + 1) 61 [.inr a, .inl n] h (fun v h' => v = some (.inl (sIx (fun f => decide (f 0 = n)) F 0)) ∧ h = h') := by
  have hrow := fun k (hk : k < cap) => g.row hk
  obtain ⟨g1, g2, g3, g4, g5, g6, g7⟩ := g
  obtain ⟨x1, x2, x3⟩ := x
  refine zD_of rfl (r61_0 ?_)
  suffices H : ∀ m j, F.length - j = m → j ≤ F.length → sIx (fun f => decide (f 0 = n)) F j = sIx (fun f => decide (f 0 = n)) F 0 → zWp zm61 (zD d) (fun v h' => v = some (.inl (sIx (fun f => decide (f 0 = n)) F 0)) ∧ h = h') 0 0 2 [some (.inr a), some (.inl n), some (.inl (nI j))] [] h from H _ 0 rfl (Nat.zero_le _) rfl
  intro m
  induction m with
  | zero =>
    intro j hm hj hs
    refine r61_2 ?_
    simp only [g1, x2, true_and]
    exact ⟨fun _ => ⟨by rw [← hs, sIx_end (by omega)], trivial⟩, fun q => absurd (nI_le (by omega) (by omega)) q⟩
  | succ m ih =>
    intro j hm hj hs
    have hlt : j < F.length := by omega
    obtain ⟨f, hf⟩ := at_lt hlt
    refine r61_2 ?_
    simp only [g1, g2, g3, g4, x2, nI_clamp (show j < 2 ^ 31 by omega), hrow j (by omega), x3 j f hf 0 (by decide), true_and]
    refine ⟨fun q => absurd q (nI_ge hlt (by omega)), fun _ => ⟨vp_in_nI (by omega) (by omega), fun q => ?_, fun q => ?_⟩⟩
    · rw [nI_1]
      exact ih (j + 1) (by omega) (by omega) (by rw [← hs, sIx_miss hf (by simpa using q)])
    · exact ⟨by rw [← hs, sIx_hit hf (by simpa using q)], trivial⟩
def pFind (kd ot su : Int32) : (Nat → Int32) → Bool := fun f => decide (f 1 = kd ∧ f 2 = ot ∧ f 3 = su)
theorem c62 {d : Nat} {h : zH} {a cap : Nat} {F : List (Nat → Int32)} {kd ot su : Int32} (hc : cap ≤ 24) (g : gW h a 15 14 13 cap) (x : xW h a cap 6 F) : zD (d + 1) 62 [.inr a, .inl kd, .inl ot, .inl su] h (fun v h' => v = some (.inl (sIx (pFind kd ot su) F 0)) ∧ h = h') := by
  have hrow := fun k (hk : k < cap) => g.row hk
  obtain ⟨g1, g2, g3, g4, g5, g6, g7⟩ := g
  obtain ⟨x1, x2, x3⟩ := x
  refine zD_of rfl (r62_0 ?_)
  suffices H : ∀ m j (o : Option zV), F.length - j = m → j ≤ F.length → sIx (pFind kd ot su) F j = sIx (pFind kd ot su) F 0 → zWp zm62 (zD d) (fun v h' => v = some (.inl (sIx (pFind kd ot su) F 0)) ∧ h = h') 0 0 3 [some (.inr a), some (.inl kd), some (.inl ot), some (.inl su), some (.inl (nI j)), o] [] h from H _ 0 _ rfl (Nat.zero_le _) rfl
  intro m
  induction m with
  | zero =>
    intro j o hm hj hs
    refine r62_3 ?_
    simp only [g1, x2, true_and]
    exact ⟨fun _ => ⟨by rw [← hs, sIx_end (by omega)], trivial⟩, fun q => absurd (nI_le (by omega) (by omega)) q⟩
  | succ m ih =>
    intro j o hm hj hs
    have hlt : j < F.length := by omega
    obtain ⟨f, hf⟩ := at_lt hlt
    refine r62_3 ?_
    simp only [g1, g2, g3, g4, x2, nI_clamp (show j < 2 ^ 31 by omega), hrow j (by omega), x3 j f hf 1 (by decide), x3 j f hf 2 (by decide), x3 j f hf 3 (by decide), true_and, nI_1]
    refine ⟨fun q => absurd q (nI_ge hlt (by omega)), fun _ => ⟨vp_in_nI (by omega) (by omega), fun q => ?_, fun q1 => ⟨fun q => ?_, fun q2 => ⟨fun q => ?_, fun q3 => ?_⟩⟩⟩⟩
    · exact ih (j + 1) _ (by omega) (by omega) (by rw [← hs, sIx_miss hf (decide_eq_false (fun z => q z.1))])
    · exact ih (j + 1) _ (by omega) (by omega) (by rw [← hs, sIx_miss hf (decide_eq_false (fun z => q z.2.1))])
    · exact ih (j + 1) _ (by omega) (by omega) (by rw [← hs, sIx_miss hf (decide_eq_false (fun z => q z.2.2))])
    · exact ⟨by rw [← hs, sIx_hit hf (decide_eq_true ⟨q1, q2, q3⟩)], trivial⟩
def pUpd (ot an : Int32) : (Nat → Int32) → Bool := fun f => decide (f 1 = 2 ∧ f 2 = ot ∧ f 5 = an)
theorem c63 {d : Nat} {h : zH} {a cap : Nat} {F : List (Nat → Int32)} {ot an : Int32} (hc : cap ≤ 24) (g : gW h a 15 14 13 cap) (x : xW h a cap 6 F) : zD (d + 1) 63 [.inr a, .inl ot, .inl an] h (fun v h' => v = some (.inl (sIx (pUpd ot an) F 0)) ∧ h = h') := by
  have hrow := fun k (hk : k < cap) => g.row hk
  obtain ⟨g1, g2, g3, g4, g5, g6, g7⟩ := g
  obtain ⟨x1, x2, x3⟩ := x
  refine zD_of rfl (r63_0 ?_)
  suffices H : ∀ m j (o : Option zV), F.length - j = m → j ≤ F.length → sIx (pUpd ot an) F j = sIx (pUpd ot an) F 0 → zWp zm63 (zD d) (fun v h' => v = some (.inl (sIx (pUpd ot an) F 0)) ∧ h = h') 0 0 2 [some (.inr a), some (.inl ot), some (.inl an), some (.inl (nI j)), o] [] h from H _ 0 _ rfl (Nat.zero_le _) rfl
  intro m
  induction m with
  | zero =>
    intro j o hm hj hs
    refine r63_2 ?_
    simp only [g1, x2, true_and]
    exact ⟨fun _ => ⟨by rw [← hs, sIx_end (by omega)], trivial⟩, fun q => absurd (nI_le (by omega) (by omega)) q⟩
  | succ m ih =>
    intro j o hm hj hs
    have hlt : j < F.length := by omega
    obtain ⟨f, hf⟩ := at_lt hlt
    refine r63_2 ?_
    simp only [g1, g2, g3, g4, x2, nI_clamp (show j < 2 ^ 31 by omega), hrow j (by omega), x3 j f hf 1 (by decide), x3 j f hf 2 (by decide), x3 j f hf 5 (by decide), true_and, nI_1]
    refine ⟨fun q => absurd q (nI_ge hlt (by omega)), fun _ => ⟨vp_in_nI (by omega) (by omega), fun q => ?_, fun q1 => ⟨fun q => ?_, fun q2 => ⟨fun q => ?_, fun q3 => ?_⟩⟩⟩⟩
    · exact ih (j + 1) _ (by omega) (by omega) (by rw [← hs, sIx_miss hf (decide_eq_false (fun z => q z.1))])
    · exact ih (j + 1) _ (by omega) (by omega) (by rw [← hs, sIx_miss hf (decide_eq_false (fun z => q z.2.1))])
    · exact ih (j + 1) _ (by omega) (by omega) (by rw [← hs, sIx_miss hf (decide_eq_false (fun z => q z.2.2))])
    · exact ⟨by rw [← hs, sIx_hit hf (decide_eq_true ⟨q1, q2, q3⟩)], trivial⟩
/-- a dialogue begins -/
theorem c60 {d : Nat} {h : zH} {a cap : Nat} {F : List (Nat → Int32)} {kd ot su dl an : Int32} (hc : cap ≤ 24) (g : gW h a 15 14 13 cap) (x : xW h a cap 6 F) (hn : F.length < cap) : zD (d + 1) 60 [.inr a, .inl kd, .inl ot, .inl su, .inl dl, .inl an] h (fun v h' => v = some (.inl (zI h a 2 + 1)) ∧ gW h' a 15 14 13 cap ∧ xW h' a cap 6 (F ++ [sRow [zI h a 2 + 1, kd, ot, su, dl, an]]) ∧ zI h' a 2 = zI h a 2 + 1 ∧ zSame (fun b => a ≤ b ∧ b < a + 2 + cap) h h') := by
  have hrow := g.row hn
  have hne := g.ne hn
  have hin := g.2.2.2.2.2.1 _ hn
  have g0 := g
  obtain ⟨g1, g2, g3, g4, g5, g6, g7⟩ := g
  have x0 := x
  obtain ⟨x1, x2, x3⟩ := x
  refine zD_of rfl (r60_0 ?_)
  simp only [zK_wI, zL_wI, zR_wI, g1, g2, g3, g4, x2, true_and, forall_eq, nI_clamp (show F.length < 2 ^ 31 by omega), hrow]
  generalize hr : zR h (a + 1) F.length = r at hne hin
  have hne' : a ≠ r := fun e => hne e.symm
  refine ⟨vp_in_nI (by omega) (by omega), ?_⟩
  have hs : zSame (fun b => a ≤ b ∧ b < a + 2 + cap) h (zwI (zwI (zwI (zwI (zwI (zwI (zwI (zwI h a 1 (nI F.length + 1)) a 2 (zI (zwI h a 1 (nI F.length + 1)) a 2 + 1)) r 0 (zI (zwI (zwI h a 1 (nI F.length + 1)) a 2 (zI (zwI h a 1 (nI F.length + 1)) a 2 + 1)) a 2)) r 1 kd) r 2 ot) r 3 su) r 4 dl) r 5 an) := by
    refine ((((((((zSame.wI ?_).tr (zSame.wI ?_)).tr (zSame.wI ?_)).tr (zSame.wI ?_)).tr (zSame.wI ?_)).tr (zSame.wI ?_)).tr (zSame.wI ?_)).tr (zSame.wI ?_)) <;> (constructor <;> omega)
  have h2 : zI (zwI h a 1 (nI F.length + 1)) a 2 = zI h a 2 := zI_ok (by decide)
  rw [h2] at hs ⊢
  refine ⟨?_, ?_, ?_, ?_, hs⟩
  · simp [zI_wI, hne', hne]
  · exact ⟨g1, g2, g3, g4, g5, g6, g7⟩
  · refine pool_push g0 x0 hn (by simp [zI_wI, hne', hne, nI_1]) (fun _ => rfl) (fun i hi => ?_) (fun b hb1 hb2 hb i => ?_)
    · rw [hr]
      have : i = 0 ∨ i = 1 ∨ i = 2 ∨ i = 3 ∨ i = 4 ∨ i = 5 := by omega
      rcases this with rfl | rfl | rfl | rfl | rfl | rfl <;> simp [zI_wI, sRow, hne', hne]
    · rw [hr] at hb
      have hba : b ≠ a := by omega
      simp [zI_wI, hb, hba]
  · simp [zI_wI, hne', hne]
theorem c64 {d : Nat} {h : zH} {a cap : Nat} {F : List (Nat → Int32)} {k : Int32} (hc : cap ≤ 24) (g : gW h a 15 14 13 cap) (x : xW h a cap 6 F) : zD (d + 1) 64 [.inr a, .inl k] h (fun v h' => v = none ∧ gW h' a 15 14 13 cap ∧ xW h' a cap 6 (if 0 ≤ k then F.eraseIdx k.toNatClampNeg else F) ∧ zI h' a 2 = zI h a 2 ∧ zSame (fun b => b = a ∨ b = a + 1) h h') := by
  have g0 := g
  have x0 := x
  obtain ⟨g1, g2, g3, g4, g5, g6, g7⟩ := g
  obtain ⟨x1, x2, x3⟩ := x
  refine zD_of rfl (r64_0 ⟨fun q => ?_, fun q => ?_⟩)
  · rw [if_neg (by rw [Int32.not_le]; exact q)]
    exact ⟨rfl, g0, x0, rfl, zSame.rf⟩
  obtain ⟨n, hn, rfl⟩ := nI_of q
  rw [if_pos (nI_pos' hn)]
  simp only [zK_wI, zL_wI, zR_wI, g1, g2, g3, g4, x2, true_and, nI_clamp hn, nI_ltI hn (show F.length < 2 ^ 31 by omega)]
  refine ⟨fun hlt => ⟨vp_in_nI (by omega) (by omega), fun h1 e1 => ?_⟩, fun hge => ⟨g0, by rw [List.eraseIdx_of_length_le (by omega)]; exact x0, zSame.rf⟩⟩
  have e0 : nI F.length - 1 = nI (F.length - 1) := pk_sub (b := 1) (by omega)
  rw [e0] at e1
  have hsz : zI h1 a 1 = nI (F.length - 1) := by rw [e1, zI_at]
  suffices H : ∀ m j h3, F.length - 1 - j = m → n ≤ j → j ≤ F.length - 1 → zI h3 a 1 = nI (F.length - 1) → zI h3 a 2 = zI h a 2 → zR h3 a 0 = a + 1 → zSame (fun b => b = a ∨ b = a + 1) h h3 → (∀ i, i < j → zR h3 (a + 1) i = zR h (a + 1) (sRot n F.length i)) → (∀ i, j ≤ i → zR h3 (a + 1) i = zR h (a + 1) i) → zWp zm64 (zD d) (fun v h' => v = none ∧ gW h' a 15 14 13 cap ∧ xW h' a cap 6 (F.eraseIdx n) ∧ zI h' a 2 = zI h a 2 ∧ zSame (fun b => b = a ∨ b = a + 1) h h') 0 0 32 [some (.inr a), some (.inl (nI n)), some (.inr (zR h (a + 1) n)), some (.inl (nI j))] [] h3 from
    H _ n h1 rfl (Nat.le_refl _) (by omega) hsz (by rw [e1, zI_ok (by decide)]) (by rw [e1]; exact g2) (by rw [e1]; exact zSame.wI (Or.inl rfl)) (fun i hi => by rw [e1]; unfold sRot; rw [if_pos hi]; rfl) (fun i _ => by rw [e1]; rfl)
  intro m
  induction m with
  | zero =>
    intro j h3 hm hk1 hj hs3 hl3 hr3 hsm hlo hhi
    have ej : j = F.length - 1 := by omega
    subst ej
    refine r64_32 ?_
    simp only [hsm.1 a, hsm.1 (a + 1), hsm.2.1 (a + 1), g1, g3, g4, hr3, hs3, true_and, forall_eq, nI_clamp (show F.length - 1 < 2 ^ 31 by omega)]
    refine ⟨fun _ => ⟨(hsm.1 _).trans (g0.row (by omega)), vp_in_nI (by omega) (by omega), ?_⟩, fun q => absurd (nI_le (Nat.le_refl _) (by omega)) q⟩
    have hsm' : zSame (fun b => b = a ∨ b = a + 1) h (zwR h3 (a + 1) (F.length - 1) (zR h (a + 1) n)) := hsm.tr (zSame.wR (Or.inr rfl))
    obtain ⟨p1, p2⟩ := pool_rot (i := n) (h' := zwR h3 (a + 1) (F.length - 1) (zR h (a + 1) n)) g0 x0 hlt hsm' hs3 (by rw [zR_oa (by omega), hr3, g2]) (fun k hk => by
      by_cases e : k = F.length - 1
      · subst e
        rw [zR_at]; unfold sRot; rw [if_neg (by omega), if_neg (by omega), if_pos (by omega)]
      · rw [zR_ok e]
        by_cases hk2 : k < F.length - 1
        · exact hlo k hk2
        · rw [hhi k (by omega)]; unfold sRot; rw [if_neg (by omega), if_neg (by omega), if_neg (by omega)])
    exact ⟨p1, p2, hl3, hsm'⟩
  | succ m ih =>
    intro j h3 hm hk1 hj hs3 hl3 hr3 hsm hlo hhi
    refine r64_32 ?_
    simp only [hsm.1 a, hsm.1 (a + 1), hsm.2.1 (a + 1), g1, g3, g4, hr3, hs3, true_and, forall_eq, nI_1, nI_clamp (show j < 2 ^ 31 by omega), nI_clamp (show j + 1 < 2 ^ 31 by omega)]
    refine ⟨fun q => absurd q (nI_ge (by omega) (by omega)), fun _ => ⟨vp_in_nI (by omega) (by omega), ?_, vp_in_nI (by omega) (by omega), ?_⟩⟩
    · rw [hhi (j + 1) (by omega)]; exact (hsm.1 _).trans (g0.row (by omega))
    refine ih (j + 1) _ (by omega) (by omega) (by omega) hs3 hl3 (by rw [zR_oa (by omega)]; exact hr3) (hsm.tr (zSame.wR (Or.inr rfl))) (fun i hi => ?_) (fun i hi => ?_)
    · by_cases e : i = j
      · subst e
        rw [zR_at, hhi (i + 1) (by omega)]; unfold sRot; rw [if_neg (by omega), if_pos (by omega)]
      · rw [zR_ok e]; exact hlo i (by omega)
    · rw [zR_ok (by omega)]; exact hhi i (by omega)
