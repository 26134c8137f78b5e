/-! ===== the object's own methods: what arrives ===== -/
theorem XS.all {h : zH} {w : Nat} {S : sS} (X : XS h w S) : zK h 3 = 3 ∧ zI h 3 0 = nI w ∧ (zR h 3 2 = 4 ∧ zR h 3 3 = 5 ∧ zR h 3 4 = 42 ∧ zR h 3 5 = 43 ∧ zR h 3 6 = 6 ∧ zR h 3 7 = 10 ∧ zR h 3 8 = 12 ∧ zR h 3 9 = 15 ∧ zR h 3 10 = 41 ∧ zR h 3 11 = 44 ∧ zR h 3 12 = 47 ∧ zR h 3 13 = 53) ∧
    (zK h 4 = 1 ∧ zL h 4 = 4 ∧ zK h 5 = 1 ∧ zL h 5 = 4 ∧ zK h 42 = 2 ∧ zL h 42 = 4 * (w + 1) ∧ zK h 43 = 1 ∧ zL h 43 = 4 * (w + 1) ∧ zK h 41 = 17 ∧ zK h 53 = 16 ∧ zL h 53 = w + 1) ∧ (∀ v, v ≤ w → zR h 53 v = nA v) ∧ zK h 6 = 5 ∧ zK h 10 = 7 ∧ zK h 12 = 9 ∧ zK h 44 = 11 ∧ zI h 3 1 = sClk S ∧ (zK h 15 = 19 ∧ zR h 15 0 = 16 ∧ zK h 16 = 18 ∧ zL h 16 = 24) ∧ zK h 47 = 15 ∧ zR h 47 0 = 48 ∧ zK h 48 = 14 ∧ zL h 48 = 4 := by
  obtain ⟨g1, g2, g3, g4, g5⟩ := X.1
  have f := X.gf
  have d := X.gd (Nat.zero_le w)
  exact ⟨g1, g2, g3, g4, g5, X.2.1.1, X.2.2.1.1, X.2.2.2.1.1, X.2.2.2.2.1.1, X.ck, ⟨f.1, f.2.1, f.2.2.1, f.2.2.2.1⟩, d.1, d.2.1, d.2.2.1, d.2.2.2.1⟩
theorem sIx_if {α β : Type} {P : α → Bool} {L : List α} (hl : L.length < 2 ^ 31) (A : Nat → β) (B : β) : (if 0 ≤ sIx P L 0 then A (sIx P L 0).toNatClampNeg else B) = match sFx P L 0 with
    | some k => A k
    | none => B := by
  cases hf : sFx P L 0 with
  | none =>
    have : sIx P L 0 = -1 := (sIx_neg hl).mpr hf
    rw [this, if_neg (by decide)]
  | some k =>
    obtain ⟨x, hx, -⟩ := sFx_some hf
    have hk := lt_at hx
    rw [sIx_pos hf, if_pos (nI_pos' (by omega)), nI_clamp (by omega)]
theorem XS.dl {h : zH} {w : Nat} {S : sS} (X : XS h w S) {v : Nat} (hv : v ≤ w) : (sD S v).length ≤ nC v := (X.xd hv).1
theorem XS.dl2 {h : zH} {w : Nat} {S : sS} (X : XS h w S) {v : Nat} (hv : v ≤ w) : (sD S v).length < 2 ^ 31 := by
  have := X.dl hv; have := nC_le v; omega
theorem zA41 {w : Nat} : ¬ xA w 41 := by unfold xA; omega
theorem s41 {w : Nat} {h h' : zH} {f : Nat → Int32} (s : zSame (xA w) h h') (hf : ∀ i, i < 7 → zI h 41 i = f i) : ∀ i, i < 7 → zI h' 41 i = f i := fun i hi => (s.2.2.2 41 zA41 i).1.trans (hf i hi)
abbrev sEls (S : sS) (sn : Nat) (v : Int32) : Prop := ¬ sLo S sn = 0 ∧ ¬ sLo S sn = v
theorem k25 {d : Nat} {h : zH} {w sn : Nat} {S : sS} {v : Int32} (hs : sn < 4) (X : XS h w S) : zD (d + 1) 25 [.inr 3, .inl (nI sn), .inl v] h (fun r h' => r = some (.inl (if sEls S sn v then 1 else 0)) ∧ h = h') := by
  obtain ⟨g1, g2, ⟨a1, a2, a3, a4, a5, a6, a7, a8, a9, a10, a11, a12⟩, ⟨b1, b2, b3, b4, b5, b6, b7, b8, b9, b10, b11⟩, g5, t1, c1, q1, n1, ck, ⟨f1, f2, f3, f4⟩, ⟨d1, d2, d3, d4⟩⟩ := X.all
  refine zD_of rfl (r25_0 ?_)
  simp only [g1, g2, a1, a2, a3, a4, a5, a6, a7, a8, a9, a10, a11, a12, b1, b2, b3, b4, b5, b6, b7, b8, b9, b10, b11, t1, c1, q1, n1, ck, f1, f2, f3, f4, d1, d2, d3, d4, true_and, true_or, or_true, nI_clamp (show sn < 2 ^ 31 by omega), X.lo hs]
  refine ⟨vp_in_nI hs (by decide), fun q => ⟨by rw [if_neg (fun z => z.1 q)], trivial⟩, fun q => ⟨vp_in_nI hs (by decide), fun q2 => ⟨by rw [if_neg (fun z => z.2 q2)], trivial⟩, fun q2 => ⟨by rw [if_pos ⟨q, q2⟩], trivial⟩⟩⟩
abbrev sMay (S : sS) (sn : Nat) (s v : Int32) : Prop := ¬ sEls S sn v ∨ (4 * sLo S sn + s) ∈ sC S ∨ ¬ (sC S).length = 6
theorem k26 {d : Nat} {h : zH} {w sn : Nat} {S : sS} {v : Int32} (hs : sn < 4) (X : XS h w S) : zD (d + 3) 26 [.inr 3, .inl (nI sn), .inl v] h (fun r h' => r = some (.inl (if sMay S sn (nI sn) v then 1 else 0)) ∧ h = h') := by
  obtain ⟨g1, g2, ⟨a1, a2, a3, a4, a5, a6, a7, a8, a9, a10, a11, a12⟩, ⟨b1, b2, b3, b4, b5, b6, b7, b8, b9, b10, b11⟩, g5, t1, c1, q1, n1, ck, ⟨f1, f2, f3, f4⟩, ⟨d1, d2, d3, d4⟩⟩ := X.all
  refine zD_of rfl (r26_0 ⟨g1, _, k25 hs X, ?_⟩)
  rintro r _ ⟨rfl, rfl⟩
  refine r26_6 ⟨fun q => ?_, fun q => ?_⟩
  · have he : ¬ sEls S sn v := fun e => by rw [if_pos e] at q; exact absurd q (by decide)
    exact ⟨Or.inr rfl, by rw [if_pos (Or.inl he)], rfl⟩
  have he : sEls S sn v := Classical.byContradiction fun e => q (by rw [if_neg e])
  simp only [g1, g2, a1, a2, a3, a4, a5, a6, a7, a8, a9, a10, a11, a12, b1, b2, b3, b4, b5, b6, b7, b8, b9, b10, b11, t1, c1, q1, n1, ck, f1, f2, f3, f4, d1, d2, d3, d4, true_and, true_or, or_true, nI_clamp (show sn < 2 ^ 31 by omega), X.lo hs]
  refine ⟨vp_in_nI hs (by decide), _, c22, ?_⟩
  rintro r _ ⟨rfl, rfl⟩
  refine r26_23 ⟨c1, _, c43 X.2.2.1 X.xc, ?_⟩
  rintro r _ ⟨rfl, rfl⟩
  refine r26_26 ⟨fun q => ?_, fun q => ?_⟩
  · have hm : (4 * sLo S sn + nI sn) ∈ sC S := Classical.byContradiction fun e => q (by rw [if_neg e])
    exact ⟨Or.inr rfl, by rw [if_pos (Or.inr (Or.inl hm))], rfl⟩
  have hm : ¬ (4 * sLo S sn + nI sn) ∈ sC S := fun e => by rw [if_pos e] at q; exact absurd q (by decide)
  simp only [g1, g2, a1, a2, a3, a4, a5, a6, a7, a8, a9, a10, a11, a12, b1, b2, b3, b4, b5, b6, b7, b8, b9, b10, b11, t1, c1, q1, n1, ck, f1, f2, f3, f4, d1, d2, d3, d4, true_and, true_or, or_true]
  refine ⟨_, c42 X.2.2.1 X.xc, ?_⟩
  rintro r _ ⟨rfl, rfl⟩
  refine r26_36 ⟨fun q => ?_, fun q => ?_⟩
  · have hf : (sC S).length = 6 := Classical.byContradiction fun e => q (by rw [if_neg e])
    exact ⟨Or.inl rfl, by rw [if_neg (fun z => by rcases z with z | z | z; exact z he; exact hm z; exact z hf)], rfl⟩
  · have hf : ¬ (sC S).length = 6 := fun e => by rw [if_pos e] at q; exact absurd q (by decide)
    exact ⟨Or.inr rfl, by rw [if_pos (Or.inr (Or.inr hf))], rfl⟩
def oMv1 (S : sS) (sn : Nat) (s v : Int32) : sS := if sEls S sn v then stC S (sAdd (sC S) (4 * sLo S sn + s)) else S
def oMv2 (S : sS) (s v : Int32) : sS := stC S (sDrop (sC S) (4 * v + s))
def oMv3 (S : sS) (s v : Int32) : sS := match sFx (pFind 3 v s) (sD S 0) 0 with
  | some k => oEnd S 0 k
  | none => S
def oMv4 (S : sS) (sn : Nat) (v : Int32) : sS := stLo S (upd (sLo S) sn v)
def oMove (S : sS) (sn : Nat) (s v : Int32) : sS := oMv4 (oMv3 (oMv2 (oMv1 S sn s v) s v) s v) sn v
theorem k27 {d : Nat} {h : zH} {w sn : Nat} {S : sS} {v : Int32} (hw : w ≤ 4) (hs : sn < 4) (X : XS h w S) : zD (d + 4) 27 [.inr 3, .inl (nI sn), .inl v] h (fun r h' => r = none ∧ XS h' w (oMove S sn (nI sn) v) ∧ zSame (xA w) h h') := by
  have tail : ∀ (h1 : zH), XS h1 w (oMv1 S sn (nI sn) v) → zSame (xA w) h h1 → zWp zm27 (zD (d + 3)) (fun r h' => r = none ∧ XS h' w (oMove S sn (nI sn) v) ∧ zSame (xA w) h h') 0 0 26 [some (.inr 3), some (.inl (nI sn)), some (.inl v)] [] h1 := by
    intro h1 X1 s1
    obtain ⟨g1, g2, ⟨a1, a2, a3, a4, a5, a6, a7, a8, a9, a10, a11, a12⟩, ⟨b1, b2, b3, b4, b5, b6, b7, b8, b9, b10, b11⟩, g5, t1, c1, q1, n1, ck, ⟨f1, f2, f3, f4⟩, ⟨d1, d2, d3, d4⟩⟩ := X1.all
    refine r27_26 ⟨g1, _, c22, ?_⟩
    rintro r _ ⟨rfl, rfl⟩
    simp only [a6]
    refine r27_35 ⟨c1, _, k46 hw X1, ?_⟩
    rintro r h2 ⟨rfl, X2, s2⟩
    refine r27_38 ?_
    have h0 := Nat.zero_le w
    have g2' := X2.all
    have e12 : zR h2 3 12 = 47 := g2'.2.2.1.2.2.2.2.2.2.2.2.2.2.1
    have k47 : zK h2 47 = 15 := (X2.gd h0).1
    simp only [e12, k47, g2'.1, true_and]
    refine ⟨_, c62 (nC_le 0) (X2.gd h0) (X2.xd h0), ?_⟩
    rintro r _ ⟨rfl, rfl⟩
    refine r27_52 ⟨k47, _, k64 hw h0 X2, ?_⟩
    rintro r h3 ⟨rfl, X3, s3⟩
    rw [sIx_if (X2.dl2 h0) (fun k => oEnd (stC (oMv1 S sn (nI sn) v) (sDrop (sC (oMv1 S sn (nI sn) v)) (4 * v + nI sn))) 0 k)] at X3
    have X3 : XS h3 w (oMv3 (oMv2 (oMv1 S sn (nI sn) v) (nI sn) v) (nI sn) v) := X3
    obtain ⟨g1, g2, ⟨a1, a2, a3, a4, a5, a6, a7, a8, a9, a10, a11, a12⟩, ⟨b1, b2, b3, b4, b5, b6, b7, b8, b9, b10, b11⟩, g5, t1, c1, q1, n1, ck, ⟨f1, f2, f3, f4⟩, ⟨d1, d2, d3, d4⟩⟩ := X3.all
    refine r27_55 ?_
    simp only [g1, g2, a1, a2, a3, a4, a5, a6, a7, a8, a9, a10, a11, a12, b1, b2, b3, b4, b5, b6, b7, b8, b9, b10, b11, t1, c1, q1, n1, ck, f1, f2, f3, f4, d1, d2, d3, d4, true_and, true_or, or_true, forall_eq, nI_clamp (show sn < 2 ^ 31 by omega)]
    exact ⟨vp_in_nI hs (by decide), X3.Lo hw, ((s1.tr s2).tr s3).tr (zSame.wI (by unfold xA; omega))⟩
  obtain ⟨g1, g2, ⟨a1, a2, a3, a4, a5, a6, a7, a8, a9, a10, a11, a12⟩, ⟨b1, b2, b3, b4, b5, b6, b7, b8, b9, b10, b11⟩, g5, t1, c1, q1, n1, ck, ⟨f1, f2, f3, f4⟩, ⟨d1, d2, d3, d4⟩⟩ := X.all
  refine zD_of rfl (r27_0 ⟨g1, _, k25 hs X, ?_⟩)
  rintro r _ ⟨rfl, rfl⟩
  refine r27_6 ⟨fun q => ?_, fun q => ?_⟩
  · have he : ¬ sEls S sn v := fun e => by rw [if_pos e] at q; exact absurd q (by decide)
    exact tail h (by unfold oMv1; rw [if_neg he]; exact X) zSame.rf
  have he : sEls S sn v := Classical.byContradiction fun e => q (by rw [if_neg e])
  simp only [g1, g2, a1, a2, a3, a4, a5, a6, a7, a8, a9, a10, a11, a12, b1, b2, b3, b4, b5, b6, b7, b8, b9, b10, b11, t1, c1, q1, n1, ck, f1, f2, f3, f4, d1, d2, d3, d4, true_and, true_or, or_true, nI_clamp (show sn < 2 ^ 31 by omega), X.lo hs]
  refine ⟨vp_in_nI hs (by decide), _, c22, ?_⟩
  rintro r _ ⟨rfl, rfl⟩
  refine r27_23 ⟨c1, _, k45 hw X, ?_⟩
  rintro r h1 ⟨rfl, X1, s1⟩
  exact tail h1 (by unfold oMv1; rw [if_pos he]; exact X1) s1
def oAbort (S : sS) (f : Nat → Int32) : sS := oSend S (sRow [f 1, f 0, 40, 0, 0, f 4, 0])
theorem k33 {d : Nat} {h : zH} {w : Nat} {S : sS} {f : Nat → Int32} (hw : w ≤ 4) (X : XS h w S) (hf : ∀ i, i < 7 → zI h 41 i = f i) : zD (d + 3) 33 [.inr 3, .inr 41] h (fun r h' => r = none ∧ XS h' w (oAbort S f) ∧ zSame (xA w) h h') := by
  obtain ⟨g1, g2, ⟨a1, a2, a3, a4, a5, a6, a7, a8, a9, a10, a11, a12⟩, ⟨b1, b2, b3, b4, b5, b6, b7, b8, b9, b10, b11⟩, g5, t1, c1, q1, n1, ck, ⟨f1, f2, f3, f4⟩, ⟨d1, d2, d3, d4⟩⟩ := X.all
  refine zD_of rfl (r33_0 ?_)
  simp only [g1, g2, a1, a2, a3, a4, a5, a6, a7, a8, a9, a10, a11, a12, b1, b2, b3, b4, b5, b6, b7, b8, b9, b10, b11, t1, c1, q1, n1, ck, f1, f2, f3, f4, d1, d2, d3, d4, true_and, true_or, or_true, hf 0 (by decide), hf 1 (by decide), hf 4 (by decide)]
  refine ⟨_, k71 hw X, ?_⟩
  rintro r h1 ⟨rfl, X1, s1⟩
  exact r33_24 ⟨rfl, X1, s1⟩
def oUpd (S : sS) (sn : Nat) (f : Nat → Int32) : sS := if (sFx (pUpd (f 0) (f 4)) (sD S 0) 0).isSome then S else if (sD S 0).length = 4 ∨ ¬ sMay S sn (f 3) (f 0) then oAbort S f else
  oSend (oBegin (oMove S sn (f 3) (f 0)) 0 2 (f 0) (f 3) (sClk S + 6) (f 4)) (sRow [0, f 0, 22, f 3, sL S 0 + 1, f 4, 0])
theorem oMove_len {S : sS} {sn : Nat} {s v : Int32} : (sD (oMove S sn s v) 0).length ≤ (sD S 0).length ∧ sL (oMove S sn s v) = sL S ∧ sClk (oMove S sn s v) = sClk S := by
  have e1 : sD (oMv2 (oMv1 S sn s v) s v) 0 = sD S 0 ∧ sL (oMv2 (oMv1 S sn s v) s v) = sL S ∧ sClk (oMv2 (oMv1 S sn s v) s v) = sClk S := by
    unfold oMv1; split <;> exact ⟨rfl, rfl, rfl⟩
  have e3 : ∀ S2 : sS, (sD (oMv3 S2 s v) 0).length ≤ (sD S2 0).length ∧ sL (oMv3 S2 s v) = sL S2 ∧ sClk (oMv3 S2 s v) = sClk S2 := by
    intro S2
    unfold oMv3
    split
    · rename_i k hk
      refine ⟨?_, rfl, rfl⟩
      show (updD (sD S2) 0 ((sD S2 0).eraseIdx k) 0).length ≤ _
      unfold updD; rw [if_pos rfl]
      exact List.length_eraseIdx_le _ _
    · exact ⟨Nat.le_refl _, rfl, rfl⟩
  have := e3 (oMv2 (oMv1 S sn s v) s v)
  rw [e1.1, e1.2.1, e1.2.2] at this
  exact this
theorem k24 {d : Nat} {h : zH} {w sn : Nat} {S : sS} {f : Nat → Int32} (hw : w ≤ 4) (hs : sn < 4) (X : XS h w S) (hf : ∀ i, i < 7 → zI h 41 i = f i) (hfs : f 3 = nI sn) : zD (d + 5) 24 [.inr 3, .inr 41] h (fun r h' => r = none ∧ XS h' w (oUpd S sn f) ∧ zSame (xA w) h h') := by
  have h0 := Nat.zero_le w
  obtain ⟨g1, g2, ⟨a1, a2, a3, a4, a5, a6, a7, a8, a9, a10, a11, a12⟩, ⟨b1, b2, b3, b4, b5, b6, b7, b8, b9, b10, b11⟩, g5, t1, c1, q1, n1, ck, ⟨f1, f2, f3, f4⟩, ⟨d1, d2, d3, d4⟩⟩ := X.all
  refine zD_of rfl (r24_0 ?_)
  simp only [g1, g2, a1, a2, a3, a4, a5, a6, a7, a8, a9, a10, a11, a12, b1, b2, b3, b4, b5, b6, b7, b8, b9, b10, b11, t1, c1, q1, n1, ck, f1, f2, f3, f4, d1, d2, d3, d4, true_and, true_or, or_true, hf 0 (by decide), hf 4 (by decide), hf 3 (by decide)]
  refine ⟨_, c63 (nC_le 0) (X.gd h0) (X.xd h0), ?_⟩
  rintro r _ ⟨rfl, rfl⟩
  refine r24_22 ⟨fun q => ?_, fun q => ?_⟩
  rotate_left
  · have hn : ¬ sFx (pUpd (f 0) (f 4)) (sD S 0) 0 = none := fun e => q ((sIx_neg (X.dl2 h0)).mpr e)
    obtain ⟨k, hk⟩ := Option.ne_none_iff_exists'.mp hn
    exact ⟨rfl, by unfold oUpd; rw [hk, if_pos (show (some k).isSome = true from rfl)]; exact X, zSame.rf⟩
  have hn := (sIx_neg (X.dl2 h0)).mp q
  simp only [g1, g2, a1, a2, a3, a4, a5, a6, a7, a8, a9, a10, a11, a12, b1, b2, b3, b4, b5, b6, b7, b8, b9, b10, b11, t1, c1, q1, n1, ck, f1, f2, f3, f4, d1, d2, d3, d4, true_and, true_or, or_true]
  refine ⟨_, c59 (nC_le 0) (X.gd h0) (X.xd h0), ?_⟩
  rintro r _ ⟨rfl, rfl⟩
  have hab : (sD S 0).length = 4 ∨ ¬ sMay S sn (f 3) (f 0) → zD (d + 4) 33 [.inr 3, .inr 41] h (fun r h' => r = none ∧ XS h' w (oUpd S sn f) ∧ zSame (xA w) h h') := by
    intro hc
    unfold oUpd
    rw [hn, if_neg (by decide), if_pos hc]
    exact k33 hw X hf
  refine r24_34 ⟨fun q2 => ?_, fun q2 => ?_⟩
  · have hl : (sD S 0).length = 4 := Classical.byContradiction fun e => q2 (by rw [show nC 0 = 4 from rfl, if_neg e])
    refine ⟨g1, _, hab (Or.inl hl), ?_⟩
    rintro r h1 ⟨rfl, X1, s1⟩
    exact r24_51 ⟨rfl, X1, s1⟩
  have hl : ¬ (sD S 0).length = 4 := fun e => by rw [show nC 0 = 4 from rfl, if_pos e] at q2; exact absurd q2 (by decide)
  rw [hfs]
  refine ⟨g1, _, k26 hs X, ?_⟩
  rintro r _ ⟨rfl, rfl⟩
  refine r24_43 ⟨fun q3 => ?_, fun q3 => ?_⟩
  rotate_left
  · have hm : ¬ sMay S sn (nI sn) (f 0) := fun e => by rw [if_pos e] at q3; exact absurd q3 (by decide)
    refine ⟨g1, _, hab (Or.inr (by rw [hfs]; exact hm)), ?_⟩
    rintro r h1 ⟨rfl, X1, s1⟩
    exact r24_51 ⟨rfl, X1, s1⟩
  have hm : sMay S sn (nI sn) (f 0) := Classical.byContradiction fun e => q3 (by rw [if_neg e])
  refine ⟨g1, _, k27 hw hs X, ?_⟩
  rintro r h1 ⟨rfl, X1, s1⟩
  have hf1 := s41 s1 hf
  obtain ⟨m1, m2, m3⟩ := oMove_len (S := S) (sn := sn) (s := nI sn) (v := f 0)
  obtain ⟨g1, g2, ⟨a1, a2, a3, a4, a5, a6, a7, a8, a9, a10, a11, a12⟩, ⟨b1, b2, b3, b4, b5, b6, b7, b8, b9, b10, b11⟩, g5, t1, c1, q1, n1, ck, ⟨f1, f2, f3, f4⟩, ⟨d1, d2, d3, d4⟩⟩ := X1.all
  rw [m3] at ck
  refine r24_58 ?_
  simp only [g1, g2, a1, a2, a3, a4, a5, a6, a7, a8, a9, a10, a11, a12, b1, b2, b3, b4, b5, b6, b7, b8, b9, b10, b11, t1, c1, q1, n1, ck, f1, f2, f3, f4, d1, d2, d3, d4, true_and, true_or, or_true, hf1 4 (by decide)]
  have hl4 := X.dl h0
  rw [show nC 0 = 4 from rfl] at hl4
  refine ⟨_, k60 hw h0 X1 (by rw [show nC 0 = 4 from rfl]; omega), ?_⟩
  rintro r h2 ⟨rfl, X2, s2⟩
  have hf2 := s41 s2 hf1
  obtain ⟨g1, g2, ⟨a1, a2, a3, a4, a5, a6, a7, a8, a9, a10, a11, a12⟩, ⟨b1, b2, b3, b4, b5, b6, b7, b8, b9, b10, b11⟩, g5, t1, c1, q1, n1, ck, ⟨f1, f2, f3, f4⟩, ⟨d1, d2, d3, d4⟩⟩ := X2.all
  refine r24_79 ?_
  simp only [g1, g2, a1, a2, a3, a4, a5, a6, a7, a8, a9, a10, a11, a12, b1, b2, b3, b4, b5, b6, b7, b8, b9, b10, b11, t1, c1, q1, n1, ck, f1, f2, f3, f4, d1, d2, d3, d4, true_and, true_or, or_true, hf2 4 (by decide)]
  refine ⟨_, k71 hw X2, ?_⟩
  rintro r h3 ⟨rfl, X3, s3⟩
  refine r24_100 ⟨rfl, ?_, (s1.tr s2).tr s3⟩
  unfold oUpd
  rw [hn, if_neg (by decide), if_neg (by rw [hfs]; exact fun z => z.elim hl (fun z => z hm)), hfs]
  rw [m2] at X3
  exact X3
