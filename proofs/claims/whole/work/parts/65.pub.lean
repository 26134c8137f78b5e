/-! ===== the public calls ===== -/
def xB (w : Nat) : Nat → Prop := fun q => 3 ≤ q ∧ q < 54 + 4 * w
theorem xAB {w : Nat} {h h' : zH} (s : zSame (xA w) h h') : zSame (xB w) h h' := s.wd (fun q hq => ⟨hq.1, hq.2.2⟩)
def oRecv (S : sS) (f : Nat → Int32) : sS := if f 2 = 11 then oUpd S (f 3).toNatClampNeg f else if f 2 = 13 then oCan S (f 1).toNatClampNeg (f 3).toNatClampNeg f else if f 2 = 14 then oPro S (f 1).toNatClampNeg (f 3).toNatClampNeg f else if f 2 = 22 then oIns S (f 1).toNatClampNeg (f 3).toNatClampNeg f else oLst S (f 1).toNatClampNeg f
theorem t11 {x : Int32} {n : Nat} (hn : n < 2 ^ 31) : x.toInt = (n : Int) ↔ x = nI n := ⟨i32_of hn, fun e => by rw [e, nI_toInt hn]⟩
theorem k23 {d : Nat} {h : zH} {w rn sn : Nat} {S : sS} {f : Nat → Int32} (hw : w ≤ 4) (hr : rn ≤ w) (hs : sn < 4) (X : XS h w S) (ok : okD w S) (oq : okQ (sQ S)) (hf : ∀ i, i < 7 → zI h 41 i = f i) (hfr : f 1 = nI rn) (hfs : f 3 = nI sn) : zD (d + 6) 23 [.inr 3, .inr 41] h (fun r h' => r = none ∧ XS h' w (oRecv S f) ∧ zSame (xA w) h h') := by
  have er : (f 1).toNatClampNeg = rn := by rw [hfr, nI_clamp (by omega)]
  have es : (f 3).toNatClampNeg = sn := by rw [hfs, nI_clamp (by omega)]
  have eR : oRecv S f = if f 2 = 11 then oUpd S sn f else if f 2 = 13 then oCan S rn sn f else if f 2 = 14 then oPro S rn sn f else if f 2 = 22 then oIns S rn sn f else oLst S rn f := by unfold oRecv; rw [er, es]
  rw [eR]
  obtain ⟨g1, g2, ⟨a1, a2, a3, a4, a5, a6, a7, a8, a9, a10, a11, a12⟩, ⟨b1, b2, b3, b4, b5, b6, b7, b8, b9, b10, b11⟩, g5, t1, c1, q1, n1, ck, ⟨f1, f2, f3, f4⟩, ⟨d1, d2, d3, d4⟩⟩ := X.all
  refine zD_of rfl (r23_0 ?_)
  simp only [g1, g2, a1, a2, a3, a4, a5, a6, a7, a8, a9, a10, a11, a12, b1, b2, b3, b4, b5, b6, b7, b8, b9, b10, b11, t1, c1, q1, n1, ck, f1, f2, f3, f4, d1, d2, d3, d4, true_and, true_or, or_true, hf 2 (by decide)]
  have n11 : (f 2).toInt = 11 ↔ f 2 = 11 := t11 (n := 11) (by decide)
  have n13 : (f 2).toInt = 13 ↔ f 2 = 13 := t11 (n := 13) (by decide)
  have n14 : (f 2).toInt = 14 ↔ f 2 = 14 := t11 (n := 14) (by decide)
  have n22 : (f 2).toInt = 22 ↔ f 2 = 22 := t11 (n := 22) (by decide)
  simp only [n11, n13, n14, n22]
  refine ⟨fun q => ⟨_, k24 hw hs X hf hfs, ?_⟩, fun q => ⟨fun q2 => ⟨_, k29 hw hr hs X hf hfr hfs, ?_⟩, fun q2 => ⟨fun q3 => ⟨_, k30 hw hr hs X hf hfr hfs, ?_⟩, fun q3 => ⟨fun q4 => ⟨_, k28 hw hr hs X hf hfr hfs, ?_⟩, fun q4 => ⟨_, k31 hw hr X ok oq hf hfr, ?_⟩⟩⟩⟩⟩
  · rintro r h1 ⟨rfl, X1, s1⟩
    exact r23_53 (r23_85 ⟨rfl, by rw [if_pos q]; exact X1, s1⟩)
  · rintro r h1 ⟨rfl, X1, s1⟩
    exact r23_61 (r23_85 ⟨rfl, by rw [if_neg q, if_pos q2]; exact X1, s1⟩)
  · rintro r h1 ⟨rfl, X1, s1⟩
    exact r23_69 (r23_85 ⟨rfl, by rw [if_neg q, if_neg q2, if_pos q3]; exact X1, s1⟩)
  · rintro r h1 ⟨rfl, X1, s1⟩
    exact r23_77 (r23_85 ⟨rfl, by rw [if_neg q, if_neg q2, if_neg q3, if_pos q4]; exact X1, s1⟩)
  · rintro r h1 ⟨rfl, X1, s1⟩
    exact r23_85 ⟨rfl, by rw [if_neg q, if_neg q2, if_neg q3, if_neg q4]; exact X1, s1⟩
theorem XS.fl {h : zH} {w : Nat} {S : sS} (X : XS h w S) : (sF S).length ≤ 24 := X.xf.1
/-- which place of a list an int is, and what stands there -/
def lx {α : Type} (L : List α) (i : Int32) : Option (Nat × α) := match ix L.length i with
  | some k => (L[k]?).map (fun x => (k, x))
  | none => none
theorem lx_some {α : Type} {L : List α} {i : Int32} {k : Nat} {x : α} (h : lx L i = some (k, x)) : i = nI k ∧ L[k]? = some x := by
  unfold lx at h
  cases hi : ix L.length i with
  | none => rw [hi] at h; cases h
  | some j =>
    rw [hi] at h
    obtain ⟨hj, e⟩ := ix_some hi
    obtain ⟨y, hy⟩ := at_lt hj
    have h : (L[j]?).map (fun x => (j, x)) = some (k, x) := h
    rw [hy] at h
    cases h
    exact ⟨e, hy⟩
theorem lx_none {α : Type} {L : List α} {i : Int32} (h : lx L i = none) : ix L.length i = none := by
  unfold lx at h
  cases hi : ix L.length i with
  | none => rfl
  | some j =>
    rw [hi] at h
    obtain ⟨hj, e⟩ := ix_some hi
    obtain ⟨y, hy⟩ := at_lt hj
    have h : (L[j]?).map (fun x => (j, x)) = none := h
    rw [hy] at h
    cases h
theorem lx_nI {α : Type} {L : List α} {k : Nat} {x : α} (hl : L.length ≤ 2 ^ 31) (h : L[k]? = some x) : lx L (nI k) = some (k, x) := by
  unfold lx
  rw [ix_nI hl (lt_at h)]
  show (L[k]?).map _ = _
  rw [h]; rfl
theorem c69x {d : Nat} {h : zH} {F : List (Nat → Int32)} {i : Int32} (g : gW h 15 19 18 17 24) (x : xW h 15 24 7 F) : zD (d + 1) 69 [.inr 15, .inl i] h (fun v h' => v = some (.inl (if (lx F i).isSome then 1 else 0)) ∧ h = h') := by
  refine zD.mono ?_ (c69 g x)
  rintro v h' ⟨rfl, e⟩
  refine ⟨?_, e⟩
  congr 2
  have hl := x.1
  cases hx : lx F i with
  | none =>
    have hn := lx_none hx
    rw [if_neg (fun z => ?_)]; rfl
    obtain ⟨n, hn2, rfl⟩ := nI_of (by rw [Int32.not_lt]; exact z.1)
    rw [nI_clamp hn2] at z
    exact ix_none (by omega) hn z.2 rfl
  | some p =>
    obtain ⟨k, y⟩ := p
    obtain ⟨rfl, hy⟩ := lx_some hx
    have := lt_at hy
    rw [if_pos ⟨nI_pos' (by omega), by rw [nI_clamp (by omega)]; exact this⟩]; rfl
def oDeliver (S : sS) (i : Int32) : Int32 × sS := match lx (sF S) i with
  | some (k, f) => (f 2, oRecv (stF S ((sF S).eraseIdx k)) f)
  | none => (-9, S)
/-- every datagram has a receiver and is about a subscriber -/
def okF (w : Nat) (S : sS) : Prop := ∀ f ∈ sF S, (∃ rn : Nat, rn ≤ w ∧ f 1 = nI rn) ∧ ∃ sn : Nat, sn < 4 ∧ f 3 = nI sn
theorem k6 {d : Nat} {h : zH} {w : Nat} {S : sS} {i : Int32} (hw : w ≤ 4) (X : XS h w S) (ok : okD w S) (oq : okQ (sQ S)) (of : okF w S) : zD (d + 7) 6 [.inr 3, .inl i] h (fun r h' => r = some (.inl (oDeliver S i).1) ∧ XS h' w (oDeliver S i).2 ∧ zSame (xB w) h h') := by
  have hl := X.fl
  obtain ⟨g1, g2, ⟨a1, a2, a3, a4, a5, a6, a7, a8, a9, a10, a11, a12⟩, ⟨b1, b2, b3, b4, b5, b6, b7, b8, b9, b10, b11⟩, g5, t1, c1, q1, n1, ck, ⟨f1, f2, f3, f4⟩, ⟨d1, d2, d3, d4⟩⟩ := X.all
  refine zD_of rfl (r6_0 ?_)
  simp only [g1, g2, a1, a2, a3, a4, a5, a6, a7, a8, a9, a10, a11, a12, b1, b2, b3, b4, b5, b6, b7, b8, b9, b10, b11, t1, c1, q1, n1, ck, f1, f2, f3, f4, d1, d2, d3, d4, true_and, true_or, or_true]
  refine ⟨_, c69x X.gf X.xf, ?_⟩
  rintro r _ ⟨rfl, rfl⟩
  refine r6_8 ⟨fun q => ?_, fun q => ?_⟩
  rotate_left
  · have hn := is0 q
    unfold oDeliver; rw [hn]
    exact ⟨rfl, X, zSame.rf⟩
  obtain ⟨⟨k, f⟩, hx⟩ := is1 q
  obtain ⟨rfl, hf⟩ := lx_some hx
  have hk := lt_at hf
  have er : zK h (zR h 16 k) = 17 := X.gf.row (show k < 24 by omega)
  have ein := X.gf.2.2.2.2.2.1 k (by omega)
  have ein2 : 17 ≤ zR h 16 k ∧ zR h 16 k < 41 := ein
  have ne41 : zR h 16 k ≠ 41 := by omega
  have exf : ∀ j, j < 7 → zI h (zR h 16 k) j = f j := X.xf.2.2 k f hf
  unfold oDeliver; rw [hx]
  simp only [g1, g2, a1, a2, a3, a4, a5, a6, a7, a8, a9, a10, a11, a12, b1, b2, b3, b4, b5, b6, b7, b8, b9, b10, b11, t1, c1, q1, n1, ck, f1, f2, f3, f4, d1, d2, d3, d4, true_and, true_or, or_true, nI_clamp (show k < 2 ^ 31 by omega)]
  refine ⟨vp_in_nI (by omega) (by omega), _, c66 b9 er ne41, ?_⟩
  rintro r h1 ⟨rfl, y1, y2, y3, s1⟩
  have X1 := X.arr hw s1
  have hf1 : ∀ j, j < 7 → zI h1 41 j = f j := fun j hj => (y1 j hj).trans (exf j hj)
  obtain ⟨g1, g2, ⟨a1, a2, a3, a4, a5, a6, a7, a8, a9, a10, a11, a12⟩, ⟨b1, b2, b3, b4, b5, b6, b7, b8, b9, b10, b11⟩, g5, t1, c1, q1, n1, ck, ⟨f1, f2, f3, f4⟩, ⟨d1, d2, d3, d4⟩⟩ := X1.all
  refine r6_30 ?_
  simp only [g1, g2, a1, a2, a3, a4, a5, a6, a7, a8, a9, a10, a11, a12, b1, b2, b3, b4, b5, b6, b7, b8, b9, b10, b11, t1, c1, q1, n1, ck, f1, f2, f3, f4, d1, d2, d3, d4, true_and, true_or, or_true]
  refine ⟨_, k73 hw X1 hk, ?_⟩
  rintro r h2 ⟨rfl, X2, s2⟩
  have hf2 : ∀ j, j < 7 → zI h2 41 j = f j := fun j hj => (s2.2.2.2 41 (by omega) j).1.trans (hf1 j hj)
  obtain ⟨⟨rn, hr, hfr⟩, sn, hs, hfs⟩ := of f (List.mem_of_getElem? hf)
  obtain ⟨g1, g2, ⟨a1, a2, a3, a4, a5, a6, a7, a8, a9, a10, a11, a12⟩, ⟨b1, b2, b3, b4, b5, b6, b7, b8, b9, b10, b11⟩, g5, t1, c1, q1, n1, ck, ⟨f1, f2, f3, f4⟩, ⟨d1, d2, d3, d4⟩⟩ := X2.all
  refine r6_38 ?_
  simp only [g1, g2, a1, a2, a3, a4, a5, a6, a7, a8, a9, a10, a11, a12, b1, b2, b3, b4, b5, b6, b7, b8, b9, b10, b11, t1, c1, q1, n1, ck, f1, f2, f3, f4, d1, d2, d3, d4, true_and, true_or, or_true]
  refine ⟨_, k23 hw hr hs X2 ok oq hf2 hfr hfs, ?_⟩
  rintro r h3 ⟨rfl, X3, s3⟩
  have hf3 := s41 s3 hf2
  obtain ⟨g1, g2, ⟨a1, a2, a3, a4, a5, a6, a7, a8, a9, a10, a11, a12⟩, ⟨b1, b2, b3, b4, b5, b6, b7, b8, b9, b10, b11⟩, g5, t1, c1, q1, n1, ck, ⟨f1, f2, f3, f4⟩, ⟨d1, d2, d3, d4⟩⟩ := X3.all
  refine r6_46 ?_
  simp only [g1, g2, a1, a2, a3, a4, a5, a6, a7, a8, a9, a10, a11, a12, b1, b2, b3, b4, b5, b6, b7, b8, b9, b10, b11, t1, c1, q1, n1, ck, f1, f2, f3, f4, d1, d2, d3, d4, true_and, true_or, or_true, hf3 2 (by decide)]
  exact ⟨X3, ((s1.wd (fun q hq => by subst hq; unfold xB; omega)).tr (s2.wd (fun q hq => by unfold xB; omega))).tr (xAB s3)⟩
def oLose (S : sS) (i : Int32) : Int32 × sS := match lx (sF S) i with
  | some (k, _) => (1, stF S ((sF S).eraseIdx k))
  | none => (0, S)
theorem k7 {d : Nat} {h : zH} {w : Nat} {S : sS} {i : Int32} (hw : w ≤ 4) (X : XS h w S) : zD (d + 2) 7 [.inr 3, .inl i] h (fun r h' => r = some (.inl (oLose S i).1) ∧ XS h' w (oLose S i).2 ∧ zSame (xB w) h h') := by
  obtain ⟨g1, g2, ⟨a1, a2, a3, a4, a5, a6, a7, a8, a9, a10, a11, a12⟩, ⟨b1, b2, b3, b4, b5, b6, b7, b8, b9, b10, b11⟩, g5, t1, c1, q1, n1, ck, ⟨f1, f2, f3, f4⟩, ⟨d1, d2, d3, d4⟩⟩ := X.all
  refine zD_of rfl (r7_0 ?_)
  simp only [g1, g2, a1, a2, a3, a4, a5, a6, a7, a8, a9, a10, a11, a12, b1, b2, b3, b4, b5, b6, b7, b8, b9, b10, b11, t1, c1, q1, n1, ck, f1, f2, f3, f4, d1, d2, d3, d4, true_and, true_or, or_true]
  refine ⟨_, c69x X.gf X.xf, ?_⟩
  rintro r _ ⟨rfl, rfl⟩
  refine r7_8 ⟨fun q => ?_, fun q => ?_⟩
  rotate_left
  · unfold oLose; rw [is0 q]; exact ⟨Or.inl rfl, rfl, X, zSame.rf⟩
  obtain ⟨⟨k, f⟩, hx⟩ := is1 q
  obtain ⟨rfl, hf⟩ := lx_some hx
  unfold oLose; rw [hx]
  simp only [g1, g2, a1, a2, a3, a4, a5, a6, a7, a8, a9, a10, a11, a12, b1, b2, b3, b4, b5, b6, b7, b8, b9, b10, b11, t1, c1, q1, n1, ck, f1, f2, f3, f4, d1, d2, d3, d4, true_and, true_or, or_true]
  refine ⟨_, k73 hw X (lt_at hf), ?_⟩
  rintro r h2 ⟨rfl, X2, s2⟩
  exact r7_21 ⟨Or.inr rfl, rfl, X2, s2.wd (fun q hq => by unfold xB; omega)⟩
def oCopy (S : sS) (i : Int32) : Int32 × sS := match lx (sF S) i with
  | some (_, f) => if (sF S).length = 24 then (0, S) else (1, stF S (sF S ++ [f]))
  | none => (0, S)
theorem k8 {d : Nat} {h : zH} {w : Nat} {S : sS} {i : Int32} (hw : w ≤ 4) (X : XS h w S) : zD (d + 3) 8 [.inr 3, .inl i] h (fun r h' => r = some (.inl (oCopy S i).1) ∧ XS h' w (oCopy S i).2 ∧ zSame (xB w) h h') := by
  have hl := X.fl
  obtain ⟨g1, g2, ⟨a1, a2, a3, a4, a5, a6, a7, a8, a9, a10, a11, a12⟩, ⟨b1, b2, b3, b4, b5, b6, b7, b8, b9, b10, b11⟩, g5, t1, c1, q1, n1, ck, ⟨f1, f2, f3, f4⟩, ⟨d1, d2, d3, d4⟩⟩ := X.all
  refine zD_of rfl (r8_0 ?_)
  simp only [g1, g2, a1, a2, a3, a4, a5, a6, a7, a8, a9, a10, a11, a12, b1, b2, b3, b4, b5, b6, b7, b8, b9, b10, b11, t1, c1, q1, n1, ck, f1, f2, f3, f4, d1, d2, d3, d4, true_and, true_or, or_true]
  refine ⟨_, c69x X.gf X.xf, ?_⟩
  rintro r _ ⟨rfl, rfl⟩
  refine r8_8 ⟨fun q => ?_, fun q => ?_⟩
  · unfold oCopy; rw [is0 q]; exact ⟨Or.inl rfl, rfl, X, zSame.rf⟩
  obtain ⟨⟨k, f⟩, hx⟩ := is1 q
  obtain ⟨rfl, hf⟩ := lx_some hx
  unfold oCopy; rw [hx]
  simp only [g1, g2, a1, a2, a3, a4, a5, a6, a7, a8, a9, a10, a11, a12, b1, b2, b3, b4, b5, b6, b7, b8, b9, b10, b11, t1, c1, q1, n1, ck, f1, f2, f3, f4, d1, d2, d3, d4, true_and, true_or, or_true]
  refine ⟨_, c70 X.gf X.xf, ?_⟩
  rintro r _ ⟨rfl, rfl⟩
  refine r8_18 ⟨fun q => ?_, fun q => ?_⟩
  · have h24 : ¬ (sF S).length = 24 := fun e => by rw [if_pos e] at q; exact absurd q (by decide)
    rw [if_neg h24]
    simp only [g1, g2, a1, a2, a3, a4, a5, a6, a7, a8, a9, a10, a11, a12, b1, b2, b3, b4, b5, b6, b7, b8, b9, b10, b11, t1, c1, q1, n1, ck, f1, f2, f3, f4, d1, d2, d3, d4, true_and, true_or, or_true]
    refine ⟨_, k72 hw X hf (by omega), ?_⟩
    rintro r h2 ⟨rfl, X2, s2⟩
    exact r8_31 ⟨Or.inr rfl, rfl, X2, xAB s2⟩
  · have h24 : (sF S).length = 24 := Classical.byContradiction fun e => q (by rw [if_neg e])
    rw [if_pos h24]
    exact ⟨Or.inl rfl, rfl, X, zSame.rf⟩
theorem k9 {d : Nat} {h : zH} {w : Nat} {S : sS} (X : XS h w S) : zD (d + 1) 9 [.inr 3] h (fun r h' => r = some (.inl (nI (sF S).length)) ∧ XS h' w S ∧ zSame (xB w) h h') := by
  obtain ⟨g1, g2, ⟨a1, a2, a3, a4, a5, a6, a7, a8, a9, a10, a11, a12⟩, ⟨b1, b2, b3, b4, b5, b6, b7, b8, b9, b10, b11⟩, g5, t1, c1, q1, n1, ck, ⟨f1, f2, f3, f4⟩, ⟨d1, d2, d3, d4⟩⟩ := X.all
  refine zD_of rfl (r9_0 ?_)
  simp only [g1, g2, a1, a2, a3, a4, a5, a6, a7, a8, a9, a10, a11, a12, b1, b2, b3, b4, b5, b6, b7, b8, b9, b10, b11, t1, c1, q1, n1, ck, f1, f2, f3, f4, d1, d2, d3, d4, true_and, true_or, or_true, X.xf.2.1]
  exact ⟨X, zSame.rf⟩
def oDgram (S : sS) (i j : Int32) : Int32 := match lx (sF S) i with
  | some (_, f) => sPart f j
  | none => -9
theorem sPart_eq {f g : Nat → Int32} {j : Int32} (h : ∀ i, i < 7 → f i = g i) : sPart f j = sPart g j := by
  unfold sPart; rw [h 0 (by decide), h 1 (by decide), h 2 (by decide), h 3 (by decide), h 4 (by decide), h 5 (by decide), h 6 (by decide)]
theorem k10 {d : Nat} {h : zH} {w : Nat} {S : sS} {i j : Int32} (X : XS h w S) : zD (d + 2) 10 [.inr 3, .inl i, .inl j] h (fun r h' => r = some (.inl (oDgram S i j)) ∧ XS h' w S ∧ zSame (xB w) h h') := by
  have hl := X.fl
  obtain ⟨g1, g2, ⟨a1, a2, a3, a4, a5, a6, a7, a8, a9, a10, a11, a12⟩, ⟨b1, b2, b3, b4, b5, b6, b7, b8, b9, b10, b11⟩, g5, t1, c1, q1, n1, ck, ⟨f1, f2, f3, f4⟩, ⟨d1, d2, d3, d4⟩⟩ := X.all
  refine zD_of rfl (r10_0 ?_)
  simp only [g1, g2, a1, a2, a3, a4, a5, a6, a7, a8, a9, a10, a11, a12, b1, b2, b3, b4, b5, b6, b7, b8, b9, b10, b11, t1, c1, q1, n1, ck, f1, f2, f3, f4, d1, d2, d3, d4, true_and, true_or, or_true]
  refine ⟨_, c69x X.gf X.xf, ?_⟩
  rintro r _ ⟨rfl, rfl⟩
  refine r10_8 ⟨fun q => ?_, fun q => ?_⟩
  · unfold oDgram; rw [is0 q]; exact ⟨rfl, X, zSame.rf⟩
  obtain ⟨⟨k, f⟩, hx⟩ := is1 q
  obtain ⟨rfl, hf⟩ := lx_some hx
  have hk := lt_at hf
  have er : zK h (zR h 16 k) = 17 := X.gf.row (show k < 24 by omega)
  have exf : ∀ j, j < 7 → zI h (zR h 16 k) j = f j := X.xf.2.2 k f hf
  unfold oDgram; rw [hx]
  simp only [g1, g2, a1, a2, a3, a4, a5, a6, a7, a8, a9, a10, a11, a12, b1, b2, b3, b4, b5, b6, b7, b8, b9, b10, b11, t1, c1, q1, n1, ck, f1, f2, f3, f4, d1, d2, d3, d4, true_and, true_or, or_true, nI_clamp (show k < 2 ^ 31 by omega), er]
  refine ⟨vp_in_nI (by omega) (by omega), _, c67 er, ?_⟩
  rintro r _ ⟨rfl, rfl⟩
  exact r10_24 ⟨by rw [sPart_eq exf], X, zSame.rf⟩
def oHolds (w : Nat) (S : sS) (v s : Int32) : Int32 := match iv w v, ix 4 s with
  | some a, some b => if sHe S (4 * a + b) = 0 then 0 else 1
  | _, _ => 0
theorem k12 {d : Nat} {h : zH} {w : Nat} {S : sS} {v s : Int32} (hw : w ≤ 4) (X : XS h w S) : zD (d + 2) 12 [.inr 3, .inl v, .inl s] h (fun r h' => r = some (.inl (oHolds w S v s)) ∧ XS h' w S ∧ zSame (xB w) h h') := by
  obtain ⟨g1, g2, ⟨a1, a2, a3, a4, a5, a6, a7, a8, a9, a10, a11, a12⟩, ⟨b1, b2, b3, b4, b5, b6, b7, b8, b9, b10, b11⟩, g5, t1, c1, q1, n1, ck, ⟨f1, f2, f3, f4⟩, ⟨d1, d2, d3, d4⟩⟩ := X.all
  refine zD_of rfl (r12_0 ⟨g1, _, c20 hw X, ?_⟩)
  rintro r _ ⟨rfl, rfl⟩
  refine r12_5 ⟨fun q => ?_, fun q => ⟨_, c21, ?_⟩⟩
  · unfold oHolds; rw [is0 q]; exact ⟨Or.inl rfl, rfl, X, zSame.rf⟩
  obtain ⟨a, ha⟩ := is1 q
  obtain ⟨a1', a2', rfl⟩ := iv_some ha
  rintro r _ ⟨rfl, rfl⟩
  refine r12_12 ⟨fun q => ?_, fun q => ?_⟩
  · unfold oHolds; rw [ha, is0 q]; exact ⟨Or.inl rfl, rfl, X, zSame.rf⟩
  obtain ⟨b, hb⟩ := is1 q
  obtain ⟨hb4, rfl⟩ := ix_some hb
  simp only [g1, g2, a1, a2, a3, a4, a5, a6, a7, a8, a9, a10, a11, a12, b1, b2, b3, b4, b5, b6, b7, b8, b9, b10, b11, t1, c1, q1, n1, ck, f1, f2, f3, f4, d1, d2, d3, d4, true_and, true_or, or_true]
  refine ⟨_, c22, ?_⟩
  rintro r _ ⟨rfl, rfl⟩
  rw [e4x a b]
  refine r12_24 ?_
  simp only [g1, g2, a1, a2, a3, a4, a5, a6, a7, a8, a9, a10, a11, a12, b1, b2, b3, b4, b5, b6, b7, b8, b9, b10, b11, t1, c1, q1, n1, ck, f1, f2, f3, f4, d1, d2, d3, d4, true_and, true_or, or_true, nI_clamp (show 4 * a + b < 2 ^ 31 by omega), X.he (show 4 * a + b < 4 * (w + 1) by omega)]
  unfold oHolds; rw [ha, hb]
  exact ⟨vp_in_nI (by omega) (by omega), fun q => ⟨by show _ = some (Sum.inl (if _ then _ else _)); rw [if_pos q], X, zSame.rf⟩, fun q => ⟨by show _ = some (Sum.inl (if _ then _ else _)); rw [if_neg q], X, zSame.rf⟩⟩
def oLoc (S : sS) (s : Int32) : Int32 := match ix 4 s with
  | some b => sLo S b
  | none => -9
theorem k13 {d : Nat} {h : zH} {w : Nat} {S : sS} {s : Int32} (X : XS h w S) : zD (d + 2) 13 [.inr 3, .inl s] h (fun r h' => r = some (.inl (oLoc S s)) ∧ XS h' w S ∧ zSame (xB w) h h') := by
  obtain ⟨g1, g2, ⟨a1, a2, a3, a4, a5, a6, a7, a8, a9, a10, a11, a12⟩, ⟨b1, b2, b3, b4, b5, b6, b7, b8, b9, b10, b11⟩, g5, t1, c1, q1, n1, ck, ⟨f1, f2, f3, f4⟩, ⟨d1, d2, d3, d4⟩⟩ := X.all
  refine zD_of rfl (r13_0 ⟨_, c21, ?_⟩)
  rintro r _ ⟨rfl, rfl⟩
  refine r13_4 ⟨fun q => ?_, fun q => ?_⟩
  · unfold oLoc; rw [is0 q]; exact ⟨rfl, X, zSame.rf⟩
  obtain ⟨b, hb⟩ := is1 q
  obtain ⟨hb4, rfl⟩ := ix_some hb
  unfold oLoc; rw [hb]
  simp only [g1, g2, a1, a2, a3, a4, a5, a6, a7, a8, a9, a10, a11, a12, b1, b2, b3, b4, b5, b6, b7, b8, b9, b10, b11, t1, c1, q1, n1, ck, f1, f2, f3, f4, d1, d2, d3, d4, true_and, true_or, or_true, nI_clamp (show b < 2 ^ 31 by omega), X.lo hb4]
  exact ⟨vp_in_nI (by omega) (by omega), X, zSame.rf⟩
def oReg (w : Nat) (S : sS) (v s : Int32) : Int32 := match iv w v, ix 4 s with
  | some a, some b => sSt S (4 * a + b)
  | _, _ => -9
theorem k14 {d : Nat} {h : zH} {w : Nat} {S : sS} {v s : Int32} (hw : w ≤ 4) (X : XS h w S) : zD (d + 2) 14 [.inr 3, .inl v, .inl s] h (fun r h' => r = some (.inl (oReg w S v s)) ∧ XS h' w S ∧ zSame (xB w) h h') := by
  obtain ⟨g1, g2, ⟨a1, a2, a3, a4, a5, a6, a7, a8, a9, a10, a11, a12⟩, ⟨b1, b2, b3, b4, b5, b6, b7, b8, b9, b10, b11⟩, g5, t1, c1, q1, n1, ck, ⟨f1, f2, f3, f4⟩, ⟨d1, d2, d3, d4⟩⟩ := X.all
  refine zD_of rfl (r14_0 ⟨g1, _, c20 hw X, ?_⟩)
  rintro r _ ⟨rfl, rfl⟩
  refine r14_5 ⟨fun q => ?_, fun q => ⟨_, c21, ?_⟩⟩
  · unfold oReg; rw [is0 q]; exact ⟨rfl, X, zSame.rf⟩
  obtain ⟨a, ha⟩ := is1 q
  obtain ⟨a1', a2', rfl⟩ := iv_some ha
  rintro r _ ⟨rfl, rfl⟩
  refine r14_12 ⟨fun q => ?_, fun q => ?_⟩
  · unfold oReg; rw [ha, is0 q]; exact ⟨rfl, X, zSame.rf⟩
  obtain ⟨b, hb⟩ := is1 q
  obtain ⟨hb4, rfl⟩ := ix_some hb
  simp only [g1, g2, a1, a2, a3, a4, a5, a6, a7, a8, a9, a10, a11, a12, b1, b2, b3, b4, b5, b6, b7, b8, b9, b10, b11, t1, c1, q1, n1, ck, f1, f2, f3, f4, d1, d2, d3, d4, true_and, true_or, or_true]
  refine ⟨_, c22, ?_⟩
  rintro r _ ⟨rfl, rfl⟩
  rw [e4x a b]
  refine r14_24 ?_
  simp only [g1, g2, a1, a2, a3, a4, a5, a6, a7, a8, a9, a10, a11, a12, b1, b2, b3, b4, b5, b6, b7, b8, b9, b10, b11, t1, c1, q1, n1, ck, f1, f2, f3, f4, d1, d2, d3, d4, true_and, true_or, or_true, nI_clamp (show 4 * a + b < 2 ^ 31 by omega), X.st (show 4 * a + b < 4 * (w + 1) by omega)]
  unfold oReg; rw [ha, hb]
  exact ⟨vp_in_nI (by omega) (by omega), rfl, X, zSame.rf⟩
def oDlgs (w : Nat) (S : sS) (v : Int32) : Int32 := match ix (w + 1) v with
  | some a => nI (sD S a).length
  | none => -9
theorem k15 {d : Nat} {h : zH} {w : Nat} {S : sS} {v : Int32} (hw : w ≤ 4) (X : XS h w S) : zD (d + 2) 15 [.inr 3, .inl v] h (fun r h' => r = some (.inl (oDlgs w S v)) ∧ XS h' w S ∧ zSame (xB w) h h') := by
  obtain ⟨g1, g2, ⟨a1, a2, a3, a4, a5, a6, a7, a8, a9, a10, a11, a12⟩, ⟨b1, b2, b3, b4, b5, b6, b7, b8, b9, b10, b11⟩, g5, t1, c1, q1, n1, ck, ⟨f1, f2, f3, f4⟩, ⟨d1, d2, d3, d4⟩⟩ := X.all
  refine zD_of rfl (r15_0 ⟨g1, _, c19 hw X, ?_⟩)
  rintro r _ ⟨rfl, rfl⟩
  refine r15_5 ⟨fun q => ?_, fun q => ?_⟩
  · unfold oDlgs; rw [is0 q]; exact ⟨rfl, X, zSame.rf⟩
  obtain ⟨a, ha⟩ := is1 q
  obtain ⟨ha1, rfl⟩ := ix_some ha
  unfold oDlgs; rw [ha]
  simp only [g1, g2, a1, a2, a3, a4, a5, a6, a7, a8, a9, a10, a11, a12, b1, b2, b3, b4, b5, b6, b7, b8, b9, b10, b11, t1, c1, q1, n1, ck, f1, f2, f3, f4, d1, d2, d3, d4, true_and, true_or, or_true, nI_clamp (show a < 2 ^ 31 by omega), g5 a (by omega), (X.dn (show a ≤ w by omega)).1, (X.xd (show a ≤ w by omega)).2.1]
  exact ⟨vp_in_nI (by omega) (by omega), X, zSame.rf⟩
def oDlg (w : Nat) (S : sS) (v k : Int32) : Int32 := match ix (w + 1) v with
  | some a => match lx (sD S a) k with
    | some (_, g) => g 0
    | none => -9
  | none => -9
theorem k16 {d : Nat} {h : zH} {w : Nat} {S : sS} {v k : Int32} (hw : w ≤ 4) (X : XS h w S) : zD (d + 2) 16 [.inr 3, .inl v, .inl k] h (fun r h' => r = some (.inl (oDlg w S v k)) ∧ XS h' w S ∧ zSame (xB w) h h') := by
  obtain ⟨g1, g2, ⟨a1, a2, a3, a4, a5, a6, a7, a8, a9, a10, a11, a12⟩, ⟨b1, b2, b3, b4, b5, b6, b7, b8, b9, b10, b11⟩, g5, t1, c1, q1, n1, ck, ⟨f1, f2, f3, f4⟩, ⟨d1, d2, d3, d4⟩⟩ := X.all
  refine zD_of rfl (r16_0 ⟨g1, _, c19 hw X, ?_⟩)
  rintro r _ ⟨rfl, rfl⟩
  refine r16_5 ⟨fun q => ?_, fun q => ?_⟩
  · unfold oDlg; rw [is0 q]; exact ⟨rfl, X, zSame.rf⟩
  obtain ⟨a, ha⟩ := is1 q
  obtain ⟨ha1, rfl⟩ := ix_some ha
  have haw : a ≤ w := by omega
  have hl := X.dl haw
  have hc := nC_le a
  unfold oDlg; rw [ha]
  refine ⟨fun q2 => ?_, fun q2 => ?_⟩
  · show some _ = some (Sum.inl (match lx (sD S a) k with | some (_, g) => g 0 | none => -9)) ∧ _
    unfold lx; rw [ix_neg q2]; exact ⟨rfl, X, zSame.rf⟩
  obtain ⟨n, hn, rfl⟩ := nI_of q2
  obtain ⟨e1, e2, e3, e4⟩ := X.dn haw
  simp only [g1, g2, a1, a2, a3, a4, a5, a6, a7, a8, a9, a10, a11, a12, b1, b2, b3, b4, b5, b6, b7, b8, b9, b10, b11, t1, c1, q1, n1, ck, f1, f2, f3, f4, d1, d2, d3, d4, true_and, true_or, or_true, nI_clamp (show a < 2 ^ 31 by omega), nI_clamp hn, g5 a haw, e1, e2, e3, e4, (X.xd haw).2.1, nI_ltI hn (show (sD S a).length < 2 ^ 31 by omega)]
  refine ⟨vp_in_nI (by omega) (by omega), fun q3 => ⟨vp_in_nI (by omega) (by omega), vp_in_nI (by omega) (by omega), (X.gd haw).row (by omega), ?_, X, zSame.rf⟩, fun q3 => ⟨?_, X, zSame.rf⟩⟩
  · obtain ⟨g, hg⟩ := at_lt q3
    rw [lx_nI (by omega) hg, (X.xd haw).2.2 n g hg 0 (by decide)]
  · have : lx (sD S a) (nI n) = none := by unfold lx; rw [ix_ge (by omega) hn]
    rw [this]
def oCanc (S : sS) (k : Int32) : Int32 := match lx (sC S) k with
  | some (_, c) => c
  | none => -1
theorem k17 {d : Nat} {h : zH} {w : Nat} {S : sS} {k : Int32} (X : XS h w S) : zD (d + 2) 17 [.inr 3, .inl k] h (fun r h' => r = some (.inl (oCanc S k)) ∧ XS h' w S ∧ zSame (xB w) h h') := by
  obtain ⟨g1, g2, ⟨a1, a2, a3, a4, a5, a6, a7, a8, a9, a10, a11, a12⟩, ⟨b1, b2, b3, b4, b5, b6, b7, b8, b9, b10, b11⟩, g5, t1, c1, q1, n1, ck, ⟨f1, f2, f3, f4⟩, ⟨d1, d2, d3, d4⟩⟩ := X.all
  refine zD_of rfl (r17_0 ?_)
  simp only [g1, g2, a1, a2, a3, a4, a5, a6, a7, a8, a9, a10, a11, a12, b1, b2, b3, b4, b5, b6, b7, b8, b9, b10, b11, t1, c1, q1, n1, ck, f1, f2, f3, f4, d1, d2, d3, d4, true_and, true_or, or_true]
  refine ⟨_, c44 X.2.2.1 X.xc, ?_⟩
  rintro r _ ⟨rfl, rfl⟩
  refine r17_8 ⟨?_, X, zSame.rf⟩
  congr 2
  have hl := X.xc.1
  unfold oCanc
  by_cases q : 0 ≤ k
  · obtain ⟨n, hn, rfl⟩ := nI_of (by rw [Int32.not_lt]; exact q)
    rw [if_pos q, nI_clamp hn]
    by_cases hc : n < (sC S).length
    · obtain ⟨c, hcc⟩ := at_lt hc
      rw [lx_nI (by omega) hcc, hcc]; rfl
    · have : lx (sC S) (nI n) = none := by unfold lx; rw [ix_ge (by omega) hn]
      rw [this, List.getElem?_eq_none (by omega)]; rfl
  · rw [if_neg q]
    have : lx (sC S) k = none := by unfold lx; rw [ix_neg (by rw [← Int32.not_le]; exact q)]
    rw [this]
def oCall (w : Nat) (S : sS) (r : Int32) : Int32 × sS := match iv w (r / 100), ix 2 (r - r / 100 * 100) with
  | some a, some b => (sO S (2 * a + b), stU (stO S (upd (sO S) (2 * a + b) (-1))) (sU S))
  | _, _ => (-9, S)
theorem k18 {d : Nat} {h : zH} {w : Nat} {S : sS} {r : Int32} (hw : w ≤ 4) (X : XS h w S) : zD (d + 2) 18 [.inr 3, .inl r] h (fun v h' => v = some (.inl (oCall w S r).1) ∧ XS h' w (oCall w S r).2 ∧ zSame (xB w) h h') := by
  obtain ⟨g1, g2, ⟨a1, a2, a3, a4, a5, a6, a7, a8, a9, a10, a11, a12⟩, ⟨b1, b2, b3, b4, b5, b6, b7, b8, b9, b10, b11⟩, g5, t1, c1, q1, n1, ck, ⟨f1, f2, f3, f4⟩, ⟨d1, d2, d3, d4⟩⟩ := X.all
  refine zD_of rfl (r18_0 ⟨by decide, by decide, g1, _, c20 hw X, ?_⟩)
  rintro v _ ⟨rfl, rfl⟩
  refine r18_15 ⟨fun q => ?_, fun q => ?_⟩
  · unfold oCall; rw [is0 q]; exact ⟨rfl, X, zSame.rf⟩
  obtain ⟨a, ha⟩ := is1 q
  obtain ⟨a1', a2', e⟩ := iv_some ha
  unfold oCall; rw [ha]
  refine ⟨fun q2 => ?_, fun q2 => ?_⟩
  · rw [ix_neg q2]; exact ⟨rfl, X, zSame.rf⟩
  obtain ⟨b, hb, e2⟩ := nI_of q2
  rw [e2, e]
  refine ⟨fun q3 => ?_, fun q3 => ?_⟩
  · have hb2 : b < 2 := (nI_ltI hb (by decide)).mp (show nI b < nI 2 from q3)
    rw [ix_nI (by decide) hb2]
    simp only [g1, g2, a1, a2, a3, a4, a5, a6, a7, a8, a9, a10, a11, a12, b1, b2, b3, b4, b5, b6, b7, b8, b9, b10, b11, t1, c1, q1, n1, ck, f1, f2, f3, f4, d1, d2, d3, d4, true_and, true_or, or_true]
    refine ⟨_, k55 hw (by omega) hb2 X, ?_⟩
    rintro v h1 ⟨rfl, X1, s1⟩
    exact r18_39 ⟨rfl, X1, xAB s1⟩
  · have hb2 : ¬ b < 2 := fun z => q3 (show nI b < nI 2 from (nI_ltI hb (by decide)).mpr z)
    rw [ix_ge (by omega) hb]
    exact ⟨rfl, X, zSame.rf⟩
