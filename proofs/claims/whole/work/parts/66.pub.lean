/-! ===== the public calls: digits, title, appear, ask, answer, tick ===== -/
def oDigits (S : sS) (s n : Int32) : Int32 × sS := match ix 4 s, ix 100000 n with
  | some a, some _ => (1, stDg S (upd (sDg S) a n))
  | _, _ => (0, S)
theorem k1 {d : Nat} {h : zH} {w : Nat} {S : sS} {s n : Int32} (hw : w ≤ 4) (X : XS h w S) : zD (d + 2) 1 [.inr 3, .inl s, .inl n] h (fun r h' => r = some (.inl (oDigits S s n).1) ∧ XS h' w (oDigits S s n).2 ∧ zSame (xB w) h h') := by
  obtain ⟨g1, g2, ⟨a1, a2, a3, a4, a5, a6, a7, a8, a9, a10, a11, a12⟩, ⟨b1, b2, b3, b4, b5, b6, b7, b8, b9, b10, b11⟩, g5, t1, c1, q1, n1, ck, ⟨f1, f2, f3, f4⟩, ⟨d1, d2, d3, d4⟩⟩ := X.all
  obtain ⟨p1, p2, p3⟩ := X.2.2.2.2.2.1
  refine zD_of rfl (r1_0 ⟨_, c21, ?_⟩)
  rintro r _ ⟨rfl, rfl⟩
  refine r1_4 ⟨fun q => ?_, fun q => ?_⟩
  · unfold oDigits; rw [is0 q]; exact ⟨Or.inl rfl, rfl, X, zSame.rf⟩
  obtain ⟨a, ha⟩ := is1 q
  obtain ⟨ha4, rfl⟩ := ix_some ha
  unfold oDigits; rw [ha]
  refine ⟨fun q2 => ?_, fun q2 => ?_⟩
  · rw [ix_neg q2]; exact ⟨Or.inl rfl, rfl, X, zSame.rf⟩
  obtain ⟨m, hm, rfl⟩ := nI_of q2
  have h5 : zI h 2 (5 : Int32).toNatClampNeg = nI 100000 := p3 5 (by decide)
  simp only [g1, g2, a1, a2, a3, a4, a5, a6, a7, a8, a9, a10, a11, a12, b1, b2, b3, b4, b5, b6, b7, b8, b9, b10, b11, t1, c1, q1, n1, ck, f1, f2, f3, f4, d1, d2, d3, d4, true_and, true_or, or_true, p1, p2, h5, forall_eq, nI_clamp (show a < 2 ^ 31 by omega), nI_ltI hm (show 100000 < 2 ^ 31 by decide)]
  refine ⟨vp_in_nI (n := 5) (by decide) (by decide), fun q3 => ?_, fun q3 => ?_⟩
  · rw [ix_nI (by decide) q3]
    exact ⟨vp_in_nI (by omega) (by omega), rfl, X.Dg hw, zSame.wI (by unfold xB; omega)⟩
  · rw [ix_ge (by omega) hm]
    exact ⟨rfl, X, zSame.rf⟩
def oTitle (S : sS) (f c y : Int32) : Int32 × sS := match ix 6 c with
  | none => (0, S)
  | some n => match ix (10 ^ n) f with
    | none => (0, S)
    | some _ => (sPutR (sT S) (sRow [f, c, y]), stT S (sPut (sT S) (sRow [f, c, y])))
theorem sPutR01 {T : List (Nat → Int32)} {f : Nat → Int32} : sPutR T f = 0 ∨ sPutR T f = 1 := by
  unfold sPutR; split
  · exact Or.inr rfl
  · split
    · exact Or.inl rfl
    · exact Or.inr rfl
theorem k2 {d : Nat} {h : zH} {w : Nat} {S : sS} {f c y : Int32} (hw : w ≤ 4) (hy : y = 0 ∨ y = 1) (X : XS h w S) : zD (d + 3) 2 [.inr 3, .inl f, .inl c, .inl y] h (fun r h' => r = some (.inl (oTitle S f c y).1) ∧ XS h' w (oTitle S f c y).2 ∧ zSame (xB w) h h') := by
  obtain ⟨g1, g2, ⟨a1, a2, a3, a4, a5, a6, a7, a8, a9, a10, a11, a12⟩, ⟨b1, b2, b3, b4, b5, b6, b7, b8, b9, b10, b11⟩, g5, t1, c1, q1, n1, ck, ⟨f1, f2, f3, f4⟩, ⟨d1, d2, d3, d4⟩⟩ := X.all
  obtain ⟨p1, p2, p3⟩ := X.2.2.2.2.2.1
  refine zD_of rfl (r2_0 ⟨fun q => ?_, fun q => ?_⟩)
  · have e : oTitle S f c y = (0, S) := by unfold oTitle; rw [ix_neg q]
    rw [e]; exact ⟨Or.inl rfl, rfl, X, zSame.rf⟩
  obtain ⟨n, hn, rfl⟩ := nI_of q
  refine ⟨fun q2 => ?_, fun q2 => ?_⟩
  · have q2 : 5 < n := (nI_ltI (by decide) hn).mp (show nI 5 < nI n from q2)
    have e : oTitle S f (nI n) y = (0, S) := by unfold oTitle; rw [ix_ge (by omega) hn]
    rw [e]; exact ⟨Or.inl rfl, rfl, X, zSame.rf⟩
  have q2 : n < 6 := by
    have : ¬ 5 < n := fun z => q2 (show nI 5 < nI n from (nI_ltI (by decide) hn).mpr z)
    omega
  have eT : oTitle S f (nI n) y = match ix (10 ^ n) f with
      | none => (0, S)
      | some _ => (sPutR (sT S) (sRow [f, nI n, y]), stT S (sPut (sT S) (sRow [f, nI n, y]))) := by
    unfold oTitle; rw [ix_nI (by decide) q2]
  rw [eT]
  refine ⟨fun q3 => ?_, fun q3 => ?_⟩
  · rw [ix_neg q3]; exact ⟨Or.inl rfl, rfl, X, zSame.rf⟩
  obtain ⟨m, hm, rfl⟩ := nI_of q3
  have hp : 10 ^ n < 2 ^ 31 := Nat.lt_of_le_of_lt (Nat.pow_le_pow_right (by decide) (show n ≤ 5 by omega)) (by decide)
  simp only [g1, g2, a1, a2, a3, a4, a5, a6, a7, a8, a9, a10, a11, a12, b1, b2, b3, b4, b5, b6, b7, b8, b9, b10, b11, t1, c1, q1, n1, ck, f1, f2, f3, f4, d1, d2, d3, d4, true_and, true_or, or_true, p1, p2, nI_clamp (show n < 2 ^ 31 by omega), p3 n q2, nI_ltI hm hp]
  refine ⟨vp_in_nI q2 (by decide), fun q4 => ?_, fun q4 => ?_⟩
  · rw [ix_nI (by omega) q4]
    refine ⟨_, k38 hw hy X, ?_⟩
    rintro r h1 ⟨rfl, X1, s1⟩
    exact r2_34 ⟨sPutR01, rfl, X1, xAB s1⟩
  · rw [ix_ge (by omega) hm]
    exact ⟨rfl, X, zSame.rf⟩
def oAppear (w : Nat) (S : sS) (v s : Int32) : Int32 × sS := match iv w v, ix 4 s with
  | some a, some b => if (sD S a).length = 2 ∨ (sFx (pFind 1 0 s) (sD S a) 0).isSome then (-8, S) else if sReach (sDg S b) (sT S) (-1) 0 = 0 then (-7, S) else
    (sL S a + 1, oSend (oStand (oBegin S a 1 0 s (sClk S + 10) 0) (4 * a + b) 1) (sRow [v, 0, 11, s, sL S a + 1, 0, 0]))
  | _, _ => (-9, S)
theorem k3 {d : Nat} {h : zH} {w : Nat} {S : sS} {v s : Int32} (hw : w ≤ 4) (X : XS h w S) (ot : okT (sT S)) : zD (d + 3) 3 [.inr 3, .inl v, .inl s] h (fun r h' => r = some (.inl (oAppear w S v s).1) ∧ XS h' w (oAppear w S v s).2 ∧ zSame (xB w) h h') := by
  obtain ⟨g1, g2, ⟨a1, a2, a3, a4, a5, a6, a7, a8, a9, a10, a11, a12⟩, ⟨b1, b2, b3, b4, b5, b6, b7, b8, b9, b10, b11⟩, g5, t1, c1, q1, n1, ck, ⟨f1, f2, f3, f4⟩, ⟨d1, d2, d3, d4⟩⟩ := X.all
  refine zD_of rfl (r3_0 ⟨g1, _, c20 hw X, ?_⟩)
  rintro r _ ⟨rfl, rfl⟩
  refine r3_5 ⟨fun q => ?_, fun q => ⟨_, c21, ?_⟩⟩
  · unfold oAppear; rw [is0 q]; exact ⟨rfl, X, zSame.rf⟩
  obtain ⟨a, ha⟩ := is1 q
  obtain ⟨ha1, haw, rfl⟩ := iv_some ha
  rintro r _ ⟨rfl, rfl⟩
  refine r3_12 ⟨fun q => ?_, fun q => ?_⟩
  rotate_left
  · unfold oAppear; rw [ha, is0 q]; exact ⟨rfl, X, zSame.rf⟩
  obtain ⟨b, hb⟩ := is1 q
  obtain ⟨hb4, rfl⟩ := ix_some hb
  obtain ⟨e1, e2, e3, e4⟩ := X.dn haw
  have hl := X.dl haw
  have hc2 := nC_pos ha1
  unfold oAppear; rw [ha, hb]
  show (_ ∧ _ ∧ _ ∧ _ ∧ ∃ Q, _)
  simp only [g1, g2, a1, a2, a3, a4, a5, a6, a7, a8, a9, a10, a11, a12, b1, b2, b3, b4, b5, b6, b7, b8, b9, b10, b11, t1, c1, q1, n1, ck, f1, f2, f3, f4, d1, d2, d3, d4, true_and, true_or, or_true, nI_clamp (show a < 2 ^ 31 by omega), g5 a haw, e1]
  refine ⟨vp_in_nI (by omega) (by omega), _, c59 (nC_le a) (X.gd haw) (X.xd haw), ?_⟩
  rintro r _ ⟨rfl, rfl⟩
  rw [hc2]
  refine r3_29 ⟨fun q => ?_, fun q => ?_⟩
  · have h2 : (sD S a).length = 2 := Classical.byContradiction fun e => q (by rw [if_neg e])
    rw [if_pos (Or.inl h2)]
    exact ⟨rfl, X, zSame.rf⟩
  have h2 : ¬ (sD S a).length = 2 := fun e => by rw [if_pos e] at q; exact absurd q (by decide)
  refine ⟨e1, _, c62 (nC_le a) (X.gd haw) (X.xd haw), ?_⟩
  rintro r _ ⟨rfl, rfl⟩
  refine r3_39 ⟨fun q => ?_, fun q => ?_⟩
  rotate_left
  · have hn : ¬ sFx (pFind 1 0 (nI b)) (sD S a) 0 = none := fun e => q ((sIx_neg (X.dl2 haw)).mpr e)
    obtain ⟨k, hk⟩ := Option.ne_none_iff_exists'.mp hn
    rw [if_pos (Or.inr (by rw [hk]; rfl))]
    exact ⟨rfl, X, zSame.rf⟩
  have hn : sFx (pFind 1 0 (nI b)) (sD S a) 0 = none := (sIx_neg (X.dl2 haw)).mp q
  rw [if_neg (fun z => z.elim h2 (fun z => by rw [hn] at z; cases z))]
  simp only [g1, g2, a1, a2, a3, a4, a5, a6, a7, a8, a9, a10, a11, a12, b1, b2, b3, b4, b5, b6, b7, b8, b9, b10, b11, t1, c1, q1, n1, ck, f1, f2, f3, f4, d1, d2, d3, d4, true_and, true_or, or_true, nI_clamp (show b < 2 ^ 31 by omega), X.dg hb4]
  refine ⟨vp_in_nI (by omega) (by omega), _, c40 X.2.1 X.2.2.2.2.2.1 X.xt ot, ?_⟩
  rintro r _ ⟨rfl, rfl⟩
  refine r3_59 ⟨fun q => ?_, fun q => ?_⟩
  rotate_left
  · rw [if_pos q]; exact ⟨rfl, X, zSame.rf⟩
  rw [if_neg q]
  simp only [g1, g2, a1, a2, a3, a4, a5, a6, a7, a8, a9, a10, a11, a12, b1, b2, b3, b4, b5, b6, b7, b8, b9, b10, b11, t1, c1, q1, n1, ck, f1, f2, f3, f4, d1, d2, d3, d4, true_and, true_or, or_true, e1]
  refine ⟨_, k60 hw haw X (by rw [hc2]; omega), ?_⟩
  rintro r h1 ⟨rfl, X1, s1⟩
  obtain ⟨g1, g2, ⟨a1, a2, a3, a4, a5, a6, a7, a8, a9, a10, a11, a12⟩, ⟨b1, b2, b3, b4, b5, b6, b7, b8, b9, b10, b11⟩, g5, t1, c1, q1, n1, ck, ⟨f1, f2, f3, f4⟩, ⟨d1, d2, d3, d4⟩⟩ := X1.all
  refine r3_80 ⟨g1, _, c22, ?_⟩
  rintro r _ ⟨rfl, rfl⟩
  rw [e4x a b]
  have X2 := X1.St (k := 4 * a + b) (x := 1) hw
  refine r3_91 ?_
  simp only [zK_wI, zL_wI, zR_wI, g1, g2, a1, a2, a3, a4, a5, a6, a7, a8, a9, a10, a11, a12, b1, b2, b3, b4, b5, b6, b7, b8, b9, b10, b11, t1, c1, q1, n1, ck, f1, f2, f3, f4, d1, d2, d3, d4, true_and, true_or, or_true, forall_eq, nI_clamp (show 4 * a + b < 2 ^ 31 by omega)]
  refine ⟨vp_in_nI (by omega) (by omega), _, k71 hw X2, ?_⟩
  rintro r h3 ⟨rfl, X3, s3⟩
  exact r3_109 ⟨rfl, X3, xAB ((s1.tr (zSame.wI (by unfold xA; omega))).tr s3)⟩
def oAsk (S : sS) (s : Int32) : Int32 × sS := match ix 4 s with
  | none => (-9, S)
  | some b => if sLo S b = 0 then (-7, S) else if (sD S 0).length = 4 then (-8, S) else
    (sL S 0 + 1, oSend (stQ (oBegin S 0 4 (sLo S b) s (sClk S + 6) 0) (sQ S ++ [(sL S 0 + 1, -6)])) (sRow [0, sLo S b, 14, s, sL S 0 + 1, 0, 0]))
theorem k4 {d : Nat} {h : zH} {w : Nat} {S : sS} {s : Int32} (hw : w ≤ 4) (X : XS h w S) : zD (d + 3) 4 [.inr 3, .inl s] h (fun r h' => r = some (.inl (oAsk S s).1) ∧ XS h' w (oAsk S s).2 ∧ zSame (xB w) h h') := by
  have h0 := Nat.zero_le w
  have hl : (sD S 0).length ≤ 4 := X.dl h0
  obtain ⟨g1, g2, ⟨a1, a2, a3, a4, a5, a6, a7, a8, a9, a10, a11, a12⟩, ⟨b1, b2, b3, b4, b5, b6, b7, b8, b9, b10, b11⟩, g5, t1, c1, q1, n1, ck, ⟨f1, f2, f3, f4⟩, ⟨d1, d2, d3, d4⟩⟩ := X.all
  refine zD_of rfl (r4_0 ⟨_, c21, ?_⟩)
  rintro r _ ⟨rfl, rfl⟩
  refine r4_4 ⟨fun q => ?_, fun q => ?_⟩
  rotate_left
  · unfold oAsk; rw [is0 q]; exact ⟨rfl, X, zSame.rf⟩
  obtain ⟨b, hb⟩ := is1 q
  obtain ⟨hb4, rfl⟩ := ix_some hb
  unfold oAsk; rw [hb]
  simp only [g1, g2, a1, a2, a3, a4, a5, a6, a7, a8, a9, a10, a11, a12, b1, b2, b3, b4, b5, b6, b7, b8, b9, b10, b11, t1, c1, q1, n1, ck, f1, f2, f3, f4, d1, d2, d3, d4, true_and, true_or, or_true, nI_clamp (show b < 2 ^ 31 by omega), X.lo hb4]
  refine ⟨vp_in_nI (by omega) (by omega), fun q => ?_, fun q => ?_⟩
  rotate_left
  · rw [if_pos q]; exact ⟨rfl, X, zSame.rf⟩
  rw [if_neg q]
  refine ⟨_, c59 (nC_le 0) (X.gd h0) (X.xd h0), ?_⟩
  rintro r _ ⟨rfl, rfl⟩
  refine r4_31 ⟨fun q2 => ?_, fun q2 => ?_⟩
  rotate_left
  · have h4 : (sD S 0).length = 4 := Classical.byContradiction fun e => q2 (by rw [show nC 0 = 4 from rfl, if_neg e])
    rw [if_pos h4]; exact ⟨rfl, X, zSame.rf⟩
  have h4 : ¬ (sD S 0).length = 4 := fun e => by rw [show nC 0 = 4 from rfl, if_pos e] at q2; exact absurd q2 (by decide)
  rw [if_neg h4]
  simp only [g1, g2, a1, a2, a3, a4, a5, a6, a7, a8, a9, a10, a11, a12, b1, b2, b3, b4, b5, b6, b7, b8, b9, b10, b11, t1, c1, q1, n1, ck, f1, f2, f3, f4, d1, d2, d3, d4, true_and, true_or, or_true]
  refine ⟨_, k60 hw h0 X (by rw [show nC 0 = 4 from rfl]; omega), ?_⟩
  rintro r h1 ⟨rfl, X1, s1⟩
  obtain ⟨g1, g2, ⟨a1, a2, a3, a4, a5, a6, a7, a8, a9, a10, a11, a12⟩, ⟨b1, b2, b3, b4, b5, b6, b7, b8, b9, b10, b11⟩, g5, t1, c1, q1, n1, ck, ⟨f1, f2, f3, f4⟩, ⟨d1, d2, d3, d4⟩⟩ := X1.all
  refine r4_55 ?_
  simp only [g1, g2, a1, a2, a3, a4, a5, a6, a7, a8, a9, a10, a11, a12, b1, b2, b3, b4, b5, b6, b7, b8, b9, b10, b11, t1, c1, q1, n1, ck, f1, f2, f3, f4, d1, d2, d3, d4, true_and, true_or, or_true]
  refine ⟨_, k49 hw X1, ?_⟩
  rintro r h2 ⟨rfl, X2, s2⟩
  obtain ⟨g1, g2, ⟨a1, a2, a3, a4, a5, a6, a7, a8, a9, a10, a11, a12⟩, ⟨b1, b2, b3, b4, b5, b6, b7, b8, b9, b10, b11⟩, g5, t1, c1, q1, n1, ck, ⟨f1, f2, f3, f4⟩, ⟨d1, d2, d3, d4⟩⟩ := X2.all
  refine r4_64 ?_
  simp only [g1, g2, a1, a2, a3, a4, a5, a6, a7, a8, a9, a10, a11, a12, b1, b2, b3, b4, b5, b6, b7, b8, b9, b10, b11, t1, c1, q1, n1, ck, f1, f2, f3, f4, d1, d2, d3, d4, true_and, true_or, or_true]
  refine ⟨_, k71 hw X2, ?_⟩
  rintro r h3 ⟨rfl, X3, s3⟩
  exact r4_79 ⟨rfl, X3, xAB ((s1.tr s2).tr s3)⟩
theorem k5 {d : Nat} {h : zH} {w : Nat} {S : sS} {n : Int32} (X : XS h w S) (oq : okQ (sQ S)) : zD (d + 3) 5 [.inr 3, .inl n] h (fun r h' => (∃ x, r = some (.inl x) ∧ pAns (sQ S) n x) ∧ XS h' w S ∧ zSame (xB w) h h') := by
  obtain ⟨g1, g2, ⟨a1, a2, a3, a4, a5, a6, a7, a8, a9, a10, a11, a12⟩, ⟨b1, b2, b3, b4, b5, b6, b7, b8, b9, b10, b11⟩, g5, t1, c1, q1, n1, ck, ⟨f1, f2, f3, f4⟩, ⟨d1, d2, d3, d4⟩⟩ := X.all
  refine zD_of rfl (r5_0 ?_)
  simp only [g1, g2, a1, a2, a3, a4, a5, a6, a7, a8, a9, a10, a11, a12, b1, b2, b3, b4, b5, b6, b7, b8, b9, b10, b11, t1, c1, q1, n1, ck, f1, f2, f3, f4, d1, d2, d3, d4, true_and, true_or, or_true]
  refine ⟨_, c51 X.2.2.2.1 X.xq oq, ?_⟩
  rintro r _ ⟨⟨x, rfl, hx⟩, rfl⟩
  exact r5_8 ⟨⟨x, rfl, hx⟩, X, zSame.rf⟩
/-! a tick -/
def oGvA (S : sS) (g : Nat → Int32) : sS := if g 1 = 2 then oSend S (sRow [0, g 2, 40, 0, g 0, g 5, 0]) else if g 1 = 4 then stQ S (sSet (sQ S) (g 0) (-3)) else S
def oGive (S : sS) (v k : Nat) (g : Nat → Int32) : sS := if v = 0 then oEnd (oGvA S g) 0 k else oEndR S v k (g 3).toNatClampNeg 3
theorem k35 {d : Nat} {h : zH} {w v k : Nat} {S : sS} {g : Nat → Int32} (hw : w ≤ 4) (hv : v ≤ w) (X : XS h w S) (ok : okD w S) (oq : okQ (sQ S)) (hg : (sD S v)[k]? = some g) : zD (d + 3) 35 [.inr 3, .inl (nI v), .inl (nI k)] h (fun r h' => r = none ∧ XS h' w (oGive S v k g) ∧ zSame (xA w) h h') := by
  have h0 := Nat.zero_le w
  have hl := X.dl hv
  have hc := nC_le v
  have hkl := lt_at hg
  obtain ⟨g1, g2, ⟨a1, a2, a3, a4, a5, a6, a7, a8, a9, a10, a11, a12⟩, ⟨b1, b2, b3, b4, b5, b6, b7, b8, b9, b10, b11⟩, g5, t1, c1, q1, n1, ck, ⟨f1, f2, f3, f4⟩, ⟨d1, d2, d3, d4⟩⟩ := X.all
  refine zD_of rfl (r35_0 ⟨fun q => ?_, fun q => ?_⟩)
  rotate_left
  · have hv0 : ¬ v = 0 := fun e => q (by rw [e]; rfl)
    obtain ⟨sn, hsn, hg3⟩ := ok v hv g (List.mem_of_getElem? hg)
    refine ⟨g1, _, k32 hw hv hg hsn hg3 X, ?_⟩
    rintro r h1 ⟨rfl, X1, s1⟩
    refine r35_11 ⟨rfl, ?_, s1⟩
    unfold oGive; rw [if_neg hv0, hg3, nI_clamp (by omega)]; exact X1
  have hv0 : v = 0 := (nI_eq (by omega) (by decide)).mp (show nI v = nI 0 from q)
  subst hv0
  have tail : ∀ (h1 : zH) (o : Nat), XS h1 w (oGvA S g) → zSame (xA w) h h1 → zWp zm35 (zD (d + 2)) (fun r h' => r = none ∧ XS h' w (oGive S 0 k g) ∧ zSame (xA w) h h') 0 0 78 [some (.inr 3), some (.inl (nI 0)), some (.inl (nI k)), some (.inr o)] [] h1 := by
    intro h1 o X1 s1
    obtain ⟨g1, g2, ⟨a1, a2, a3, a4, a5, a6, a7, a8, a9, a10, a11, a12⟩, ⟨b1, b2, b3, b4, b5, b6, b7, b8, b9, b10, b11⟩, g5, t1, c1, q1, n1, ck, ⟨f1, f2, f3, f4⟩, ⟨d1, d2, d3, d4⟩⟩ := X1.all
    refine r35_78 ?_
    simp only [g1, g2, a1, a2, a3, a4, a5, a6, a7, a8, a9, a10, a11, a12, b1, b2, b3, b4, b5, b6, b7, b8, b9, b10, b11, t1, c1, q1, n1, ck, f1, f2, f3, f4, d1, d2, d3, d4, true_and, true_or, or_true]
    refine ⟨_, k64 hw h0 X1, ?_⟩
    rintro r h2 ⟨rfl, X2, s2⟩
    rw [if_pos (nI_pos' (by omega)), nI_clamp (by omega)] at X2
    exact r35_86 ⟨rfl, by unfold oGive; rw [if_pos rfl]; exact X2, s1.tr s2⟩
  have er : zK h (zR h 48 k) = 13 := (X.gd h0).row (show k < nC 0 by omega)
  have ex : ∀ i, i < 6 → zI h (zR h 48 k) i = g i := (X.xd h0).2.2 k g hg
  have hk4 : k < 4 := by rw [show nC 0 = 4 from rfl] at hl; omega
  simp only [g1, g2, a1, a2, a3, a4, a5, a6, a7, a8, a9, a10, a11, a12, b1, b2, b3, b4, b5, b6, b7, b8, b9, b10, b11, t1, c1, q1, n1, ck, f1, f2, f3, f4, d1, d2, d3, d4, true_and, true_or, or_true, nI_clamp (show k < 2 ^ 31 by omega), er, ex 0 (by decide), ex 1 (by decide), ex 2 (by decide), ex 5 (by decide)]
  refine ⟨vp_in_nI hk4 (by decide), fun q2 => ⟨fun q3 => ?_, fun q3 => ⟨_, k50 hw X oq, ?_⟩⟩, fun q2 => ⟨_, k71 hw X, ?_⟩⟩
  · exact tail h _ (by unfold oGvA; rw [if_neg q2, if_neg q3]; exact X) zSame.rf
  · rintro r h1 ⟨rfl, X1, s1⟩
    exact tail h1 _ (by unfold oGvA; rw [if_neg q2, if_pos q3]; exact X1) s1
  · rintro r h1 ⟨rfl, X1, s1⟩
    exact r35_54 (tail h1 _ (by unfold oGvA; rw [if_pos q2]; exact X1) s1)
theorem updD_at {f : Nat → List (Nat → Int32)} {k : Nat} {x : List (Nat → Int32)} : updD f k x k = x := by unfold updD; rw [if_pos rfl]
theorem updD_ne {f : Nat → List (Nat → Int32)} {k j : Nat} {x : List (Nat → Int32)} (e : j ≠ k) : updD f k x j = f j := by unfold updD; rw [if_neg e]
theorem oGvA_D {S : sS} {g : Nat → Int32} : sD (oGvA S g) = sD S ∧ sClk (oGvA S g) = sClk S := by
  unfold oGvA; split
  · exact ⟨rfl, rfl⟩
  · split <;> exact ⟨rfl, rfl⟩
theorem oGive_D {S : sS} {v k : Nat} {g : Nat → Int32} : sD (oGive S v k g) = updD (sD S) v ((sD S v).eraseIdx k) ∧ sClk (oGive S v k g) = sClk S := by
  unfold oGive; split
  · rename_i e; subst e
    have := oGvA_D (S := S) (g := g)
    refine ⟨?_, this.2⟩
    show updD (sD (oGvA S g)) 0 ((sD (oGvA S g) 0).eraseIdx k) = _
    rw [this.1]
  · exact ⟨rfl, rfl⟩
theorem okQ_set {Q : List (Int32 × Int32)} {n u : Int32} (oq : okQ Q) : okQ (sSet Q n u) := by
  refine ⟨fun q hq => ?_, fun i j p q hp hq e => ?_⟩
  · obtain ⟨x, hx, rfl⟩ := List.mem_map.mp hq
    have := oq.1 x hx
    split
    · exact this
    · exact this
  · obtain ⟨p', hp', rfl⟩ := sSet_at hp
    obtain ⟨q', hq', rfl⟩ := sSet_at hq
    refine oq.2 i j p' q' hp' hq' ?_
    have a1 : (if p'.1 = n then (p'.1, u) else p').1 = p'.1 := by split <;> rfl
    have a2 : (if q'.1 = n then (q'.1, u) else q').1 = q'.1 := by split <;> rfl
    rw [a1, a2] at e; exact e
theorem oGive_Q {S : sS} {v k : Nat} {g : Nat → Int32} (oq : okQ (sQ S)) : okQ (sQ (oGive S v k g)) := by
  have h1 : okQ (sQ (oGvA S g)) := by
    unfold oGvA; split
    · exact oq
    · split
      · exact okQ_set oq
      · exact oq
  unfold oGive; split
  · exact h1
  · exact oq
theorem okD_er {w v k : Nat} {S S' : sS} (e : sD S' = updD (sD S) v ((sD S v).eraseIdx k)) (ok : okD w S) : okD w S' := by
  intro u hu g hg
  rw [e] at hg
  by_cases eq : u = v
  · subst eq
    rw [updD_at] at hg
    exact ok u hu g (List.mem_of_mem_eraseIdx hg)
  · rw [updD_ne eq] at hg; exact ok u hu g hg
def oDue (v : Nat) : Nat → Nat → sS → sS
  | 0, _, S => S
  | n + 1, k, S => match (sD S v)[k]? with
    | some g => if g 4 = sClk S then oDue v n k (oGive S v k g) else oDue v n (k + 1) S
    | none => S
theorem k34 {d : Nat} {h : zH} {w v : Nat} {S : sS} (hw : w ≤ 4) (hv : v ≤ w) (X : XS h w S) (ok : okD w S) (oq : okQ (sQ S)) : zD (d + 4) 34 [.inr 3, .inl (nI v)] h (fun r h' => r = none ∧ XS h' w (oDue v (sD S v).length 0 S) ∧ zSame (xA w) h h') := by
  have hl := X.dl hv
  have hc := nC_le v
  obtain ⟨g1, g2, ⟨a1, a2, a3, a4, a5, a6, a7, a8, a9, a10, a11, a12⟩, ⟨b1, b2, b3, b4, b5, b6, b7, b8, b9, b10, b11⟩, g5, t1, c1, q1, n1, ck, ⟨f1, f2, f3, f4⟩, ⟨d1, d2, d3, d4⟩⟩ := X.all
  obtain ⟨e1, e2, e3, e4⟩ := X.dn hv
  refine zD_of rfl (r34_0 ?_)
  simp only [g1, g2, a1, a2, a3, a4, a5, a6, a7, a8, a9, a10, a11, a12, b1, b2, b3, b4, b5, b6, b7, b8, b9, b10, b11, t1, c1, q1, n1, ck, f1, f2, f3, f4, d1, d2, d3, d4, true_and, true_or, or_true, nI_clamp (show v < 2 ^ 31 by omega), g5 v hv, e1, (X.xd hv).2.1]
  refine ⟨vp_in_nI (by omega) (by omega), ?_⟩
  suffices H : ∀ n k h1 S1, k + n = (sD S1 v).length → XS h1 w S1 → okD w S1 → okQ (sQ S1) → zSame (xA w) h h1 → oDue v n k S1 = oDue v (sD S v).length 0 S → zWp zm34 (zD (d + 3)) (fun r h' => r = none ∧ XS h' w (oDue v (sD S v).length 0 S) ∧ zSame (xA w) h h') 0 0 15 [some (.inr 3), some (.inl (nI v)), some (.inr (nA v)), some (.inl (nI k)), some (.inl (nI n))] [] h1 from H _ 0 h S (by omega) X ok oq zSame.rf rfl
  intro n
  induction n with
  | zero =>
    intro k h1 S1 hk X1 ok1 oq1 s1 e
    refine r34_15 ⟨fun _ => ⟨rfl, by rw [← e]; exact X1, s1⟩, fun q => absurd (show nI 0 ≤ nI 0 from nI_le (Nat.le_refl _) (by decide)) q⟩
  | succ n ih =>
    intro k h1 S1 hk X1 ok1 oq1 s1 e
    have hl1 := X1.dl hv
    have hkl : k < (sD S1 v).length := by omega
    obtain ⟨g, hg⟩ := at_lt hkl
    have er := (X1.gd hv).row (show k < nC v by omega)
    have ex := (X1.xd hv).2.2 k g hg 4 (by decide)
    obtain ⟨g1, g2, ⟨a1, a2, a3, a4, a5, a6, a7, a8, a9, a10, a11, a12⟩, ⟨b1, b2, b3, b4, b5, b6, b7, b8, b9, b10, b11⟩, g5, t1, c1, q1, n1, ck, ⟨f1, f2, f3, f4⟩, ⟨d1, d2, d3, d4⟩⟩ := X1.all
    obtain ⟨e1, e2, e3, e4⟩ := X1.dn hv
    have em : nI (n + 1) + -1 = nI n := pk_m1 n
    refine r34_15 ⟨fun q => absurd (show nI (n + 1) ≤ nI 0 from q) (nI_ge (by omega) (by omega)), fun _ => ?_⟩
    simp only [g1, g2, a1, a2, a3, a4, a5, a6, a7, a8, a9, a10, a11, a12, b1, b2, b3, b4, b5, b6, b7, b8, b9, b10, b11, t1, c1, q1, n1, ck, f1, f2, f3, f4, d1, d2, d3, d4, true_and, true_or, or_true, e1, e2, e3, e4, nI_clamp (show k < 2 ^ 31 by omega), er, ex, nI_1, em]
    have eD : oDue v (n + 1) k S1 = if g 4 = sClk S1 then oDue v n k (oGive S1 v k g) else oDue v n (k + 1) S1 := by
      show (match (sD S1 v)[k]? with | some g => _ | none => _) = _
      rw [hg]
    refine ⟨vp_in_nI (by omega) (by omega), fun q => ?_, fun q => ⟨_, k35 hw hv X1 ok1 oq1 hg, ?_⟩⟩
    · exact ih (k + 1) h1 S1 (by omega) X1 ok1 oq1 s1 (by rw [← e, eD, if_neg q])
    · rintro r h2 ⟨rfl, X2, s2⟩
      refine r34_42 ?_
      rw [em]
      have hD := (oGive_D (S := S1) (v := v) (k := k) (g := g)).1
      refine ih k h2 _ ?_ X2 (okD_er hD ok1) (oGive_Q oq1) (s1.tr s2) (by rw [← e, eD, if_pos q])
      rw [hD, updD_at, List.length_eraseIdx_of_lt hkl]; omega
def oSC (S : sS) (p : Int32) : sS := if (sD S 0).length = 4 ∨ (sFx (pFind 3 (p / 4) (p - p / 4 * 4)) (sD S 0) 0).isSome then S else
  oSend (oBegin S 0 3 (p / 4) (p - p / 4 * 4) (sClk S + 4) 0) (sRow [0, p / 4, 13, p - p / 4 * 4, sL S 0 + 1, 0, 0])
theorem k36 {d : Nat} {h : zH} {w : Nat} {S : sS} {p : Int32} (hw : w ≤ 4) (X : XS h w S) : zD (d + 3) 36 [.inr 3, .inl p] h (fun r h' => r = none ∧ XS h' w (oSC S p) ∧ zSame (xA w) h h') := by
  have h0 := Nat.zero_le w
  have hl : (sD S 0).length ≤ 4 := X.dl h0
  obtain ⟨g1, g2, ⟨a1, a2, a3, a4, a5, a6, a7, a8, a9, a10, a11, a12⟩, ⟨b1, b2, b3, b4, b5, b6, b7, b8, b9, b10, b11⟩, g5, t1, c1, q1, n1, ck, ⟨f1, f2, f3, f4⟩, ⟨d1, d2, d3, d4⟩⟩ := X.all
  refine zD_of rfl (r36_0 ?_)
  simp only [g1, g2, a1, a2, a3, a4, a5, a6, a7, a8, a9, a10, a11, a12, b1, b2, b3, b4, b5, b6, b7, b8, b9, b10, b11, t1, c1, q1, n1, ck, f1, f2, f3, f4, d1, d2, d3, d4, true_and, true_or, or_true]
  refine ⟨by decide, by decide, _, c59 (nC_le 0) (X.gd h0) (X.xd h0), ?_⟩
  rintro r _ ⟨rfl, rfl⟩
  refine r36_15 ⟨fun q => ?_, fun q => ?_⟩
  · have h4 : (sD S 0).length = 4 := Classical.byContradiction fun e => q (by rw [show nC 0 = 4 from rfl, if_neg e])
    exact ⟨rfl, by unfold oSC; rw [if_pos (Or.inl h4)]; exact X, zSame.rf⟩
  have h4 : ¬ (sD S 0).length = 4 := fun e => by rw [show nC 0 = 4 from rfl, if_pos e] at q; exact absurd q (by decide)
  simp only [g1, g2, a1, a2, a3, a4, a5, a6, a7, a8, a9, a10, a11, a12, b1, b2, b3, b4, b5, b6, b7, b8, b9, b10, b11, t1, c1, q1, n1, ck, f1, f2, f3, f4, d1, d2, d3, d4, true_and, true_or, or_true]
  refine ⟨_, c62 (nC_le 0) (X.gd h0) (X.xd h0), ?_⟩
  rintro r _ ⟨rfl, rfl⟩
  refine r36_28 ⟨fun q => ?_, fun q => ?_⟩
  rotate_left
  · have hn : ¬ sFx (pFind 3 (p / 4) (p - p / 4 * 4)) (sD S 0) 0 = none := fun e => q ((sIx_neg (X.dl2 h0)).mpr e)
    obtain ⟨k, hk⟩ := Option.ne_none_iff_exists'.mp hn
    exact ⟨rfl, by unfold oSC; rw [if_pos (Or.inr (by rw [hk]; rfl))]; exact X, zSame.rf⟩
  have hn : sFx (pFind 3 (p / 4) (p - p / 4 * 4)) (sD S 0) 0 = none := (sIx_neg (X.dl2 h0)).mp q
  simp only [g1, g2, a1, a2, a3, a4, a5, a6, a7, a8, a9, a10, a11, a12, b1, b2, b3, b4, b5, b6, b7, b8, b9, b10, b11, t1, c1, q1, n1, ck, f1, f2, f3, f4, d1, d2, d3, d4, true_and, true_or, or_true]
  refine ⟨_, k60 hw h0 X (by rw [show nC 0 = 4 from rfl]; omega), ?_⟩
  rintro r h1 ⟨rfl, X1, s1⟩
  obtain ⟨g1, g2, ⟨a1, a2, a3, a4, a5, a6, a7, a8, a9, a10, a11, a12⟩, ⟨b1, b2, b3, b4, b5, b6, b7, b8, b9, b10, b11⟩, g5, t1, c1, q1, n1, ck, ⟨f1, f2, f3, f4⟩, ⟨d1, d2, d3, d4⟩⟩ := X1.all
  refine r36_50 ?_
  simp only [g1, g2, a1, a2, a3, a4, a5, a6, a7, a8, a9, a10, a11, a12, b1, b2, b3, b4, b5, b6, b7, b8, b9, b10, b11, t1, c1, q1, n1, ck, f1, f2, f3, f4, d1, d2, d3, d4, true_and, true_or, or_true]
  refine ⟨_, k71 hw X1, ?_⟩
  rintro r h2 ⟨rfl, X2, s2⟩
  refine r36_68 ⟨rfl, ?_, s1.tr s2⟩
  unfold oSC; rw [if_neg (fun z => z.elim h4 (fun z => by rw [hn] at z; cases z))]; exact X2
def oDues : Nat → Nat → sS → sS
  | 0, _, S => S
  | n + 1, v, S => oDues n (v + 1) (oDue v (sD S v).length 0 S)
def oSCs : Nat → Nat → sS → sS
  | 0, _, S => S
  | n + 1, k, S => match (sC S)[k]? with
    | some p => oSCs n (k + 1) (oSC S p)
    | none => S
def oFree (S : sS) : sS := stU (stO S (fun k => if sU S k = sClk S then -1 else sO S k)) (sU S)
def oTick (w : Nat) (S : sS) : sS := oSCs (sC (oFree (oDues (w + 1) 0 (stClk S (sClk S + 1))))).length 0 (oFree (oDues (w + 1) 0 (stClk S (sClk S + 1))))
theorem oDue_ok {w v : Nat} : ∀ (n k : Nat) (S : sS), okD w S → okQ (sQ S) → okD w (oDue v n k S) ∧ okQ (sQ (oDue v n k S)) ∧ sClk (oDue v n k S) = sClk S
  | 0, _, S, h1, h2 => ⟨h1, h2, rfl⟩
  | n + 1, k, S, h1, h2 => by
    unfold oDue
    split
    · rename_i g hg
      split
      · have hD := oGive_D (S := S) (v := v) (k := k) (g := g)
        have := oDue_ok (w := w) (v := v) n k (oGive S v k g) (okD_er hD.1 h1) (oGive_Q h2)
        rw [hD.2] at this; exact this
      · exact oDue_ok n (k + 1) S h1 h2
    · exact ⟨h1, h2, rfl⟩
theorem oSC_CC {S : sS} {p : Int32} : sC (oSC S p) = sC S ∧ sClk (oSC S p) = sClk S := by
  unfold oSC; split <;> exact ⟨rfl, rfl⟩
theorem oSCs_clk : ∀ (n k : Nat) (S : sS), sClk (oSCs n k S) = sClk S
  | 0, _, _ => rfl
  | n + 1, k, S => by
    unfold oSCs
    split
    · rw [oSCs_clk n (k + 1)]; exact oSC_CC.2
    · rfl
theorem oDues_clk {w : Nat} : ∀ (n v : Nat) (S : sS), okD w S → okQ (sQ S) → sClk (oDues n v S) = sClk S
  | 0, _, _, _, _ => rfl
  | n + 1, v, S, h1, h2 => by
    unfold oDues
    obtain ⟨a1, a2, a3⟩ := oDue_ok (w := w) (v := v) (sD S v).length 0 S h1 h2
    rw [oDues_clk n (v + 1) _ a1 a2, a3]
theorem oTick_clk {w : Nat} {S : sS} (ok : okD w S) (oq : okQ (sQ S)) : sClk (oTick w S) = sClk S + 1 := by
  unfold oTick
  rw [oSCs_clk]
  show sClk (oDues (w + 1) 0 (stClk S (sClk S + 1))) = _
  rw [oDues_clk (w := w) _ _ (stClk S (sClk S + 1)) ok oq]; rfl
theorem k11 {d : Nat} {h : zH} {w : Nat} {S : sS} (hw : w ≤ 4) (X : XS h w S) (ok : okD w S) (oq : okQ (sQ S)) : zD (d + 5) 11 [.inr 3] h (fun r h' => r = some (.inl (sClk S + 1)) ∧ XS h' w (oTick w S) ∧ zSame (xB w) h h') := by
  have clk := oTick_clk ok oq
  have tail2 : ∀ n k h1 S1, k + n = (sC S1).length → XS h1 w S1 → zSame (xA w) h h1 → oSCs n k S1 = oTick w S → zWp zm11 (zD (d + 4)) (fun r h' => r = some (.inl (sClk S + 1)) ∧ XS h' w (oTick w S) ∧ zSame (xB w) h h') 0 0 44 [some (.inr 3), some (.inl (nI k))] [] h1 := by
    intro n
    induction n with
    | zero =>
      intro k h1 S1 hk X1 s1 e
      have hc6 := X1.xc.1
      obtain ⟨g1, g2, ⟨a1, a2, a3, a4, a5, a6, a7, a8, a9, a10, a11, a12⟩, ⟨b1, b2, b3, b4, b5, b6, b7, b8, b9, b10, b11⟩, g5, t1, c1, q1, n1, ck, ⟨f1, f2, f3, f4⟩, ⟨d1, d2, d3, d4⟩⟩ := X1.all
      refine r11_44 ?_
      simp only [g1, g2, a1, a2, a3, a4, a5, a6, a7, a8, a9, a10, a11, a12, b1, b2, b3, b4, b5, b6, b7, b8, b9, b10, b11, t1, c1, q1, n1, ck, f1, f2, f3, f4, d1, d2, d3, d4, true_and, true_or, or_true, X1.xc.2.1]
      refine ⟨fun _ => ⟨?_, by rw [← e]; exact X1, xAB s1⟩, fun q => absurd (nI_le (by omega) (by omega)) q⟩
      have e' : S1 = oTick w S := e
      rw [e', clk]
    | succ n ih =>
      intro k h1 S1 hk X1 s1 e
      have hc6 := X1.xc.1
      obtain ⟨p, hp⟩ := at_lt (show k < (sC S1).length by omega)
      obtain ⟨g1, g2, ⟨a1, a2, a3, a4, a5, a6, a7, a8, a9, a10, a11, a12⟩, ⟨b1, b2, b3, b4, b5, b6, b7, b8, b9, b10, b11⟩, g5, t1, c1, q1, n1, ck, ⟨f1, f2, f3, f4⟩, ⟨d1, d2, d3, d4⟩⟩ := X1.all
      refine r11_44 ?_
      simp only [g1, g2, a1, a2, a3, a4, a5, a6, a7, a8, a9, a10, a11, a12, b1, b2, b3, b4, b5, b6, b7, b8, b9, b10, b11, t1, c1, q1, n1, ck, f1, f2, f3, f4, d1, d2, d3, d4, true_and, true_or, or_true, X1.xc.2.1]
      refine ⟨fun q => absurd q (nI_ge (by omega) (by omega)), fun _ => ⟨_, c44 X1.2.2.1 X1.xc, ?_⟩⟩
      rintro r _ ⟨rfl, rfl⟩
      rw [if_pos (nI_pos' (by omega)), nI_clamp (by omega), hp]
      refine r11_64 ⟨g1, _, k36 hw X1, ?_⟩
      rintro r h2 ⟨rfl, X2, s2⟩
      refine r11_67 ?_
      rw [nI_1]
      refine ih (k + 1) h2 _ (by rw [show (some p).getD (-1) = p from rfl, oSC_CC.1]; omega) X2 (s1.tr s2) ?_
      rw [← e]
      show _ = (match (sC S1)[k]? with | some p => oSCs n (k + 1) (oSC S1 p) | none => S1)
      rw [hp]; rfl
  have tail1 : ∀ n v h1 S1, v + n = w + 1 → XS h1 w S1 → okD w S1 → okQ (sQ S1) → zSame (xA w) h h1 → oDues n v S1 = oDues (w + 1) 0 (stClk S (sClk S + 1)) → zWp zm11 (zD (d + 4)) (fun r h' => r = some (.inl (sClk S + 1)) ∧ XS h' w (oTick w S) ∧ zSame (xB w) h h') 0 0 12 [some (.inr 3), some (.inl (nI v))] [] h1 := by
    intro n
    induction n with
    | zero =>
      intro v h1 S1 hv X1 ok1 oq1 s1 e
      obtain ⟨g1, g2, ⟨a1, a2, a3, a4, a5, a6, a7, a8, a9, a10, a11, a12⟩, ⟨b1, b2, b3, b4, b5, b6, b7, b8, b9, b10, b11⟩, g5, t1, c1, q1, n1, ck, ⟨f1, f2, f3, f4⟩, ⟨d1, d2, d3, d4⟩⟩ := X1.all
      refine r11_12 ?_
      simp only [g1, g2, a1, a2, a3, a4, a5, a6, a7, a8, a9, a10, a11, a12, b1, b2, b3, b4, b5, b6, b7, b8, b9, b10, b11, t1, c1, q1, n1, ck, f1, f2, f3, f4, d1, d2, d3, d4, true_and, true_or, or_true, nI_ltI (show w < 2 ^ 31 by omega) (show v < 2 ^ 31 by omega)]
      refine ⟨fun _ => ⟨_, k56 hw X1, ?_⟩, fun q => absurd (by omega) q⟩
      rintro r h2 ⟨rfl, X2, s2⟩
      refine r11_42 ?_
      have e' : S1 = oDues (w + 1) 0 (stClk S (sClk S + 1)) := e
      exact tail2 _ 0 h2 (oFree S1) (Nat.zero_add _) X2 (s1.tr s2) (by unfold oTick; rw [← e'])
    | succ n ih =>
      intro v h1 S1 hv X1 ok1 oq1 s1 e
      obtain ⟨g1, g2, ⟨a1, a2, a3, a4, a5, a6, a7, a8, a9, a10, a11, a12⟩, ⟨b1, b2, b3, b4, b5, b6, b7, b8, b9, b10, b11⟩, g5, t1, c1, q1, n1, ck, ⟨f1, f2, f3, f4⟩, ⟨d1, d2, d3, d4⟩⟩ := X1.all
      refine r11_12 ?_
      simp only [g1, g2, a1, a2, a3, a4, a5, a6, a7, a8, a9, a10, a11, a12, b1, b2, b3, b4, b5, b6, b7, b8, b9, b10, b11, t1, c1, q1, n1, ck, f1, f2, f3, f4, d1, d2, d3, d4, true_and, true_or, or_true, nI_ltI (show w < 2 ^ 31 by omega) (show v < 2 ^ 31 by omega)]
      refine ⟨fun q => absurd q (by omega), fun _ => ⟨_, k34 hw (show v ≤ w by omega) X1 ok1 oq1, ?_⟩⟩
      rintro r h2 ⟨rfl, X2, s2⟩
      refine r11_25 ?_
      rw [nI_1]
      obtain ⟨o1, o2, -⟩ := oDue_ok (w := w) (v := v) (sD S1 v).length 0 S1 ok1 oq1
      exact ih (v + 1) h2 _ (by omega) X2 o1 o2 (s1.tr s2) e
  obtain ⟨g1, g2, ⟨a1, a2, a3, a4, a5, a6, a7, a8, a9, a10, a11, a12⟩, ⟨b1, b2, b3, b4, b5, b6, b7, b8, b9, b10, b11⟩, g5, t1, c1, q1, n1, ck, ⟨f1, f2, f3, f4⟩, ⟨d1, d2, d3, d4⟩⟩ := X.all
  refine zD_of rfl (r11_0 ?_)
  simp only [g1, g2, a1, a2, a3, a4, a5, a6, a7, a8, a9, a10, a11, a12, b1, b2, b3, b4, b5, b6, b7, b8, b9, b10, b11, t1, c1, q1, n1, ck, f1, f2, f3, f4, d1, d2, d3, d4, true_and, true_or, or_true, forall_eq]
  exact tail1 (w + 1) 0 _ _ (Nat.zero_add _) (X.Clk hw) ok oq (zSame.wI (by unfold xA; omega)) rfl
