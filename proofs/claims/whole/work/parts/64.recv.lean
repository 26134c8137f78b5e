/-! ===== what arrives, the rest of it ===== -/
theorem XS.dn {h : zH} {w : Nat} {S : sS} (X : XS h w S) {v : Nat} (hv : v ≤ w) : zK h (nA v) = 15 ∧ zR h (nA v) 0 = nA v + 1 ∧ zK h (nA v + 1) = 14 ∧ zL h (nA v + 1) = nC v := ⟨(X.gd hv).1, (X.gd hv).2.1, (X.gd hv).2.2.1, (X.gd hv).2.2.2.1⟩
def oEndR (S : sS) (v k sn : Nat) (how : Int32) : sS := oEnd (oStand S (4 * v + sn) how) v k
theorem k32 {d : Nat} {h : zH} {w v k sn : Nat} {S : sS} {g : Nat → Int32} {how : Int32} (hw : w ≤ 4) (hv : v ≤ w) (hk : (sD S v)[k]? = some g) (hs : sn < 4) (hg : g 3 = nI sn) (X : XS h w S) : zD (d + 2) 32 [.inr 3, .inl (nI v), .inl (nI k), .inl how] h (fun r h' => r = none ∧ XS h' w (oEndR S v k sn how) ∧ zSame (xA w) h h') := by
  obtain ⟨g1, g2, ⟨a1, a2, a3, a4, a5, a6, a7, a8, a9, a10, a11, a12⟩, ⟨b1, b2, b3, b4, b5, b6, b7, b8, b9, b10, b11⟩, g5, t1, c1, q1, n1, ck, ⟨f1, f2, f3, f4⟩, ⟨d1, d2, d3, d4⟩⟩ := X.all
  obtain ⟨e1, e2, e3, e4⟩ := X.dn hv
  have hkl := lt_at hk
  have hl := X.dl hv
  have hc := nC_le v
  have er := (X.gd hv).row (show k < nC v by omega)
  have ex := (X.xd hv).2.2 k g hk 3 (by decide)
  refine zD_of rfl (r32_0 ?_)
  simp only [g1, g2, a1, a2, a3, a4, a5, a6, a7, a8, a9, a10, a11, a12, b1, b2, b3, b4, b5, b6, b7, b8, b9, b10, b11, t1, c1, q1, n1, ck, f1, f2, f3, f4, d1, d2, d3, d4, true_and, true_or, or_true, nI_clamp (show v < 2 ^ 31 by omega), nI_clamp (show k < 2 ^ 31 by omega), g5 v hv, e1, e2, e3, e4, er, ex, hg]
  refine ⟨vp_in_nI (by omega) (by omega), vp_in_nI (by omega) (by omega), _, c22, ?_⟩
  rintro r _ ⟨rfl, rfl⟩
  rw [e4x v sn]
  refine r32_22 ?_
  simp only [zK_wI, zL_wI, zR_wI, g1, g2, a1, a2, a3, a4, a5, a6, a7, a8, a9, a10, a11, a12, b1, b2, b3, b4, b5, b6, b7, b8, b9, b10, b11, t1, c1, q1, n1, ck, f1, f2, f3, f4, d1, d2, d3, d4, true_and, true_or, or_true, forall_eq, nI_clamp (show 4 * v + sn < 2 ^ 31 by omega), nI_clamp (show v < 2 ^ 31 by omega), g5 v hv, e1]
  refine ⟨vp_in_nI (by omega) (by omega), vp_in_nI (by omega) (by omega), _, k64 hw hv (X.St hw), ?_⟩
  rintro r h2 ⟨rfl, X2, s2⟩
  rw [if_pos (nI_pos' (by omega)), nI_clamp (by omega)] at X2
  exact r32_34 ⟨rfl, X2, (zSame.wI (by unfold xA; omega)).tr s2⟩
def oDead (S : sS) (v k : Nat) (g : Nat → Int32) (x : Int32) : sS := stD S (updD (sD S) v ((sD S v).set k (upd g 4 x)))
theorem XS.dead {h : zH} {w v k : Nat} {S : sS} {g : Nat → Int32} {x : Int32} (hw : w ≤ 4) (hv : v ≤ w) (hk : (sD S v)[k]? = some g) (X : XS h w S) : XS (zwI h (zR h (nA v + 1) k) 4 x) w (oDead S v k g x) ∧ zSame (xA w) h (zwI h (zR h (nA v + 1) k) 4 x) := by
  have hkl := lt_at hk
  have hl := X.dl hv
  have hin := (X.gd hv).2.2.2.2.2.1 k (by omega)
  have hne := (X.gd hv).ne (show k < nC v by omega)
  have hs : zSame (fun q => nA v ≤ q ∧ q < nA v + 2 + nC v) h (zwI h (zR h (nA v + 1) k) 4 x) := zSame.wI (by omega)
  have Y := X.D (n := sL S v) (F := (sD S v).set k (upd g 4 x)) hw hv hs (X.gd hv) ?_ (by rw [zI_oa (fun e => hne e.symm)]; exact X.ld hv)
  · rw [show upd (sL S) v (sL S v) = sL S from upd_self] at Y
    exact ⟨Y, hs.wd (fun q hq => by have := (nA_in v).1; have := nA_hi hv; unfold xA; omega)⟩
  · refine ⟨by rw [List.length_set]; exact hl, by rw [List.length_set, zI_oa (fun e => hne e.symm)]; exact (X.xd hv).2.1, fun j f hf i hi => ?_⟩
    show zI (zwI h (zR h (nA v + 1) k) 4 x) (zR h (nA v + 1) j) i = f i
    by_cases e : j = k
    · subst e
      rw [List.getElem?_set_self hkl] at hf
      cases hf
      unfold upd
      by_cases e4' : i = 4
      · rw [if_pos e4', e4', zI_at]
      · rw [if_neg e4', zI_ok e4']; exact (X.xd hv).2.2 j g hk i hi
    · rw [List.getElem?_set_ne (fun z => e z.symm)] at hf
      have hj := lt_at hf
      rw [zI_oa (fun z => e ((X.gd hv).2.2.2.2.2.2 _ _ (by omega) (by omega) z))]
      exact (X.xd hv).2.2 j f hf i hi
def pNum (n : Int32) : (Nat → Int32) → Bool := fun f => decide (f 0 = n)
def oIns (S : sS) (rn sn : Nat) (f : Nat → Int32) : sS := match sFx (pNum (f 5)) (sD S rn) 0 with
  | none => oAbort S f
  | some k => if rn = 0 then oSend (oEnd S 0 k) (sRow [0, f 0, 31, f 3, f 5, f 4, 0]) else
    match (sD S rn)[k]? with
    | some g => oSend (oDead (oHold S (4 * rn + sn) 1) rn k g (sClk S + 10)) (sRow [f 1, 0, 22, f 3, f 5, f 4, 0])
    | none => S
theorem k28 {d : Nat} {h : zH} {w rn sn : Nat} {S : sS} {f : Nat → Int32} (hw : w ≤ 4) (hr : rn ≤ w) (hs : sn < 4) (X : XS h w S) (hf : ∀ i, i < 7 → zI h 41 i = f i) (hfr : f 1 = nI rn) (hfs : f 3 = nI sn) : zD (d + 4) 28 [.inr 3, .inr 41] h (fun r h' => r = none ∧ XS h' w (oIns S rn sn f) ∧ zSame (xA w) h h') := by
  have h0 := Nat.zero_le w
  have hl := X.dl hr
  have hc := nC_le rn
  obtain ⟨g1, g2, ⟨a1, a2, a3, a4, a5, a6, a7, a8, a9, a10, a11, a12⟩, ⟨b1, b2, b3, b4, b5, b6, b7, b8, b9, b10, b11⟩, g5, t1, c1, q1, n1, ck, ⟨f1, f2, f3, f4⟩, ⟨d1, d2, d3, d4⟩⟩ := X.all
  obtain ⟨e1, e2, e3, e4⟩ := X.dn hr
  refine zD_of rfl (r28_0 ?_)
  simp only [g1, g2, a1, a2, a3, a4, a5, a6, a7, a8, a9, a10, a11, a12, b1, b2, b3, b4, b5, b6, b7, b8, b9, b10, b11, t1, c1, q1, n1, ck, f1, f2, f3, f4, d1, d2, d3, d4, true_and, true_or, or_true, hf 1 (by decide), hf 5 (by decide), hfr, nI_clamp (show rn < 2 ^ 31 by omega), g5 rn hr, e1]
  refine ⟨vp_in_nI (by omega) (by omega), _, c61 (nC_le rn) (X.gd hr) (X.xd hr), ?_⟩
  rintro r _ ⟨rfl, rfl⟩
  refine r28_16 ⟨fun q => ?_, fun q => ?_⟩
  rotate_left
  · have hn : sFx (pNum (f 5)) (sD S rn) 0 = none := (sIx_neg (X.dl2 hr)).mp q
    refine ⟨g1, _, k33 hw X hf, ?_⟩
    rintro r h1 ⟨rfl, X1, s1⟩
    refine r28_27 (r28_143 ⟨rfl, ?_, s1⟩)
    unfold oIns; rw [hn]; exact X1
  have hn : ¬ sFx (pNum (f 5)) (sD S rn) 0 = none := fun e => q ((sIx_neg (X.dl2 hr)).mpr e)
  obtain ⟨k, hk⟩ := Option.ne_none_iff_exists'.mp hn
  obtain ⟨g, hg, -⟩ := sFx_some hk
  have hkl := lt_at hg
  rw [show sIx (fun f_1 => decide (f_1 0 = f 5)) (sD S rn) 0 = nI k from sIx_pos hk]
  simp only [g1, g2, a1, a2, a3, a4, a5, a6, a7, a8, a9, a10, a11, a12, b1, b2, b3, b4, b5, b6, b7, b8, b9, b10, b11, t1, c1, q1, n1, ck, f1, f2, f3, f4, d1, d2, d3, d4, true_and, true_or, or_true, hf 1 (by decide), hf 3 (by decide), hfr, hfs]
  refine ⟨fun q2 => ?_, fun q2 => ?_⟩
  · have hr0 : ¬ rn = 0 := fun e => q2 (by rw [e]; rfl)
    refine ⟨_, c22, ?_⟩
    rintro r _ ⟨rfl, rfl⟩
    rw [e4x rn sn]
    have X1 := X.He (k := 4 * rn + sn) (x := 1) hw
    have f41 : ∀ i, i < 7 → zI (zwI h 42 (4 * rn + sn) 1) 41 i = f i := fun i hi => by rw [zI_oa (by decide)]; exact hf i hi
    have hg1 : (sD (oHold S (4 * rn + sn) 1) rn)[k]? = some g := hg
    obtain ⟨X2, s2⟩ := XS.dead (x := sClk S + 10) hw hr hg1 X1
    have er := (X.gd hr).row (show k < nC rn by omega)
    have ne41 : (41 : Nat) ≠ zR h (nA rn + 1) k := by have := (X.gd hr).2.2.2.2.2.1 k (by omega); have := (nA_in rn).1; omega
    have f41b : ∀ i, i < 7 → zI (zwI (zwI h 42 (4 * rn + sn) 1) (zR h (nA rn + 1) k) 4 (sClk S + 10)) 41 i = f i := fun i hi => by rw [zI_oa ne41]; exact f41 i hi
    have ckb : zI (zwI h 42 (4 * rn + sn) 1) 3 1 = sClk S := by rw [zI_oa (by decide)]; exact ck
    refine r28_90 ?_
    simp only [zK_wI, zL_wI, zR_wI, g1, g2, a1, a2, a3, a4, a5, a6, a7, a8, a9, a10, a11, a12, b1, b2, b3, b4, b5, b6, b7, b8, b9, b10, b11, t1, c1, q1, n1, ck, f1, f2, f3, f4, d1, d2, d3, d4, true_and, true_or, or_true, forall_eq, show vp_nar FieldType.boolean 1 = 1 from rfl, nI_clamp (show 4 * rn + sn < 2 ^ 31 by omega), nI_clamp (show rn < 2 ^ 31 by omega), nI_clamp (show k < 2 ^ 31 by omega), f41 1 (by decide), hfr, g5 rn hr, e1, e2, e3, e4, er, ckb, f41b 1 (by decide), f41b 3 (by decide), f41b 4 (by decide), f41b 5 (by decide)]
    refine ⟨vp_in_nI (by omega) (by omega), vp_in_nI (by omega) (by omega), vp_in_nI (by omega) (by omega), _, k71 hw X2, ?_⟩
    rintro r h3 ⟨rfl, X3, s3⟩
    refine r28_143 ⟨rfl, ?_, ((zSame.wI (by unfold xA; omega)).tr s2).tr s3⟩
    unfold oIns
    rw [hk]
    show XS h3 w (if _ then _ else _)
    rw [if_neg hr0, hg, hfr]
    exact X3
  · have hr0 : rn = 0 := (nI_eq (by omega) (by decide)).mp (show nI rn = nI 0 from q2)
    subst hr0
    refine ⟨_, k64 hw h0 X, ?_⟩
    rintro r h1 ⟨rfl, X1, s1⟩
    rw [if_pos (nI_pos' (by omega)), nI_clamp (by omega)] at X1
    have hf1 := s41 s1 hf
    obtain ⟨g1, g2, ⟨a1, a2, a3, a4, a5, a6, a7, a8, a9, a10, a11, a12⟩, ⟨b1, b2, b3, b4, b5, b6, b7, b8, b9, b10, b11⟩, g5, t1, c1, q1, n1, ck, ⟨f1, f2, f3, f4⟩, ⟨d1, d2, d3, d4⟩⟩ := X1.all
    refine r28_45 ?_
    simp only [g1, g2, a1, a2, a3, a4, a5, a6, a7, a8, a9, a10, a11, a12, b1, b2, b3, b4, b5, b6, b7, b8, b9, b10, b11, t1, c1, q1, n1, ck, f1, f2, f3, f4, d1, d2, d3, d4, true_and, true_or, or_true, hf1 0 (by decide), hf1 3 (by decide), hf1 4 (by decide), hf1 5 (by decide)]
    refine ⟨_, k71 hw X1, ?_⟩
    rintro r h2 ⟨rfl, X2, s2⟩
    refine r28_72 (r28_143 ⟨rfl, ?_, s1.tr s2⟩)
    unfold oIns
    rw [hk]
    exact X2
def oCan (S : sS) (rn sn : Nat) (f : Nat → Int32) : sS := oSend (match sFx (pFind 1 0 (f 3)) (sD S rn) 0 with
  | some k => oEndR (oHold S (4 * rn + sn) 0) rn k sn 3
  | none => oHold S (4 * rn + sn) 0) (sRow [f 1, 0, 33, f 3, 0, f 4, 0])
theorem k29 {d : Nat} {h : zH} {w rn sn : Nat} {S : sS} {f : Nat → Int32} (hw : w ≤ 4) (hr : rn ≤ w) (hs : sn < 4) (X : XS h w S) (hf : ∀ i, i < 7 → zI h 41 i = f i) (hfr : f 1 = nI rn) (hfs : f 3 = nI sn) : zD (d + 3) 29 [.inr 3, .inr 41] h (fun r h' => r = none ∧ XS h' w (oCan S rn sn f) ∧ zSame (xA w) h h') := by
  have hl := X.dl hr
  have hc := nC_le rn
  have tail : ∀ (h1 : zH) (S1 : sS) (o : Int32), XS h1 w S1 → zSame (xA w) h h1 → oCan S rn sn f = oSend S1 (sRow [f 1, 0, 33, f 3, 0, f 4, 0]) → zWp zm29 (zD (d + 2)) (fun r h' => r = none ∧ XS h' w (oCan S rn sn f) ∧ zSame (xA w) h h') 0 0 47 [some (.inr 3), some (.inr 41), some (.inl (nI rn)), some (.inl o)] [] h1 := by
    intro h1 S1 o X1 s1 e
    have hf1 := s41 s1 hf
    obtain ⟨g1, g2, ⟨a1, a2, a3, a4, a5, a6, a7, a8, a9, a10, a11, a12⟩, ⟨b1, b2, b3, b4, b5, b6, b7, b8, b9, b10, b11⟩, g5, t1, c1, q1, n1, ck, ⟨f1, f2, f3, f4⟩, ⟨d1, d2, d3, d4⟩⟩ := X1.all
    refine r29_47 ?_
    simp only [g1, g2, a1, a2, a3, a4, a5, a6, a7, a8, a9, a10, a11, a12, b1, b2, b3, b4, b5, b6, b7, b8, b9, b10, b11, t1, c1, q1, n1, ck, f1, f2, f3, f4, d1, d2, d3, d4, true_and, true_or, or_true, hf1 3 (by decide), hf1 4 (by decide)]
    refine ⟨_, k71 hw X1, ?_⟩
    rintro r h2 ⟨rfl, X2, s2⟩
    refine r29_68 ⟨rfl, ?_, s1.tr s2⟩
    rw [e, hfr]; exact X2
  obtain ⟨g1, g2, ⟨a1, a2, a3, a4, a5, a6, a7, a8, a9, a10, a11, a12⟩, ⟨b1, b2, b3, b4, b5, b6, b7, b8, b9, b10, b11⟩, g5, t1, c1, q1, n1, ck, ⟨f1, f2, f3, f4⟩, ⟨d1, d2, d3, d4⟩⟩ := X.all
  obtain ⟨e1, e2, e3, e4⟩ := X.dn hr
  refine zD_of rfl (r29_0 ?_)
  simp only [g1, g2, a1, a2, a3, a4, a5, a6, a7, a8, a9, a10, a11, a12, b1, b2, b3, b4, b5, b6, b7, b8, b9, b10, b11, t1, c1, q1, n1, ck, f1, f2, f3, f4, d1, d2, d3, d4, true_and, true_or, or_true, hf 1 (by decide), hf 3 (by decide), hfr, hfs]
  refine ⟨_, c22, ?_⟩
  rintro r _ ⟨rfl, rfl⟩
  rw [e4x rn sn]
  have X1 := X.He (k := 4 * rn + sn) (x := 0) hw
  have s1 : zSame (xA w) h (zwI h 42 (4 * rn + sn) 0) := zSame.wI (by unfold xA; omega)
  have f41 := s41 s1 hf
  refine r29_17 ?_
  simp only [zK_wI, zL_wI, zR_wI, g1, g2, a1, a2, a3, a4, a5, a6, a7, a8, a9, a10, a11, a12, b1, b2, b3, b4, b5, b6, b7, b8, b9, b10, b11, t1, c1, q1, n1, ck, f1, f2, f3, f4, d1, d2, d3, d4, true_and, true_or, or_true, forall_eq, show vp_nar FieldType.boolean 0 = 0 from rfl, nI_clamp (show 4 * rn + sn < 2 ^ 31 by omega), nI_clamp (show rn < 2 ^ 31 by omega), g5 rn hr, e1, f41 3 (by decide)]
  refine ⟨vp_in_nI (by omega) (by omega), vp_in_nI (by omega) (by omega), _, c62 (nC_le rn) (X1.gd hr) (X1.xd hr), ?_⟩
  rintro r _ ⟨rfl, rfl⟩
  refine r29_34 ⟨fun q => ?_, fun q => ?_⟩
  · have hn : sFx (pFind 1 0 (f 3)) (sD S rn) 0 = none := (sIx_neg (X1.dl2 hr)).mp q
    exact tail _ _ _ X1 s1 (by unfold oCan; rw [hn]; rfl)
  have hn : ¬ sFx (pFind 1 0 (f 3)) (sD S rn) 0 = none := fun e => q ((sIx_neg (X1.dl2 hr)).mpr e)
  obtain ⟨k, hk⟩ := Option.ne_none_iff_exists'.mp hn
  obtain ⟨g, hg, hp, -⟩ := sFx_some hk
  have hkl := lt_at hg
  have hg3 : g 3 = nI sn := by rw [← hfs]; exact (of_decide_eq_true hp).2.2
  rw [show sIx (pFind 1 0 (f 3)) (sD (stHe S (upd (sHe S) (4 * rn + sn) 0)) rn) 0 = nI k from sIx_pos hk]
  refine ⟨g1, _, k32 hw hr (S := stHe S (upd (sHe S) (4 * rn + sn) 0)) hg hs hg3 X1, ?_⟩
  rintro r h2 ⟨rfl, X2, s2⟩
  exact tail h2 _ _ X2 (s1.tr s2) (by unfold oCan; rw [hk]; rfl)
def oPro (S : sS) (rn sn : Nat) (f : Nat → Int32) : sS := if sHe S (4 * rn + sn) = 0 then oSend S (sRow [f 1, 0, 34, f 3, 0, f 4, -1]) else
  oSend (stU (stO S (sUpK (sO S) rn (sAlK (sO S) rn) (f 3))) (sUpK (sU S) rn (sAlK (sO S) rn) (sClk S + 8))) (sRow [f 1, 0, 34, f 3, 0, f 4, sAlR (sO S) rn])
theorem k30 {d : Nat} {h : zH} {w rn sn : Nat} {S : sS} {f : Nat → Int32} (hw : w ≤ 4) (hr : rn ≤ w) (hs : sn < 4) (X : XS h w S) (hf : ∀ i, i < 7 → zI h 41 i = f i) (hfr : f 1 = nI rn) (hfs : f 3 = nI sn) : zD (d + 3) 30 [.inr 3, .inr 41] h (fun r h' => r = none ∧ XS h' w (oPro S rn sn f) ∧ zSame (xA w) h h') := by
  obtain ⟨g1, g2, ⟨a1, a2, a3, a4, a5, a6, a7, a8, a9, a10, a11, a12⟩, ⟨b1, b2, b3, b4, b5, b6, b7, b8, b9, b10, b11⟩, g5, t1, c1, q1, n1, ck, ⟨f1, f2, f3, f4⟩, ⟨d1, d2, d3, d4⟩⟩ := X.all
  refine zD_of rfl (r30_0 ?_)
  simp only [g1, g2, a1, a2, a3, a4, a5, a6, a7, a8, a9, a10, a11, a12, b1, b2, b3, b4, b5, b6, b7, b8, b9, b10, b11, t1, c1, q1, n1, ck, f1, f2, f3, f4, d1, d2, d3, d4, true_and, true_or, or_true, hf 1 (by decide), hf 3 (by decide), hfr, hfs]
  refine ⟨_, c22, ?_⟩
  rintro r _ ⟨rfl, rfl⟩
  rw [e4x rn sn]
  refine r30_19 ?_
  simp only [g1, g2, a1, a2, a3, a4, a5, a6, a7, a8, a9, a10, a11, a12, b1, b2, b3, b4, b5, b6, b7, b8, b9, b10, b11, t1, c1, q1, n1, ck, f1, f2, f3, f4, d1, d2, d3, d4, true_and, true_or, or_true, nI_clamp (show 4 * rn + sn < 2 ^ 31 by omega), X.he (show 4 * rn + sn < 4 * (w + 1) by omega), hf 3 (by decide), hf 4 (by decide)]
  refine ⟨vp_in_nI (by omega) (by omega), fun q => ⟨_, k71 hw X, ?_⟩, fun q => ⟨_, k54 hw hr X, ?_⟩⟩
  · rintro r h1 ⟨rfl, X1, s1⟩
    refine r30_64 ⟨rfl, ?_, s1⟩
    unfold oPro; rw [if_pos q, hfr]; exact X1
  · rintro r h1 ⟨rfl, X1, s1⟩
    have hf1 := s41 s1 hf
    obtain ⟨g1, g2, ⟨a1, a2, a3, a4, a5, a6, a7, a8, a9, a10, a11, a12⟩, ⟨b1, b2, b3, b4, b5, b6, b7, b8, b9, b10, b11⟩, g5, t1, c1, q1, n1, ck, ⟨f1, f2, f3, f4⟩, ⟨d1, d2, d3, d4⟩⟩ := X1.all
    refine r30_42 ?_
    simp only [g1, g2, a1, a2, a3, a4, a5, a6, a7, a8, a9, a10, a11, a12, b1, b2, b3, b4, b5, b6, b7, b8, b9, b10, b11, t1, c1, q1, n1, ck, f1, f2, f3, f4, d1, d2, d3, d4, true_and, true_or, or_true, hf1 3 (by decide), hf1 4 (by decide)]
    refine ⟨_, k71 hw X1, ?_⟩
    rintro r h2 ⟨rfl, X2, s2⟩
    refine r30_64 ⟨rfl, ?_, s1.tr s2⟩
    unfold oPro; rw [if_neg q, hfr]; exact X2
/-- every open dialogue is about a subscriber -/
def okD (w : Nat) (S : sS) : Prop := ∀ v, v ≤ w → ∀ g ∈ sD S v, ∃ sn : Nat, sn < 4 ∧ g 3 = nI sn
def oLst (S : sS) (rn : Nat) (f : Nat → Int32) : sS := match sFx (pNum (f 5)) (sD S rn) 0 with
  | none => S
  | some k => match (sD S rn)[k]? with
    | none => S
    | some g => if rn = 0 then oEnd (if f 2 = 33 then stC S (sDrop (sC S) (4 * g 2 + g 3)) else if f 2 = 34 then stQ S (sSet (sQ S) (f 5) (f 6)) else S) 0 k
      else oEndR S rn k (g 3).toNatClampNeg (if f 2 = 31 then 2 else 3)
theorem k31 {d : Nat} {h : zH} {w rn : Nat} {S : sS} {f : Nat → Int32} (hw : w ≤ 4) (hr : rn ≤ w) (X : XS h w S) (ok : okD w S) (oq : okQ (sQ S)) (hf : ∀ i, i < 7 → zI h 41 i = f i) (hfr : f 1 = nI rn) : zD (d + 3) 31 [.inr 3, .inr 41] h (fun r h' => r = none ∧ XS h' w (oLst S rn f) ∧ zSame (xA w) h h') := by
  have h0 := Nat.zero_le w
  have hl := X.dl hr
  have hc := nC_le rn
  obtain ⟨g1, g2, ⟨a1, a2, a3, a4, a5, a6, a7, a8, a9, a10, a11, a12⟩, ⟨b1, b2, b3, b4, b5, b6, b7, b8, b9, b10, b11⟩, g5, t1, c1, q1, n1, ck, ⟨f1, f2, f3, f4⟩, ⟨d1, d2, d3, d4⟩⟩ := X.all
  obtain ⟨e1, e2, e3, e4⟩ := X.dn hr
  refine zD_of rfl (r31_0 ?_)
  simp only [g1, g2, a1, a2, a3, a4, a5, a6, a7, a8, a9, a10, a11, a12, b1, b2, b3, b4, b5, b6, b7, b8, b9, b10, b11, t1, c1, q1, n1, ck, f1, f2, f3, f4, d1, d2, d3, d4, true_and, true_or, or_true, hf 1 (by decide), hf 5 (by decide), hfr, nI_clamp (show rn < 2 ^ 31 by omega), g5 rn hr, e1]
  refine ⟨vp_in_nI (by omega) (by omega), _, c61 (nC_le rn) (X.gd hr) (X.xd hr), ?_⟩
  rintro r _ ⟨rfl, rfl⟩
  refine r31_16 ⟨fun q => ?_, fun q => ?_⟩
  rotate_left
  · have hn : sFx (pNum (f 5)) (sD S rn) 0 = none := (sIx_neg (X.dl2 hr)).mp q
    exact ⟨rfl, by unfold oLst; rw [hn]; exact X, zSame.rf⟩
  have hn : ¬ sFx (pNum (f 5)) (sD S rn) 0 = none := fun e => q ((sIx_neg (X.dl2 hr)).mpr e)
  obtain ⟨k, hk⟩ := Option.ne_none_iff_exists'.mp hn
  obtain ⟨g, hg, -⟩ := sFx_some hk
  have hkl := lt_at hg
  obtain ⟨sn, hsn, hg3⟩ := ok rn hr g (List.mem_of_getElem? hg)
  have eL : oLst S rn f = if rn = 0 then oEnd (if f 2 = 33 then stC S (sDrop (sC S) (4 * g 2 + g 3)) else if f 2 = 34 then stQ S (sSet (sQ S) (f 5) (f 6)) else S) 0 k else oEndR S rn k (g 3).toNatClampNeg (if f 2 = 31 then 2 else 3) := by
    unfold oLst; rw [hk]; show (match (sD S rn)[k]? with | none => S | some g => _) = _; rw [hg]
  rw [show sIx (fun f_1 => decide (f_1 0 = f 5)) (sD S rn) 0 = nI k from sIx_pos hk]
  simp only [g1, g2, a1, a2, a3, a4, a5, a6, a7, a8, a9, a10, a11, a12, b1, b2, b3, b4, b5, b6, b7, b8, b9, b10, b11, t1, c1, q1, n1, ck, f1, f2, f3, f4, d1, d2, d3, d4, true_and, true_or, or_true, hf 1 (by decide), hf 2 (by decide), hf 5 (by decide), hf 6 (by decide), hfr]
  refine ⟨fun q2 => ?_, fun q2 => ?_⟩
  · have hr0 : rn = 0 := (nI_eq (by omega) (by decide)).mp (show nI rn = nI 0 from q2)
    subst hr0
    have tail : ∀ (h1 : zH) (S1 : sS), XS h1 w S1 → zSame (xA w) h h1 → oEnd S1 0 k = oLst S 0 f → zWp zm31 (zD (d + 2)) (fun r h' => r = none ∧ XS h' w (oLst S 0 f) ∧ zSame (xA w) h h') 0 0 124 [some (.inr 3), some (.inr 41), some (.inl (nI k))] [] h1 := by
      intro h1 S1 X1 s1 e
      obtain ⟨g1, g2, ⟨a1, a2, a3, a4, a5, a6, a7, a8, a9, a10, a11, a12⟩, ⟨b1, b2, b3, b4, b5, b6, b7, b8, b9, b10, b11⟩, g5, t1, c1, q1, n1, ck, ⟨f1, f2, f3, f4⟩, ⟨d1, d2, d3, d4⟩⟩ := X1.all
      refine r31_124 ?_
      simp only [g1, g2, a1, a2, a3, a4, a5, a6, a7, a8, a9, a10, a11, a12, b1, b2, b3, b4, b5, b6, b7, b8, b9, b10, b11, t1, c1, q1, n1, ck, f1, f2, f3, f4, d1, d2, d3, d4, true_and, true_or, or_true]
      refine ⟨_, k64 hw h0 X1, ?_⟩
      rintro r h2 ⟨rfl, X2, s2⟩
      rw [if_pos (nI_pos' (by omega)), nI_clamp (by omega), e] at X2
      exact r31_132 ⟨rfl, X2, s1.tr s2⟩
    rw [if_pos rfl] at eL
    have er : zK h (zR h 48 k) = 13 := (X.gd h0).row (show k < nC 0 by omega)
    have ex2 : zI h (zR h 48 k) 2 = g 2 := (X.xd h0).2.2 k g hg 2 (by decide)
    have ex3 : zI h (zR h 48 k) 3 = g 3 := (X.xd h0).2.2 k g hg 3 (by decide)
    have hk4 : k < 4 := by rw [show nC 0 = 4 from rfl] at hl; omega
    refine ⟨fun q3 => ⟨fun q4 => ?_, fun q4 => ?_⟩, fun q3 => ?_⟩
    · exact tail h S X zSame.rf (by rw [eL, if_neg q3, if_neg q4])
    · refine ⟨_, k50 hw X oq, ?_⟩
      rintro r h1 ⟨rfl, X1, s1⟩
      exact tail h1 _ X1 s1 (by rw [eL, if_neg q3, if_pos q4])
    · simp only [nI_clamp (show k < 2 ^ 31 by omega), er, ex2, ex3, true_and]
      refine ⟨vp_in_nI hk4 (by decide), vp_in_nI hk4 (by decide), _, c22, ?_⟩
      rintro r _ ⟨rfl, rfl⟩
      refine r31_94 ⟨c1, _, k46 hw X, ?_⟩
      rintro r h1 ⟨rfl, X1, s1⟩
      exact r31_97 (tail h1 _ X1 s1 (by rw [eL, if_pos q3]))
  · have hr0 : ¬ rn = 0 := fun e => q2 (by rw [e]; rfl)
    rw [if_neg hr0, hg3, nI_clamp (by omega)] at eL
    refine ⟨fun q3 => ⟨_, k32 hw hr hg hsn hg3 X, ?_⟩, fun q3 => ⟨_, k32 hw hr hg hsn hg3 X, ?_⟩⟩
    · rintro r h1 ⟨rfl, X1, s1⟩
      exact r31_53 ⟨rfl, by rw [eL, if_neg q3]; exact X1, s1⟩
    · rintro r h1 ⟨rfl, X1, s1⟩
      exact r31_53 ⟨rfl, by rw [eL, if_pos q3]; exact X1, s1⟩
