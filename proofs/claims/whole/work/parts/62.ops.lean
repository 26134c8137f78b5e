/-! ===== what the calls do to the state, in small steps ===== -/
def xA (w : Nat) : Nat → Prop := fun q => 3 ≤ q ∧ q ≠ 41 ∧ q < 54 + 4 * w
def oSend (S : sS) (f : Nat → Int32) : sS := stF S (sSnd (sF S) f)
def oBegin (S : sS) (v : Nat) (kd ot su dl an : Int32) : sS := stL (stD S (updD (sD S) v (sD S v ++ [sRow [sL S v + 1, kd, ot, su, dl, an]]))) (upd (sL S) v (sL S v + 1))
def oEnd (S : sS) (v k : Nat) : sS := stD S (updD (sD S) v ((sD S v).eraseIdx k))
def oStand (S : sS) (k : Nat) (x : Int32) : sS := stSt S (upd (sSt S) k x)
def oHold (S : sS) (k : Nat) (x : Int32) : sS := stHe S (upd (sHe S) k x)
theorem upd_self {f : Nat → Int32} {k : Nat} : upd f k (f k) = f := by
  funext j; unfold upd; split
  · rename_i e; rw [e]
  · rfl
theorem nA_hi {w v : Nat} (hv : v ≤ w) : nA v + 2 + nC v ≤ 54 + 4 * w := by unfold nA nC; split <;> omega
theorem k71 {d : Nat} {h : zH} {w : Nat} {S : sS} {a b c e k m n : Int32} (hw : w ≤ 4) (X : XS h w S) : zD (d + 2) 71 [.inr 15, .inl a, .inl b, .inl c, .inl e, .inl k, .inl m, .inl n] h (fun v h' => v = none ∧ XS h' w (oSend S (sRow [a, b, c, e, k, m, n])) ∧ zSame (xA w) h h') :=
  zD.mono (fun v h' ⟨e1, g, x, s⟩ => ⟨e1, X.F hw s g x, s.wd (fun q hq => by unfold xA; omega)⟩) (c71 X.2.2.2.2.2.2.1 X.2.2.2.2.2.2.2.2.2.2.2.2.2.2.2.2.2.1)
theorem XS.gd {h : zH} {w : Nat} {S : sS} (X : XS h w S) {v : Nat} (hv : v ≤ w) : gW h (nA v) 15 14 13 (nC v) := X.2.2.2.2.2.2.2.1 v hv
theorem XS.xd {h : zH} {w : Nat} {S : sS} (X : XS h w S) {v : Nat} (hv : v ≤ w) : xW h (nA v) (nC v) 6 (sD S v) := (X.2.2.2.2.2.2.2.2.2.2.2.2.2.2.2.2.2.2 v hv).1
theorem XS.ld {h : zH} {w : Nat} {S : sS} (X : XS h w S) {v : Nat} (hv : v ≤ w) : zI h (nA v) 2 = sL S v := (X.2.2.2.2.2.2.2.2.2.2.2.2.2.2.2.2.2.2 v hv).2
theorem XS.gf {h : zH} {w : Nat} {S : sS} (X : XS h w S) : gW h 15 19 18 17 24 := X.2.2.2.2.2.2.1
theorem XS.xf {h : zH} {w : Nat} {S : sS} (X : XS h w S) : xW h 15 24 7 (sF S) := X.2.2.2.2.2.2.2.2.2.2.2.2.2.2.2.2.2.1
theorem XS.xq {h : zH} {w : Nat} {S : sS} (X : XS h w S) : xQ h (sQ S) := X.2.2.2.2.2.2.2.2.2.2.2.2.2.2.2.2.1
theorem XS.xc {h : zH} {w : Nat} {S : sS} (X : XS h w S) : xC h (sC S) := X.2.2.2.2.2.2.2.2.2.2.2.2.2.2.2.1
theorem XS.xt {h : zH} {w : Nat} {S : sS} (X : XS h w S) : xT h (sT S) := X.2.2.2.2.2.2.2.2.2.2.2.2.2.2.1
theorem XS.xn {h : zH} {w : Nat} {S : sS} (X : XS h w S) : xN h w (sO S) (sU S) := X.2.2.2.2.2.2.2.2.2.2.2.2.2.1
theorem XS.st {h : zH} {w : Nat} {S : sS} (X : XS h w S) {k : Nat} (hk : k < 4 * (w + 1)) : zI h 43 k = sSt S k := X.2.2.2.2.2.2.2.2.2.2.2.2.1 k hk
theorem XS.he {h : zH} {w : Nat} {S : sS} (X : XS h w S) {k : Nat} (hk : k < 4 * (w + 1)) : zI h 42 k = sHe S k := X.2.2.2.2.2.2.2.2.2.2.2.1 k hk
theorem XS.lo {h : zH} {w : Nat} {S : sS} (X : XS h w S) {k : Nat} (hk : k < 4) : zI h 5 k = sLo S k := X.2.2.2.2.2.2.2.2.2.2.1 k hk
theorem XS.dg {h : zH} {w : Nat} {S : sS} (X : XS h w S) {k : Nat} (hk : k < 4) : zI h 4 k = sDg S k := X.2.2.2.2.2.2.2.2.2.1 k hk
theorem XS.ck {h : zH} {w : Nat} {S : sS} (X : XS h w S) : zI h 3 1 = sClk S := X.2.2.2.2.2.2.2.2.1
theorem k60 {d : Nat} {h : zH} {w v : Nat} {S : sS} {kd ot su dl an : Int32} (hw : w ≤ 4) (hv : v ≤ w) (X : XS h w S) (hn : (sD S v).length < nC v) : zD (d + 1) 60 [.inr (nA v), .inl kd, .inl ot, .inl su, .inl dl, .inl an] h (fun r h' => r = some (.inl (sL S v + 1)) ∧ XS h' w (oBegin S v kd ot su dl an) ∧ zSame (xA w) h h') := by
  refine zD.mono ?_ (c60 (nC_le v) (X.gd hv) (X.xd hv) hn)
  rintro r h' ⟨e1, g, x, e2, s⟩
  rw [X.ld hv] at e1 x e2
  exact ⟨e1, X.D hw hv s g x e2, s.wd (fun q hq => by have := (nA_in v).1; have := nA_hi hv; unfold xA; omega)⟩
theorem k64 {d : Nat} {h : zH} {w v : Nat} {S : sS} {k : Int32} (hw : w ≤ 4) (hv : v ≤ w) (X : XS h w S) : zD (d + 1) 64 [.inr (nA v), .inl k] h (fun r h' => r = none ∧ XS h' w (if 0 ≤ k then oEnd S v k.toNatClampNeg else S) ∧ zSame (xA w) h h') := by
  refine zD.mono ?_ (c64 (nC_le v) (X.gd hv) (X.xd hv))
  rintro r h' ⟨e1, g, x, e2, s⟩
  rw [X.ld hv] at e2
  have h2 : nC v ≥ 2 := by unfold nC; split <;> decide
  have hs : zSame (fun q => nA v ≤ q ∧ q < nA v + 2 + nC v) h h' := s.wd (fun q hq => by omega)
  have Y := X.D hw hv hs g x e2
  rw [show upd (sL S) v (sL S v) = sL S from upd_self] at Y
  refine ⟨e1, ?_, hs.wd (fun q hq => by have := (nA_in v).1; have := nA_hi hv; unfold xA; omega)⟩
  split at Y
  · rename_i hk; rw [if_pos hk]; exact Y
  · rename_i hk; rw [if_neg hk]
    have e : updD (sD S) v (sD S v) = sD S := by
      funext j; unfold updD; split
      · rename_i e; rw [e]
      · rfl
    rw [e] at Y
    exact Y
theorem k45 {d : Nat} {h : zH} {w : Nat} {S : sS} {p : Int32} (hw : w ≤ 4) (X : XS h w S) : zD (d + 3) 45 [.inr 10, .inl p] h (fun v h' => v = none ∧ XS h' w (stC S (sAdd (sC S) p)) ∧ zSame (xA w) h h') :=
  zD.mono (fun r h' ⟨e1, g, x, s⟩ => ⟨e1, X.C hw s g x, s.wd (fun q hq => by unfold xA; omega)⟩) (c45 X.2.2.1 X.xc)
theorem k46 {d : Nat} {h : zH} {w : Nat} {S : sS} {p : Int32} (hw : w ≤ 4) (X : XS h w S) : zD (d + 2) 46 [.inr 10, .inl p] h (fun v h' => v = none ∧ XS h' w (stC S (sDrop (sC S) p)) ∧ zSame (xA w) h h') :=
  zD.mono (fun r h' ⟨e1, g, x, s⟩ => ⟨e1, X.C hw s g x, s.wd (fun q hq => by unfold xA; omega)⟩) (c46 X.2.2.1 X.xc)
theorem k49 {d : Nat} {h : zH} {w : Nat} {S : sS} {n : Int32} (hw : w ≤ 4) (X : XS h w S) : zD (d + 1) 49 [.inr 12, .inl n] h (fun v h' => v = none ∧ XS h' w (stQ S (sQ S ++ [(n, -6)])) ∧ zSame (xA w) h h') :=
  zD.mono (fun r h' ⟨e1, x, e2, s⟩ => ⟨e1, X.Q hw s e2 x, s.wd (fun q hq => by unfold xA; omega)⟩) (c49 X.2.2.2.1 X.xq)
theorem k50 {d : Nat} {h : zH} {w : Nat} {S : sS} {n u : Int32} (hw : w ≤ 4) (X : XS h w S) (ok : okQ (sQ S)) : zD (d + 2) 50 [.inr 12, .inl n, .inl u] h (fun v h' => v = none ∧ XS h' w (stQ S (sSet (sQ S) n u)) ∧ zSame (xA w) h h') :=
  zD.mono (fun r h' ⟨e1, x, e2, s⟩ => ⟨e1, X.Q hw s e2 x, s.wd (fun q hq => by unfold xA; omega)⟩) (c50 X.2.2.2.1 X.xq ok)
theorem k54 {d : Nat} {h : zH} {w n : Nat} {S : sS} {s u : Int32} (hw : w ≤ 4) (hn : n ≤ w) (X : XS h w S) : zD (d + 1) 54 [.inr 44, .inl (nI n), .inl s, .inl u] h (fun v h' => v = some (.inl (sAlR (sO S) n)) ∧ XS h' w (stU (stO S (sUpK (sO S) n (sAlK (sO S) n) s)) (sUpK (sU S) n (sAlK (sO S) n) u)) ∧ zSame (xA w) h h') :=
  zD.mono (fun r h' ⟨e1, x, e2, s⟩ => ⟨e1, X.N hw s x, s.wd (fun q hq => by unfold xA; omega)⟩) (c54 hw hn X.2.2.2.2.1 X.xn)
theorem k55 {d : Nat} {h : zH} {w n k : Nat} {S : sS} (hw : w ≤ 4) (hn : n ≤ w) (hk : k < 2) (X : XS h w S) : zD (d + 1) 55 [.inr 44, .inl (nI n), .inl (nI k)] h (fun v h' => v = some (.inl (sO S (2 * n + k))) ∧ XS h' w (stU (stO S (upd (sO S) (2 * n + k) (-1))) (sU S)) ∧ zSame (xA w) h h') :=
  zD.mono (fun r h' ⟨e1, x, e2, s⟩ => ⟨e1, X.N hw s x, s.wd (fun q hq => by unfold xA; omega)⟩) (c55 hw hn hk X.2.2.2.2.1 X.xn)
theorem k56 {d : Nat} {h : zH} {w : Nat} {S : sS} {t : Int32} (hw : w ≤ 4) (X : XS h w S) : zD (d + 1) 56 [.inr 44, .inl t] h (fun v h' => v = none ∧ XS h' w (stU (stO S (fun k => if sU S k = t then -1 else sO S k)) (sU S)) ∧ zSame (xA w) h h') :=
  zD.mono (fun r h' ⟨e1, x, e2, s⟩ => ⟨e1, X.N hw s x, s.wd (fun q hq => by unfold xA; omega)⟩) (c56 hw X.2.2.2.2.1 X.xn)
theorem k38 {d : Nat} {h : zH} {w : Nat} {S : sS} {a b y : Int32} (hw : w ≤ 4) (hy : y = 0 ∨ y = 1) (X : XS h w S) : zD (d + 2) 38 [.inr 6, .inl a, .inl b, .inl y] h (fun v h' => v = some (.inl (sPutR (sT S) (sRow [a, b, y]))) ∧ XS h' w (stT S (sPut (sT S) (sRow [a, b, y]))) ∧ zSame (xA w) h h') :=
  zD.mono (fun r h' ⟨e1, g, x, s⟩ => ⟨e1, X.T hw s g x, s.wd (fun q hq => by unfold xA; omega)⟩) (c38 hy X.2.1 X.xt)
theorem k73 {d : Nat} {h : zH} {w n : Nat} {S : sS} (hw : w ≤ 4) (X : XS h w S) (hn : n < (sF S).length) : zD (d + 1) 73 [.inr 15, .inl (nI n)] h (fun v h' => v = none ∧ XS h' w (stF S ((sF S).eraseIdx n)) ∧ zSame (fun q => q = 15 ∨ q = 16) h h') :=
  zD.mono (fun r h' ⟨e1, g, x, s⟩ => ⟨e1, X.F hw (s.wd (fun q hq => by omega)) g x, s⟩) (c73 X.gf X.xf hn)
theorem k72 {d : Nat} {h : zH} {w n : Nat} {S : sS} {f : Nat → Int32} (hw : w ≤ 4) (X : XS h w S) (hf : (sF S)[n]? = some f) (hn : (sF S).length < 24) : zD (d + 2) 72 [.inr 15, .inl (nI n)] h (fun v h' => v = none ∧ XS h' w (stF S (sF S ++ [f])) ∧ zSame (xA w) h h') :=
  zD.mono (fun r h' ⟨e1, g, x, s⟩ => ⟨e1, X.F hw s g x, s.wd (fun q hq => by unfold xA; omega)⟩) (c72 X.gf X.xf hf hn)
/-! the object's own small questions -/
theorem c21 {d : Nat} {h : zH} {x : Int32} : zD (d + 1) 21 [.inl x] h (fun v h' => v = some (.inl (if (ix 4 x).isSome then 1 else 0)) ∧ h = h') := by
  refine zD_of rfl (r21_0 ⟨fun q => ⟨Or.inl rfl, by rw [ix_neg q]; rfl, rfl⟩, fun q => ?_⟩)
  obtain ⟨n, hn, rfl⟩ := nI_of q
  refine ⟨fun q => ⟨Or.inl rfl, ?_, rfl⟩, fun q => ⟨Or.inr rfl, ?_, rfl⟩⟩
  · have q : nI 4 ≤ nI n := q
    rw [nI_leI (by decide) hn] at q
    rw [ix_ge q hn]; rfl
  · have q : ¬ nI 4 ≤ nI n := q
    rw [nI_leI (by decide) hn] at q
    rw [ix_nI (by decide) (by omega)]; rfl
theorem c20 {d : Nat} {h : zH} {w : Nat} {S : sS} {x : Int32} (hw : w ≤ 4) (X : XS h w S) : zD (d + 1) 20 [.inr 3, .inl x] h (fun v h' => v = some (.inl (if (iv w x).isSome then 1 else 0)) ∧ h = h') := by
  obtain ⟨g1, g2, -⟩ := X.1
  refine zD_of rfl (r20_0 ⟨fun q => ⟨Or.inl rfl, ?_, rfl⟩, fun q => ?_⟩)
  · by_cases hm : x < 0
    · rw [iv_neg hm]; rfl
    · obtain ⟨n, hn, rfl⟩ := nI_of hm
      have q : nI n ≤ nI 0 := q
      rw [nI_leI hn (by decide)] at q
      rw [show n = 0 by omega, iv_0 hw]; rfl
  · have hm : ¬ x < 0 := fun e => q (by rw [Int32.le_iff_toInt_le]; rw [Int32.lt_iff_toInt_lt] at e; omega)
    obtain ⟨n, hn, rfl⟩ := nI_of hm
    have q : ¬ nI n ≤ nI 0 := q
    rw [nI_leI hn (by decide)] at q
    simp only [g1, g2, true_and, nI_ltI (show w < 2 ^ 31 by omega) hn]
    refine ⟨fun q2 => ⟨Or.inl trivial, ?_, trivial⟩, fun q2 => ⟨Or.inr trivial, ?_, trivial⟩⟩
    · rw [iv_ge q2 hn]; rfl
    · rw [iv_nI hw (by omega) (by omega)]; rfl
theorem c19 {d : Nat} {h : zH} {w : Nat} {S : sS} {x : Int32} (hw : w ≤ 4) (X : XS h w S) : zD (d + 1) 19 [.inr 3, .inl x] h (fun v h' => v = some (.inl (if (ix (w + 1) x).isSome then 1 else 0)) ∧ h = h') := by
  obtain ⟨g1, g2, -⟩ := X.1
  refine zD_of rfl (r19_0 ⟨fun q => ⟨Or.inl rfl, by rw [ix_neg q]; rfl, rfl⟩, fun q => ?_⟩)
  obtain ⟨n, hn, rfl⟩ := nI_of q
  simp only [g1, g2, true_and, nI_ltI (show w < 2 ^ 31 by omega) hn]
  refine ⟨fun q2 => ⟨Or.inl trivial, ?_, trivial⟩, fun q2 => ⟨Or.inr trivial, ?_, trivial⟩⟩
  · rw [ix_ge (by omega) hn]; rfl
  · rw [ix_nI (by omega) (by omega)]; rfl
theorem c22 {d : Nat} {h : zH} {a b : Int32} : zD (d + 1) 22 [.inl a, .inl b] h (fun v h' => v = some (.inl (4 * a + b)) ∧ h = h') := zD_of rfl (r22_0 ⟨rfl, rfl⟩)
theorem e4x (a b : Nat) : (4 : Int32) * nI a + nI b = nI (4 * a + b) := by rw [show (4 : Int32) = nI 4 from rfl, pk_mul, nI_add]
theorem is1 {α : Type} {o : Option α} (h : ¬ (if o.isSome then (1 : Int32) else 0) = 0) : ∃ x, o = some x := by
  cases o with
  | none => exact absurd rfl h
  | some x => exact ⟨x, rfl⟩
theorem is0 {α : Type} {o : Option α} (h : (if o.isSome then (1 : Int32) else 0) = 0) : o = none := by
  cases o with
  | none => rfl
  | some x => exact absurd (show (1 : Int32) = 0 from h) (by decide)
