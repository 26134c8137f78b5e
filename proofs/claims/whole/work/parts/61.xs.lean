/-! ===== a part of the heap moves: the state does ===== -/
theorem XS.F {h h' : zH} {w : Nat} {S : sS} {F : List (Nat → Int32)} (hw : w ≤ 4) (X : XS h w S) (s : zSame (fun q => 15 ≤ q ∧ q < 41) h h') (g : gW h' 15 19 18 17 24) (x : xW h' 15 24 7 F) : XS h' w (stF S F) := by
  obtain ⟨x1, x2, x3, x4, x5, x6, x7, x8, x9, x10, x11, x12, x13, x14, x15, x16, x17, x18, x19⟩ := X
  have n (b : Nat) (hb : b < 15 ∨ 41 ≤ b) : ¬ (15 ≤ b ∧ b < 41) := by omega
  refine ⟨gX_same s (s.2.2.2 3 (by omega) 0).1 (fun j => (s.2.2.2 3 (by omega) j).2) (fun j => (s.2.2.2 53 (by omega) j).2) x1, gT_same s (by omega) x2, gC_same s (by omega) x3, gQ_same s (by omega) x4, gN_same s (by omega) x5, gP_same s (by omega) x6, g,
    fun v hv => gW_same s (by have := (nA_in v).1; omega) (by have := (nA_in v).1; omega) (x8 v hv), (s.2.2.2 3 (by omega) 1).1.trans x9, fun k hk => (s.2.2.2 4 (by omega) k).1.trans (x10 k hk), fun k hk => (s.2.2.2 5 (by omega) k).1.trans (x11 k hk), fun k hk => (s.2.2.2 42 (by omega) k).1.trans (x12 k hk), fun k hk => (s.2.2.2 43 (by omega) k).1.trans (x13 k hk),
    xN_same s (by omega) (by omega) x14, xT_same s (by omega) (by omega) (by omega) (by omega) x15, xC_same s (by omega) (by omega) x16, xQ_same s (by omega) (by omega) (by omega) x17, x, fun v hv => ⟨xW_same s (fun b h1 h2 => by have := (nA_in v).1; omega) (x8 v hv) (x19 v hv).1, (s.2.2.2 (nA v) (by have := (nA_in v).1; omega) 2).1.trans (x19 v hv).2⟩⟩
theorem XS.D {h h' : zH} {w v : Nat} {S : sS} {F : List (Nat → Int32)} {n : Int32} (hw : w ≤ 4) (hv : v ≤ w) (X : XS h w S) (s : zSame (fun q => nA v ≤ q ∧ q < nA v + 2 + nC v) h h') (g : gW h' (nA v) 15 14 13 (nC v)) (x : xW h' (nA v) (nC v) 6 F) (hn : zI h' (nA v) 2 = n) : XS h' w (stL (stD S (updD (sD S) v F)) (upd (sL S) v n)) := by
  obtain ⟨x1, x2, x3, x4, x5, x6, x7, x8, x9, x10, x11, x12, x13, x14, x15, x16, x17, x18, x19⟩ := X
  have n1 := (nA_in v).1
  have nl (b : Nat) (hb : b < 47) : ¬ (fun q => nA v ≤ q ∧ q < nA v + 2 + nC v) b := fun q => nA_not (v := v) (Or.inl hb) q
  have n53 : ¬ (fun q => nA v ≤ q ∧ q < nA v + 2 + nC v) 53 := fun q => nA_not (v := v) (Or.inr rfl) q
  refine ⟨gX_same s (s.2.2.2 3 (nl 3 (by decide)) 0).1 (fun j => (s.2.2.2 3 (nl 3 (by decide)) j).2) (fun j => (s.2.2.2 53 n53 j).2) x1, gT_same s (nl _ (by decide)) x2, gC_same s (nl _ (by decide)) x3, gQ_same s (nl _ (by decide)) x4, gN_same s (nl _ (by decide)) x5, gP_same s (nl _ (by decide)) x6, gW_same s (nl _ (by decide)) (nl _ (by decide)) x7,
    fun u hu => ?_, (s.2.2.2 3 (nl _ (by decide)) 1).1.trans x9, fun k hk => (s.2.2.2 4 (nl _ (by decide)) k).1.trans (x10 k hk), fun k hk => (s.2.2.2 5 (nl _ (by decide)) k).1.trans (x11 k hk), fun k hk => (s.2.2.2 42 (nl _ (by decide)) k).1.trans (x12 k hk), fun k hk => (s.2.2.2 43 (nl _ (by decide)) k).1.trans (x13 k hk),
    xN_same s (nl _ (by decide)) (nl _ (by decide)) x14, xT_same s (nl _ (by decide)) (nl _ (by decide)) (nl _ (by decide)) (nl _ (by decide)) x15, xC_same s (nl _ (by decide)) (nl _ (by decide)) x16, xQ_same s (nl _ (by decide)) (nl _ (by decide)) (nl _ (by decide)) x17, xW_same s (fun b h1 h2 => nl b (by omega)) x7 x18, fun u hu => ?_⟩
  · by_cases e : u = v
    · subst e; exact g
    · exact gW_same s (fun q => nA_apart e (Nat.le_refl _) (by omega) q) (fun q => nA_apart e (by omega) (by omega) q) (x8 u hu)
  · by_cases e : u = v
    · subst e
      refine ⟨?_, ?_⟩
      · show xW h' (nA u) (nC u) 6 (updD (sD S) u F u)
        unfold updD; rw [if_pos rfl]; exact x
      · show zI h' (nA u) 2 = upd (sL S) u n u
        unfold upd; rw [if_pos rfl]; exact hn
    · refine ⟨?_, ?_⟩
      · show xW h' (nA u) (nC u) 6 (updD (sD S) v F u)
        unfold updD; rw [if_neg e]; exact xW_same s (fun b h1 h2 q => nA_apart e h1 h2 q) (x8 u hu) (x19 u hu).1
      · show zI h' (nA u) 2 = upd (sL S) v n u
        unfold upd; rw [if_neg e]; exact (s.2.2.2 (nA u) (fun q => nA_apart e (Nat.le_refl _) (by omega) q) 2).1.trans (x19 u hu).2
theorem XS.C {h h' : zH} {w : Nat} {S : sS} {C : List Int32} (hw : w ≤ 4) (X : XS h w S) (s : zSame (fun q => q = 10 ∨ q = 11) h h') (g : gC h') (x : xC h' C) : XS h' w (stC S C) := by
  obtain ⟨x1, x2, x3, x4, x5, x6, x7, x8, x9, x10, x11, x12, x13, x14, x15, x16, x17, x18, x19⟩ := X
  exact ⟨gX_same s (s.2.2.2 3 (by omega) 0).1 (fun j => (s.2.2.2 3 (by omega) j).2) (fun j => (s.2.2.2 53 (by omega) j).2) x1, gT_same s (by omega) x2, g, gQ_same s (by omega) x4, gN_same s (by omega) x5, gP_same s (by omega) x6, gW_same s (by omega) (by omega) x7,
    fun v hv => gW_same s (by have := (nA_in v).1; omega) (by have := (nA_in v).1; omega) (x8 v hv), (s.2.2.2 3 (by omega) 1).1.trans x9, fun k hk => (s.2.2.2 4 (by omega) k).1.trans (x10 k hk), fun k hk => (s.2.2.2 5 (by omega) k).1.trans (x11 k hk), fun k hk => (s.2.2.2 42 (by omega) k).1.trans (x12 k hk), fun k hk => (s.2.2.2 43 (by omega) k).1.trans (x13 k hk),
    xN_same s (by omega) (by omega) x14, xT_same s (by omega) (by omega) (by omega) (by omega) x15, x, xQ_same s (by omega) (by omega) (by omega) x17, xW_same s (fun b h1 h2 => by omega) x7 x18, fun v hv => ⟨xW_same s (fun b h1 h2 => by have := (nA_in v).1; omega) (x8 v hv) (x19 v hv).1, (s.2.2.2 (nA v) (by have := (nA_in v).1; omega) 2).1.trans (x19 v hv).2⟩⟩
theorem XS.T {h h' : zH} {w : Nat} {S : sS} {T : List (Nat → Int32)} (hw : w ≤ 4) (X : XS h w S) (s : zSame (fun q => 6 ≤ q ∧ q < 10) h h') (g : gT h') (x : xT h' T) : XS h' w (stT S T) := by
  obtain ⟨x1, x2, x3, x4, x5, x6, x7, x8, x9, x10, x11, x12, x13, x14, x15, x16, x17, x18, x19⟩ := X
  exact ⟨gX_same s (s.2.2.2 3 (by omega) 0).1 (fun j => (s.2.2.2 3 (by omega) j).2) (fun j => (s.2.2.2 53 (by omega) j).2) x1, g, gC_same s (by omega) x3, gQ_same s (by omega) x4, gN_same s (by omega) x5, gP_same s (by omega) x6, gW_same s (by omega) (by omega) x7,
    fun v hv => gW_same s (by have := (nA_in v).1; omega) (by have := (nA_in v).1; omega) (x8 v hv), (s.2.2.2 3 (by omega) 1).1.trans x9, fun k hk => (s.2.2.2 4 (by omega) k).1.trans (x10 k hk), fun k hk => (s.2.2.2 5 (by omega) k).1.trans (x11 k hk), fun k hk => (s.2.2.2 42 (by omega) k).1.trans (x12 k hk), fun k hk => (s.2.2.2 43 (by omega) k).1.trans (x13 k hk),
    xN_same s (by omega) (by omega) x14, x, xC_same s (by omega) (by omega) x16, xQ_same s (by omega) (by omega) (by omega) x17, xW_same s (fun b h1 h2 => by omega) x7 x18, fun v hv => ⟨xW_same s (fun b h1 h2 => by have := (nA_in v).1; omega) (x8 v hv) (x19 v hv).1, (s.2.2.2 (nA v) (by have := (nA_in v).1; omega) 2).1.trans (x19 v hv).2⟩⟩
theorem XS.Q {h h' : zH} {w : Nat} {S : sS} {Q : List (Int32 × Int32)} (hw : w ≤ 4) (X : XS h w S) (s : zSame (fun q => 12 ≤ q ∧ q < 15) h h') (hR : ∀ a j, zR h' a j = zR h a j) (x : xQ h' Q) : XS h' w (stQ S Q) := by
  obtain ⟨x1, x2, x3, x4, x5, x6, x7, x8, x9, x10, x11, x12, x13, x14, x15, x16, x17, x18, x19⟩ := X
  have g : gQ h' := ⟨(s.1 _).trans x4.1, (hR _ _).trans x4.2.1, (hR _ _).trans x4.2.2.1, (s.1 _).trans x4.2.2.2.1, (s.1 _).trans x4.2.2.2.2.1, (s.2.1 _).trans x4.2.2.2.2.2.1, (s.2.1 _).trans x4.2.2.2.2.2.2⟩
  exact ⟨gX_same s (s.2.2.2 3 (by omega) 0).1 (fun j => (s.2.2.2 3 (by omega) j).2) (fun j => (s.2.2.2 53 (by omega) j).2) x1, gT_same s (by omega) x2, gC_same s (by omega) x3, g, gN_same s (by omega) x5, gP_same s (by omega) x6, gW_same s (by omega) (by omega) x7,
    fun v hv => gW_same s (by have := (nA_in v).1; omega) (by have := (nA_in v).1; omega) (x8 v hv), (s.2.2.2 3 (by omega) 1).1.trans x9, fun k hk => (s.2.2.2 4 (by omega) k).1.trans (x10 k hk), fun k hk => (s.2.2.2 5 (by omega) k).1.trans (x11 k hk), fun k hk => (s.2.2.2 42 (by omega) k).1.trans (x12 k hk), fun k hk => (s.2.2.2 43 (by omega) k).1.trans (x13 k hk),
    xN_same s (by omega) (by omega) x14, xT_same s (by omega) (by omega) (by omega) (by omega) x15, xC_same s (by omega) (by omega) x16, x, xW_same s (fun b h1 h2 => by omega) x7 x18, fun v hv => ⟨xW_same s (fun b h1 h2 => by have := (nA_in v).1; omega) (x8 v hv) (x19 v hv).1, (s.2.2.2 (nA v) (by have := (nA_in v).1; omega) 2).1.trans (x19 v hv).2⟩⟩
theorem XS.N {h h' : zH} {w : Nat} {S : sS} {O U : Nat → Int32} (hw : w ≤ 4) (X : XS h w S) (s : zSame (fun q => q = 45 ∨ q = 46) h h') (x : xN h' w O U) : XS h' w (stU (stO S O) U) := by
  obtain ⟨x1, x2, x3, x4, x5, x6, x7, x8, x9, x10, x11, x12, x13, x14, x15, x16, x17, x18, x19⟩ := X
  exact ⟨gX_same s (s.2.2.2 3 (by omega) 0).1 (fun j => (s.2.2.2 3 (by omega) j).2) (fun j => (s.2.2.2 53 (by omega) j).2) x1, gT_same s (by omega) x2, gC_same s (by omega) x3, gQ_same s (by omega) x4, gN_same s (by omega) x5, gP_same s (by omega) x6, gW_same s (by omega) (by omega) x7,
    fun v hv => gW_same s (by have := nA_in v; omega) (by have := nA_in v; omega) (x8 v hv), (s.2.2.2 3 (by omega) 1).1.trans x9, fun k hk => (s.2.2.2 4 (by omega) k).1.trans (x10 k hk), fun k hk => (s.2.2.2 5 (by omega) k).1.trans (x11 k hk), fun k hk => (s.2.2.2 42 (by omega) k).1.trans (x12 k hk), fun k hk => (s.2.2.2 43 (by omega) k).1.trans (x13 k hk),
    x, xT_same s (by omega) (by omega) (by omega) (by omega) x15, xC_same s (by omega) (by omega) x16, xQ_same s (by omega) (by omega) (by omega) x17, xW_same s (fun b h1 h2 => by omega) x7 x18, fun v hv => ⟨xW_same s (fun b h1 h2 => by have := (nA_in v).1; omega) (x8 v hv) (x19 v hv).1, (s.2.2.2 (nA v) (by have := (nA_in v).1; omega) 2).1.trans (x19 v hv).2⟩⟩
/-- one int of the object's own cells is written -/
theorem XS.wI {h : zH} {w a k : Nat} {x : Int32} {S S' : sS} (hw : w ≤ 4) (X : XS h w S) (ha : a = 3 ∧ k = 1 ∨ a = 4 ∨ a = 5 ∨ a = 41 ∨ a = 42 ∨ a = 43) (e1 : zI (zwI h a k x) 3 1 = sClk S') (e2 : ∀ s, s < 4 → zI (zwI h a k x) 4 s = sDg S' s) (e3 : ∀ s, s < 4 → zI (zwI h a k x) 5 s = sLo S' s) (e4 : ∀ j, j < 4 * (w + 1) → zI (zwI h a k x) 42 j = sHe S' j) (e5 : ∀ j, j < 4 * (w + 1) → zI (zwI h a k x) 43 j = sSt S' j)
    (r1 : sO S' = sO S) (r2 : sU S' = sU S) (r3 : sT S' = sT S) (r4 : sC S' = sC S) (r5 : sQ S' = sQ S) (r6 : sF S' = sF S) (r7 : sD S' = sD S) (r8 : sL S' = sL S) : XS (zwI h a k x) w S' := by
  obtain ⟨x1, x2, x3, x4, x5, x6, x7, x8, x9, x10, x11, x12, x13, x14, x15, x16, x17, x18, x19⟩ := X
  have s : zSame (fun q => q = a) h (zwI h a k x) := zSame.wI rfl
  rw [← r1, ← r2] at x14
  rw [← r3] at x15
  rw [← r4] at x16
  rw [← r5] at x17
  rw [← r6] at x18
  rw [← r7, ← r8] at x19
  have h0 : zI (zwI h a k x) 3 0 = zI h 3 0 := by
    rw [zI_wI, if_neg (by omega)]
  exact ⟨gX_same s h0 (fun j => rfl) (fun j => rfl) x1, gT_same s (by omega) x2, gC_same s (by omega) x3, gQ_same s (by omega) x4, gN_same s (by omega) x5, gP_same s (by omega) x6, gW_same s (by omega) (by omega) x7,
    fun v hv => gW_same s (by have := (nA_in v).1; omega) (by have := (nA_in v).1; omega) (x8 v hv), e1, e2, e3, e4, e5,
    xN_same s (by omega) (by omega) x14, xT_same s (by omega) (by omega) (by omega) (by omega) x15, xC_same s (by omega) (by omega) x16, xQ_same s (by omega) (by omega) (by omega) x17, xW_same s (fun b h1 h2 => by omega) x7 x18, fun v hv => ⟨xW_same s (fun b h1 h2 => by have := (nA_in v).1; omega) (x8 v hv) (x19 v hv).1, (s.2.2.2 (nA v) (by have := (nA_in v).1; omega) 2).1.trans (x19 v hv).2⟩⟩
theorem XS.He {h : zH} {w k : Nat} {x : Int32} {S : sS} (hw : w ≤ 4) (X : XS h w S) : XS (zwI h 42 k x) w (stHe S (upd (sHe S) k x)) := by
  have X0 := X
  obtain ⟨x1, x2, x3, x4, x5, x6, x7, x8, x9, x10, x11, x12, x13, x14, x15, x16, x17, x18, x19⟩ := X
  refine XS.wI hw X0 (by omega) (by rw [zI_oa (by decide)]; exact x9) (fun s hs => by rw [zI_oa (by decide)]; exact x10 s hs) (fun s hs => by rw [zI_oa (by decide)]; exact x11 s hs) (fun j hj => ?_) (fun j hj => by rw [zI_oa (by decide)]; exact x13 j hj) rfl rfl rfl rfl rfl rfl rfl rfl
  show _ = upd (sHe S) k x j
  unfold upd
  by_cases e : j = k
  · rw [if_pos e, e, zI_at]
  · rw [if_neg e, zI_ok e]; exact x12 j hj
theorem XS.St {h : zH} {w k : Nat} {x : Int32} {S : sS} (hw : w ≤ 4) (X : XS h w S) : XS (zwI h 43 k x) w (stSt S (upd (sSt S) k x)) := by
  have X0 := X
  obtain ⟨x1, x2, x3, x4, x5, x6, x7, x8, x9, x10, x11, x12, x13, x14, x15, x16, x17, x18, x19⟩ := X
  refine XS.wI hw X0 (by omega) (by rw [zI_oa (by decide)]; exact x9) (fun s hs => by rw [zI_oa (by decide)]; exact x10 s hs) (fun s hs => by rw [zI_oa (by decide)]; exact x11 s hs) (fun j hj => by rw [zI_oa (by decide)]; exact x12 j hj) (fun j hj => ?_) rfl rfl rfl rfl rfl rfl rfl rfl
  show _ = upd (sSt S) k x j
  unfold upd
  by_cases e : j = k
  · rw [if_pos e, e, zI_at]
  · rw [if_neg e, zI_ok e]; exact x13 j hj
theorem XS.Dg {h : zH} {w k : Nat} {x : Int32} {S : sS} (hw : w ≤ 4) (X : XS h w S) : XS (zwI h 4 k x) w (stDg S (upd (sDg S) k x)) := by
  have X0 := X
  obtain ⟨x1, x2, x3, x4, x5, x6, x7, x8, x9, x10, x11, x12, x13, x14, x15, x16, x17, x18, x19⟩ := X
  refine XS.wI hw X0 (by omega) (by rw [zI_oa (by decide)]; exact x9) (fun j hj => ?_) (fun s hs => by rw [zI_oa (by decide)]; exact x11 s hs) (fun j hj => by rw [zI_oa (by decide)]; exact x12 j hj) (fun j hj => by rw [zI_oa (by decide)]; exact x13 j hj) rfl rfl rfl rfl rfl rfl rfl rfl
  show _ = upd (sDg S) k x j
  unfold upd
  by_cases e : j = k
  · rw [if_pos e, e, zI_at]
  · rw [if_neg e, zI_ok e]; exact x10 j hj
theorem XS.Lo {h : zH} {w k : Nat} {x : Int32} {S : sS} (hw : w ≤ 4) (X : XS h w S) : XS (zwI h 5 k x) w (stLo S (upd (sLo S) k x)) := by
  have X0 := X
  obtain ⟨x1, x2, x3, x4, x5, x6, x7, x8, x9, x10, x11, x12, x13, x14, x15, x16, x17, x18, x19⟩ := X
  refine XS.wI hw X0 (by omega) (by rw [zI_oa (by decide)]; exact x9) (fun s hs => by rw [zI_oa (by decide)]; exact x10 s hs) (fun j hj => ?_) (fun j hj => by rw [zI_oa (by decide)]; exact x12 j hj) (fun j hj => by rw [zI_oa (by decide)]; exact x13 j hj) rfl rfl rfl rfl rfl rfl rfl rfl
  show _ = upd (sLo S) k x j
  unfold upd
  by_cases e : j = k
  · rw [if_pos e, e, zI_at]
  · rw [if_neg e, zI_ok e]; exact x11 j hj
theorem XS.Clk {h : zH} {w : Nat} {x : Int32} {S : sS} (hw : w ≤ 4) (X : XS h w S) : XS (zwI h 3 1 x) w (stClk S x) := by
  have X0 := X
  obtain ⟨x1, x2, x3, x4, x5, x6, x7, x8, x9, x10, x11, x12, x13, x14, x15, x16, x17, x18, x19⟩ := X
  exact XS.wI hw X0 (by omega) (by rw [zI_at]; rfl) (fun s hs => by rw [zI_oa (by decide)]; exact x10 s hs) (fun j hj => by rw [zI_oa (by decide)]; exact x11 j hj) (fun j hj => by rw [zI_oa (by decide)]; exact x12 j hj) (fun j hj => by rw [zI_oa (by decide)]; exact x13 j hj) rfl rfl rfl rfl rfl rfl rfl rfl
/-- the arrived datagram's cell is nobody's part of the state -/
theorem XS.arr {h h' : zH} {w : Nat} {S : sS} (hw : w ≤ 4) (X : XS h w S) (s : zSame (fun q => q = 41) h h') : XS h' w S := by
  obtain ⟨x1, x2, x3, x4, x5, x6, x7, x8, x9, x10, x11, x12, x13, x14, x15, x16, x17, x18, x19⟩ := X
  exact ⟨gX_same s (s.2.2.2 3 (by omega) 0).1 (fun j => (s.2.2.2 3 (by omega) j).2) (fun j => (s.2.2.2 53 (by omega) j).2) x1, gT_same s (by omega) x2, gC_same s (by omega) x3, gQ_same s (by omega) x4, gN_same s (by omega) x5, gP_same s (by omega) x6, gW_same s (by omega) (by omega) x7,
    fun v hv => gW_same s (by have := (nA_in v).1; omega) (by have := (nA_in v).1; omega) (x8 v hv), (s.2.2.2 3 (by omega) 1).1.trans x9, fun k hk => (s.2.2.2 4 (by omega) k).1.trans (x10 k hk), fun k hk => (s.2.2.2 5 (by omega) k).1.trans (x11 k hk), fun k hk => (s.2.2.2 42 (by omega) k).1.trans (x12 k hk), fun k hk => (s.2.2.2 43 (by omega) k).1.trans (x13 k hk),
    xN_same s (by omega) (by omega) x14, xT_same s (by omega) (by omega) (by omega) (by omega) x15, xC_same s (by omega) (by omega) x16, xQ_same s (by omega) (by omega) (by omega) x17, xW_same s (fun b h1 h2 => by omega) x7 x18, fun v hv => ⟨xW_same s (fun b h1 h2 => by have := (nA_in v).1; omega) (x8 v hv) (x19 v hv).1, (s.2.2.2 (nA v) (by have := (nA_in v).1; omega) 2).1.trans (x19 v hv).2⟩⟩
