/-! ===== the reference: its object, at m; only ints are ever written ===== -/
def gM (h : zH) (m : Nat) : Prop := zK h m = 21 ∧ (zR h m 2 = m + 1 ∧ zR h m 3 = m + 2 ∧ zR h m 5 = m + 3 ∧ zR h m 6 = m + 4 ∧ zR h m 7 = m + 5 ∧ zR h m 9 = m + 6 ∧ zR h m 10 = m + 7 ∧ zR h m 11 = m + 8 ∧ zR h m 12 = m + 9 ∧ zR h m 13 = m + 10 ∧ zR h m 14 = m + 11 ∧ zR h m 15 = m + 12 ∧ zR h m 17 = m + 13 ∧ zR h m 18 = m + 14 ∧ zR h m 19 = m + 15 ∧ zR h m 20 = m + 16 ∧ zR h m 21 = m + 17 ∧ zR h m 22 = m + 18 ∧ zR h m 23 = m + 19 ∧ zR h m 25 = m + 20 ∧ zR h m 26 = m + 21 ∧ zR h m 28 = m + 22 ∧ zR h m 29 = m + 23) ∧ (zK h (m + 1) = 1 ∧ zK h (m + 2) = 1 ∧ zK h (m + 3) = 1 ∧ zK h (m + 4) = 1 ∧ zK h (m + 5) = 2 ∧ zK h (m + 6) = 1 ∧ zK h (m + 7) = 1 ∧ zK h (m + 8) = 2 ∧ zK h (m + 9) = 1 ∧ zK h (m + 10) = 1 ∧ zK h (m + 11) = 1 ∧ zK h (m + 12) = 1 ∧ zK h (m + 13) = 1 ∧ zK h (m + 14) = 1 ∧ zK h (m + 15) = 1 ∧ zK h (m + 16) = 1 ∧ zK h (m + 17) = 1 ∧ zK h (m + 18) = 1 ∧ zK h (m + 19) = 1 ∧ zK h (m + 20) = 1 ∧ zK h (m + 21) = 1 ∧ zK h (m + 22) = 1 ∧ zK h (m + 23) = 1) ∧ (zL h (m + 1) = 4 ∧ zL h (m + 2) = 4 ∧ zL h (m + 3) = 6 ∧ zL h (m + 4) = 6 ∧ zL h (m + 5) = 6 ∧ zL h (m + 6) = 7 ∧ zL h (m + 7) = 7 ∧ zL h (m + 8) = 20 ∧ zL h (m + 9) = 20 ∧ zL h (m + 10) = 10 ∧ zL h (m + 11) = 10 ∧ zL h (m + 12) = 5 ∧ zL h (m + 13) = 12 ∧ zL h (m + 14) = 12 ∧ zL h (m + 15) = 12 ∧ zL h (m + 16) = 12 ∧ zL h (m + 17) = 12 ∧ zL h (m + 18) = 12 ∧ zL h (m + 19) = 12 ∧ zL h (m + 20) = 520 ∧ zL h (m + 21) = 520 ∧ zL h (m + 22) = 192 ∧ zL h (m + 23) = 8)
/-- only ints changed, in the cells of A -/
def zJ (A : Nat → Prop) (h h' : zH) : Prop := (∀ b, zK h' b = zK h b) ∧ (∀ b, zL h' b = zL h b) ∧ zN h' = zN h ∧ (∀ a j, zR h' a j = zR h a j) ∧ ∀ b, ¬ A b → ∀ j, zI h' b j = zI h b j
theorem zJ.rf {A : Nat → Prop} {h : zH} : zJ A h h := ⟨fun _ => rfl, fun _ => rfl, rfl, fun _ _ => rfl, fun _ _ _ => rfl⟩
theorem zJ.tr {A : Nat → Prop} {h h1 h2 : zH} (a : zJ A h h1) (b : zJ A h1 h2) : zJ A h h2 := ⟨fun q => (b.1 q).trans (a.1 q), fun q => (b.2.1 q).trans (a.2.1 q), b.2.2.1.trans a.2.2.1, fun q j => (b.2.2.2.1 q j).trans (a.2.2.2.1 q j), fun q hq j => (b.2.2.2.2 q hq j).trans (a.2.2.2.2 q hq j)⟩
theorem zJ.wd {A B : Nat → Prop} {h h' : zH} (a : zJ A h h') (hAB : ∀ b, A b → B b) : zJ B h h' := ⟨a.1, a.2.1, a.2.2.1, a.2.2.2.1, fun q hq j => a.2.2.2.2 q (fun z => hq (hAB q z)) j⟩
theorem zJ.wI {A : Nat → Prop} {h : zH} {a k : Nat} {v : Int32} (ha : A a) : zJ A h (zwI h a k v) := ⟨fun _ => rfl, fun _ => rfl, rfl, fun _ _ => rfl, fun b hb j => by rw [zI_wI, if_neg (fun q => hb (by rw [q.1]; exact ha))]⟩
theorem zJ.same {A : Nat → Prop} {h h' : zH} (a : zJ A h h') : zSame A h h' := ⟨a.1, a.2.1, a.2.2.1, fun b hb j => ⟨a.2.2.2.2 b hb j, a.2.2.2.1 b j⟩⟩
theorem gM_J {A : Nat → Prop} {h h' : zH} {m : Nat} (s : zJ A h h') (g : gM h m) : gM h' m := by
  unfold gM at g ⊢
  simp only [s.1, s.2.1, s.2.2.2.1]
  exact g
/-- one row of the one list of dialogues -/
def rG (h : zH) (m j : Nat) (p : Nat × (Nat → Int32)) : Prop := zI h (m + 13) j = nI p.1 ∧ zI h (m + 14) j = p.2 0 ∧ zI h (m + 15) j + 1 = p.2 1 ∧ zI h (m + 16) j = p.2 3 ∧ zI h (m + 17) j = p.2 2 ∧ zI h (m + 18) j = p.2 4 ∧ zI h (m + 19) j = p.2 5
def mT (h : zH) (m : Nat) (T : List (Nat → Int32)) : Prop := T.length ≤ 6 ∧ zI h m 4 = nI T.length ∧ ∀ j t, T[j]? = some t → zI h (m + 3) j = t 0 ∧ zI h (m + 4) j = t 1 ∧ zI h (m + 5) j = t 2
def mC (h : zH) (m w : Nat) (C : List Int32) : Prop := C.length ≤ 6 ∧ zI h m 8 = nI C.length ∧ ∀ j c, C[j]? = some c → ∃ a b : Nat, a ≤ w ∧ b < 4 ∧ zI h (m + 6) j = nI a ∧ zI h (m + 7) j = nI b ∧ c = nI (4 * a + b)
def mG (h : zH) (m : Nat) (G : List (Nat × (Nat → Int32))) : Prop := G.length ≤ 12 ∧ zI h m 16 = nI G.length ∧ ∀ j p, G[j]? = some p → rG h m j p
def mQ (h : zH) (m : Nat) (Q : List (Int32 × Int32)) : Prop := Q.length ≤ 520 ∧ zI h m 24 = nI Q.length ∧ ∀ (j : Nat) (q : Int32 × Int32), Q[j]? = some q → zI h (m + 20) j = q.1 ∧ zI h (m + 21) j = q.2
def mF (h : zH) (m : Nat) (F : List (Nat → Int32)) : Prop := F.length ≤ 24 ∧ zI h m 27 = nI F.length ∧ ∀ j f, F[j]? = some f → ∀ i, i < 8 → zI h (m + 22) (8 * j + i) = sPart f (nI i)
/-- the heap holds the state at m; the dialogues as the one list G -/
def MH (h : zH) (m w : Nat) (S : sS) (G : List (Nat × (Nat → Int32))) : Prop := gM h m ∧ zI h m 0 = nI w ∧ zI h m 1 = sClk S ∧ (∀ s, s < 4 → zI h (m + 1) s = sDg S s) ∧ (∀ s, s < 4 → zI h (m + 2) s = sLo S s) ∧ mT h m (sT S) ∧ mC h m w (sC S) ∧ (∀ k, k < 4 * (w + 1) → zI h (m + 8) k = sHe S k) ∧ (∀ k, k < 4 * (w + 1) → zI h (m + 9) k = sSt S k) ∧
  (∀ k, k < 10 → zI h (m + 10) k = sO S k ∧ zI h (m + 11) k = sU S k) ∧ (∀ v, v ≤ w → zI h (m + 12) v = sL S v) ∧ mG h m G ∧ mQ h m (sQ S) ∧ mF h m (sF S)
theorem rG_J {A : Nat → Prop} {h h' : zH} {m j : Nat} {p : Nat × (Nat → Int32)} (s : zJ A h h') (hA : ∀ b, m + 13 ≤ b → b ≤ m + 19 → ¬ A b) (r : rG h m j p) : rG h' m j p := by
  unfold rG at r ⊢
  rw [s.2.2.2.2 (m + 13) (hA _ (by omega) (by omega)) j, s.2.2.2.2 (m + 14) (hA _ (by omega) (by omega)) j, s.2.2.2.2 (m + 15) (hA _ (by omega) (by omega)) j, s.2.2.2.2 (m + 16) (hA _ (by omega) (by omega)) j, s.2.2.2.2 (m + 17) (hA _ (by omega) (by omega)) j, s.2.2.2.2 (m + 18) (hA _ (by omega) (by omega)) j, s.2.2.2.2 (m + 19) (hA _ (by omega) (by omega)) j]
  exact r
theorem mT_J {A : Nat → Prop} {h h' : zH} {m : Nat} {T : List (Nat → Int32)} (s : zJ A h h') (h0 : zI h' m 4 = zI h m 4) (h3 : ¬ A (m + 3)) (h4 : ¬ A (m + 4)) (h5 : ¬ A (m + 5)) (x : mT h m T) : mT h' m T :=
  ⟨x.1, h0.trans x.2.1, fun j t ht => ⟨(s.2.2.2.2 _ h3 j).trans (x.2.2 j t ht).1, (s.2.2.2.2 _ h4 j).trans (x.2.2 j t ht).2.1, (s.2.2.2.2 _ h5 j).trans (x.2.2 j t ht).2.2⟩⟩
theorem mC_J {A : Nat → Prop} {h h' : zH} {m w : Nat} {C : List Int32} (s : zJ A h h') (h0 : zI h' m 8 = zI h m 8) (h6 : ¬ A (m + 6)) (h7 : ¬ A (m + 7)) (x : mC h m w C) : mC h' m w C :=
  ⟨x.1, h0.trans x.2.1, fun j c hc => by
    obtain ⟨a, b, e1, e2, e3, e4, e5⟩ := x.2.2 j c hc
    exact ⟨a, b, e1, e2, (s.2.2.2.2 _ h6 j).trans e3, (s.2.2.2.2 _ h7 j).trans e4, e5⟩⟩
theorem mG_J {A : Nat → Prop} {h h' : zH} {m : Nat} {G : List (Nat × (Nat → Int32))} (s : zJ A h h') (h0 : zI h' m 16 = zI h m 16) (hA : ∀ b, m + 13 ≤ b → b ≤ m + 19 → ¬ A b) (x : mG h m G) : mG h' m G :=
  ⟨x.1, h0.trans x.2.1, fun j p hp => rG_J s hA (x.2.2 j p hp)⟩
theorem mQ_J {A : Nat → Prop} {h h' : zH} {m : Nat} {Q : List (Int32 × Int32)} (s : zJ A h h') (h0 : zI h' m 24 = zI h m 24) (h1 : ¬ A (m + 20)) (h2 : ¬ A (m + 21)) (x : mQ h m Q) : mQ h' m Q :=
  ⟨x.1, h0.trans x.2.1, fun j q hq => ⟨(s.2.2.2.2 _ h1 j).trans (x.2.2 j q hq).1, (s.2.2.2.2 _ h2 j).trans (x.2.2 j q hq).2⟩⟩
theorem mF_J {A : Nat → Prop} {h h' : zH} {m : Nat} {F : List (Nat → Int32)} (s : zJ A h h') (h0 : zI h' m 27 = zI h m 27) (h1 : ¬ A (m + 22)) (x : mF h m F) : mF h' m F :=
  ⟨x.1, h0.trans x.2.1, fun j f hf i hi => (s.2.2.2.2 _ h1 _).trans (x.2.2 j f hf i hi)⟩
def yA (m : Nat) : Nat → Prop := fun q => m ≤ q ∧ q < m + 24
/-- the flights move -/
theorem MH.F {h h' : zH} {m w : Nat} {S : sS} {G : List (Nat × (Nat → Int32))} {F : List (Nat → Int32)} (X : MH h m w S G) (s : zJ (fun q => q = m ∨ q = m + 22 ∨ q = m + 23) h h') (h0 : ∀ k, k ≠ 27 → zI h' m k = zI h m k) (x : mF h' m F) : MH h' m w (stF S F) G := by
  obtain ⟨x1, x2, x3, x4, x5, x6, x7, x8, x9, x10, x11, x12, x13, x14⟩ := X
  exact ⟨gM_J s x1, (h0 0 (by decide)).trans x2, (h0 1 (by decide)).trans x3, fun k hk => (s.2.2.2.2 _ (by omega) k).trans (x4 k hk), fun k hk => (s.2.2.2.2 _ (by omega) k).trans (x5 k hk), mT_J s (h0 4 (by decide)) (by omega) (by omega) (by omega) x6, mC_J s (h0 8 (by decide)) (by omega) (by omega) x7, fun k hk => (s.2.2.2.2 _ (by omega) k).trans (x8 k hk), fun k hk => (s.2.2.2.2 _ (by omega) k).trans (x9 k hk),
    fun k hk => ⟨(s.2.2.2.2 _ (by omega) k).trans (x10 k hk).1, (s.2.2.2.2 _ (by omega) k).trans (x10 k hk).2⟩, fun k hk => (s.2.2.2.2 _ (by omega) k).trans (x11 k hk), mG_J s (h0 16 (by decide)) (fun b h1 h2 => by omega) x12, mQ_J s (h0 24 (by decide)) (by omega) (by omega) x13, x⟩
/-- the dialogues move -/
theorem MH.G {h h' : zH} {m w : Nat} {S S' : sS} {G G' : List (Nat × (Nat → Int32))} (X : MH h m w S G) (s : zJ (fun q => q = m ∨ q = m + 12 ∨ (m + 13 ≤ q ∧ q ≤ m + 19)) h h') (h0 : ∀ k, k ≠ 16 → zI h' m k = zI h m k) (hl : ∀ v, v ≤ w → zI h' (m + 12) v = sL S' v) (x : mG h' m G')
    (e1 : sClk S' = sClk S) (e2 : sDg S' = sDg S) (e3 : sLo S' = sLo S) (e4 : sT S' = sT S) (e5 : sC S' = sC S) (e6 : sHe S' = sHe S) (e7 : sSt S' = sSt S) (e8 : sO S' = sO S) (e9 : sU S' = sU S) (e10 : sQ S' = sQ S) (e11 : sF S' = sF S) : MH h' m w S' G' := by
  obtain ⟨x1, x2, x3, x4, x5, x6, x7, x8, x9, x10, x11, x12, x13, x14⟩ := X
  unfold MH
  rw [e1, e2, e3, e4, e5, e6, e7, e8, e9, e10, e11]
  exact ⟨gM_J s x1, (h0 0 (by decide)).trans x2, (h0 1 (by decide)).trans x3, fun k hk => (s.2.2.2.2 _ (by omega) k).trans (x4 k hk), fun k hk => (s.2.2.2.2 _ (by omega) k).trans (x5 k hk), mT_J s (h0 4 (by decide)) (by omega) (by omega) (by omega) x6, mC_J s (h0 8 (by decide)) (by omega) (by omega) x7, fun k hk => (s.2.2.2.2 _ (by omega) k).trans (x8 k hk), fun k hk => (s.2.2.2.2 _ (by omega) k).trans (x9 k hk),
    fun k hk => ⟨(s.2.2.2.2 _ (by omega) k).trans (x10 k hk).1, (s.2.2.2.2 _ (by omega) k).trans (x10 k hk).2⟩, hl, x, mQ_J s (h0 24 (by decide)) (by omega) (by omega) x13, mF_J s (h0 27 (by decide)) (by omega) x14⟩
theorem MH.C {h h' : zH} {m w : Nat} {S : sS} {G : List (Nat × (Nat → Int32))} {C : List Int32} (X : MH h m w S G) (s : zJ (fun q => q = m ∨ q = m + 6 ∨ q = m + 7) h h') (h0 : ∀ k, k ≠ 8 → zI h' m k = zI h m k) (x : mC h' m w C) : MH h' m w (stC S C) G := by
  obtain ⟨x1, x2, x3, x4, x5, x6, x7, x8, x9, x10, x11, x12, x13, x14⟩ := X
  exact ⟨gM_J s x1, (h0 0 (by decide)).trans x2, (h0 1 (by decide)).trans x3, fun k hk => (s.2.2.2.2 _ (by omega) k).trans (x4 k hk), fun k hk => (s.2.2.2.2 _ (by omega) k).trans (x5 k hk), mT_J s (h0 4 (by decide)) (by omega) (by omega) (by omega) x6, x, fun k hk => (s.2.2.2.2 _ (by omega) k).trans (x8 k hk), fun k hk => (s.2.2.2.2 _ (by omega) k).trans (x9 k hk),
    fun k hk => ⟨(s.2.2.2.2 _ (by omega) k).trans (x10 k hk).1, (s.2.2.2.2 _ (by omega) k).trans (x10 k hk).2⟩, fun k hk => (s.2.2.2.2 _ (by omega) k).trans (x11 k hk), mG_J s (h0 16 (by decide)) (fun b h1 h2 => by omega) x12, mQ_J s (h0 24 (by decide)) (by omega) (by omega) x13, mF_J s (h0 27 (by decide)) (by omega) x14⟩
theorem MH.T {h h' : zH} {m w : Nat} {S : sS} {G : List (Nat × (Nat → Int32))} {T : List (Nat → Int32)} (X : MH h m w S G) (s : zJ (fun q => q = m ∨ (m + 3 ≤ q ∧ q ≤ m + 5)) h h') (h0 : ∀ k, k ≠ 4 → zI h' m k = zI h m k) (x : mT h' m T) : MH h' m w (stT S T) G := by
  obtain ⟨x1, x2, x3, x4, x5, x6, x7, x8, x9, x10, x11, x12, x13, x14⟩ := X
  exact ⟨gM_J s x1, (h0 0 (by decide)).trans x2, (h0 1 (by decide)).trans x3, fun k hk => (s.2.2.2.2 _ (by omega) k).trans (x4 k hk), fun k hk => (s.2.2.2.2 _ (by omega) k).trans (x5 k hk), x, mC_J s (h0 8 (by decide)) (by omega) (by omega) x7, fun k hk => (s.2.2.2.2 _ (by omega) k).trans (x8 k hk), fun k hk => (s.2.2.2.2 _ (by omega) k).trans (x9 k hk),
    fun k hk => ⟨(s.2.2.2.2 _ (by omega) k).trans (x10 k hk).1, (s.2.2.2.2 _ (by omega) k).trans (x10 k hk).2⟩, fun k hk => (s.2.2.2.2 _ (by omega) k).trans (x11 k hk), mG_J s (h0 16 (by decide)) (fun b h1 h2 => by omega) x12, mQ_J s (h0 24 (by decide)) (by omega) (by omega) x13, mF_J s (h0 27 (by decide)) (by omega) x14⟩
theorem MH.Q {h h' : zH} {m w : Nat} {S : sS} {G : List (Nat × (Nat → Int32))} {Q : List (Int32 × Int32)} (X : MH h m w S G) (s : zJ (fun q => q = m ∨ q = m + 20 ∨ q = m + 21) h h') (h0 : ∀ k, k ≠ 24 → zI h' m k = zI h m k) (x : mQ h' m Q) : MH h' m w (stQ S Q) G := by
  obtain ⟨x1, x2, x3, x4, x5, x6, x7, x8, x9, x10, x11, x12, x13, x14⟩ := X
  exact ⟨gM_J s x1, (h0 0 (by decide)).trans x2, (h0 1 (by decide)).trans x3, fun k hk => (s.2.2.2.2 _ (by omega) k).trans (x4 k hk), fun k hk => (s.2.2.2.2 _ (by omega) k).trans (x5 k hk), mT_J s (h0 4 (by decide)) (by omega) (by omega) (by omega) x6, mC_J s (h0 8 (by decide)) (by omega) (by omega) x7, fun k hk => (s.2.2.2.2 _ (by omega) k).trans (x8 k hk), fun k hk => (s.2.2.2.2 _ (by omega) k).trans (x9 k hk),
    fun k hk => ⟨(s.2.2.2.2 _ (by omega) k).trans (x10 k hk).1, (s.2.2.2.2 _ (by omega) k).trans (x10 k hk).2⟩, fun k hk => (s.2.2.2.2 _ (by omega) k).trans (x11 k hk), mG_J s (h0 16 (by decide)) (fun b h1 h2 => by omega) x12, x, mF_J s (h0 27 (by decide)) (by omega) x14⟩
/-- digits, location, held, standing, owners, untils move -/
theorem MH.A {h h' : zH} {m w : Nat} {S S' : sS} {G : List (Nat × (Nat → Int32))} (X : MH h m w S G) (s : zJ (fun q => q = m + 1 ∨ q = m + 2 ∨ (m + 8 ≤ q ∧ q ≤ m + 11)) h h') (y1 : ∀ k, k < 4 → zI h' (m + 1) k = sDg S' k) (y2 : ∀ k, k < 4 → zI h' (m + 2) k = sLo S' k) (y3 : ∀ k, k < 4 * (w + 1) → zI h' (m + 8) k = sHe S' k) (y4 : ∀ k, k < 4 * (w + 1) → zI h' (m + 9) k = sSt S' k) (y5 : ∀ k, k < 10 → zI h' (m + 10) k = sO S' k ∧ zI h' (m + 11) k = sU S' k)
    (e1 : sClk S' = sClk S) (e4 : sT S' = sT S) (e5 : sC S' = sC S) (e10 : sQ S' = sQ S) (e11 : sF S' = sF S) (e12 : sL S' = sL S) : MH h' m w S' G := by
  obtain ⟨x1, x2, x3, x4, x5, x6, x7, x8, x9, x10, x11, x12, x13, x14⟩ := X
  have h0 : ∀ k, zI h' m k = zI h m k := fun k => s.2.2.2.2 m (by omega) k
  unfold MH
  rw [e1, e4, e5, e10, e11, e12]
  exact ⟨gM_J s x1, (h0 0).trans x2, (h0 1).trans x3, y1, y2, mT_J s (h0 4) (by omega) (by omega) (by omega) x6, mC_J s (h0 8) (by omega) (by omega) x7, y3, y4, y5, fun k hk => (s.2.2.2.2 _ (by omega) k).trans (x11 k hk), mG_J s (h0 16) (fun b h1 h2 => by omega) x12, mQ_J s (h0 24) (by omega) (by omega) x13, mF_J s (h0 27) (by omega) x14⟩
theorem MH.Clk {h : zH} {m w : Nat} {S : sS} {G : List (Nat × (Nat → Int32))} {x : Int32} (X : MH h m w S G) : MH (zwI h m 1 x) m w (stClk S x) G := by
  obtain ⟨x1, x2, x3, x4, x5, x6, x7, x8, x9, x10, x11, x12, x13, x14⟩ := X
  have s : zJ (fun q => q = m) h (zwI h m 1 x) := zJ.wI rfl
  have h0 : ∀ k, k ≠ 1 → zI (zwI h m 1 x) m k = zI h m k := fun k hk => zI_ok hk
  exact ⟨gM_J s x1, (h0 0 (by decide)).trans x2, zI_at, fun k hk => (s.2.2.2.2 _ (by omega) k).trans (x4 k hk), fun k hk => (s.2.2.2.2 _ (by omega) k).trans (x5 k hk), mT_J s (h0 4 (by decide)) (by omega) (by omega) (by omega) x6, mC_J s (h0 8 (by decide)) (by omega) (by omega) x7, fun k hk => (s.2.2.2.2 _ (by omega) k).trans (x8 k hk), fun k hk => (s.2.2.2.2 _ (by omega) k).trans (x9 k hk),
    fun k hk => ⟨(s.2.2.2.2 _ (by omega) k).trans (x10 k hk).1, (s.2.2.2.2 _ (by omega) k).trans (x10 k hk).2⟩, fun k hk => (s.2.2.2.2 _ (by omega) k).trans (x11 k hk), mG_J s (h0 16 (by decide)) (fun b h1 h2 => by omega) x12, mQ_J s (h0 24 (by decide)) (by omega) (by omega) x13, mF_J s (h0 27 (by decide)) (by omega) x14⟩
