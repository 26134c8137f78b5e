/-! ===== the law ===== -/
theorem IV.oL {w q b : Nat} {S : sS} (I : IV w q b S) : okL w S := I.2.2.2.2.2.2.2.2.1
theorem XS.keep {A : Nat → Prop} {h h' : zH} {w : Nat} {S : sS} (hw : w ≤ 4) (X : XS h w S) (s : zSame A h h') (hA : ∀ b, b < 54 + 4 * w → ¬ A b) : XS h' w S := by
  have hn : ∀ v, v ≤ w → nA v + 2 + nC v ≤ 54 + 4 * w := fun v hv => by
    have := nA_in v
    by_cases e : v = 0
    · have := this.2.1 e; omega
    · rw [nA_pos (by omega), nC_pos (by omega)]; omega
  obtain ⟨x1, x2, x3, x4, x5, x6, x7, x8, x9, x10, x11, x12, x13, x14, x15, x16, x17, x18, x19⟩ := X
  exact ⟨gX_same s (s.2.2.2 3 (hA _ (by omega)) 0).1 (fun j => (s.2.2.2 3 (hA _ (by omega)) j).2) (fun j => (s.2.2.2 53 (hA _ (by omega)) j).2) x1, gT_same s (hA _ (by omega)) x2, gC_same s (hA _ (by omega)) x3, gQ_same s (hA _ (by omega)) x4, gN_same s (hA _ (by omega)) x5, gP_same s (hA _ (by omega)) x6, gW_same s (hA _ (by omega)) (hA _ (by omega)) x7,
    fun v hv => gW_same s (hA _ (by have := hn v hv; omega)) (hA _ (by have := hn v hv; omega)) (x8 v hv), (s.2.2.2 3 (hA _ (by omega)) 1).1.trans x9, fun k hk => (s.2.2.2 4 (hA _ (by omega)) k).1.trans (x10 k hk), fun k hk => (s.2.2.2 5 (hA _ (by omega)) k).1.trans (x11 k hk), fun k hk => (s.2.2.2 42 (hA _ (by omega)) k).1.trans (x12 k hk), fun k hk => (s.2.2.2 43 (hA _ (by omega)) k).1.trans (x13 k hk),
    xN_same s (hA _ (by omega)) (hA _ (by omega)) x14, xT_same s (hA _ (by omega)) (hA _ (by omega)) (hA _ (by omega)) (hA _ (by omega)) x15, xC_same s (hA _ (by omega)) (hA _ (by omega)) x16, xQ_same s (hA _ (by omega)) (hA _ (by omega)) (hA _ (by omega)) x17, xW_same s (fun b h1 h2 => hA _ (by omega)) x7 x18, fun v hv => ⟨xW_same s (fun b h1 h2 => hA _ (by have := hn v hv; omega)) (x8 v hv) (x19 v hv).1, (s.2.2.2 (nA v) (hA _ (by have := hn v hv; omega)) 2).1.trans (x19 v hv).2⟩⟩
theorem MH.keep {A : Nat → Prop} {h h' : zH} {m w : Nat} {S : sS} {G : List (Nat × (Nat → Int32))} (X : MH h m w S G) (s : zJ A h h') (hA : ∀ b, m ≤ b → ¬ A b) : MH h' m w S G := by
  obtain ⟨x1, x2, x3, x4, x5, x6, x7, x8, x9, x10, x11, x12, x13, x14⟩ := X
  have h0 : ∀ k, zI h' m k = zI h m k := fun k => s.2.2.2.2 m (hA _ (by omega)) k
  exact ⟨gM_J s x1, (h0 0).trans x2, (h0 1).trans x3, fun k hk => (s.2.2.2.2 _ (hA _ (by omega)) k).trans (x4 k hk), fun k hk => (s.2.2.2.2 _ (hA _ (by omega)) k).trans (x5 k hk), mT_J s (h0 4) (hA _ (by omega)) (hA _ (by omega)) (hA _ (by omega)) x6, mC_J s (h0 8) (hA _ (by omega)) (hA _ (by omega)) x7, fun k hk => (s.2.2.2.2 _ (hA _ (by omega)) k).trans (x8 k hk), fun k hk => (s.2.2.2.2 _ (hA _ (by omega)) k).trans (x9 k hk),
    fun k hk => ⟨(s.2.2.2.2 _ (hA _ (by omega)) k).trans (x10 k hk).1, (s.2.2.2.2 _ (hA _ (by omega)) k).trans (x10 k hk).2⟩, fun k hk => (s.2.2.2.2 _ (hA _ (by omega)) k).trans (x11 k hk), mG_J s (h0 16) (fun b h1 h2 => hA _ (by omega)) x12, mQ_J s (h0 24) (hA _ (by omega)) (hA _ (by omega)) x13, mF_J s (h0 27) (hA _ (by omega)) x14⟩
theorem MM.keep {h h' : zH} {w : Nat} {S : sS} (M : MM h (54 + 4 * w) w S) (s : zSame (xB w) h h') : MM h' (54 + 4 * w) w S := by
  obtain ⟨G, X, L⟩ := M
  have s2 : zJ (xB w) h (h'.1, h'.2.1, h'.2.2.1, h'.2.2.2.1, h.2.2.2.2) := ⟨s.1, s.2.1, s.2.2.1, fun _ _ => rfl, fun b hb j => (s.2.2.2 b hb j).1⟩
  have e := X.keep s2 (fun b hb z => by unfold xB at z; omega)
  have er : ∀ j, zR h' (54 + 4 * w) j = zR h (54 + 4 * w) j := fun j => (s.2.2.2 _ (fun z => by unfold xB at z; omega) j).2
  refine ⟨G, ⟨?_, e.2⟩, L⟩
  have g := X.1
  unfold gM at g ⊢
  simp only [s.1, s.2.1, er]
  exact g
theorem nI_m4 {n j : Nat} (hn : n ≤ 2049) (hj : j < 2 ^ 30) (h : ¬ nI n - (4 : Int32) < nI j) : j + 4 ≤ n := by
  refine Classical.byContradiction fun q => h ?_
  by_cases h4 : 4 ≤ n
  · rw [show (4 : Int32) = nI 4 from rfl, pk_sub h4]
    exact (nI_ltI (by omega) (by omega)).mpr (by omega)
  · have a : nI n - 4 < 0 := by
      rcases (show n = 0 ∨ n = 1 ∨ n = 2 ∨ n = 3 by omega) with rfl | rfl | rfl | rfl <;> decide
    exact Int32.lt_of_lt_of_le a (nI_pos' (by omega))
theorem nI_k {a : Nat} (k : Nat) : nI a + nI k = nI (a + k) := nI_add a k
theorem law_loop {w n : Nat} {K : zT} {cu su : Nat} (hw : w ≤ 4) (hn : n ≤ 2049) (hK : ∀ h, K (some (.inl 1)) h) : ∀ (t i : Nat) (h : zH) (S : sS), i + t = 600 → zK h 1 = 101 → zL h 1 = n → XS h w S → MM h (54 + 4 * w) w S → IV w i (8 * i) S →
    zWp zm117 (zD 7) K cu su 28 [some (.inr 1), some (.inr 3), some (.inr (54 + 4 * w)), some (.inl (nI (4 * i + 1)))] [] h := by
  intro t
  induction t with
  | zero =>
    intro i h S hi y1 l1 X M I
    refine r117_28 ⟨y1, fun _ => ⟨Or.inr rfl, hK h⟩, fun q => ?_⟩
    rw [l1] at q
    have := nI_m4 hn (by omega) q
    omega
  | succ t ih =>
    intro i h S hi y1 l1 X M I
    refine r117_28 ⟨y1, fun _ => ⟨Or.inr rfl, hK h⟩, fun q => ?_⟩
    rw [l1] at q
    have hj := nI_m4 hn (by omega) q
    clear q
    have eq4 : nI (4 * i + 1) + (4 : Int32) = nI (4 * (i + 1) + 1) := by rw [show (4 : Int32) = nI 4 from rfl, nI_add]; congr 1
    have v0 : vp_in (nI (4 * i + 1)) (zL h 1) := by rw [l1]; exact vp_in_nI (by omega) (by omega)
    have v1 : vp_in (nI (4 * i + 1) + (1 : Int32)) n := by rw [nI_1]; exact vp_in_nI (by omega) (by omega)
    have v2 : vp_in (nI (4 * i + 1) + (2 : Int32)) n := by rw [show (2 : Int32) = nI 2 from rfl, nI_add]; exact vp_in_nI (by omega) (by omega)
    have v3 : vp_in (nI (4 * i + 1) + (3 : Int32)) n := by rw [show (3 : Int32) = nI 3 from rfl, nI_add]; exact vp_in_nI (by omega) (by omega)
    have y3 : zK h 3 = 3 := X.1.1
    have mono : ∀ {S' : sS} {q b : Nat}, IV w q b S' → q ≤ i + 1 → b ≤ 8 * i + 8 → IV w (i + 1) (8 * (i + 1)) S' := fun J hq hb => J.mono hq (by omega)
    have mid : ∀ h1, zSame (xB w) h h1 → MM h1 (54 + 4 * w) w S ∧ zK h1 1 = 101 ∧ zL h1 1 = n ∧ zK h1 (54 + 4 * w) = 21 ∧ ∀ j, zI h1 1 j = zI h 1 j := fun h1 s1 =>
      ⟨M.keep s1, (s1.1 1).trans y1, (s1.2.1 1).trans l1, by obtain ⟨G, Y, _⟩ := M.keep s1; exact Y.1.1, fun j => (s1.2.2.2 1 (fun z => by unfold xB at z; omega) j).1⟩
    have fin : ∀ (h1 h2 : zH) (S' : sS), zSame (xB w) h h1 → zJ (yA (54 + 4 * w)) h1 h2 → XS h1 w S' → MM h2 (54 + 4 * w) w S' → IV w (i + 1) (8 * (i + 1)) S' → zWp zm117 (zD 7) K cu su 28 [some (.inr 1), some (.inr 3), some (.inr (54 + 4 * w)), some (.inl (nI (4 * i + 1) + (4 : Int32)))] [] h2 := fun h1 h2 S' s1 s2 X' M' I' => by
      rw [eq4]
      exact ih (i + 1) h2 S' (by omega) ((s2.1 1).trans ((s1.1 1).trans y1)) ((s2.2.1 1).trans ((s1.2.1 1).trans l1)) (X'.keep hw s2.same (fun b hb z => by unfold yA at z; omega)) M' I'
    have skip : zWp zm117 (zD 7) K cu su 28 [some (.inr 1), some (.inr 3), some (.inr (54 + 4 * w)), some (.inl (nI (4 * i + 1) + (4 : Int32)))] [] h := by
      rw [eq4]
      exact ih (i + 1) h S (by omega) y1 l1 X M (mono I (by omega) (by omega))
    clear ih
    rw [l1] at v0
    simp only [l1]
    generalize nI (4 * i + 1) = p at v0 v1 v2 v3 fin skip ⊢
    refine ⟨Or.inr y1, v0, fun _ => skip, fun _ => ?_, fun _ => ?_, fun _ => ?_, fun _ => ?_, fun _ => ?_, fun _ => ?_, fun _ => ?_, fun _ => ?_, fun _ => ?_, fun _ => ?_, fun _ => ?_, fun _ => ?_, fun _ => ?_, fun _ => ?_, fun _ => ?_, fun _ => ?_, fun _ => ?_, fun _ => ?_, trivial⟩
    · refine ⟨Or.inr y1, v1, Or.inr y1, v2, y3, _, k1 hw X, ?_⟩
      rintro r h1 ⟨rfl, X1, s1⟩
      obtain ⟨MM1, k1', l1', km, ei⟩ := mid h1 s1
      refine r117_142 ?_
      simp only [ei, l1']
      refine ⟨Or.inr k1', v1, Or.inr k1', v2, km, _, c78 MM1, ?_⟩
      rintro r h2 ⟨rfl, M2, s2⟩
      exact r117_156 ⟨fun _ => fin h1 h2 _ s1 s2 X1 M2 (mono (s_digits hw I) (by omega) (by omega)), fun q => absurd rfl q⟩
    · refine ⟨Or.inr y1, v1, Or.inr y1, v2, Or.inr y1, v3, fun z3 => ?_, fun z3 => ?_⟩
      · refine ⟨y3, _, k2 hw (Or.inl rfl) X, ?_⟩
        rintro r h1 ⟨rfl, X1, s1⟩
        obtain ⟨MM1, k1', l1', km, ei⟩ := mid h1 s1
        refine r117_188 ?_
        simp only [ei, l1']
        refine ⟨Or.inr k1', v1, Or.inr k1', v2, Or.inr k1', v3, fun _ => ⟨km, _, c79 (Or.inl rfl) MM1, ?_⟩, fun q => absurd z3 q⟩
        rintro r h2 ⟨rfl, M2, s2⟩
        exact r117_215 ⟨fun _ => fin h1 h2 _ s1 s2 X1 M2 (mono (s_title I (Or.inl rfl)) (by omega) (by omega)), fun q => absurd rfl q⟩
      · refine ⟨y3, _, k2 hw (Or.inr rfl) X, ?_⟩
        rintro r h1 ⟨rfl, X1, s1⟩
        obtain ⟨MM1, k1', l1', km, ei⟩ := mid h1 s1
        refine r117_188 ?_
        simp only [ei, l1']
        refine ⟨Or.inr k1', v1, Or.inr k1', v2, Or.inr k1', v3, fun q => absurd q z3, fun _ => ⟨km, _, c79 (Or.inr rfl) MM1, ?_⟩⟩
        rintro r h2 ⟨rfl, M2, s2⟩
        exact r117_215 ⟨fun _ => fin h1 h2 _ s1 s2 X1 M2 (mono (s_title I (Or.inr rfl)) (by omega) (by omega)), fun q => absurd rfl q⟩
    · refine ⟨Or.inr y1, v1, Or.inr y1, v2, y3, _, k3 hw X I.1, ?_⟩
      rintro r h1 ⟨rfl, X1, s1⟩
      obtain ⟨MM1, k1', l1', km, ei⟩ := mid h1 s1
      refine r117_234 ?_
      simp only [ei, l1']
      refine ⟨Or.inr k1', v1, Or.inr k1', v2, km, _, c89 hw MM1 I.1 I.oL, ?_⟩
      rintro r h2 ⟨rfl, M2, s2⟩
      exact r117_248 ⟨fun _ => fin h1 h2 _ s1 s2 X1 M2 (mono (s_appear hw (by omega) I) (by omega) (by omega)), fun q => absurd rfl q⟩
    · refine ⟨Or.inr y1, v1, y3, _, k4 hw X, ?_⟩
      rintro r h1 ⟨rfl, X1, s1⟩
      obtain ⟨MM1, k1', l1', km, ei⟩ := mid h1 s1
      refine r117_262 ?_
      simp only [ei, l1']
      refine ⟨Or.inr k1', v1, km, _, c90 hw MM1 I.oL (by have := I.2.2.1; omega), ?_⟩
      rintro r h2 ⟨rfl, M2, s2⟩
      exact r117_271 ⟨fun _ => fin h1 h2 _ s1 s2 X1 M2 (mono (s_ask hw (by omega) I) (by omega) (by omega)), fun q => absurd rfl q⟩
    · refine ⟨Or.inr y1, v1, y3, _, k5 X I.2.1, ?_⟩
      rintro r h1 ⟨⟨x, rfl, hx⟩, X1, s1⟩
      obtain ⟨MM1, k1', l1', km, ei⟩ := mid h1 s1
      refine r117_285 ?_
      simp only [ei, l1']
      refine ⟨Or.inr k1', v1, km, _, c92 MM1 I.2.1, ?_⟩
      rintro r h2 ⟨⟨y, rfl, hy⟩, M2, s2⟩
      exact r117_294 ⟨fun _ => fin h1 h2 _ s1 s2 X1 M2 (mono I (by omega) (by omega)), fun q => absurd (pAns_u I.2.1 hx hy) q⟩
    · refine ⟨Or.inr y1, v1, y3, _, k6 hw X I.oD I.2.1 I.oF, ?_⟩
      rintro r h1 ⟨rfl, X1, s1⟩
      obtain ⟨MM1, k1', l1', km, ei⟩ := mid h1 s1
      refine r117_308 ?_
      simp only [ei, l1']
      refine ⟨Or.inr k1', v1, km, _, c101 hw MM1 I.oM I.oF (I.dF hw), ?_⟩
      rintro r h2 ⟨rfl, M2, s2⟩
      exact r117_317 ⟨fun _ => fin h1 h2 _ s1 s2 X1 M2 (mono (s_deliver hw (by omega) I) (by omega) (by omega)), fun q => absurd rfl q⟩
    · refine ⟨Or.inr y1, v1, y3, _, k7 hw X, ?_⟩
      rintro r h1 ⟨rfl, X1, s1⟩
      obtain ⟨MM1, k1', l1', km, ei⟩ := mid h1 s1
      refine r117_331 ?_
      simp only [ei, l1']
      refine ⟨Or.inr k1', v1, km, _, c102 MM1, ?_⟩
      rintro r h2 ⟨rfl, M2, s2⟩
      exact r117_340 ⟨fun _ => fin h1 h2 _ s1 s2 X1 M2 (mono (s_lose I) (by omega) (by omega)), fun q => absurd rfl q⟩
    · refine ⟨Or.inr y1, v1, y3, _, k8 hw X, ?_⟩
      rintro r h1 ⟨rfl, X1, s1⟩
      obtain ⟨MM1, k1', l1', km, ei⟩ := mid h1 s1
      refine r117_354 ?_
      simp only [ei, l1']
      refine ⟨Or.inr k1', v1, km, _, c103 MM1, ?_⟩
      rintro r h2 ⟨rfl, M2, s2⟩
      exact r117_363 ⟨fun _ => fin h1 h2 _ s1 s2 X1 M2 (mono (s_copy I) (by omega) (by omega)), fun q => absurd rfl q⟩
    · refine ⟨y3, _, k9 X, ?_⟩
      rintro r h1 ⟨rfl, X1, s1⟩
      obtain ⟨MM1, k1', l1', km, ei⟩ := mid h1 s1
      refine r117_372 ?_
      refine ⟨km, _, c104 MM1, ?_⟩
      rintro r h2 ⟨rfl, M2, s2⟩
      exact r117_376 ⟨fun _ => fin h1 h2 _ s1 s2 X1 M2 (mono (I) (by omega) (by omega)), fun q => absurd rfl q⟩
    · refine ⟨Or.inr y1, v1, Or.inr y1, v2, y3, _, k10 X, ?_⟩
      rintro r h1 ⟨rfl, X1, s1⟩
      obtain ⟨MM1, k1', l1', km, ei⟩ := mid h1 s1
      refine r117_395 ?_
      simp only [ei, l1']
      refine ⟨Or.inr k1', v1, Or.inr k1', v2, km, _, c105 MM1, ?_⟩
      rintro r h2 ⟨rfl, M2, s2⟩
      exact r117_409 ⟨fun _ => fin h1 h2 _ s1 s2 X1 M2 (mono (I) (by omega) (by omega)), fun q => absurd rfl q⟩
    · refine ⟨y3, _, k11 hw X I.oD I.2.1, ?_⟩
      rintro r h1 ⟨rfl, X1, s1⟩
      obtain ⟨MM1, k1', l1', km, ei⟩ := mid h1 s1
      refine r117_418 ?_
      refine ⟨km, _, c107 hw MM1 I.oE I.2.2.2.2.2.1 I.2.2.2.2.2.2.1, ?_⟩
      rintro r h2 ⟨rfl, M2, s2⟩
      exact r117_422 ⟨fun _ => fin h1 h2 _ s1 s2 X1 M2 (mono (s_tick hw (by omega) I) (by omega) (by omega)), fun q => absurd rfl q⟩
    · refine ⟨Or.inr y1, v1, Or.inr y1, v2, y3, _, k12 hw X, ?_⟩
      rintro r h1 ⟨rfl, X1, s1⟩
      obtain ⟨MM1, k1', l1', km, ei⟩ := mid h1 s1
      refine r117_441 ?_
      simp only [ei, l1']
      refine ⟨Or.inr k1', v1, Or.inr k1', v2, km, _, c108 hw MM1, ?_⟩
      rintro r h2 ⟨rfl, M2, s2⟩
      exact r117_455 ⟨fun _ => fin h1 h2 _ s1 s2 X1 M2 (mono (I) (by omega) (by omega)), fun q => absurd rfl q⟩
    · refine ⟨Or.inr y1, v1, y3, _, k13 X, ?_⟩
      rintro r h1 ⟨rfl, X1, s1⟩
      obtain ⟨MM1, k1', l1', km, ei⟩ := mid h1 s1
      refine r117_469 ?_
      simp only [ei, l1']
      refine ⟨Or.inr k1', v1, km, _, c109 MM1, ?_⟩
      rintro r h2 ⟨rfl, M2, s2⟩
      exact r117_478 ⟨fun _ => fin h1 h2 _ s1 s2 X1 M2 (mono (I) (by omega) (by omega)), fun q => absurd rfl q⟩
    · refine ⟨Or.inr y1, v1, Or.inr y1, v2, y3, _, k14 hw X, ?_⟩
      rintro r h1 ⟨rfl, X1, s1⟩
      obtain ⟨MM1, k1', l1', km, ei⟩ := mid h1 s1
      refine r117_497 ?_
      simp only [ei, l1']
      refine ⟨Or.inr k1', v1, Or.inr k1', v2, km, _, c110 hw MM1, ?_⟩
      rintro r h2 ⟨rfl, M2, s2⟩
      exact r117_511 ⟨fun _ => fin h1 h2 _ s1 s2 X1 M2 (mono (I) (by omega) (by omega)), fun q => absurd rfl q⟩
    · refine ⟨Or.inr y1, v1, y3, _, k15 hw X, ?_⟩
      rintro r h1 ⟨rfl, X1, s1⟩
      obtain ⟨MM1, k1', l1', km, ei⟩ := mid h1 s1
      refine r117_525 ?_
      simp only [ei, l1']
      refine ⟨Or.inr k1', v1, km, _, c111 hw MM1, ?_⟩
      rintro r h2 ⟨rfl, M2, s2⟩
      exact r117_534 ⟨fun _ => fin h1 h2 _ s1 s2 X1 M2 (mono (I) (by omega) (by omega)), fun q => absurd rfl q⟩
    · refine ⟨Or.inr y1, v1, Or.inr y1, v2, y3, _, k16 hw X, ?_⟩
      rintro r h1 ⟨rfl, X1, s1⟩
      obtain ⟨MM1, k1', l1', km, ei⟩ := mid h1 s1
      refine r117_553 ?_
      simp only [ei, l1']
      refine ⟨Or.inr k1', v1, Or.inr k1', v2, km, _, c112 hw MM1, ?_⟩
      rintro r h2 ⟨rfl, M2, s2⟩
      exact r117_567 ⟨fun _ => fin h1 h2 _ s1 s2 X1 M2 (mono (I) (by omega) (by omega)), fun q => absurd rfl q⟩
    · refine ⟨Or.inr y1, v1, y3, _, k17 X, ?_⟩
      rintro r h1 ⟨rfl, X1, s1⟩
      obtain ⟨MM1, k1', l1', km, ei⟩ := mid h1 s1
      refine r117_581 ?_
      simp only [ei, l1']
      refine ⟨Or.inr k1', v1, km, _, c113 MM1, ?_⟩
      rintro r h2 ⟨rfl, M2, s2⟩
      exact r117_590 ⟨fun _ => fin h1 h2 _ s1 s2 X1 M2 (mono (I) (by omega) (by omega)), fun q => absurd rfl q⟩
    · refine ⟨Or.inr y1, v1, y3, _, k18 hw X, ?_⟩
      rintro r h1 ⟨rfl, X1, s1⟩
      obtain ⟨MM1, k1', l1', km, ei⟩ := mid h1 s1
      refine r117_604 ?_
      simp only [ei, l1']
      refine ⟨Or.inr k1', v1, km, _, c114 hw MM1, ?_⟩
      rintro r h2 ⟨rfl, M2, s2⟩
      exact r117_613 ⟨fun _ => fin h1 h2 _ s1 s2 X1 M2 (mono (s_call I) (by omega) (by omega)), fun q => absurd rfl q⟩
/-- the script's first int, or 0 -/
def cel (h : zH) : Int32 := if zL h 1 = 0 then 0 else zI h 1 0
theorem c116 {d : Nat} {h : zH} (k1 : zK h 1 = 101) (hn : zL h 1 ≤ 2049) : zD (d + 1) 116 [.inr 1, .inl 0] h (fun r h' => r = some (.inl (cel h)) ∧ h = h') := by
  refine zD_of rfl (r116_0 ⟨k1, fun q => ?_, fun q => ?_⟩)
  · have e : zL h 1 = 0 := by
      have := (nI_leI (a := zL h 1) (b := 0) (by omega) (by decide)).mp q
      omega
    exact ⟨by unfold cel; rw [if_pos e], rfl⟩
  · have e : ¬ zL h 1 = 0 := fun e => q (by rw [e]; decide)
    exact ⟨Or.inr k1, vp_in_nI (n := 0) (by omega) (by omega), by unfold cel; rw [if_neg e]; rfl, rfl⟩
theorem law_start {h : zH} {K : zT} (hN : zN h = 3) (k1 : zK h 1 = 101) (hn : zL h 1 ≤ 2049) (g : gP h) (hK : ∀ h', K (some (.inl 1)) h') : zWp zm117 (zD 7) K 0 0 0 [some (.inr 1), none, none, none] [] h := by
  refine r117_0 ⟨by decide, by decide, ?_⟩
  intro h1 e1
  have H0 : Hp h h 3 [] := ⟨hN, fun i c z => (by cases z), zBel.rf⟩
  have H1 : Hp h h1 3 [(3, 0, z0, r0)] := by rw [e1]; exact H0.new
  have b1 := H1.2.2
  have k11 : zK h1 1 = 101 := (b1 1 (by omega)).1.trans k1
  have l11 : zL h1 1 = zL h 1 := (b1 1 (by omega)).2.1
  refine ⟨_, c116 (d := 6) k11 (by rw [l11]; exact hn), ?_⟩
  rintro r _ ⟨rfl, rfl⟩
  rw [hN]
  have S1 : Hp h1 h1 3 [(3, 0, z0, r0)] := Hp.sub (L := []) H1 rfl
  refine r117_9 ⟨S1.k (i := 0) rfl rfl, by decide, by decide, _, cK0 (d := 4) S1, ?_⟩
  rintro r h2 ⟨rfl, H2⟩
  have hw := (wV_ok (cel h1)).2
  have eN2 : zN h2 = 54 + 4 * wV (cel h1) := by rw [H2.1, Lc_len]; omega
  have b2 := H2.2.2
  refine r117_12 ⟨by decide, by decide, ?_⟩
  intro h3 e3
  have H3 : Hp h1 h3 3 (zLc (wV (cel h1)) (wV (cel h1)) ++ [(21, 0, z0, r0)]) := by rw [e3]; exact H2.new
  have b3 := H3.2.2
  have k13 : zK h3 1 = 101 := (b3 1 (by omega)).1.trans k11
  have l13 : zL h3 1 = zL h1 1 := (b3 1 (by omega)).2.1
  have ec : cel h3 = cel h1 := by unfold cel; rw [l13, (b3 1 (by omega)).2.2.1 0]
  refine ⟨_, c116 (d := 6) k13 (by rw [l13, l11]; exact hn), ?_⟩
  rintro r _ ⟨rfl, rfl⟩
  rw [ec, eN2]
  have ea : 54 + 4 * wV (cel h1) = 3 + (zLc (wV (cel h1)) (wV (cel h1))).length := by rw [Lc_len]; omega
  have S3 := H3.sub ea
  refine r117_22 ⟨S3.k (i := 0) rfl rfl, by decide, by decide, _, c74 (d := 6) S3, ?_⟩
  rintro r h4 ⟨rfl, S4⟩
  have H4 := H3.app ea S4
  have b4 := H4.2.2
  have kp : ∀ q, q < 3 → zK h4 q = zK h q ∧ zL h4 q = zL h q ∧ ∀ j, zI h4 q j = zI h q j := fun q hq =>
    ⟨(b4 q hq).1.trans (b1 q hq).1, (b4 q hq).2.1.trans (b1 q hq).2.1, fun j => ((b4 q hq).2.2.1 j).trans ((b1 q hq).2.2.1 j)⟩
  have gp : gP h4 := ⟨(kp 2 (by omega)).1.trans g.1, (kp 2 (by omega)).2.1.trans g.2.1, fun j hj => ((kp 2 (by omega)).2.2 j).trans (g.2.2 j hj)⟩
  refine r117_25 ?_
  exact law_loop hw hn hK 600 0 h4 sIni rfl ((kp 1 (by omega)).1.trans k1) (kp 1 (by omega)).2.1 (XS_of hw (cellsAt.pre H4.2.1) gp) (MH_of S4.2.1) IV_ini
