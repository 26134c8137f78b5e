/-! ===== the reference: title, appear, ask, answer, copy, dialogue ===== -/
theorem LG.beg {w v : Nat} {S : sS} {G : List (Nat × (Nat → Int32))} {kd ot su dl an : Int32} (L : LG w S G) (hv : v ≤ w) : LG w (oBegin S v kd ot su dl an) (G ++ [(v, sRow [sL S v + 1, kd, ot, su, dl, an])]) := by
  refine ⟨fun p hp => ?_, fun u hu => ?_⟩
  · rcases List.mem_append.mp hp with h | h
    · exact L.1 p h
    · have h := List.mem_singleton.mp h
      rw [h]; exact hv
  · show updD (sD S) v (sD S v ++ [sRow [sL S v + 1, kd, ot, su, dl, an]]) u = _
    rw [flt_app]
    by_cases e : v = u
    · subst e; rw [updD_at, if_pos rfl, L.2 v hv]
    · rw [updD_ne (fun z => e z.symm), if_neg e, L.2 u hu]
theorem LG.er {w v d : Nat} {S : sS} {G : List (Nat × (Nat → Int32))} {g : Nat → Int32} (L : LG w S G) (hd : G[d]? = some (v, g)) : LG w (oEnd S v (rk v G d)) (G.eraseIdx d) := by
  have hv : v ≤ w := L.1 _ (List.mem_of_getElem? hd)
  refine ⟨fun p hp => L.1 p (List.mem_of_mem_eraseIdx hp), fun u hu => ?_⟩
  show updD (sD S) v ((sD S v).eraseIdx (rk v G d)) u = _
  by_cases e : u = v
  · subst e; rw [updD_at, flt_er hd, L.2 u hu]
  · rw [updD_ne e, flt_ero (fun z => e z.symm) hd, L.2 u hu]
theorem LG.dead {w v d : Nat} {S : sS} {G : List (Nat × (Nat → Int32))} {g : Nat → Int32} {x : Int32} (L : LG w S G) (hd : G[d]? = some (v, g)) : LG w (oDead S v (rk v G d) g x) (G.set d (v, upd g 4 x)) := by
  have hv : v ≤ w := L.1 _ (List.mem_of_getElem? hd)
  refine ⟨fun p hp => ?_, fun u hu => ?_⟩
  · rcases List.mem_or_eq_of_mem_set hp with h | h
    · exact L.1 p h
    · rw [h]; exact hv
  · show updD (sD S) v ((sD S v).set (rk v G d) (upd g 4 x)) u = _
    by_cases e : u = v
    · subst e; rw [updD_at, flt_set hd, L.2 u hu]
    · rw [updD_ne e, flt_seto (fun z => e z.symm) hd, L.2 u hu]
/-- the lists keep to their room -/
def okL (w : Nat) (S : sS) : Prop := ∀ v, v ≤ w → (sD S v).length ≤ nC v
theorem flt_over {w v : Nat} {G : List (Nat × (Nat → Int32))} (h : ∀ p ∈ G, p.1 ≤ w) (hv : w < v) : (flt v G).length = 0 := by
  unfold flt
  rw [List.filter_eq_nil_iff.mpr (fun p hp => by have := h p hp; simp; omega)]; rfl
theorem LG.le {w v : Nat} {S : sS} {G : List (Nat × (Nat → Int32))} (L : LG w S G) (ok : okL w S) : (flt v G).length ≤ nC v := by
  by_cases h : v ≤ w
  · rw [← L.2 v h]; exact ok v h
  · rw [flt_over L.1 (by omega)]; exact Nat.zero_le _
theorem LG.lt {w v : Nat} {S : sS} {G : List (Nat × (Nat → Int32))} (hw : w ≤ 4) (L : LG w S G) (ok : okL w S) (hv : v ≤ w) (hlt : (sD S v).length < nC v) : G.length < 12 := by
  have h := flt_len G L.1 hw
  have h0 := L.le (v := 0) ok
  have h1 := L.le (v := 1) ok
  have h2 := L.le (v := 2) ok
  have h3 := L.le (v := 3) ok
  have h4 := L.le (v := 4) ok
  rw [L.2 v hv] at hlt
  have n0 : nC 0 = 4 := rfl
  have n1 : nC 1 = 2 := rfl
  have n2 : nC 2 = 2 := rfl
  have n3 : nC 3 = 2 := rfl
  have n4 : nC 4 = 2 := rfl
  have : v = 0 ∨ v = 1 ∨ v = 2 ∨ v = 3 ∨ v = 4 := by omega
  rcases this with rfl | rfl | rfl | rfl | rfl <;> omega
theorem LG.fx {w v : Nat} {S : sS} {G : List (Nat × (Nat → Int32))} {P : (Nat → Int32) → Bool} (L : LG w S G) (hv : v ≤ w) : sFx P (sD S v) 0 = (sFx (fun p => decide (p.1 = v) && P p.2) G 0).map (fun d => rk v G d) := by
  rw [L.2 v hv]; exact flt_fx G
theorem sIx_lt0 {α : Type} {P : α → Bool} {L : List α} (hl : L.length < 2 ^ 31) : (sIx P L 0 < 0) = (sFx P L 0 = none) := by
  unfold sIx
  cases hf : sFx P L 0 with
  | none => simp
  | some k =>
    obtain ⟨x, hx, -⟩ := sFx_some hf
    have hk := lt_at hx
    refine propext ⟨fun e => absurd e (nI_pos (by omega)), fun e => by cases e⟩
theorem LG.some {w v d : Nat} {S : sS} {G : List (Nat × (Nat → Int32))} {P : (Nat → Int32) → Bool} (L : LG w S G) (hv : v ≤ w) (h : sFx (fun p => decide (p.1 = v) && P p.2) G 0 = some d) : ∃ g, G[d]? = some (v, g) ∧ P g = true ∧ sFx P (sD S v) 0 = some (rk v G d) ∧ (sD S v)[rk v G d]? = some g := by
  obtain ⟨⟨u, g⟩, hx, hp0, -⟩ := sFx_some h
  have hp : (decide (u = v) && P g) = true := hp0
  rw [Bool.and_eq_true, decide_eq_true_eq] at hp
  obtain ⟨rfl, hp1⟩ := hp
  refine ⟨g, hx, hp1, by rw [L.fx hv, h]; rfl, ?_⟩
  rw [L.2 u hv]; exact flt_at hx
theorem LG.none {w v : Nat} {S : sS} {G : List (Nat × (Nat → Int32))} {P : (Nat → Int32) → Bool} (L : LG w S G) (hv : v ≤ w) (h : sFx (fun p => decide (p.1 = v) && P p.2) G 0 = none) : sFx P (sD S v) 0 = none := by rw [L.fx hv, h]; rfl
theorem MH.gl {h : zH} {m w : Nat} {S : sS} {G : List (Nat × (Nat → Int32))} (X : MH h m w S G) : G.length < 2 ^ 31 := by have := X.gg.1; omega
theorem c89 {d : Nat} {h : zH} {m w : Nat} {S : sS} {v s : Int32} (hw : w ≤ 4) (X : MM h m w S) (ok : okT (sT S)) (ol : okL w S) : zD (d + 3) 89 [.inr m, .inl v, .inl s] h (fun r h' => r = some (.inl (oAppear w S v s).1) ∧ MM h' m w (oAppear w S v s).2 ∧ zJ (yA m) h h') := by
  obtain ⟨G, X, L⟩ := X
  have hgl := X.gl
  refine zD_of rfl (r89_0 ⟨X.1.1, _, c76 hw X, ?_⟩)
  rintro r _ ⟨rfl, rfl⟩
  refine r89_5 ⟨fun q => ?_, fun q => ⟨_, c75 (n := 3) (by decide), ?_⟩⟩
  · unfold oAppear; rw [is0 q]; exact ⟨rfl, ⟨G, X, L⟩, zJ.rf⟩
  obtain ⟨a, ha⟩ := is1 q
  obtain ⟨a1', a2', rfl⟩ := iv_some ha
  rintro r _ ⟨rfl, rfl⟩
  unfold oAppear; rw [ha]
  refine r89_14 ⟨fun q => ?_, fun q => ?_⟩
  rotate_left
  · rw [io0 q]; exact ⟨rfl, ⟨G, X, L⟩, zJ.rf⟩
  obtain ⟨b, hb⟩ := io1 q
  obtain ⟨hb4, rfl⟩ := ix_some hb
  rw [show ix 4 (nI b) = some b from hb]
  refine ⟨X.1.1, _, c81 hw (by omega) L.1 X, ?_⟩
  rintro r _ ⟨rfl, rfl⟩
  have hle := L.le (v := a) ol
  rw [nC_pos a1'] at hle
  have e2 : (nI (flt a G).length = 2) ↔ (sD S a).length = 2 := by rw [L.2 a a2']; exact nI_eq (b := 2) (by omega) (by decide)
  refine r89_25 ⟨fun q => ?_, fun q => ⟨X.1.1, _, c83 hw (by omega) L.1 X, ?_⟩⟩
  · show some (Sum.inl (-8)) = some (Sum.inl (if _ then _ else _ : Int32 × sS).1) ∧ MM _ m w (if _ then _ else _ : Int32 × sS).2 ∧ _
    rw [if_pos (Or.inl (e2.mp q))]; exact ⟨rfl, ⟨G, X, L⟩, zJ.rf⟩
  rintro r _ ⟨rfl, rfl⟩
  rw [show (0 : Int32) + 1 = 1 from rfl]
  cases hx : sFx (pAb a 1 0 (nI b)) G 0 with
  | some k =>
    obtain ⟨g, -, -, hy, -⟩ := L.some (P := pFind 1 0 (nI b)) a2' hx
    refine r89_37 ⟨fun q => ?_, fun q => ?_⟩
    · rw [sIx_lt0 hgl, hx] at q; cases q
    · show some (Sum.inl (-8)) = some (Sum.inl (if _ then _ else _ : Int32 × sS).1) ∧ MM _ m w (if _ then _ else _ : Int32 × sS).2 ∧ _
      rw [if_pos (Or.inr (by rw [hy]; rfl))]; exact ⟨rfl, ⟨G, X, L⟩, zJ.rf⟩
  | none =>
    have hy := L.none (P := pFind 1 0 (nI b)) a2' hx
    have hc : ¬ ((sD S a).length = 2 ∨ (sFx (pFind 1 0 (nI b)) (sD S a) 0).isSome = true) := by rw [hy]; rintro (z | z); exact q (e2.mpr z); cases z
    refine r89_37 ⟨fun _ => ⟨X.1.1, _, c80 hb4 X ok, ?_⟩, fun q => absurd (by rw [sIx_lt0 hgl, hx]) q⟩
    rintro r _ ⟨rfl, rfl⟩
    refine r89_48 ⟨fun q2 => ⟨X.1.1, _, c84 hw a2' (L.lt hw ol a2' (by rw [nC_pos a1']; have := (show ¬ (sD S a).length = 2 from fun z => hc (Or.inl z)); rw [← L.2 a a2'] at hle; omega)) X, ?_⟩, fun q2 => ?_⟩
    · rintro r h1 ⟨rfl, X1, s1⟩
      have j0 := nI_clamp (show 4 * a + b < 2 ^ 31 by omega)
      have v1 : vp_in (nI (4 * a + b)) 20 := vp_in_nI (by omega) (by omega)
      refine r89_64 ?_
      obtain ⟨k0, ⟨r1, r2, r3, r4, r5, r6, r7, r8, r9, r10, r11, r12, r13, r14, r15, r16, r17, r18, r19, r20, r21, r22, r23⟩, ⟨k1, k2, k3, k4, k5, k6, k7, k8, k9, k10, k11, k12, k13, k14, k15, k16, k17, k18, k19, k20, k21, k22, k23⟩, ⟨l1, l2, l3, l4, l5, l6, l7, l8, l9, l10, l11, l12, l13, l14, l15, l16, l17, l18, l19, l20, l21, l22, l23⟩⟩ := X1.1
      simp only [k0, r1, r2, r3, r4, r5, r6, r7, r8, r9, r10, r11, r12, r13, r14, r15, r16, r17, r18, r19, r20, r21, r22, r23, k1, k2, k3, k4, k5, k6, k7, k8, k9, k10, k11, k12, k13, k14, k15, k16, k17, k18, k19, k20, k21, k22, k23, l1, l2, l3, l4, l5, l6, l7, l8, l9, l10, l11, l12, l13, l14, l15, l16, l17, l18, l19, l20, l21, l22, l23, true_and, true_or, or_true, zK_wI, zL_wI, zR_wI, forall_eq, e4x, j0, v1]
      clear k0 r1 r2 r3 r4 r5 r6 r7 r8 r9 r10 r11 r12 r13 r14 r15 r16 r17 r18 r19 r20 r21 r22 r23 k1 k2 k3 k4 k5 k6 k7 k8 k9 k10 k11 k12 k13 k14 k15 k16 k17 k18 k19 k20 k21 k22 k23 l1 l2 l3 l4 l5 l6 l7 l8 l9 l10 l11 l12 l13 l14 l15 l16 l17 l18 l19 l20 l21 l22 l23
      refine ⟨_, c87 X1.wst, ?_⟩
      rintro r h2 ⟨rfl, X2, s2⟩
      refine r89_88 ?_
      show some (Sum.inl (sL S a + 1)) = some (Sum.inl (if _ then _ else if _ then _ else _ : Int32 × sS).1) ∧ MM _ m w (if _ then _ else if _ then _ else _ : Int32 × sS).2 ∧ _
      rw [if_neg hc, if_neg q2]
      exact ⟨rfl, ⟨_, X2, L.beg a2'⟩, s1.tr ((zJ.wI (by unfold yA; omega)).tr s2)⟩
    · show some (Sum.inl (-7)) = some (Sum.inl (if _ then _ else if _ then _ else _ : Int32 × sS).1) ∧ MM _ m w (if _ then _ else if _ then _ else _ : Int32 × sS).2 ∧ _
      rw [if_neg hc, if_pos q2]; exact ⟨rfl, ⟨G, X, L⟩, zJ.rf⟩
theorem mQ_push {h : zH} {m n : Nat} {Q : List (Int32 × Int32)} {x y : Int32} (X : mQ h m Q) (hn : Q.length = n) (hlt : n < 520) : mQ (zwI (zwI (zwI h (m + 20) n x) (m + 21) n y) m 24 (nI n + 1)) m (Q ++ [(x, y)]) := by
  obtain ⟨y1, y2, y3⟩ := X
  refine ⟨?_, ?_, fun j q hq => ?_⟩
  · rw [List.length_append, hn]; exact hlt
  · rw [zI_at, nI_1, List.length_append, hn]; rfl
  · by_cases hj : j < n
    · rw [List.getElem?_append_left (by omega)] at hq
      rw [zI_oa (by omega), zI_ok (by omega), zI_ok (by omega), zI_oa (by omega), zI_ok (by omega), zI_ok (by omega)]
      exact y3 j q hq
    · have hl := lt_at hq
      rw [List.length_append, hn] at hl
      have hl : j < n + 1 := hl
      have ej : j = n := by omega
      subst ej
      rw [List.getElem?_append_right (by omega), hn, Nat.sub_self] at hq
      cases hq
      rw [zI_oa (by omega), zI_oa (by omega), zI_at, zI_oa (by omega), zI_at]
      exact ⟨rfl, rfl⟩
theorem c90 {d : Nat} {h : zH} {m w : Nat} {S : sS} {s : Int32} (hw : w ≤ 4) (X : MM h m w S) (ol : okL w S) (hq : (sQ S).length < 520) : zD (d + 2) 90 [.inr m, .inl s] h (fun r h' => r = some (.inl (oAsk S s).1) ∧ MM h' m w (oAsk S s).2 ∧ zJ (yA m) h h') := by
  obtain ⟨G, X, L⟩ := X
  refine zD_of rfl (r90_0 ⟨_, c75 (n := 3) (by decide), ?_⟩)
  rintro r _ ⟨rfl, rfl⟩
  unfold oAsk
  refine r90_6 ⟨fun q => ?_, fun q => ?_⟩
  rotate_left
  · rw [io0 q]; exact ⟨rfl, ⟨G, X, L⟩, zJ.rf⟩
  obtain ⟨b, hb⟩ := io1 q
  obtain ⟨hb4, rfl⟩ := ix_some hb
  rw [show ix 4 (nI b) = some b from hb]
  have j0 := nI_clamp (show b < 2 ^ 31 by omega)
  have v1 : vp_in (nI b) 4 := vp_in_nI (by omega) (by omega)
  have lo := X.lo hb4
  obtain ⟨k0, ⟨r1, r2, r3, r4, r5, r6, r7, r8, r9, r10, r11, r12, r13, r14, r15, r16, r17, r18, r19, r20, r21, r22, r23⟩, ⟨k1, k2, k3, k4, k5, k6, k7, k8, k9, k10, k11, k12, k13, k14, k15, k16, k17, k18, k19, k20, k21, k22, k23⟩, ⟨l1, l2, l3, l4, l5, l6, l7, l8, l9, l10, l11, l12, l13, l14, l15, l16, l17, l18, l19, l20, l21, l22, l23⟩⟩ := X.1
  simp only [k0, r1, r2, r3, r4, r5, r6, r7, r8, r9, r10, r11, r12, r13, r14, r15, r16, r17, r18, r19, r20, r21, r22, r23, k1, k2, k3, k4, k5, k6, k7, k8, k9, k10, k11, k12, k13, k14, k15, k16, k17, k18, k19, k20, k21, k22, k23, l1, l2, l3, l4, l5, l6, l7, l8, l9, l10, l11, l12, l13, l14, l15, l16, l17, l18, l19, l20, l21, l22, l23, true_and, true_or, or_true, j0, v1, lo]
  clear k0 r1 r2 r3 r4 r5 r6 r7 r8 r9 r10 r11 r12 r13 r14 r15 r16 r17 r18 r19 r20 r21 r22 r23 k1 k2 k3 k4 k5 k6 k7 k8 k9 k10 k11 k12 k13 k14 k15 k16 k17 k18 k19 k20 k21 k22 k23 l1 l2 l3 l4 l5 l6 l7 l8 l9 l10 l11 l12 l13 l14 l15 l16 l17 l18 l19 l20 l21 l22 l23
  refine ⟨fun q2 => ⟨_, c81 (v := 0) hw (by omega) L.1 X, ?_⟩, fun q2 => ?_⟩
  rotate_left
  · rw [if_pos q2]; exact ⟨rfl, ⟨G, X, L⟩, zJ.rf⟩
  rw [if_neg q2]
  rintro r _ ⟨rfl, rfl⟩
  have hle := L.le (v := 0) ol
  rw [show nC 0 = 4 from rfl] at hle
  have e4 : (nI (flt 0 G).length = 4) ↔ (sD S 0).length = 4 := by rw [L.2 0 (by omega)]; exact nI_eq (b := 4) (by omega) (by decide)
  refine r90_29 ⟨fun q3 => ?_, fun q3 => ?_⟩
  rotate_left
  · rw [if_pos (e4.mp q3)]; exact ⟨rfl, ⟨G, X, L⟩, zJ.rf⟩
  have h4 : ¬ (sD S 0).length = 4 := fun z => q3 (e4.mpr z)
  rw [if_neg h4]
  obtain ⟨k0, ⟨r1, r2, r3, r4, r5, r6, r7, r8, r9, r10, r11, r12, r13, r14, r15, r16, r17, r18, r19, r20, r21, r22, r23⟩, ⟨k1, k2, k3, k4, k5, k6, k7, k8, k9, k10, k11, k12, k13, k14, k15, k16, k17, k18, k19, k20, k21, k22, k23⟩, ⟨l1, l2, l3, l4, l5, l6, l7, l8, l9, l10, l11, l12, l13, l14, l15, l16, l17, l18, l19, l20, l21, l22, l23⟩⟩ := X.1
  simp only [k0, r1, r2, r3, r4, r5, r6, r7, r8, r9, r10, r11, r12, r13, r14, r15, r16, r17, r18, r19, r20, r21, r22, r23, k1, k2, k3, k4, k5, k6, k7, k8, k9, k10, k11, k12, k13, k14, k15, k16, k17, k18, k19, k20, k21, k22, k23, l1, l2, l3, l4, l5, l6, l7, l8, l9, l10, l11, l12, l13, l14, l15, l16, l17, l18, l19, l20, l21, l22, l23, true_and, true_or, or_true, j0, v1, lo]
  clear k0 r1 r2 r3 r4 r5 r6 r7 r8 r9 r10 r11 r12 r13 r14 r15 r16 r17 r18 r19 r20 r21 r22 r23 k1 k2 k3 k4 k5 k6 k7 k8 k9 k10 k11 k12 k13 k14 k15 k16 k17 k18 k19 k20 k21 k22 k23 l1 l2 l3 l4 l5 l6 l7 l8 l9 l10 l11 l12 l13 l14 l15 l16 l17 l18 l19 l20 l21 l22 l23
  refine ⟨_, c84 (v := 0) hw (by omega) (L.lt hw ol (Nat.zero_le _) (by rw [show nC 0 = 4 from rfl]; rw [← L.2 0 (by omega)] at hle; omega)) X, ?_⟩
  rintro r h1 ⟨rfl, X1, s1⟩
  obtain ⟨n, hn⟩ : ∃ n, (sQ S).length = n := ⟨_, rfl⟩
  rw [hn] at hq
  have hq1 : mQ h1 m (sQ S) := X1.q
  have q24 := hq1.2.1
  rw [hn] at q24
  have j1 := nI_clamp (show n < 2 ^ 31 by omega)
  have v2 : vp_in (nI n) 520 := vp_in_nI (by omega) (by omega)
  have lo1 : zI h1 (m + 2) b = sLo S b := X1.lo hb4
  have x20_0 : ∀ (h : zH) (k i : Nat) (v : Int32), zI (zwI h (m + 20) k v) m i = zI h m i := fun _ _ _ _ => zI_oa (by omega)
  have x20_2 : ∀ (h : zH) (k i : Nat) (v : Int32), zI (zwI h (m + 20) k v) (m + 2) i = zI h (m + 2) i := fun _ _ _ _ => zI_oa (by omega)
  have x21_0 : ∀ (h : zH) (k i : Nat) (v : Int32), zI (zwI h (m + 21) k v) m i = zI h m i := fun _ _ _ _ => zI_oa (by omega)
  have x21_2 : ∀ (h : zH) (k i : Nat) (v : Int32), zI (zwI h (m + 21) k v) (m + 2) i = zI h (m + 2) i := fun _ _ _ _ => zI_oa (by omega)
  have x0_2 : ∀ (h : zH) (k i : Nat) (v : Int32), zI (zwI h m k v) (m + 2) i = zI h (m + 2) i := fun _ _ _ _ => zI_oa (by omega)
  have x20_21 : ∀ (h : zH) (k i : Nat) (v : Int32), zI (zwI h (m + 20) k v) (m + 21) i = zI h (m + 21) i := fun _ _ _ _ => zI_oa (by omega)
  refine r90_51 ?_
  have sq : zJ (fun q => q = m ∨ q = m + 20 ∨ q = m + 21) h1 (zwI (zwI (zwI h1 (m + 20) n (sL S 0 + 1)) (m + 21) n (-6)) m 24 (nI n + 1)) := ((zJ.wI (Or.inr (Or.inl rfl))).tr (zJ.wI (Or.inr (Or.inr rfl)))).tr (zJ.wI (Or.inl rfl))
  have X2 := X1.Q (Q := sQ S ++ [(sL S 0 + 1, -6)]) sq (fun k hk => by rw [zI_ok hk, zI_oa (by omega), zI_oa (by omega)]) (mQ_push hq1 hn hq)
  obtain ⟨k0, ⟨r1, r2, r3, r4, r5, r6, r7, r8, r9, r10, r11, r12, r13, r14, r15, r16, r17, r18, r19, r20, r21, r22, r23⟩, ⟨k1, k2, k3, k4, k5, k6, k7, k8, k9, k10, k11, k12, k13, k14, k15, k16, k17, k18, k19, k20, k21, k22, k23⟩, ⟨l1, l2, l3, l4, l5, l6, l7, l8, l9, l10, l11, l12, l13, l14, l15, l16, l17, l18, l19, l20, l21, l22, l23⟩⟩ := X1.1
  simp only [k0, r1, r2, r3, r4, r5, r6, r7, r8, r9, r10, r11, r12, r13, r14, r15, r16, r17, r18, r19, r20, r21, r22, r23, k1, k2, k3, k4, k5, k6, k7, k8, k9, k10, k11, k12, k13, k14, k15, k16, k17, k18, k19, k20, k21, k22, k23, l1, l2, l3, l4, l5, l6, l7, l8, l9, l10, l11, l12, l13, l14, l15, l16, l17, l18, l19, l20, l21, l22, l23, true_and, true_or, or_true, zK_wI, zL_wI, zR_wI, forall_eq, x20_0, x20_2, x21_0, x21_2, x0_2, x20_21, q24, j1, v2, j0, v1, lo1]
  clear k0 r1 r2 r3 r4 r5 r6 r7 r8 r9 r10 r11 r12 r13 r14 r15 r16 r17 r18 r19 r20 r21 r22 r23 k1 k2 k3 k4 k5 k6 k7 k8 k9 k10 k11 k12 k13 k14 k15 k16 k17 k18 k19 k20 k21 k22 k23 l1 l2 l3 l4 l5 l6 l7 l8 l9 l10 l11 l12 l13 l14 l15 l16 l17 l18 l19 l20 l21 l22 l23
  refine ⟨_, c87 X2, ?_⟩
  rintro r h2 ⟨rfl, X3, s3⟩
  exact r90_100 ⟨rfl, ⟨_, X3, L.beg (Nat.zero_le _)⟩, s1.tr ((sq.wd (fun q hq => by unfold yA; omega)).tr s3)⟩
