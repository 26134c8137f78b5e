/-! ===== the reference's public questions ===== -/
/-- the heap holds the state at m -/
def MM (h : zH) (m w : Nat) (S : sS) : Prop := ∃ G, MH h m w S G ∧ LG w S G
theorem io1 {α : Type} {o : Option α} (h : (if o.isSome then (0 : Int32) else 1) = 0) : ∃ x, o = some x := by
  cases o with
  | none => exact absurd (show (1 : Int32) = 0 from h) (by decide)
  | some x => exact ⟨x, rfl⟩
theorem io0 {α : Type} {o : Option α} (h : ¬ (if o.isSome then (0 : Int32) else 1) = 0) : o = none := by
  cases o with
  | none => rfl
  | some x => exact absurd rfl h
theorem lx_neg {α : Type} {L : List α} {i : Int32} (h : i < 0) : lx L i = none := by unfold lx; rw [ix_neg h]
theorem lx_lt {α : Type} {L : List α} {i : Int32} (hl : L.length < 2 ^ 31) (h : ¬ i < 0) (h2 : i < nI L.length) : ∃ k x, lx L i = some (k, x) ∧ i = nI k ∧ L[k]? = some x := by
  obtain ⟨k, hk, rfl⟩ := nI_of h
  rw [nI_ltI hk hl] at h2
  obtain ⟨x, hx⟩ := at_lt h2
  exact ⟨k, x, lx_nI (by omega) hx, rfl, hx⟩
theorem lx_ge {α : Type} {L : List α} {i : Int32} (hl : L.length < 2 ^ 31) (h : ¬ i < 0) (h2 : ¬ i < nI L.length) : lx L i = none := by
  obtain ⟨k, hk, rfl⟩ := nI_of h
  rw [nI_ltI hk hl] at h2
  unfold lx; rw [ix_ge (by omega) hk]
theorem i32_nle {a b : Int32} : ¬ a ≤ b ↔ b < a := Int32.not_le
theorem i32_nlt {a b : Int32} : ¬ a < b ↔ b ≤ a := Int32.not_lt
theorem c102 {d : Nat} {h : zH} {m w : Nat} {S : sS} {i : Int32} (X : MM h m w S) : zD (d + 2) 102 [.inr m, .inl i] h (fun r h' => r = some (.inl (oLose S i).1) ∧ MM h' m w (oLose S i).2 ∧ zJ (yA m) h h') := by
  obtain ⟨G, X, L⟩ := X
  obtain ⟨y1, y2, y3⟩ := X.f
  refine zD_of rfl (r102_0 ⟨fun q => ?_, fun q => ⟨X.1.1, ?_⟩⟩)
  · unfold oLose; rw [lx_neg q]; exact ⟨Or.inl rfl, rfl, ⟨G, X, L⟩, zJ.rf⟩
  rw [y2]
  refine ⟨fun q2 => ?_, fun q2 => ?_⟩
  · obtain ⟨k, f, hx, rfl, hf⟩ := lx_lt (by omega) q q2
    unfold oLose; rw [hx]
    refine ⟨X.1.1, _, c88 X (lt_at hf), ?_⟩
    rintro r h1 ⟨rfl, X1, s1, -⟩
    exact r102_19 ⟨Or.inr rfl, rfl, ⟨G, X1, L⟩, s1⟩
  · unfold oLose; rw [lx_ge (by omega) q q2]; exact ⟨Or.inl rfl, rfl, ⟨G, X, L⟩, zJ.rf⟩
theorem c104 {d : Nat} {h : zH} {m w : Nat} {S : sS} (X : MM h m w S) : zD (d + 1) 104 [.inr m] h (fun r h' => r = some (.inl (nI (sF S).length)) ∧ MM h' m w S ∧ zJ (yA m) h h') := by
  obtain ⟨G, X, L⟩ := X
  exact zD_of rfl (r104_0 ⟨X.1.1, by rw [X.f.2.1], ⟨G, X, L⟩, zJ.rf⟩)
theorem sPart_out {f : Nat → Int32} {j : Int32} (h : ix 8 j = none) : sPart f j = -9 := by
  unfold sPart
  rw [if_neg (show ¬ j = 0 from ix_none (by decide) h (n := 0) (by decide)), if_neg (show ¬ j = 1 from ix_none (by decide) h (n := 1) (by decide)), if_neg (show ¬ j = 2 from ix_none (by decide) h (n := 2) (by decide)), if_neg (show ¬ j = 3 from ix_none (by decide) h (n := 3) (by decide)), if_neg (show ¬ j = 4 from ix_none (by decide) h (n := 4) (by decide)), if_neg (show ¬ j = 5 from ix_none (by decide) h (n := 5) (by decide)), if_neg (show ¬ j = 6 from ix_none (by decide) h (n := 6) (by decide)), if_neg (show ¬ j = 7 from ix_none (by decide) h (n := 7) (by decide))]
theorem e8x (a b : Nat) : (8 : Int32) * nI a + nI b = nI (8 * a + b) := by rw [show (8 : Int32) = nI 8 from rfl, pk_mul, nI_add]
theorem e2x (a b : Nat) : (2 : Int32) * nI a + nI b = nI (2 * a + b) := by rw [show (2 : Int32) = nI 2 from rfl, pk_mul, nI_add]
theorem c105 {d : Nat} {h : zH} {m w : Nat} {S : sS} {i j : Int32} (X : MM h m w S) : zD (d + 2) 105 [.inr m, .inl i, .inl j] h (fun r h' => r = some (.inl (oDgram S i j)) ∧ MM h' m w S ∧ zJ (yA m) h h') := by
  obtain ⟨G, X, L⟩ := X
  obtain ⟨y1, y2, y3⟩ := X.f
  refine zD_of rfl (r105_0 ⟨fun q => ?_, fun q => ⟨X.1.1, ?_⟩⟩)
  · unfold oDgram; rw [lx_neg q]; exact ⟨rfl, ⟨G, X, L⟩, zJ.rf⟩
  rw [y2]
  refine ⟨fun q2 => ?_, fun q2 => ⟨_, c75 (n := 7) (by decide), ?_⟩⟩
  · unfold oDgram; rw [lx_ge (by omega) q (by rw [i32_nlt]; exact q2)]; exact ⟨rfl, ⟨G, X, L⟩, zJ.rf⟩
  obtain ⟨k, f, hx, rfl, hf⟩ := lx_lt (by omega) q (i32_nle.mp q2)
  have hk := lt_at hf
  unfold oDgram; rw [hx]
  rintro r _ ⟨rfl, rfl⟩
  refine r105_19 ⟨fun q3 => ?_, fun q3 => ?_⟩
  rotate_left
  · show some (Sum.inl (-9)) = some (Sum.inl (sPart f j)) ∧ _
    rw [sPart_out (io0 q3)]; exact ⟨rfl, ⟨G, X, L⟩, zJ.rf⟩
  obtain ⟨u, hu⟩ := io1 q3
  obtain ⟨hu8, rfl⟩ := ix_some hu
  have j0 := nI_clamp (show 8 * k + u < 2 ^ 31 by omega)
  have v1 : vp_in (nI (8 * k + u)) 192 := vp_in_nI (by omega) (by omega)
  obtain ⟨k0, ⟨r1, r2, r3, r4, r5, r6, r7, r8, r9, r10, r11, r12, r13, r14, r15, r16, r17, r18, r19, r20, r21, r22, r23⟩, ⟨k1, k2, k3, k4, k5, k6, k7, k8, k9, k10, k11, k12, k13, k14, k15, k16, k17, k18, k19, k20, k21, k22, k23⟩, ⟨l1, l2, l3, l4, l5, l6, l7, l8, l9, l10, l11, l12, l13, l14, l15, l16, l17, l18, l19, l20, l21, l22, l23⟩⟩ := X.1
  simp only [k0, r1, r2, r3, r4, r5, r6, r7, r8, r9, r10, r11, r12, r13, r14, r15, r16, r17, r18, r19, r20, r21, r22, r23, k1, k2, k3, k4, k5, k6, k7, k8, k9, k10, k11, k12, k13, k14, k15, k16, k17, k18, k19, k20, k21, k22, k23, l1, l2, l3, l4, l5, l6, l7, l8, l9, l10, l11, l12, l13, l14, l15, l16, l17, l18, l19, l20, l21, l22, l23, true_and, true_or, or_true, e8x, j0, v1, y3 k f hf u hu8]
  exact ⟨⟨G, X, L⟩, zJ.rf⟩
theorem c108 {d : Nat} {h : zH} {m w : Nat} {S : sS} {v s : Int32} (hw : w ≤ 4) (X : MM h m w S) : zD (d + 3) 108 [.inr m, .inl v, .inl s] h (fun r h' => r = some (.inl (oHolds w S v s)) ∧ MM h' m w S ∧ zJ (yA m) h h') := by
  obtain ⟨G, X, L⟩ := X
  refine zD_of rfl (r108_0 ⟨X.1.1, _, c76 hw X, ?_⟩)
  rintro r _ ⟨rfl, rfl⟩
  refine r108_5 ⟨fun q => ?_, fun q => ⟨_, c75 (n := 3) (by decide), ?_⟩⟩
  · unfold oHolds; rw [is0 q]; exact ⟨Or.inl rfl, rfl, ⟨G, X, L⟩, zJ.rf⟩
  obtain ⟨a, ha⟩ := is1 q
  obtain ⟨a1', a2', rfl⟩ := iv_some ha
  rintro r _ ⟨rfl, rfl⟩
  refine r108_14 ⟨fun q => ?_, fun q => ?_⟩
  · unfold oHolds; rw [ha, io0 q]; exact ⟨Or.inl rfl, rfl, ⟨G, X, L⟩, zJ.rf⟩
  obtain ⟨b, hb⟩ := io1 q
  obtain ⟨hb4, rfl⟩ := ix_some hb
  have j0 := nI_clamp (show 4 * a + b < 2 ^ 31 by omega)
  have v1 : vp_in (nI (4 * a + b)) 20 := vp_in_nI (by omega) (by omega)
  have he := X.he (show 4 * a + b < 4 * (w + 1) by omega)
  unfold oHolds; rw [ha, hb]
  obtain ⟨k0, ⟨r1, r2, r3, r4, r5, r6, r7, r8, r9, r10, r11, r12, r13, r14, r15, r16, r17, r18, r19, r20, r21, r22, r23⟩, ⟨k1, k2, k3, k4, k5, k6, k7, k8, k9, k10, k11, k12, k13, k14, k15, k16, k17, k18, k19, k20, k21, k22, k23⟩, ⟨l1, l2, l3, l4, l5, l6, l7, l8, l9, l10, l11, l12, l13, l14, l15, l16, l17, l18, l19, l20, l21, l22, l23⟩⟩ := X.1
  simp only [k0, r1, r2, r3, r4, r5, r6, r7, r8, r9, r10, r11, r12, r13, r14, r15, r16, r17, r18, r19, r20, r21, r22, r23, k1, k2, k3, k4, k5, k6, k7, k8, k9, k10, k11, k12, k13, k14, k15, k16, k17, k18, k19, k20, k21, k22, k23, l1, l2, l3, l4, l5, l6, l7, l8, l9, l10, l11, l12, l13, l14, l15, l16, l17, l18, l19, l20, l21, l22, l23, true_and, true_or, or_true, e4x, j0, v1, he]
  exact ⟨fun q => ⟨by rw [if_pos q], ⟨G, X, L⟩, zJ.rf⟩, fun q => ⟨by rw [if_neg q], ⟨G, X, L⟩, zJ.rf⟩⟩
theorem c109 {d : Nat} {h : zH} {m w : Nat} {S : sS} {s : Int32} (X : MM h m w S) : zD (d + 2) 109 [.inr m, .inl s] h (fun r h' => r = some (.inl (oLoc S s)) ∧ MM h' m w S ∧ zJ (yA m) h h') := by
  obtain ⟨G, X, L⟩ := X
  refine zD_of rfl (r109_0 ⟨_, c75 (n := 3) (by decide), ?_⟩)
  rintro r _ ⟨rfl, rfl⟩
  refine r109_6 ⟨fun q => ?_, fun q => ?_⟩
  rotate_left
  · unfold oLoc; rw [io0 q]; exact ⟨rfl, ⟨G, X, L⟩, zJ.rf⟩
  obtain ⟨b, hb⟩ := io1 q
  obtain ⟨hb4, rfl⟩ := ix_some hb
  have j0 := nI_clamp (show b < 2 ^ 31 by omega)
  have v1 : vp_in (nI b) 4 := vp_in_nI (by omega) (by omega)
  unfold oLoc; rw [hb]
  have lo := X.lo hb4
  obtain ⟨k0, ⟨r1, r2, r3, r4, r5, r6, r7, r8, r9, r10, r11, r12, r13, r14, r15, r16, r17, r18, r19, r20, r21, r22, r23⟩, ⟨k1, k2, k3, k4, k5, k6, k7, k8, k9, k10, k11, k12, k13, k14, k15, k16, k17, k18, k19, k20, k21, k22, k23⟩, ⟨l1, l2, l3, l4, l5, l6, l7, l8, l9, l10, l11, l12, l13, l14, l15, l16, l17, l18, l19, l20, l21, l22, l23⟩⟩ := X.1
  simp only [k0, r1, r2, r3, r4, r5, r6, r7, r8, r9, r10, r11, r12, r13, r14, r15, r16, r17, r18, r19, r20, r21, r22, r23, k1, k2, k3, k4, k5, k6, k7, k8, k9, k10, k11, k12, k13, k14, k15, k16, k17, k18, k19, k20, k21, k22, k23, l1, l2, l3, l4, l5, l6, l7, l8, l9, l10, l11, l12, l13, l14, l15, l16, l17, l18, l19, l20, l21, l22, l23, true_and, true_or, or_true, j0, v1, lo]
  exact ⟨⟨G, X, L⟩, zJ.rf⟩
theorem c110 {d : Nat} {h : zH} {m w : Nat} {S : sS} {v s : Int32} (hw : w ≤ 4) (X : MM h m w S) : zD (d + 3) 110 [.inr m, .inl v, .inl s] h (fun r h' => r = some (.inl (oReg w S v s)) ∧ MM h' m w S ∧ zJ (yA m) h h') := by
  obtain ⟨G, X, L⟩ := X
  refine zD_of rfl (r110_0 ⟨X.1.1, _, c76 hw X, ?_⟩)
  rintro r _ ⟨rfl, rfl⟩
  refine r110_5 ⟨fun q => ?_, fun q => ⟨_, c75 (n := 3) (by decide), ?_⟩⟩
  · unfold oReg; rw [is0 q]; exact ⟨rfl, ⟨G, X, L⟩, zJ.rf⟩
  obtain ⟨a, ha⟩ := is1 q
  obtain ⟨a1', a2', rfl⟩ := iv_some ha
  rintro r _ ⟨rfl, rfl⟩
  refine r110_14 ⟨fun q => ?_, fun q => ?_⟩
  rotate_left
  · unfold oReg; rw [ha, io0 q]; exact ⟨rfl, ⟨G, X, L⟩, zJ.rf⟩
  obtain ⟨b, hb⟩ := io1 q
  obtain ⟨hb4, rfl⟩ := ix_some hb
  have j0 := nI_clamp (show 4 * a + b < 2 ^ 31 by omega)
  have v1 : vp_in (nI (4 * a + b)) 20 := vp_in_nI (by omega) (by omega)
  have st := X.st (show 4 * a + b < 4 * (w + 1) by omega)
  unfold oReg; rw [ha, hb]
  obtain ⟨k0, ⟨r1, r2, r3, r4, r5, r6, r7, r8, r9, r10, r11, r12, r13, r14, r15, r16, r17, r18, r19, r20, r21, r22, r23⟩, ⟨k1, k2, k3, k4, k5, k6, k7, k8, k9, k10, k11, k12, k13, k14, k15, k16, k17, k18, k19, k20, k21, k22, k23⟩, ⟨l1, l2, l3, l4, l5, l6, l7, l8, l9, l10, l11, l12, l13, l14, l15, l16, l17, l18, l19, l20, l21, l22, l23⟩⟩ := X.1
  simp only [k0, r1, r2, r3, r4, r5, r6, r7, r8, r9, r10, r11, r12, r13, r14, r15, r16, r17, r18, r19, r20, r21, r22, r23, k1, k2, k3, k4, k5, k6, k7, k8, k9, k10, k11, k12, k13, k14, k15, k16, k17, k18, k19, k20, k21, k22, k23, l1, l2, l3, l4, l5, l6, l7, l8, l9, l10, l11, l12, l13, l14, l15, l16, l17, l18, l19, l20, l21, l22, l23, true_and, true_or, or_true, e4x, j0, v1, st]
  exact ⟨⟨G, X, L⟩, zJ.rf⟩
theorem c111 {d : Nat} {h : zH} {m w : Nat} {S : sS} {v : Int32} (hw : w ≤ 4) (X : MM h m w S) : zD (d + 2) 111 [.inr m, .inl v] h (fun r h' => r = some (.inl (oDlgs w S v)) ∧ MM h' m w S ∧ zJ (yA m) h h') := by
  obtain ⟨G, X, L⟩ := X
  refine zD_of rfl (r111_0 ?_)
  rw [X.2.1]
  refine ⟨X.1.1, _, c75 (n := w) (by omega), ?_⟩
  rintro r _ ⟨rfl, rfl⟩
  refine r111_9 ⟨fun q => ?_, fun q => r111_22 ?_⟩
  rotate_left
  · unfold oDlgs; rw [io0 q]; exact ⟨rfl, ⟨G, X, L⟩, zJ.rf⟩
  obtain ⟨b, hb⟩ := io1 q
  obtain ⟨hb4, rfl⟩ := ix_some hb
  refine ⟨X.1.1, _, c81 hw (by omega) L.1 X, ?_⟩
  rintro r _ ⟨rfl, rfl⟩
  refine r111_22 ?_
  unfold oDlgs; rw [hb]
  exact ⟨by rw [← L.2 b (by omega)], ⟨G, X, L⟩, zJ.rf⟩
theorem c113 {d : Nat} {h : zH} {m w : Nat} {S : sS} {i : Int32} (X : MM h m w S) : zD (d + 1) 113 [.inr m, .inl i] h (fun r h' => r = some (.inl (oCanc S i)) ∧ MM h' m w S ∧ zJ (yA m) h h') := by
  obtain ⟨G, X, L⟩ := X
  obtain ⟨y1, y2, y3⟩ := X.c
  refine zD_of rfl (r113_0 ⟨fun q => ?_, fun q => ⟨X.1.1, ?_⟩⟩)
  · unfold oCanc; rw [lx_neg q]; exact ⟨rfl, ⟨G, X, L⟩, zJ.rf⟩
  rw [y2]
  refine ⟨fun q2 => ?_, fun q2 => ?_⟩
  rotate_left
  · unfold oCanc; rw [lx_ge (by omega) q q2]; exact ⟨rfl, ⟨G, X, L⟩, zJ.rf⟩
  obtain ⟨k, f, hx, rfl, hf⟩ := lx_lt (by omega) q q2
  have hk := lt_at hf
  unfold oCanc; rw [hx]
  obtain ⟨a, b, ha, hb, e6, e7, e⟩ := y3 k f hf
  have j0 := nI_clamp (show k < 2 ^ 31 by omega)
  have v1 : vp_in (nI k) 7 := vp_in_nI (by omega) (by omega)
  obtain ⟨k0, ⟨r1, r2, r3, r4, r5, r6, r7, r8, r9, r10, r11, r12, r13, r14, r15, r16, r17, r18, r19, r20, r21, r22, r23⟩, ⟨k1, k2, k3, k4, k5, k6, k7, k8, k9, k10, k11, k12, k13, k14, k15, k16, k17, k18, k19, k20, k21, k22, k23⟩, ⟨l1, l2, l3, l4, l5, l6, l7, l8, l9, l10, l11, l12, l13, l14, l15, l16, l17, l18, l19, l20, l21, l22, l23⟩⟩ := X.1
  simp only [k0, r1, r2, r3, r4, r5, r6, r7, r8, r9, r10, r11, r12, r13, r14, r15, r16, r17, r18, r19, r20, r21, r22, r23, k1, k2, k3, k4, k5, k6, k7, k8, k9, k10, k11, k12, k13, k14, k15, k16, k17, k18, k19, k20, k21, k22, k23, l1, l2, l3, l4, l5, l6, l7, l8, l9, l10, l11, l12, l13, l14, l15, l16, l17, l18, l19, l20, l21, l22, l23, true_and, true_or, or_true, j0, v1, e6, e7, e4x, e]
  exact ⟨⟨G, X, L⟩, zJ.rf⟩
theorem c114 {d : Nat} {h : zH} {m w : Nat} {S : sS} {r : Int32} (hw : w ≤ 4) (X : MM h m w S) : zD (d + 3) 114 [.inr m, .inl r] h (fun v h' => v = some (.inl (oCall w S r).1) ∧ MM h' m w (oCall w S r).2 ∧ zJ (yA m) h h') := by
  obtain ⟨G, X, L⟩ := X
  have ec : r / 100 * 100 = 100 * (r / 100) := Int32.mul_comm _ _
  refine zD_of rfl (r114_0 ⟨by decide, X.1.1, _, c76 hw X, ?_⟩)
  rintro v _ ⟨rfl, rfl⟩
  refine r114_17 ⟨fun q => ?_, fun q => ⟨_, c75 (n := 1) (by decide), ?_⟩⟩
  · unfold oCall; rw [is0 q]; exact ⟨rfl, ⟨G, X, L⟩, zJ.rf⟩
  obtain ⟨a, ha⟩ := is1 q
  obtain ⟨a1', a2', e⟩ := iv_some ha
  rintro v _ ⟨rfl, rfl⟩
  unfold oCall; rw [ha, ec]
  refine r114_26 ⟨fun q => ?_, fun q => ?_⟩
  rotate_left
  · rw [io0 q]; exact ⟨rfl, ⟨G, X, L⟩, zJ.rf⟩
  obtain ⟨b, hb⟩ := io1 q
  obtain ⟨hb4, e2⟩ := ix_some hb
  have hb4 : b < 2 := hb4
  rw [show ix 2 (r - 100 * (r / 100)) = some b from hb]
  have j0 := nI_clamp (show 2 * a + b < 2 ^ 31 by omega)
  have v1 : vp_in (nI (2 * a + b)) 10 := vp_in_nI (by omega) (by omega)
  have ou := (X.ou (show 2 * a + b < 10 by omega)).1
  rw [e2, e]
  obtain ⟨k0, ⟨r1, r2, r3, r4, r5, r6, r7, r8, r9, r10, r11, r12, r13, r14, r15, r16, r17, r18, r19, r20, r21, r22, r23⟩, ⟨k1, k2, k3, k4, k5, k6, k7, k8, k9, k10, k11, k12, k13, k14, k15, k16, k17, k18, k19, k20, k21, k22, k23⟩, ⟨l1, l2, l3, l4, l5, l6, l7, l8, l9, l10, l11, l12, l13, l14, l15, l16, l17, l18, l19, l20, l21, l22, l23⟩⟩ := X.1
  simp only [k0, r1, r2, r3, r4, r5, r6, r7, r8, r9, r10, r11, r12, r13, r14, r15, r16, r17, r18, r19, r20, r21, r22, r23, k1, k2, k3, k4, k5, k6, k7, k8, k9, k10, k11, k12, k13, k14, k15, k16, k17, k18, k19, k20, k21, k22, k23, l1, l2, l3, l4, l5, l6, l7, l8, l9, l10, l11, l12, l13, l14, l15, l16, l17, l18, l19, l20, l21, l22, l23, true_and, true_or, or_true, forall_eq, e2x, j0, v1, ou]
  exact ⟨⟨G, X.wO, L⟩, zJ.wI (by unfold yA; omega)⟩
theorem c78 {d : Nat} {h : zH} {m w : Nat} {S : sS} {s n : Int32} (X : MM h m w S) : zD (d + 2) 78 [.inr m, .inl s, .inl n] h (fun r h' => r = some (.inl (oDigits S s n).1) ∧ MM h' m w (oDigits S s n).2 ∧ zJ (yA m) h h') := by
  obtain ⟨G, X, L⟩ := X
  refine zD_of rfl (r78_0 ⟨_, c75 (n := 3) (by decide), ?_⟩)
  rintro r _ ⟨rfl, rfl⟩
  refine r78_6 ⟨fun q => ?_, fun q => ⟨_, c75 (n := 99999) (by decide), ?_⟩⟩
  · unfold oDigits; rw [io0 q]; exact ⟨Or.inl rfl, rfl, ⟨G, X, L⟩, zJ.rf⟩
  obtain ⟨a, ha⟩ := io1 q
  obtain ⟨ha4, rfl⟩ := ix_some ha
  rintro r _ ⟨rfl, rfl⟩
  unfold oDigits; rw [ha]
  refine r78_16 ⟨fun q => ?_, fun q => ?_⟩
  rotate_left
  · rw [io0 q]; exact ⟨Or.inl rfl, rfl, ⟨G, X, L⟩, zJ.rf⟩
  obtain ⟨b, hb⟩ := io1 q
  rw [show ix 100000 n = some b from hb]
  have j0 := nI_clamp (show a < 2 ^ 31 by omega)
  have v1 : vp_in (nI a) 4 := vp_in_nI (by omega) (by omega)
  obtain ⟨k0, ⟨r1, r2, r3, r4, r5, r6, r7, r8, r9, r10, r11, r12, r13, r14, r15, r16, r17, r18, r19, r20, r21, r22, r23⟩, ⟨k1, k2, k3, k4, k5, k6, k7, k8, k9, k10, k11, k12, k13, k14, k15, k16, k17, k18, k19, k20, k21, k22, k23⟩, ⟨l1, l2, l3, l4, l5, l6, l7, l8, l9, l10, l11, l12, l13, l14, l15, l16, l17, l18, l19, l20, l21, l22, l23⟩⟩ := X.1
  simp only [k0, r1, r2, r3, r4, r5, r6, r7, r8, r9, r10, r11, r12, r13, r14, r15, r16, r17, r18, r19, r20, r21, r22, r23, k1, k2, k3, k4, k5, k6, k7, k8, k9, k10, k11, k12, k13, k14, k15, k16, k17, k18, k19, k20, k21, k22, k23, l1, l2, l3, l4, l5, l6, l7, l8, l9, l10, l11, l12, l13, l14, l15, l16, l17, l18, l19, l20, l21, l22, l23, true_and, true_or, or_true, forall_eq, j0, v1]
  exact ⟨⟨G, X.wdg, L⟩, zJ.wI (by unfold yA; omega)⟩
