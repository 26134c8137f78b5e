/-! ===== the reference receives: update ===== -/
theorem MH.cpush {h : zH} {m w n a b : Nat} {S : sS} {G : List (Nat × (Nat → Int32))} (X : MH h m w S G) (hn : (sC S).length = n) (hlt : n < 6) (ha : a ≤ w) (hb : b < 4) :
    MH (zwI (zwI (zwI h (m + 6) n (nI a)) (m + 7) n (nI b)) m 8 (nI n + 1)) m w (stC S (sC S ++ [nI (4 * a + b)])) G ∧ zJ (yA m) h (zwI (zwI (zwI h (m + 6) n (nI a)) (m + 7) n (nI b)) m 8 (nI n + 1)) := by
  obtain ⟨y1, y2, y3⟩ := X.c
  have s : zJ (fun q => q = m ∨ q = m + 6 ∨ q = m + 7) h (zwI (zwI (zwI h (m + 6) n (nI a)) (m + 7) n (nI b)) m 8 (nI n + 1)) := ((zJ.wI (by omega)).tr (zJ.wI (by omega))).tr (zJ.wI (by omega))
  refine ⟨X.C s (fun i hi => by rw [zI_ok hi, zI_oa (by omega), zI_oa (by omega)]) ⟨?_, ?_, fun j c hc => ?_⟩, s.wd (fun q hq => by unfold yA; omega)⟩
  · rw [List.length_append, hn]; exact hlt
  · rw [zI_at, nI_1, List.length_append, hn]; rfl
  · by_cases hj : j < n
    · rw [List.getElem?_append_left (by omega)] at hc
      exact rC_mv (by rw [zI_oa (by omega), zI_ok (by omega), zI_ok (by omega)]) (by rw [zI_oa (by omega), zI_ok (by omega), zI_ok (by omega)]) (y3 j c hc)
    · have hl := lt_at hc
      rw [List.length_append, hn] at hl
      have hl : j < n + 1 := hl
      have ej : j = n := by omega
      subst ej
      rw [List.getElem?_append_right (by omega), hn, Nat.sub_self] at hc
      cases hc
      exact ⟨a, b, ha, hb, by rw [zI_oa (by omega), zI_oa (by omega), zI_at], by rw [zI_oa (by omega), zI_at], rfl⟩
theorem c84k {d : Nat} {h : zH} {m w v : Nat} {S : sS} {G : List (Nat × (Nat → Int32))} {kd kk su wi la ck lv : Int32} (hk : kd + 1 = kk) (hck : sClk S = ck) (hlv : sL S v = lv) (hw : w ≤ 4) (hv : v ≤ w) (hG : G.length < 12) (X : MH h m w S G) : zD (d + 1) 84 [.inr m, .inl (nI v), .inl kd, .inl su, .inl wi, .inl la] h (fun r h' => r = some (.inl (lv + 1)) ∧ MH h' m w (oBegin S v kk wi su (ck + la) 0) (G ++ [(v, sRow [lv + 1, kk, wi, su, ck + la, 0])]) ∧ zJ (yA m) h h') := by
  subst hk; subst hck; subst hlv
  exact c84 hw hv hG X
theorem mem_fx {C : List Int32} {p : Int32} : (sFx (fun x => decide (x = p)) C 0 = none) ↔ ¬ p ∈ C := by
  cases h : sFx (fun x => decide (x = p)) C 0 with
  | none => exact ⟨fun _ z => by have := sFx_none h p z; simp at this, fun _ => rfl⟩
  | some k =>
    obtain ⟨x, hx, hp, -⟩ := sFx_some h
    have hp : x = p := by simpa using hp
    have hm : p ∈ C := by rw [← hp]; exact List.mem_of_getElem? hx
    exact ⟨(fun z => by cases z), (fun z => absurd hm z)⟩
theorem c96a {d : Nat} {h : zH} {m w k0 : Nat} {S : sS} {G : List (Nat × (Nat → Int32))} {f0 f4 f3 : Int32} (hw : w ≤ 4) (X : MH h m w S G) (L : LG w S G) (hx : sFx (fun p => decide (p.1 = 0) && pUpd f0 f4 p.2) G 0 = some k0) : zD (d + 3) 96 [.inr m, .inl f0, .inl f4, .inl f3] h (fun r h' => r = none ∧ h = h') := by
  have hgl := X.gl
  obtain ⟨y1, y2, y3⟩ := X.gg
  obtain ⟨p0, hp0, hh0, hb0⟩ := sFx_some hx
  have hk0 := lt_at hp0
  refine zD_of rfl (r96_0 ?_)
  suffices H : ∀ t j, k0 - j = t → j ≤ k0 → zWp zm96 (zD (d + 2)) (fun r h' => r = none ∧ h = h') 0 0 3 [some (.inr m), some (.inl f0), some (.inl f4), some (.inl f3), some (.inl (nI j)), none, none, none, none] [] h from H _ 0 rfl (Nat.zero_le _)
  intro t
  induction t with
  | zero =>
    intro j ht hj
    have ej : j = k0 := by omega
    subst ej
    obtain ⟨z1, z2, z3, z4, z5, z6, z7⟩ := y3 j p0 hp0
    rw [Bool.and_eq_true, decide_eq_true_eq] at hh0
    obtain ⟨a1, a2⟩ := hh0
    have a2 : p0.2 1 = 2 ∧ p0.2 2 = f0 ∧ p0.2 5 = f4 := by simpa [pUpd] using a2
    have kd1 : zI h (m + 15) j = 1 := by have := z3.trans a2.1; exact i32_add1.mpr this
    have z1 : zI h (m + 13) j = 0 := by rw [z1, a1]; rfl
    have j0 := nI_clamp (show j < 2 ^ 31 by omega)
    have v1 : vp_in (nI j) 12 := vp_in_nI (by omega) (by omega)
    have q1 : ¬ nI G.length ≤ nI j := nI_ge (by omega) (by omega)
    rw [a2.2.1] at z5
    rw [a2.2.2] at z7
    refine r96_3 ⟨X.1.1, fun q => absurd (by rw [← y2]; exact q) q1, fun _ => ?_⟩
    obtain ⟨k0, ⟨r1, r2, r3, r4, r5, r6, r7, r8, r9, r10, r11, r12, r13, r14, r15, r16, r17, r18, r19, r20, r21, r22, r23⟩, ⟨k1, k2, k3, k4, k5, k6, k7, k8, k9, k10, k11, k12, k13, k14, k15, k16, k17, k18, k19, k20, k21, k22, k23⟩, ⟨l1, l2, l3, l4, l5, l6, l7, l8, l9, l10, l11, l12, l13, l14, l15, l16, l17, l18, l19, l20, l21, l22, l23⟩⟩ := X.1
    simp only [k0, r1, r2, r3, r4, r5, r6, r7, r8, r9, r10, r11, r12, r13, r14, r15, r16, r17, r18, r19, r20, r21, r22, r23, k1, k2, k3, k4, k5, k6, k7, k8, k9, k10, k11, k12, k13, k14, k15, k16, k17, k18, k19, k20, k21, k22, k23, l1, l2, l3, l4, l5, l6, l7, l8, l9, l10, l11, l12, l13, l14, l15, l16, l17, l18, l19, l20, l21, l22, l23, true_and, true_or, or_true, j0, v1, z1, kd1, z5, z7, not_true_eq_false, not_false_eq_true, false_implies, true_implies]
  | succ t ih =>
    intro j ht hj
    have hjl : j < G.length := by omega
    obtain ⟨p, hp⟩ := at_lt hjl
    have hpw := L.1 p (List.mem_of_getElem? hp)
    have hno := hb0 j p (by omega) hp
    obtain ⟨z1, z2, z3, z4, z5, z6, z7⟩ := y3 j p hp
    have j0 := nI_clamp (show j < 2 ^ 31 by omega)
    have v1 : vp_in (nI j) 12 := vp_in_nI (by omega) (by omega)
    have q1 : ¬ nI G.length ≤ nI j := nI_ge hjl (by omega)
    have e0 : (nI p.1 = 0) ↔ p.1 = 0 := nI_eq (b := 0) (by omega) (by decide)
    have e1 : (zI h (m + 15) j = 1) = (p.2 1 = 2) := by rw [← z3]; exact propext i32_add1
    have nxt := ih (j + 1) (by omega) (by omega)
    refine r96_3 ⟨X.1.1, fun q => absurd (by rw [← y2]; exact q) q1, fun _ => ?_⟩
    obtain ⟨k0, ⟨r1, r2, r3, r4, r5, r6, r7, r8, r9, r10, r11, r12, r13, r14, r15, r16, r17, r18, r19, r20, r21, r22, r23⟩, ⟨k1, k2, k3, k4, k5, k6, k7, k8, k9, k10, k11, k12, k13, k14, k15, k16, k17, k18, k19, k20, k21, k22, k23⟩, ⟨l1, l2, l3, l4, l5, l6, l7, l8, l9, l10, l11, l12, l13, l14, l15, l16, l17, l18, l19, l20, l21, l22, l23⟩⟩ := X.1
    simp only [k0, r1, r2, r3, r4, r5, r6, r7, r8, r9, r10, r11, r12, r13, r14, r15, r16, r17, r18, r19, r20, r21, r22, r23, k1, k2, k3, k4, k5, k6, k7, k8, k9, k10, k11, k12, k13, k14, k15, k16, k17, k18, k19, k20, k21, k22, k23, l1, l2, l3, l4, l5, l6, l7, l8, l9, l10, l11, l12, l13, l14, l15, l16, l17, l18, l19, l20, l21, l22, l23, true_and, true_or, or_true, j0, v1, z1, e0, e1, z5, z7, nI_1]
    clear k0 r1 r2 r3 r4 r5 r6 r7 r8 r9 r10 r11 r12 r13 r14 r15 r16 r17 r18 r19 r20 r21 r22 r23 k1 k2 k3 k4 k5 k6 k7 k8 k9 k10 k11 k12 k13 k14 k15 k16 k17 k18 k19 k20 k21 k22 k23 l1 l2 l3 l4 l5 l6 l7 l8 l9 l10 l11 l12 l13 l14 l15 l16 l17 l18 l19 l20 l21 l22 l23
    refine ⟨fun _ => nxt, fun q => ⟨fun _ => nxt, fun q2 => ⟨fun _ => nxt, fun q3 => ⟨fun _ => nxt, fun q4 => ?_⟩⟩⟩⟩
    simp [pUpd, q, q2, q3, q4] at hno
