/-! ===== the reference's small methods ===== -/
theorem MH.clk {h : zH} {m w : Nat} {S : sS} {G : List (Nat × (Nat → Int32))} (X : MH h m w S G) : zI h m 1 = sClk S := X.2.2.1
theorem MH.dg {h : zH} {m w : Nat} {S : sS} {G : List (Nat × (Nat → Int32))} (X : MH h m w S G) {s : Nat} (hs : s < 4) : zI h (m + 1) s = sDg S s := X.2.2.2.1 s hs
theorem MH.lo {h : zH} {m w : Nat} {S : sS} {G : List (Nat × (Nat → Int32))} (X : MH h m w S G) {s : Nat} (hs : s < 4) : zI h (m + 2) s = sLo S s := X.2.2.2.2.1 s hs
theorem MH.t {h : zH} {m w : Nat} {S : sS} {G : List (Nat × (Nat → Int32))} (X : MH h m w S G) : mT h m (sT S) := X.2.2.2.2.2.1
theorem MH.c {h : zH} {m w : Nat} {S : sS} {G : List (Nat × (Nat → Int32))} (X : MH h m w S G) : mC h m w (sC S) := X.2.2.2.2.2.2.1
theorem MH.he {h : zH} {m w : Nat} {S : sS} {G : List (Nat × (Nat → Int32))} (X : MH h m w S G) {k : Nat} (hk : k < 4 * (w + 1)) : zI h (m + 8) k = sHe S k := X.2.2.2.2.2.2.2.1 k hk
theorem MH.st {h : zH} {m w : Nat} {S : sS} {G : List (Nat × (Nat → Int32))} (X : MH h m w S G) {k : Nat} (hk : k < 4 * (w + 1)) : zI h (m + 9) k = sSt S k := X.2.2.2.2.2.2.2.2.1 k hk
theorem MH.ou {h : zH} {m w : Nat} {S : sS} {G : List (Nat × (Nat → Int32))} (X : MH h m w S G) {k : Nat} (hk : k < 10) : zI h (m + 10) k = sO S k ∧ zI h (m + 11) k = sU S k := X.2.2.2.2.2.2.2.2.2.1 k hk
theorem MH.l {h : zH} {m w : Nat} {S : sS} {G : List (Nat × (Nat → Int32))} (X : MH h m w S G) {v : Nat} (hv : v ≤ w) : zI h (m + 12) v = sL S v := X.2.2.2.2.2.2.2.2.2.2.1 v hv
theorem MH.gg {h : zH} {m w : Nat} {S : sS} {G : List (Nat × (Nat → Int32))} (X : MH h m w S G) : mG h m G := X.2.2.2.2.2.2.2.2.2.2.2.1
theorem MH.q {h : zH} {m w : Nat} {S : sS} {G : List (Nat × (Nat → Int32))} (X : MH h m w S G) : mQ h m (sQ S) := X.2.2.2.2.2.2.2.2.2.2.2.2.1
theorem MH.f {h : zH} {m w : Nat} {S : sS} {G : List (Nat × (Nat → Int32))} (X : MH h m w S G) : mF h m (sF S) := X.2.2.2.2.2.2.2.2.2.2.2.2.2
theorem c75 {d : Nat} {h : zH} {n : Nat} {x : Int32} (hn : n + 1 < 2 ^ 31) : zD (d + 1) 75 [.inl x, .inl 0, .inl (nI n)] h (fun v h' => v = some (.inl (if (ix (n + 1) x).isSome then 0 else 1)) ∧ h = h') := by
  refine zD_of rfl (r75_0 ⟨fun q => ⟨Or.inr rfl, by rw [ix_neg q]; rfl, rfl⟩, fun q => ?_⟩)
  obtain ⟨k, hk, rfl⟩ := nI_of q
  rw [nI_leI hk (by omega)]
  refine ⟨fun q2 => ⟨Or.inl rfl, by rw [ix_nI (by omega) (by omega)]; rfl, rfl⟩, fun q2 => ⟨Or.inr rfl, by rw [ix_ge (by omega) hk]; rfl, rfl⟩⟩
theorem c76 {d : Nat} {h : zH} {m w : Nat} {S : sS} {G : List (Nat × (Nat → Int32))} {x : Int32} (hw : w ≤ 4) (X : MH h m w S G) : zD (d + 2) 76 [.inr m, .inl x] h (fun v h' => v = some (.inl (if (iv w x).isSome then 1 else 0)) ∧ h = h') := by
  have key : zD (d + 1) 75 [.inl x, .inl 1, .inl (nI w)] h (fun v h' => v = some (.inl (if (iv w x).isSome then 0 else 1)) ∧ h = h') := by
    refine zD_of rfl (r75_0 ⟨fun q => ⟨Or.inr rfl, ?_, rfl⟩, fun q => ?_⟩)
    · by_cases hm : x < 0
      · rw [iv_neg hm]; rfl
      · obtain ⟨n, hn, rfl⟩ := nI_of hm
        have q : n < 1 := (nI_ltI hn (by decide)).mp (show nI n < nI 1 from q)
        rw [show n = 0 by omega, iv_0 hw]; rfl
    · have hm : ¬ x < 0 := fun e => q (by rw [Int32.lt_iff_toInt_lt] at e ⊢; have e1 : (1 : Int32).toInt = 1 := rfl; have e0 : (0 : Int32).toInt = 0 := rfl; omega)
      obtain ⟨n, hn, rfl⟩ := nI_of hm
      have q : ¬ n < 1 := fun z => q (show nI n < nI 1 from (nI_ltI hn (by decide)).mpr z)
      rw [nI_leI hn (by omega)]
      exact ⟨fun q2 => ⟨Or.inl rfl, by rw [iv_nI hw (by omega) q2]; rfl, rfl⟩, fun q2 => ⟨Or.inr rfl, by rw [iv_ge (by omega) hn]; rfl, rfl⟩⟩
  refine zD_of rfl (r76_0 ?_)
  rw [X.2.1]
  refine ⟨X.1.1, _, key, ?_⟩
  rintro r _ ⟨rfl, rfl⟩
  refine r76_9 ⟨fun q => ⟨Or.inl rfl, ?_, rfl⟩, fun q => ⟨Or.inr rfl, ?_, rfl⟩⟩
  · cases ho : iv w x with
    | none => rfl
    | some a => rw [ho] at q; exact absurd rfl q
  · cases ho : iv w x with
    | none => rw [ho] at q; exact absurd (show (1 : Int32) = 0 from q) (by decide)
    | some a => rfl
theorem c77 {d : Nat} {h : zH} {c : Nat} (hc : c ≤ 5) : zD (d + 1) 77 [.inl (nI c)] h (fun v h' => v = some (.inl (nI (10 ^ c))) ∧ h = h') := by
  refine zD_of rfl (r77_0 ?_)
  suffices H : ∀ n j, c - j = n → j ≤ c → zWp zm77 (zD d) (fun v h' => v = some (.inl (nI (10 ^ c))) ∧ h = h') 0 0 4 [some (.inl (nI c)), some (.inl (nI (10 ^ j))), some (.inl (nI j))] [] h from H _ 0 rfl (Nat.zero_le _)
  intro n
  induction n with
  | zero =>
    intro j hm hj
    have : j = c := by omega
    subst this
    exact r77_4 ⟨fun _ => ⟨rfl, rfl⟩, fun q => absurd (nI_le (Nat.le_refl _) (by omega)) q⟩
  | succ n ih =>
    intro j hm hj
    refine r77_4 ⟨fun q => absurd q (nI_ge (by omega) (by omega)), fun _ => ?_⟩
    rw [nI_1, show (10 : Int32) = nI 10 from rfl, pk_mul, ← Nat.pow_succ]
    exact ih (j + 1) (by omega) (by omega)
theorem c81 {d : Nat} {h : zH} {m w v : Nat} {S : sS} {G : List (Nat × (Nat → Int32))} (hw : w ≤ 4) (hv : v ≤ 4) (hG : ∀ p ∈ G, p.1 ≤ w) (X : MH h m w S G) : zD (d + 1) 81 [.inr m, .inl (nI v)] h (fun r h' => r = some (.inl (nI (flt v G).length)) ∧ h = h') := by
  obtain ⟨y1, y2, y3⟩ := X.gg
  obtain ⟨k0, ⟨r1, r2, r3, r4, r5, r6, r7, r8, r9, r10, r11, r12, r13, r14, r15, r16, r17, r18, r19, r20, r21, r22, r23⟩, ⟨k1, k2, k3, k4, k5, k6, k7, k8, k9, k10, k11, k12, k13, k14, k15, k16, k17, k18, k19, k20, k21, k22, k23⟩, ⟨l1, l2, l3, l4, l5, l6, l7, l8, l9, l10, l11, l12, l13, l14, l15, l16, l17, l18, l19, l20, l21, l22, l23⟩⟩ := X.1
  refine zD_of rfl (r81_0 ?_)
  suffices H : ∀ n j, G.length - j = n → j ≤ G.length → zWp zm81 (zD d) (fun r h' => r = some (.inl (nI (flt v G).length)) ∧ h = h') 0 0 4 [some (.inr m), some (.inl (nI v)), some (.inl (nI (flt v (G.take j)).length)), some (.inl (nI j))] [] h from H _ 0 rfl (Nat.zero_le _)
  intro n
  induction n with
  | zero =>
    intro j hm hj
    have : j = G.length := by omega
    subst this
    refine r81_4 ?_
    simp only [k0, r1, r2, r3, r4, r5, r6, r7, r8, r9, r10, r11, r12, r13, r14, r15, r16, r17, r18, r19, r20, r21, r22, r23, k1, k2, k3, k4, k5, k6, k7, k8, k9, k10, k11, k12, k13, k14, k15, k16, k17, k18, k19, k20, k21, k22, k23, l1, l2, l3, l4, l5, l6, l7, l8, l9, l10, l11, l12, l13, l14, l15, l16, l17, l18, l19, l20, l21, l22, l23, true_and, true_or, or_true, y2, List.take_length]
    exact ⟨fun _ => trivial, fun q => absurd (nI_le (Nat.le_refl _) (by omega)) q⟩
  | succ n ih =>
    intro j hm hj
    have hlt : j < G.length := by omega
    obtain ⟨p, hp⟩ := at_lt hlt
    have hpw := hG p (List.mem_of_getElem? hp)
    have et : flt v (G.take (j + 1)) = if p.1 = v then flt v (G.take j) ++ [p.2] else flt v (G.take j) := by
      rw [List.take_add_one, hp]
      exact flt_app v (G.take j) p.1 p.2
    refine r81_4 ?_
    simp only [k0, r1, r2, r3, r4, r5, r6, r7, r8, r9, r10, r11, r12, r13, r14, r15, r16, r17, r18, r19, r20, r21, r22, r23, k1, k2, k3, k4, k5, k6, k7, k8, k9, k10, k11, k12, k13, k14, k15, k16, k17, k18, k19, k20, k21, k22, k23, l1, l2, l3, l4, l5, l6, l7, l8, l9, l10, l11, l12, l13, l14, l15, l16, l17, l18, l19, l20, l21, l22, l23, true_and, true_or, or_true, y2, nI_clamp (show j < 2 ^ 31 by omega), (y3 j p hp).1, nI_1, nI_eq (show p.1 < 2 ^ 31 by omega) (show v < 2 ^ 31 by omega)]
    refine ⟨fun q => absurd q (nI_ge hlt (by omega)), fun _ => ⟨vp_in_nI (by omega) (by omega), fun q => ?_, fun q => ?_⟩⟩
    · have := ih (j + 1) (by omega) (by omega)
      rw [et, if_neg q] at this; exact this
    · have := ih (j + 1) (by omega) (by omega)
      rw [et, if_pos q, List.length_append] at this; exact this
def pF (v : Nat) (n : Int32) : (Nat × (Nat → Int32)) → Bool := fun p => decide (p.1 = v) && pNum n p.2
theorem c82 {d : Nat} {h : zH} {m w v : Nat} {S : sS} {G : List (Nat × (Nat → Int32))} {n : Int32} (hw : w ≤ 4) (hv : v ≤ 4) (hG : ∀ p ∈ G, p.1 ≤ w) (X : MH h m w S G) : zD (d + 1) 82 [.inr m, .inl (nI v), .inl n] h (fun r h' => r = some (.inl (sIx (pF v n) G 0)) ∧ h = h') := by
  obtain ⟨y1, y2, y3⟩ := X.gg
  obtain ⟨k0, ⟨r1, r2, r3, r4, r5, r6, r7, r8, r9, r10, r11, r12, r13, r14, r15, r16, r17, r18, r19, r20, r21, r22, r23⟩, ⟨k1, k2, k3, k4, k5, k6, k7, k8, k9, k10, k11, k12, k13, k14, k15, k16, k17, k18, k19, k20, k21, k22, k23⟩, ⟨l1, l2, l3, l4, l5, l6, l7, l8, l9, l10, l11, l12, l13, l14, l15, l16, l17, l18, l19, l20, l21, l22, l23⟩⟩ := X.1
  refine zD_of rfl (r82_0 ?_)
  suffices H : ∀ k j, G.length - j = k → j ≤ G.length → sIx (pF v n) G j = sIx (pF v n) G 0 → zWp zm82 (zD d) (fun r h' => r = some (.inl (sIx (pF v n) G 0)) ∧ h = h') 0 0 2 [some (.inr m), some (.inl (nI v)), some (.inl n), some (.inl (nI j))] [] h from H _ 0 rfl (Nat.zero_le _) rfl
  intro k
  induction k with
  | zero =>
    intro j hm hj hs
    refine r82_2 ?_
    simp only [k0, r1, r2, r3, r4, r5, r6, r7, r8, r9, r10, r11, r12, r13, r14, r15, r16, r17, r18, r19, r20, r21, r22, r23, k1, k2, k3, k4, k5, k6, k7, k8, k9, k10, k11, k12, k13, k14, k15, k16, k17, k18, k19, k20, k21, k22, k23, l1, l2, l3, l4, l5, l6, l7, l8, l9, l10, l11, l12, l13, l14, l15, l16, l17, l18, l19, l20, l21, l22, l23, true_and, true_or, or_true, y2]
    exact ⟨fun _ => ⟨by rw [← hs, sIx_end (by omega)], trivial⟩, fun q => absurd (nI_le (by omega) (by omega)) q⟩
  | succ k ih =>
    intro j hm hj hs
    have hlt : j < G.length := by omega
    obtain ⟨p, hp⟩ := at_lt hlt
    have hpw := hG p (List.mem_of_getElem? hp)
    obtain ⟨z1, z2, -⟩ := y3 j p hp
    refine r82_2 ?_
    simp only [k0, r1, r2, r3, r4, r5, r6, r7, r8, r9, r10, r11, r12, r13, r14, r15, r16, r17, r18, r19, r20, r21, r22, r23, k1, k2, k3, k4, k5, k6, k7, k8, k9, k10, k11, k12, k13, k14, k15, k16, k17, k18, k19, k20, k21, k22, k23, l1, l2, l3, l4, l5, l6, l7, l8, l9, l10, l11, l12, l13, l14, l15, l16, l17, l18, l19, l20, l21, l22, l23, true_and, true_or, or_true, y2, nI_clamp (show j < 2 ^ 31 by omega), z1, z2, nI_1, nI_eq (show p.1 < 2 ^ 31 by omega) (show v < 2 ^ 31 by omega)]
    refine ⟨fun q => absurd q (nI_ge hlt (by omega)), fun _ => ⟨vp_in_nI (by omega) (by omega), fun q => ?_, fun q1 => ⟨vp_in_nI (by omega) (by omega), fun q => ?_, fun q2 => ?_⟩⟩⟩
    · exact ih (j + 1) (by omega) (by omega) (by rw [← hs, sIx_miss hp (by simp [pF, q])])
    · exact ih (j + 1) (by omega) (by omega) (by rw [← hs, sIx_miss hp (by simp [pF, pNum, q])])
    · exact ⟨by rw [← hs, sIx_hit hp (by simp [pF, pNum, q1, q2])], trivial⟩
def pAb (v : Nat) (kd ot su : Int32) : (Nat × (Nat → Int32)) → Bool := fun p => decide (p.1 = v) && pFind kd ot su p.2
theorem i32_add1 {a b : Int32} : a = b ↔ a + 1 = b + 1 := ⟨fun e => by rw [e], fun e => by
  have h1 : a + 1 - 1 = b + 1 - 1 := by rw [e]
  rwa [Int32.add_sub_cancel, Int32.add_sub_cancel] at h1⟩
theorem c83 {d : Nat} {h : zH} {m w v : Nat} {S : sS} {G : List (Nat × (Nat → Int32))} {kd ot su : Int32} (hw : w ≤ 4) (hv : v ≤ 4) (hG : ∀ p ∈ G, p.1 ≤ w) (X : MH h m w S G) : zD (d + 1) 83 [.inr m, .inl (nI v), .inl kd, .inl su, .inl ot] h (fun r h' => r = some (.inl (sIx (pAb v (kd + 1) ot su) G 0)) ∧ h = h') := by
  obtain ⟨y1, y2, y3⟩ := X.gg
  obtain ⟨k0, ⟨r1, r2, r3, r4, r5, r6, r7, r8, r9, r10, r11, r12, r13, r14, r15, r16, r17, r18, r19, r20, r21, r22, r23⟩, ⟨k1, k2, k3, k4, k5, k6, k7, k8, k9, k10, k11, k12, k13, k14, k15, k16, k17, k18, k19, k20, k21, k22, k23⟩, ⟨l1, l2, l3, l4, l5, l6, l7, l8, l9, l10, l11, l12, l13, l14, l15, l16, l17, l18, l19, l20, l21, l22, l23⟩⟩ := X.1
  refine zD_of rfl (r83_0 ?_)
  suffices H : ∀ k j, G.length - j = k → j ≤ G.length → sIx (pAb v (kd + 1) ot su) G j = sIx (pAb v (kd + 1) ot su) G 0 → zWp zm83 (zD d) (fun r h' => r = some (.inl (sIx (pAb v (kd + 1) ot su) G 0)) ∧ h = h') 0 0 3 [some (.inr m), some (.inl (nI v)), some (.inl kd), some (.inl su), some (.inl ot), some (.inl (nI j))] [] h from H _ 0 rfl (Nat.zero_le _) rfl
  intro k
  induction k with
  | zero =>
    intro j hm hj hs
    refine r83_3 ?_
    simp only [k0, r1, r2, r3, r4, r5, r6, r7, r8, r9, r10, r11, r12, r13, r14, r15, r16, r17, r18, r19, r20, r21, r22, r23, k1, k2, k3, k4, k5, k6, k7, k8, k9, k10, k11, k12, k13, k14, k15, k16, k17, k18, k19, k20, k21, k22, k23, l1, l2, l3, l4, l5, l6, l7, l8, l9, l10, l11, l12, l13, l14, l15, l16, l17, l18, l19, l20, l21, l22, l23, true_and, true_or, or_true, y2]
    exact ⟨fun _ => ⟨by rw [← hs, sIx_end (by omega)], trivial⟩, fun q => absurd (nI_le (by omega) (by omega)) q⟩
  | succ k ih =>
    intro j hm hj hs
    have hlt : j < G.length := by omega
    obtain ⟨p, hp⟩ := at_lt hlt
    have hpw := hG p (List.mem_of_getElem? hp)
    obtain ⟨z1, z2, z3, z4, z5, -⟩ := y3 j p hp
    have ek : (zI h (m + 15) j = kd) = (p.2 1 = kd + 1) := by rw [← z3]; exact propext i32_add1
    refine r83_3 ?_
    simp only [k0, r1, r2, r3, r4, r5, r6, r7, r8, r9, r10, r11, r12, r13, r14, r15, r16, r17, r18, r19, r20, r21, r22, r23, k1, k2, k3, k4, k5, k6, k7, k8, k9, k10, k11, k12, k13, k14, k15, k16, k17, k18, k19, k20, k21, k22, k23, l1, l2, l3, l4, l5, l6, l7, l8, l9, l10, l11, l12, l13, l14, l15, l16, l17, l18, l19, l20, l21, l22, l23, true_and, true_or, or_true, y2, nI_clamp (show j < 2 ^ 31 by omega), z1, z4, z5, ek, nI_1, nI_eq (show p.1 < 2 ^ 31 by omega) (show v < 2 ^ 31 by omega)]
    refine ⟨fun q => absurd q (nI_ge hlt (by omega)), fun _ => ⟨vp_in_nI (by omega) (by omega), fun q => ?_, fun q1 => ⟨vp_in_nI (by omega) (by omega), fun q => ?_, fun q2 => ⟨vp_in_nI (by omega) (by omega), fun q => ?_, fun q3 => ⟨vp_in_nI (by omega) (by omega), fun q => ?_, fun q4 => ?_⟩⟩⟩⟩⟩
    · exact ih (j + 1) (by omega) (by omega) (by rw [← hs, sIx_miss hp (by simp [pAb, q])])
    · exact ih (j + 1) (by omega) (by omega) (by rw [← hs, sIx_miss hp (by simp [pAb, pFind, q])])
    · exact ih (j + 1) (by omega) (by omega) (by rw [← hs, sIx_miss hp (by simp [pAb, pFind, q])])
    · exact ih (j + 1) (by omega) (by omega) (by rw [← hs, sIx_miss hp (by simp [pAb, pFind, q])])
    · exact ⟨by rw [← hs, sIx_hit hp (by simp [pAb, pFind, q1, q2, q3, q4])], trivial⟩
theorem c91 {d : Nat} {h : zH} {m w : Nat} {S : sS} {G : List (Nat × (Nat → Int32))} {n : Int32} (X : MH h m w S G) : zD (d + 1) 91 [.inr m, .inl n] h (fun r h' => r = some (.inl (sIx (fun q => decide (q.1 = n)) (sQ S) 0)) ∧ h = h') := by
  obtain ⟨y1, y2, y3⟩ := X.q
  obtain ⟨k0, ⟨r1, r2, r3, r4, r5, r6, r7, r8, r9, r10, r11, r12, r13, r14, r15, r16, r17, r18, r19, r20, r21, r22, r23⟩, ⟨k1, k2, k3, k4, k5, k6, k7, k8, k9, k10, k11, k12, k13, k14, k15, k16, k17, k18, k19, k20, k21, k22, k23⟩, ⟨l1, l2, l3, l4, l5, l6, l7, l8, l9, l10, l11, l12, l13, l14, l15, l16, l17, l18, l19, l20, l21, l22, l23⟩⟩ := X.1
  refine zD_of rfl (r91_0 ?_)
  suffices H : ∀ k j, (sQ S).length - j = k → j ≤ (sQ S).length → sIx (fun q => decide (q.1 = n)) (sQ S) j = sIx (fun q => decide (q.1 = n)) (sQ S) 0 → zWp zm91 (zD d) (fun r h' => r = some (.inl (sIx (fun q => decide (q.1 = n)) (sQ S) 0)) ∧ h = h') 0 0 2 [some (.inr m), some (.inl n), some (.inl (nI j))] [] h from H _ 0 rfl (Nat.zero_le _) rfl
  intro k
  induction k with
  | zero =>
    intro j hm hj hs
    refine r91_2 ?_
    simp only [k0, r1, r2, r3, r4, r5, r6, r7, r8, r9, r10, r11, r12, r13, r14, r15, r16, r17, r18, r19, r20, r21, r22, r23, k1, k2, k3, k4, k5, k6, k7, k8, k9, k10, k11, k12, k13, k14, k15, k16, k17, k18, k19, k20, k21, k22, k23, l1, l2, l3, l4, l5, l6, l7, l8, l9, l10, l11, l12, l13, l14, l15, l16, l17, l18, l19, l20, l21, l22, l23, true_and, true_or, or_true, y2]
    exact ⟨fun _ => ⟨by rw [← hs, sIx_end (by omega)], trivial⟩, fun q => absurd (nI_le (by omega) (by omega)) q⟩
  | succ k ih =>
    intro j hm hj hs
    have hlt : j < (sQ S).length := by omega
    obtain ⟨p, hp⟩ := at_lt hlt
    refine r91_2 ?_
    simp only [k0, r1, r2, r3, r4, r5, r6, r7, r8, r9, r10, r11, r12, r13, r14, r15, r16, r17, r18, r19, r20, r21, r22, r23, k1, k2, k3, k4, k5, k6, k7, k8, k9, k10, k11, k12, k13, k14, k15, k16, k17, k18, k19, k20, k21, k22, k23, l1, l2, l3, l4, l5, l6, l7, l8, l9, l10, l11, l12, l13, l14, l15, l16, l17, l18, l19, l20, l21, l22, l23, true_and, true_or, or_true, y2, nI_clamp (show j < 2 ^ 31 by omega), (y3 j p hp).1, nI_1]
    refine ⟨fun q => absurd q (nI_ge hlt (by omega)), fun _ => ⟨vp_in_nI (by omega) (by omega), fun q => ?_, fun q => ?_⟩⟩
    · exact ih (j + 1) (by omega) (by omega) (by rw [← hs, sIx_miss hp (by simpa using q)])
    · exact ⟨by rw [← hs, sIx_hit hp (by simpa using q)], trivial⟩
theorem c93 {d : Nat} {h : zH} {m w a b : Nat} {S : sS} {G : List (Nat × (Nat → Int32))} (hw : w ≤ 4) (ha : a ≤ 4) (hb : b < 4) (X : MH h m w S G) : zD (d + 1) 93 [.inr m, .inl (nI a), .inl (nI b)] h (fun r h' => r = some (.inl (sIx (fun x => decide (x = nI (4 * a + b))) (sC S) 0)) ∧ h = h') := by
  obtain ⟨y1, y2, y3⟩ := X.c
  obtain ⟨k0, ⟨r1, r2, r3, r4, r5, r6, r7, r8, r9, r10, r11, r12, r13, r14, r15, r16, r17, r18, r19, r20, r21, r22, r23⟩, ⟨k1, k2, k3, k4, k5, k6, k7, k8, k9, k10, k11, k12, k13, k14, k15, k16, k17, k18, k19, k20, k21, k22, k23⟩, ⟨l1, l2, l3, l4, l5, l6, l7, l8, l9, l10, l11, l12, l13, l14, l15, l16, l17, l18, l19, l20, l21, l22, l23⟩⟩ := X.1
  refine zD_of rfl (r93_0 ?_)
  suffices H : ∀ k j, (sC S).length - j = k → j ≤ (sC S).length → sIx (fun x => decide (x = nI (4 * a + b))) (sC S) j = sIx (fun x => decide (x = nI (4 * a + b))) (sC S) 0 → zWp zm93 (zD d) (fun r h' => r = some (.inl (sIx (fun x => decide (x = nI (4 * a + b))) (sC S) 0)) ∧ h = h') 0 0 2 [some (.inr m), some (.inl (nI a)), some (.inl (nI b)), some (.inl (nI j))] [] h from H _ 0 rfl (Nat.zero_le _) rfl
  intro k
  induction k with
  | zero =>
    intro j hm hj hs
    refine r93_2 ?_
    simp only [k0, r1, r2, r3, r4, r5, r6, r7, r8, r9, r10, r11, r12, r13, r14, r15, r16, r17, r18, r19, r20, r21, r22, r23, k1, k2, k3, k4, k5, k6, k7, k8, k9, k10, k11, k12, k13, k14, k15, k16, k17, k18, k19, k20, k21, k22, k23, l1, l2, l3, l4, l5, l6, l7, l8, l9, l10, l11, l12, l13, l14, l15, l16, l17, l18, l19, l20, l21, l22, l23, true_and, true_or, or_true, y2]
    exact ⟨fun _ => ⟨by rw [← hs, sIx_end (by omega)], trivial⟩, fun q => absurd (nI_le (by omega) (by omega)) q⟩
  | succ k ih =>
    intro j hm hj hs
    have hlt : j < (sC S).length := by omega
    obtain ⟨c, hc⟩ := at_lt hlt
    obtain ⟨a', b', z1, z2, z3, z4, z5⟩ := y3 j c hc
    refine r93_2 ?_
    simp only [k0, r1, r2, r3, r4, r5, r6, r7, r8, r9, r10, r11, r12, r13, r14, r15, r16, r17, r18, r19, r20, r21, r22, r23, k1, k2, k3, k4, k5, k6, k7, k8, k9, k10, k11, k12, k13, k14, k15, k16, k17, k18, k19, k20, k21, k22, k23, l1, l2, l3, l4, l5, l6, l7, l8, l9, l10, l11, l12, l13, l14, l15, l16, l17, l18, l19, l20, l21, l22, l23, true_and, true_or, or_true, y2, nI_clamp (show j < 2 ^ 31 by omega), z3, z4, nI_1, nI_eq (show a' < 2 ^ 31 by omega) (show a < 2 ^ 31 by omega), nI_eq (show b' < 2 ^ 31 by omega) (show b < 2 ^ 31 by omega)]
    have ec : (c = nI (4 * a + b)) ↔ 4 * a' + b' = 4 * a + b := by rw [z5]; exact nI_eq (by omega) (by omega)
    refine ⟨fun q => absurd q (nI_ge hlt (by omega)), fun _ => ⟨vp_in_nI (by omega) (by omega), fun q => ?_, fun q1 => ⟨vp_in_nI (by omega) (by omega), fun q => ?_, fun q2 => ?_⟩⟩⟩
    · exact ih (j + 1) (by omega) (by omega) (by rw [← hs, sIx_miss hc (decide_eq_false (fun z => q (by have := ec.mp z; omega)))])
    · exact ih (j + 1) (by omega) (by omega) (by rw [← hs, sIx_miss hc (decide_eq_false (fun z => q (by have := ec.mp z; omega)))])
    · exact ⟨by rw [← hs, sIx_hit hc (decide_eq_true (ec.mpr (by omega)))], trivial⟩
theorem c80 {d : Nat} {h : zH} {m w sn : Nat} {S : sS} {G : List (Nat × (Nat → Int32))} (hs : sn < 4) (X : MH h m w S G) (ok : okT (sT S)) : zD (d + 2) 80 [.inr m, .inl (nI sn)] h (fun r h' => r = some (.inl (sReach (sDg S sn) (sT S) (-1) 0)) ∧ h = h') := by
  obtain ⟨c1, c2, c3⟩ := X.t
  obtain ⟨k0, ⟨r1, r2, r3, r4, r5, r6, r7, r8, r9, r10, r11, r12, r13, r14, r15, r16, r17, r18, r19, r20, r21, r22, r23⟩, ⟨k1, k2, k3, k4, k5, k6, k7, k8, k9, k10, k11, k12, k13, k14, k15, k16, k17, k18, k19, k20, k21, k22, k23⟩, ⟨l1, l2, l3, l4, l5, l6, l7, l8, l9, l10, l11, l12, l13, l14, l15, l16, l17, l18, l19, l20, l21, l22, l23⟩⟩ := X.1
  refine zD_of rfl (r80_0 ?_)
  suffices H : ∀ k j b y, (sT S).length - j = k → j ≤ (sT S).length → (y = 0 ∨ y = 1) → sReach (sDg S sn) ((sT S).drop j) b y = sReach (sDg S sn) (sT S) (-1) 0 → zWp zm80 (zD (d + 1)) (fun r h' => r = some (.inl (sReach (sDg S sn) (sT S) (-1) 0)) ∧ h = h') 0 0 7 [some (.inr m), some (.inl (nI sn)), some (.inl b), some (.inl y), some (.inl (nI j))] [] h from H _ 0 _ _ rfl (Nat.zero_le _) (Or.inl rfl) rfl
  intro k
  induction k with
  | zero =>
    intro j b y hm hj hy hs'
    rw [List.drop_eq_nil_of_le (by omega)] at hs'
    refine r80_7 ?_
    simp only [k0, r1, r2, r3, r4, r5, r6, r7, r8, r9, r10, r11, r12, r13, r14, r15, r16, r17, r18, r19, r20, r21, r22, r23, k1, k2, k3, k4, k5, k6, k7, k8, k9, k10, k11, k12, k13, k14, k15, k16, k17, k18, k19, k20, k21, k22, k23, l1, l2, l3, l4, l5, l6, l7, l8, l9, l10, l11, l12, l13, l14, l15, l16, l17, l18, l19, l20, l21, l22, l23, true_and, true_or, or_true, c2]
    exact ⟨fun _ => ⟨hy, by rw [← hs']; rfl, trivial⟩, fun q => absurd (nI_le (by omega) (by omega)) q⟩
  | succ k ih =>
    intro j b y hm hj hy hs'
    have hlt : j < (sT S).length := by omega
    obtain ⟨t, ht⟩ := at_lt hlt
    obtain ⟨t0, t1, t2⟩ := c3 j t ht
    obtain ⟨⟨n, hn, e1⟩, hy2⟩ := ok t (List.mem_of_getElem? ht)
    rw [drop_at ht] at hs'
    have e5 : (5 : Int32) - t 1 = nI (5 - n) := by rw [e1]; exact pk_sub (a := 5) hn
    have hten : sTen (5 - t 1) = nI (10 ^ (5 - n)) := by unfold sTen; rw [e5, nI_clamp (by omega)]
    have hlt10 : 10 ^ (5 - n) < 2 ^ 31 := Nat.lt_of_le_of_lt (Nat.pow_le_pow_right (by decide) (show 5 - n ≤ 5 by omega)) (by decide)
    have hne : ¬ nI (10 ^ (5 - n)) = 0 := nI_ne0 (Nat.pos_of_ne_zero (by exact Nat.ne_of_gt (Nat.pow_pos (by decide)))) hlt10
    refine r80_7 ?_
    simp only [k0, r1, r2, r3, r4, r5, r6, r7, r8, r9, r10, r11, r12, r13, r14, r15, r16, r17, r18, r19, r20, r21, r22, r23, k1, k2, k3, k4, k5, k6, k7, k8, k9, k10, k11, k12, k13, k14, k15, k16, k17, k18, k19, k20, k21, k22, k23, l1, l2, l3, l4, l5, l6, l7, l8, l9, l10, l11, l12, l13, l14, l15, l16, l17, l18, l19, l20, l21, l22, l23, true_and, true_or, or_true, c2, nI_clamp (show j < 2 ^ 31 by omega), nI_clamp (show sn < 2 ^ 31 by omega), t1, X.dg hs, e5]
    refine ⟨fun q => absurd q (nI_ge hlt (by omega)), fun _ => ⟨vp_in_nI (by omega) (by omega), vp_in_nI (by omega) (by omega), _, c77 (by omega), ?_⟩⟩
    rintro r _ ⟨rfl, rfl⟩
    refine r80_34 ?_
    simp only [k0, r1, r2, r3, r4, r5, r6, r7, r8, r9, r10, r11, r12, r13, r14, r15, r16, r17, r18, r19, r20, r21, r22, r23, k1, k2, k3, k4, k5, k6, k7, k8, k9, k10, k11, k12, k13, k14, k15, k16, k17, k18, k19, k20, k21, k22, k23, l1, l2, l3, l4, l5, l6, l7, l8, l9, l10, l11, l12, l13, l14, l15, l16, l17, l18, l19, l20, l21, l22, l23, true_and, true_or, or_true, nI_clamp (show j < 2 ^ 31 by omega), t0, t1, t2, nI_1]
    refine ⟨hne, vp_in_nI (by omega) (by omega), fun q => ?_, fun q2 => ⟨vp_in_nI (by omega) (by omega), fun q => ?_, fun q1 => ⟨vp_in_nI (by omega) (by omega), vp_in_nI (by omega) (by omega), ?_⟩⟩⟩
    · refine ih (j + 1) b y (by omega) (by omega) hy ?_
      rw [← hs']
      show _ = if _ then _ else _
      rw [hten, if_neg (fun z => q z.2)]
    · refine ih (j + 1) b y (by omega) (by omega) hy ?_
      rw [← hs']
      show _ = if _ then _ else _
      rw [if_neg (fun z => absurd z.1 (by rw [Int32.not_lt]; exact q))]
    · refine ih (j + 1) _ _ (by omega) (by omega) hy2 ?_
      rw [← hs']
      show _ = if _ then _ else _
      rw [hten, if_pos ⟨by rw [← Int32.not_le]; exact q1, q2⟩]
