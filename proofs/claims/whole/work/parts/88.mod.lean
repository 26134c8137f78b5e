/-! ===== the reference receives: update, its head ===== -/
def oUp2 (S : sS) (sn : Nat) (v f4 : Int32) : sS := if (sD S 0).length = 4 ∨ ¬ sMay S sn (nI sn) v then oSend S (sRow [0, v, 40, 0, 0, f4, 0]) else oSend (oBegin (oMove S sn (nI sn) v) 0 2 v (nI sn) (sClk S + 6) f4) (sRow [0, v, 22, nI sn, sL S 0 + 1, f4, 0])
theorem oMv1_same {S : sS} {sn : Nat} {v p : Int32} (hp : 4 * sLo S sn + nI sn = p) (hm : ¬ (sEls S sn v ∧ ¬ p ∈ sC S)) : oMv1 S sn (nI sn) v = S := by
  unfold oMv1
  by_cases h : sEls S sn v
  · rw [if_pos h, hp]
    have hin : p ∈ sC S := Classical.byContradiction fun z => hm ⟨h, z⟩
    unfold sAdd
    rw [if_pos hin]; rfl
  · rw [if_neg h]
theorem c96e {d : Nat} {h h1 : zH} {m w vn sn : Nat} {S S1 : sS} {G : List (Nat × (Nat → Int32))} {f4 l4 l5 l6 : Int32} (hw : w ≤ 4) (hv : vn ≤ w) (hs : sn < 4) (hA : ¬ ((sD S 0).length = 4 ∨ ¬ sMay S sn (nI sn) (nI vn))) (X1 : MH h1 m w S1 G) (L1 : LG w S1 G) (s1 : zJ (yA m) h h1) (hl : G.length < 12) (e1 : S1 = oMv1 S sn (nI sn) (nI vn)) (eck : sClk S1 = sClk S) (esl : sL S1 = sL S) :
    ∃ Q, zD (d + 2) 94 [.inr m, .inl (nI vn), .inl (nI sn)] h1 Q ∧ ∀ v h2, Q v h2 → zWp zm96 (zD (d + 2)) (fun r h' => r = none ∧ MM h' m w (oUp2 S sn (nI vn) f4) ∧ zJ (yA m) h h') 0 0 184 [some (.inr m), some (.inl (nI vn)), some (.inl f4), some (.inl (nI sn)), some (.inl l4), some (.inl l5), some (.inl l6), none, none] (v.toList ++ []) h2 := by
  have eU : oUp2 S sn (nI vn) f4 = oSend (oBegin (oMv4 (oMv3 (oMv2 S1 (nI sn) (nI vn)) (nI sn) (nI vn)) sn (nI vn)) 0 2 (nI vn) (nI sn) (sClk S + 6) f4) (sRow [0, nI vn, 22, nI sn, sL S 0 + 1, f4, 0]) := by
    unfold oUp2; rw [if_neg hA, e1]; rfl
  refine ⟨_, c94 hw (by omega) hs X1, ?_⟩
  rintro r h2 ⟨rfl, X2, s2⟩
  rw [eU]
  have e2 : oMv2 S1 (nI sn) (nI vn) = stC S1 (sDrop (sC S1) (nI (4 * vn + sn))) := by unfold oMv2; rw [e4x]
  have eL : sL S 0 = sL (stC S1 (sDrop (sC S1) (nI (4 * vn + sn)))) 0 := by rw [← esl]; rfl
  have eC : sClk (stC S1 (sDrop (sC S1) (nI (4 * vn + sn)))) = sClk S := by rw [← eck]; rfl
  have L2 : LG w (stC S1 (sDrop (sC S1) (nI (4 * vn + sn)))) G := L1
  rw [e2, eL]
  generalize stC S1 (sDrop (sC S1) (nI (4 * vn + sn))) = S2 at X2 eC L2 ⊢
  exact c96c hw hs X2 L2 (s1.tr s2) hl eC
theorem c96d {d : Nat} {h : zH} {m w vn sn lo : Nat} {S : sS} {G : List (Nat × (Nat → Int32))} {f4 l5 l6 : Int32} (hw : w ≤ 4) (hv : vn ≤ w) (hs : sn < 4) (X : MH h m w S G) (L : LG w S G) (ol : okL w S) (hlo : sLo S sn = nI lo) (hlw : lo ≤ w)
    (hl6 : (l6 = 0 ∧ ¬ (sEls S sn (nI vn) ∧ ¬ nI (4 * lo + sn) ∈ sC S)) ∨ (l6 = 1 ∧ sEls S sn (nI vn) ∧ ¬ nI (4 * lo + sn) ∈ sC S)) :
    zWp zm96 (zD (d + 2)) (fun r h' => r = none ∧ MM h' m w (oUp2 S sn (nI vn) f4) ∧ zJ (yA m) h h') 0 0 115 [some (.inr m), some (.inl (nI vn)), some (.inl f4), some (.inl (nI sn)), some (.inl (nI lo)), some (.inl l5), some (.inl l6), none, none] [.inl (nI (flt 0 G).length)] h := by
  obtain ⟨c1, c2, c3⟩ := X.c
  obtain ⟨n, hn⟩ : ∃ n, (sC S).length = n := ⟨_, rfl⟩
  rw [hn] at c1 c2
  have ep : 4 * sLo S sn + nI sn = nI (4 * lo + sn) := by rw [hlo, e4x]
  have hD0 := ol 0 (Nat.zero_le _)
  rw [show nC 0 = 4 from rfl] at hD0
  have e4 : (nI (flt 0 G).length = 4) ↔ (sD S 0).length = 4 := by rw [L.2 0 (Nat.zero_le _)] at hD0 ⊢; exact nI_eq (b := 4) (by omega) (by decide)
  have h12 : ¬ (sD S 0).length = 4 → G.length < 12 := fun z => L.lt hw ol (Nat.zero_le _) (by rw [show nC 0 = 4 from rfl]; omega)
  have abort : ((sD S 0).length = 4 ∨ ¬ sMay S sn (nI sn) (nI vn)) → ∃ Q, zD (d + 2) 95 [.inr m, .inl 0, .inl (nI vn), .inl f4, .inl 0] h Q ∧ ∀ v h1, Q v h1 → zWp zm96 (zD (d + 2)) (fun r h' => r = none ∧ MM h' m w (oUp2 S sn (nI vn) f4) ∧ zJ (yA m) h h') 0 0 141 [some (.inr m), some (.inl (nI vn)), some (.inl f4), some (.inl (nI sn)), some (.inl (nI lo)), some (.inl l5), some (.inl l6), none, none] (v.toList ++ []) h1 := by
    intro hA
    have eU : oUp2 S sn (nI vn) f4 = oSend S (sRow [0, nI vn, 40, 0, 0, f4, 0]) := by unfold oUp2; rw [if_pos hA]
    rw [eU]
    refine ⟨_, c95 X, ?_⟩
    rintro r h1 ⟨rfl, X1, s1⟩
    exact r96_141 ⟨rfl, ⟨G, X1, L⟩, s1⟩
  rcases hl6 with ⟨rfl, hm⟩ | ⟨rfl, hE, hP⟩
  · have hMay : sMay S sn (nI sn) (nI vn) := by
      unfold sMay
      rw [ep]
      by_cases z : sEls S sn (nI vn)
      · exact Or.inr (Or.inl (Classical.byContradiction fun y => hm ⟨z, y⟩))
      · exact Or.inl z
    refine r96_115 ⟨fun q => ⟨X.1.1, abort (Or.inl (e4.mp q))⟩, fun q => ⟨fun _ => ⟨fun _ => ⟨X.1.1, ?_⟩, fun z => absurd rfl z⟩, fun z => absurd rfl z⟩⟩
    have h4 : ¬ (sD S 0).length = 4 := fun z => q (e4.mpr z)
    exact c96e hw hv hs (fun z => z.elim h4 (fun y => y hMay)) X L zJ.rf (h12 h4) (oMv1_same ep hm).symm rfl rfl
  · have hMay : ¬ n = 6 → sMay S sn (nI sn) (nI vn) := fun z => by unfold sMay; rw [hn]; exact Or.inr (Or.inr z)
    have hMay6 : n = 6 → ¬ sMay S sn (nI sn) (nI vn) := fun z y => by
      unfold sMay at y
      rw [ep, hn] at y
      exact y.elim (fun a => a hE) (fun b => b.elim hP (fun c => c z))
    have e6 : (nI n = 6) ↔ n = 6 := nI_eq (b := 6) (by omega) (by decide)
    have n1 : ¬ (1 : Int32) = 0 := by decide
    refine r96_115 ⟨fun q => ⟨X.1.1, abort (Or.inl (e4.mp q))⟩, fun q => ⟨fun z => absurd z n1, fun _ => ⟨X.1.1, fun q6 => ⟨fun z => absurd z n1, fun _ => ?_⟩, fun q6 => ⟨X.1.1, abort (Or.inr (hMay6 (by rw [c2] at q6; exact e6.mp q6)))⟩⟩⟩⟩
    rw [c2] at q6
    have hn6 : ¬ n = 6 := fun z => q6 (e6.mpr z)
    have h4 : ¬ (sD S 0).length = 4 := fun z => q (e4.mpr z)
    have j0 := nI_clamp (show n < 2 ^ 31 by omega)
    have v1 : vp_in (nI n) 7 := vp_in_nI (by omega) (by omega)
    have P := X.cpush hn (by omega) hlw hs
    have e1 : stC S (sC S ++ [nI (4 * lo + sn)]) = oMv1 S sn (nI sn) (nI vn) := by
      unfold oMv1
      rw [if_pos hE, ep]
      unfold sAdd
      rw [if_neg hP, if_neg (by rw [hn]; exact hn6)]
    have x6_0 : ∀ (h : zH) (k i : Nat) (v : Int32), zI (zwI h (m + 6) k v) m i = zI h m i := fun _ _ _ _ => zI_oa (by omega)
    have x7_0 : ∀ (h : zH) (k i : Nat) (v : Int32), zI (zwI h (m + 7) k v) m i = zI h m i := fun _ _ _ _ => zI_oa (by omega)
    obtain ⟨k0, ⟨r1, r2, r3, r4, r5, r6, r7, r8, r9, r10, r11, r12, r13, r14, r15, r16, r17, r18, r19, r20, r21, r22, r23⟩, ⟨k1, k2, k3, k4, k5, k6, k7, k8, k9, k10, k11, k12, k13, k14, k15, k16, k17, k18, k19, k20, k21, k22, k23⟩, ⟨l1, l2, l3, l4, l5, l6, l7, l8, l9, l10, l11, l12, l13, l14, l15, l16, l17, l18, l19, l20, l21, l22, l23⟩⟩ := X.1
    simp only [k0, r1, r2, r3, r4, r5, r6, r7, r8, r9, r10, r11, r12, r13, r14, r15, r16, r17, r18, r19, r20, r21, r22, r23, k1, k2, k3, k4, k5, k6, k7, k8, k9, k10, k11, k12, k13, k14, k15, k16, k17, k18, k19, k20, k21, k22, k23, l1, l2, l3, l4, l5, l6, l7, l8, l9, l10, l11, l12, l13, l14, l15, l16, l17, l18, l19, l20, l21, l22, l23, true_and, true_or, or_true, zK_wI, zL_wI, zR_wI, forall_eq, x6_0, x7_0, c2, j0, v1]
    clear k0 r1 r2 r3 r4 r5 r6 r7 r8 r9 r10 r11 r12 r13 r14 r15 r16 r17 r18 r19 r20 r21 r22 r23 k1 k2 k3 k4 k5 k6 k7 k8 k9 k10 k11 k12 k13 k14 k15 k16 k17 k18 k19 k20 k21 k22 k23 l1 l2 l3 l4 l5 l6 l7 l8 l9 l10 l11 l12 l13 l14 l15 l16 l17 l18 l19 l20 l21 l22 l23
    exact c96e hw hv hs (fun z => z.elim h4 (fun y => y (hMay hn6))) P.1 L P.2 (h12 h4) e1 rfl rfl
