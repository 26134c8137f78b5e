theorem MH.ans {h : zH} {m w n v : Nat} {S : sS} {G : List (Nat × (Nat → Int32))} {g g' : Nat → Int32} {x : Int32} (X : MH h m w S (G ++ [(v, g)])) (hn : G.length = n) (hg : ∀ i, i < 5 → g' i = g i) (h5 : g' 5 = x) :
    MH (zwI h (m + 19) n x) m w S (G ++ [(v, g')]) := by
  obtain ⟨y1, y2, y3⟩ := X.gg
  have el : (G ++ [(v, g')]).length = (G ++ [(v, g)]).length := by rw [List.length_append, List.length_append]; rfl
  have hlast : (G ++ [(v, g)])[n]? = some (v, g) := by rw [List.getElem?_append_right (by omega), hn, Nat.sub_self]; rfl
  have hlast' : (G ++ [(v, g')])[n]? = some (v, g') := by rw [List.getElem?_append_right (by omega), hn, Nat.sub_self]; rfl
  have ell : (G ++ [(v, g')]).length = n + 1 := by rw [List.length_append, hn]; rfl
  refine X.G (S' := S) (zJ.wI (by omega)) (fun i _ => zI_oa (by omega)) (fun u hu => (zI_oa (by omega)).trans (X.l hu)) ⟨by rw [el]; exact y1, by rw [zI_oa (by omega), y2, el], fun j p hp => ?_⟩ rfl rfl rfl rfl rfl rfl rfl rfl rfl rfl rfl
  by_cases hj : j < n
  · rw [List.getElem?_append_left (by omega)] at hp
    exact rG_mv (fun t _ => zI_ok (by omega)) (y3 j p (by rw [List.getElem?_append_left (by omega)]; exact hp))
  · have hl := lt_at hp
    have ej : j = n := by omega
    subst ej
    rw [hlast'] at hp
    cases hp
    obtain ⟨z1, z2, z3, z4, z5, z6, z7⟩ := y3 j (v, g) hlast
    have z1 : zI h (m + 13) j = nI v := z1
    have z2 : zI h (m + 14) j = g 0 := z2
    have z3 : zI h (m + 15) j + 1 = g 1 := z3
    have z4 : zI h (m + 16) j = g 3 := z4
    have z5 : zI h (m + 17) j = g 2 := z5
    have z6 : zI h (m + 18) j = g 4 := z6
    show zI (zwI h (m + 19) j x) (m + 13) j = nI v ∧ zI (zwI h (m + 19) j x) (m + 14) j = g' 0 ∧ zI (zwI h (m + 19) j x) (m + 15) j + 1 = g' 1 ∧ zI (zwI h (m + 19) j x) (m + 16) j = g' 3 ∧ zI (zwI h (m + 19) j x) (m + 17) j = g' 2 ∧ zI (zwI h (m + 19) j x) (m + 18) j = g' 4 ∧ zI (zwI h (m + 19) j x) (m + 19) j = g' 5
    rw [hg 0 (by decide), hg 1 (by decide), hg 2 (by decide), hg 3 (by decide), hg 4 (by decide), h5]
    exact ⟨(zI_oa (by omega)).trans z1, (zI_oa (by omega)).trans z2, by rw [zI_oa (by omega)]; exact z3, (zI_oa (by omega)).trans z4, (zI_oa (by omega)).trans z5, (zI_oa (by omega)).trans z6, zI_at⟩
theorem MH.eqv {h : zH} {m w : Nat} {S S' : sS} {G : List (Nat × (Nat → Int32))} (X : MH h m w S G) (e0 : sClk S' = sClk S) (e1 : sDg S' = sDg S) (e2 : sLo S' = sLo S) (e3 : sHe S' = sHe S) (e4 : sSt S' = sSt S) (e5 : sO S' = sO S) (e6 : sU S' = sU S) (e7 : sT S' = sT S) (e8 : sC S' = sC S) (e9 : sQ S' = sQ S) (e10 : sF S' = sF S) (e11 : sL S' = sL S) : MH h m w S' G := by
  unfold MH
  rw [e0, e1, e2, e3, e4, e5, e6, e7, e8, e9, e10, e11]
  exact X
theorem oB_sClk {S : sS} {v : Nat} {b c e k x : Int32} : sClk (oBegin S v b c e k x) = sClk S := rfl
theorem oB_sDg {S : sS} {v : Nat} {b c e k x : Int32} : sDg (oBegin S v b c e k x) = sDg S := rfl
theorem oB_sLo {S : sS} {v : Nat} {b c e k x : Int32} : sLo (oBegin S v b c e k x) = sLo S := rfl
theorem oB_sHe {S : sS} {v : Nat} {b c e k x : Int32} : sHe (oBegin S v b c e k x) = sHe S := rfl
theorem oB_sSt {S : sS} {v : Nat} {b c e k x : Int32} : sSt (oBegin S v b c e k x) = sSt S := rfl
theorem oB_sO {S : sS} {v : Nat} {b c e k x : Int32} : sO (oBegin S v b c e k x) = sO S := rfl
theorem oB_sU {S : sS} {v : Nat} {b c e k x : Int32} : sU (oBegin S v b c e k x) = sU S := rfl
theorem oB_sT {S : sS} {v : Nat} {b c e k x : Int32} : sT (oBegin S v b c e k x) = sT S := rfl
theorem oB_sC {S : sS} {v : Nat} {b c e k x : Int32} : sC (oBegin S v b c e k x) = sC S := rfl
theorem oB_sQ {S : sS} {v : Nat} {b c e k x : Int32} : sQ (oBegin S v b c e k x) = sQ S := rfl
theorem oB_sF {S : sS} {v : Nat} {b c e k x : Int32} : sF (oBegin S v b c e k x) = sF S := rfl
theorem oB_sL {S : sS} {v : Nat} {b c e k x : Int32} : sL (oBegin S v b c e k x) = upd (sL S) v (sL S v + 1) := rfl
theorem MH.an {h : zH} {m w v : Nat} {S : sS} {G : List (Nat × (Nat → Int32))} {b c e k y x : Int32} (X : MH h m w (oBegin S v b c e k y) G) : MH h m w (oBegin S v b c e k x) G :=
  X.eqv (oB_sClk.trans oB_sClk.symm) (oB_sDg.trans oB_sDg.symm) (oB_sLo.trans oB_sLo.symm) (oB_sHe.trans oB_sHe.symm) (oB_sSt.trans oB_sSt.symm) (oB_sO.trans oB_sO.symm) (oB_sU.trans oB_sU.symm) (oB_sT.trans oB_sT.symm) (oB_sC.trans oB_sC.symm) (oB_sQ.trans oB_sQ.symm) (oB_sF.trans oB_sF.symm) (oB_sL.trans oB_sL.symm)
theorem c96b {d : Nat} {h h2 : zH} {m w sn : Nat} {S2 : sS} {G2 : List (Nat × (Nat → Int32))} {f0 f4 l4 l5 l6 l7 ck : Int32} (hw : w ≤ 4) (hs : sn < 4) (X2 : MH h2 m w S2 G2) (L2 : LG w S2 G2) (s2 : zJ (yA m) h h2) (hl : G2.length < 12) (hck : sClk S2 = ck) :
    zWp zm96 (zD (d + 2)) (fun r h' => r = none ∧ MM h' m w (oSend (oBegin (oMv4 S2 sn f0) 0 2 f0 (nI sn) (ck + 6) f4) (sRow [0, f0, 22, nI sn, sL S2 0 + 1, f4, 0])) ∧ zJ (yA m) h h') 0 0 205 [some (.inr m), some (.inl f0), some (.inl f4), some (.inl (nI sn)), some (.inl l4), some (.inl l5), some (.inl l6), some (.inl l7), none] [] h2 := by
  have jS := nI_clamp (show sn < 2 ^ 31 by omega)
  have vS : vp_in (nI sn) 4 := vp_in_nI (by omega) (by omega)
  have hX2 : MH (zwI h2 (m + 2) sn f0) m w (oMv4 S2 sn f0) G2 := X2.wlo
  have hL2 : LG w (oMv4 S2 sn f0) G2 := L2
  have hk2 : sClk (oMv4 S2 sn f0) = ck := hck
  have hl2 : sL (oMv4 S2 sn f0) 0 = sL S2 0 := rfl
  generalize oMv4 S2 sn f0 = S3 at hX2 hL2 hk2 hl2 ⊢
  generalize sL S2 0 = lv at hl2 ⊢
  refine r96_205 ?_
  obtain ⟨k0, ⟨r1, r2, r3, r4, r5, r6, r7, r8, r9, r10, r11, r12, r13, r14, r15, r16, r17, r18, r19, r20, r21, r22, r23⟩, ⟨k1, k2, k3, k4, k5, k6, k7, k8, k9, k10, k11, k12, k13, k14, k15, k16, k17, k18, k19, k20, k21, k22, k23⟩, ⟨l1, l2, l3, l4, l5, l6, l7, l8, l9, l10, l11, l12, l13, l14, l15, l16, l17, l18, l19, l20, l21, l22, l23⟩⟩ := X2.1
  simp only [k0, r1, r2, r3, r4, r5, r6, r7, r8, r9, r10, r11, r12, r13, r14, r15, r16, r17, r18, r19, r20, r21, r22, r23, k1, k2, k3, k4, k5, k6, k7, k8, k9, k10, k11, k12, k13, k14, k15, k16, k17, k18, k19, k20, k21, k22, k23, l1, l2, l3, l4, l5, l6, l7, l8, l9, l10, l11, l12, l13, l14, l15, l16, l17, l18, l19, l20, l21, l22, l23, true_and, true_or, or_true, zK_wI, zL_wI, zR_wI, forall_eq, jS, vS]
  clear k0 r1 r2 r3 r4 r5 r6 r7 r8 r9 r10 r11 r12 r13 r14 r15 r16 r17 r18 r19 r20 r21 r22 r23 k1 k2 k3 k4 k5 k6 k7 k8 k9 k10 k11 k12 k13 k14 k15 k16 k17 k18 k19 k20 k21 k22 k23 l1 l2 l3 l4 l5 l6 l7 l8 l9 l10 l11 l12 l13 l14 l15 l16 l17 l18 l19 l20 l21 l22 l23
  have k84 := c84k (d := d + 1) (v := 0) (kd := 1) (kk := 2) (su := nI sn) (wi := f0) (la := 6) rfl hk2 hl2 hw (Nat.zero_le _) hl hX2
  have L3 : LG w (oBegin S3 0 2 f0 (nI sn) (ck + 6) f4) (G2 ++ [(0, sRow [lv + 1, 2, f0, nI sn, ck + 6, f4])]) := by rw [← hl2]; exact hL2.beg (Nat.zero_le _)
  have conv : ∀ h3 : zH, MH h3 m w (oBegin S3 0 2 f0 (nI sn) (ck + 6) 0) (G2 ++ [(0, sRow [lv + 1, 2, f0, nI sn, ck + 6, 0])]) → MH (zwI h3 (m + 19) G2.length f4) m w (oBegin S3 0 2 f0 (nI sn) (ck + 6) f4) (G2 ++ [(0, sRow [lv + 1, 2, f0, nI sn, ck + 6, f4])]) := fun h3 X3 => (X3.an (x := f4)).ans rfl (fun i hi => by
    have : i = 0 ∨ i = 1 ∨ i = 2 ∨ i = 3 ∨ i = 4 := by omega
    rcases this with rfl | rfl | rfl | rfl | rfl <;> simp [sRow]) rfl
  generalize oBegin S3 0 2 f0 (nI sn) (ck + 6) f4 = S4 at L3 conv ⊢
  generalize hSB : oBegin S3 0 2 f0 (nI sn) (ck + 6) 0 = SB at conv k84
  generalize hg4 : sRow [lv + 1, 2, f0, nI sn, ck + 6, f4] = g4 at L3 conv
  generalize hgB : sRow [lv + 1, 2, f0, nI sn, ck + 6, 0] = gB at conv k84
  refine ⟨_, k84, ?_⟩
  rintro r h3 ⟨rfl, X3, s3⟩
  have y16 := X3.gg.2.1
  rw [List.length_append] at y16
  have e16 : zI h3 m 16 - 1 = nI G2.length := by rw [y16]; exact pk_sub (b := 1) (Nat.succ_le_succ (Nat.zero_le _))
  have j2 := nI_clamp (show G2.length < 2 ^ 31 by omega)
  have v2 : vp_in (nI G2.length) 12 := vp_in_nI (by omega) (by omega)
  have X3' := conv h3 X3
  refine r96_222 ?_
  obtain ⟨k0, ⟨r1, r2, r3, r4, r5, r6, r7, r8, r9, r10, r11, r12, r13, r14, r15, r16, r17, r18, r19, r20, r21, r22, r23⟩, ⟨k1, k2, k3, k4, k5, k6, k7, k8, k9, k10, k11, k12, k13, k14, k15, k16, k17, k18, k19, k20, k21, k22, k23⟩, ⟨l1, l2, l3, l4, l5, l6, l7, l8, l9, l10, l11, l12, l13, l14, l15, l16, l17, l18, l19, l20, l21, l22, l23⟩⟩ := X3.1
  simp only [k0, r1, r2, r3, r4, r5, r6, r7, r8, r9, r10, r11, r12, r13, r14, r15, r16, r17, r18, r19, r20, r21, r22, r23, k1, k2, k3, k4, k5, k6, k7, k8, k9, k10, k11, k12, k13, k14, k15, k16, k17, k18, k19, k20, k21, k22, k23, l1, l2, l3, l4, l5, l6, l7, l8, l9, l10, l11, l12, l13, l14, l15, l16, l17, l18, l19, l20, l21, l22, l23, true_and, true_or, or_true, zK_wI, zL_wI, zR_wI, forall_eq, e16, j2, v2]
  clear k0 r1 r2 r3 r4 r5 r6 r7 r8 r9 r10 r11 r12 r13 r14 r15 r16 r17 r18 r19 r20 r21 r22 r23 k1 k2 k3 k4 k5 k6 k7 k8 k9 k10 k11 k12 k13 k14 k15 k16 k17 k18 k19 k20 k21 k22 k23 l1 l2 l3 l4 l5 l6 l7 l8 l9 l10 l11 l12 l13 l14 l15 l16 l17 l18 l19 l20 l21 l22 l23
  refine ⟨_, c87 X3', ?_⟩
  rintro r h4 ⟨rfl, X4, s4⟩
  exact r96_249 ⟨rfl, ⟨_, X4, L3⟩, s2.tr ((zJ.wI (by unfold yA; omega)).tr (s3.tr ((zJ.wI (by unfold yA; omega)).tr s4)))⟩
