theorem wV_m1 {x : Int32} (h2 : (2 : Int32) ≤ x) (h4 : x ≤ (4 : Int32)) : x = nI (wV x) := by
  rw [Int32.le_iff_toInt_le] at h2 h4
  have a2 : (2 : Int32).toInt = 2 := by decide
  have a3 : (3 : Int32).toInt = 3 := by decide
  have a4 : (4 : Int32).toInt = 4 := by decide
  have hc : x = 2 ∨ x = 3 ∨ x = 4 := by
    rcases (show x.toInt = 2 ∨ x.toInt = 3 ∨ x.toInt = 4 by omega) with e | e | e
    · exact Or.inl (Int32.toInt_inj.mp (e.trans a2.symm))
    · exact Or.inr (Or.inl (Int32.toInt_inj.mp (e.trans a3.symm)))
    · exact Or.inr (Or.inr (Int32.toInt_inj.mp (e.trans a4.symm)))
  rcases hc with rfl | rfl | rfl <;> decide
theorem wV_m2 {x : Int32} (h4 : ¬ x ≤ (4 : Int32)) : (4 : Int32) = nI (wV x) := by
  rw [Int32.le_iff_toInt_le] at h4
  have a3 : (3 : Int32).toInt = 3 := by decide
  have a4 : (4 : Int32).toInt = 4 := by decide
  unfold wV
  rw [if_neg (by rw [Int32.lt_iff_toInt_lt]; omega), if_neg (by rw [Int32.lt_iff_toInt_lt]; omega)]; rfl
theorem wV_m3 {x : Int32} (h2 : ¬ (2 : Int32) ≤ x) : (2 : Int32) = nI (wV x) := by
  rw [Int32.le_iff_toInt_le] at h2
  have a2 : (2 : Int32).toInt = 2 := by decide
  have a3 : (3 : Int32).toInt = 3 := by decide
  unfold wV
  rw [if_pos (by rw [Int32.lt_iff_toInt_lt]; omega)]; rfl
/-! ===== the reference's constructor ===== -/
def zRm0 (a : Nat) : Nat → Nat := r0
def zRm1 (a : Nat) : Nat → Nat := updN (zRm0 a) 2 (a + 1)
def zRm2 (a : Nat) : Nat → Nat := updN (zRm1 a) 3 (a + 2)
def zRm3 (a : Nat) : Nat → Nat := updN (zRm2 a) 5 (a + 3)
def zRm4 (a : Nat) : Nat → Nat := updN (zRm3 a) 6 (a + 4)
def zRm5 (a : Nat) : Nat → Nat := updN (zRm4 a) 7 (a + 5)
def zRm6 (a : Nat) : Nat → Nat := updN (zRm5 a) 9 (a + 6)
def zRm7 (a : Nat) : Nat → Nat := updN (zRm6 a) 10 (a + 7)
def zRm8 (a : Nat) : Nat → Nat := updN (zRm7 a) 11 (a + 8)
def zRm9 (a : Nat) : Nat → Nat := updN (zRm8 a) 12 (a + 9)
def zRm10 (a : Nat) : Nat → Nat := updN (zRm9 a) 13 (a + 10)
def zRm11 (a : Nat) : Nat → Nat := updN (zRm10 a) 14 (a + 11)
def zRm12 (a : Nat) : Nat → Nat := updN (zRm11 a) 15 (a + 12)
def zRm13 (a : Nat) : Nat → Nat := updN (zRm12 a) 17 (a + 13)
def zRm14 (a : Nat) : Nat → Nat := updN (zRm13 a) 18 (a + 14)
def zRm15 (a : Nat) : Nat → Nat := updN (zRm14 a) 19 (a + 15)
def zRm16 (a : Nat) : Nat → Nat := updN (zRm15 a) 20 (a + 16)
def zRm17 (a : Nat) : Nat → Nat := updN (zRm16 a) 21 (a + 17)
def zRm18 (a : Nat) : Nat → Nat := updN (zRm17 a) 22 (a + 18)
def zRm19 (a : Nat) : Nat → Nat := updN (zRm18 a) 23 (a + 19)
def zRm20 (a : Nat) : Nat → Nat := updN (zRm19 a) 25 (a + 20)
def zRm21 (a : Nat) : Nat → Nat := updN (zRm20 a) 26 (a + 21)
def zRm22 (a : Nat) : Nat → Nat := updN (zRm21 a) 28 (a + 22)
def zRm23 (a : Nat) : Nat → Nat := updN (zRm22 a) 29 (a + 23)
def Am0 : List zC := []
def Am1 : List zC := Am0 ++ [(1, 4, z0, r0)]
def Am2 : List zC := Am1 ++ [(1, 4, z0, r0)]
def Am3 : List zC := Am2 ++ [(1, 6, z0, r0)]
def Am4 : List zC := Am3 ++ [(1, 6, z0, r0)]
def Am5 : List zC := Am4 ++ [(2, 6, z0, r0)]
def Am6 : List zC := Am5 ++ [(1, 7, z0, r0)]
def Am7 : List zC := Am6 ++ [(1, 7, z0, r0)]
def Am8 : List zC := Am7 ++ [(2, 20, z0, r0)]
def Am9 : List zC := Am8 ++ [(1, 20, z0, r0)]
def Am10 : List zC := Am9 ++ [(1, 10, z0, r0)]
def Am11 : List zC := Am10 ++ [(1, 10, z0, r0)]
def Am12 : List zC := Am11 ++ [(1, 5, z0, r0)]
def Am13 : List zC := Am12 ++ [(1, 12, z0, r0)]
def Am14 : List zC := Am13 ++ [(1, 12, z0, r0)]
def Am15 : List zC := Am14 ++ [(1, 12, z0, r0)]
def Am16 : List zC := Am15 ++ [(1, 12, z0, r0)]
def Am17 : List zC := Am16 ++ [(1, 12, z0, r0)]
def Am18 : List zC := Am17 ++ [(1, 12, z0, r0)]
def Am19 : List zC := Am18 ++ [(1, 12, z0, r0)]
def Am20 : List zC := Am19 ++ [(1, 520, z0, r0)]
def Am21 : List zC := Am20 ++ [(1, 520, z0, r0)]
def Am22 : List zC := Am21 ++ [(1, 192, z0, r0)]
def Am23 : List zC := Am22 ++ [(1, 8, z0, r0)]
theorem c74 {d a : Nat} {h : zH} {x : Int32} (H : Hp h h a [(21, 0, z0, r0)]) : zD (d + 1) 74 [.inr a, .inl x] h (fun r h' => r = none ∧ Hp h h' a ((21, 0, cI (wV x), zRm23 a) :: (Am9 ++ (1, 10, zfM 10, r0) :: [(1, 10, z0, r0), (1, 5, z0, r0), (1, 12, z0, r0), (1, 12, z0, r0), (1, 12, z0, r0), (1, 12, z0, r0), (1, 12, z0, r0), (1, 12, z0, r0), (1, 12, z0, r0), (1, 520, z0, r0), (1, 520, z0, r0), (1, 192, z0, r0), (1, 8, z0, r0)]))) := by
  have H0 : Hp h h a ((21, 0, z0, zRm0 a) :: Am0) := H
  refine zD_of rfl (r74_0 ⟨H0.k (i := 0) rfl rfl, by decide, by decide, by decide, by decide, ?_⟩)
  intro u1 e1
  have U1 : Hp h u1 a ((21, 0, z0, zRm0 a) :: Am1) := by rw [e1]; exact H0.new
  refine ⟨U1.k (i := 0) rfl rfl, ?_⟩
  intro h1 f1
  have H1 : Hp h h1 a ((21, 0, z0, zRm1 a) :: Am1) := by rw [f1, H0.1]; exact U1.wR (i := 0) rfl
  clear e1 f1 U1
  refine ⟨by decide, by decide, by decide, by decide, ?_⟩
  intro u2 e2
  have U2 : Hp h u2 a ((21, 0, z0, zRm1 a) :: Am2) := by rw [e2]; exact H1.new
  refine ⟨U2.k (i := 0) rfl rfl, ?_⟩
  intro h2 f2
  have H2 : Hp h h2 a ((21, 0, z0, zRm2 a) :: Am2) := by rw [f2, H1.1]; exact U2.wR (i := 0) rfl
  clear e2 f2 U2 H1
  refine ⟨by decide, by decide, by decide, by decide, ?_⟩
  intro u3 e3
  have U3 : Hp h u3 a ((21, 0, z0, zRm2 a) :: Am3) := by rw [e3]; exact H2.new
  refine ⟨U3.k (i := 0) rfl rfl, ?_⟩
  intro h3 f3
  have H3 : Hp h h3 a ((21, 0, z0, zRm3 a) :: Am3) := by rw [f3, H2.1]; exact U3.wR (i := 0) rfl
  clear e3 f3 U3 H2
  refine ⟨by decide, by decide, by decide, by decide, ?_⟩
  intro u4 e4
  have U4 : Hp h u4 a ((21, 0, z0, zRm3 a) :: Am4) := by rw [e4]; exact H3.new
  refine ⟨U4.k (i := 0) rfl rfl, ?_⟩
  intro h4 f4
  have H4 : Hp h h4 a ((21, 0, z0, zRm4 a) :: Am4) := by rw [f4, H3.1]; exact U4.wR (i := 0) rfl
  clear e4 f4 U4 H3
  refine ⟨by decide, by decide, by decide, by decide, ?_⟩
  intro u5 e5
  have U5 : Hp h u5 a ((21, 0, z0, zRm4 a) :: Am5) := by rw [e5]; exact H4.new
  refine ⟨U5.k (i := 0) rfl rfl, ?_⟩
  intro h5 f5
  have H5 : Hp h h5 a ((21, 0, z0, zRm5 a) :: Am5) := by rw [f5, H4.1]; exact U5.wR (i := 0) rfl
  clear e5 f5 U5 H4
  refine ⟨by decide, by decide, by decide, by decide, ?_⟩
  intro u6 e6
  have U6 : Hp h u6 a ((21, 0, z0, zRm5 a) :: Am6) := by rw [e6]; exact H5.new
  refine ⟨U6.k (i := 0) rfl rfl, ?_⟩
  intro h6 f6
  have H6 : Hp h h6 a ((21, 0, z0, zRm6 a) :: Am6) := by rw [f6, H5.1]; exact U6.wR (i := 0) rfl
  clear e6 f6 U6 H5
  refine ⟨by decide, by decide, by decide, by decide, ?_⟩
  intro u7 e7
  have U7 : Hp h u7 a ((21, 0, z0, zRm6 a) :: Am7) := by rw [e7]; exact H6.new
  refine ⟨U7.k (i := 0) rfl rfl, ?_⟩
  intro h7 f7
  have H7 : Hp h h7 a ((21, 0, z0, zRm7 a) :: Am7) := by rw [f7, H6.1]; exact U7.wR (i := 0) rfl
  clear e7 f7 U7 H6
  refine ⟨by decide, by decide, by decide, by decide, ?_⟩
  intro u8 e8
  have U8 : Hp h u8 a ((21, 0, z0, zRm7 a) :: Am8) := by rw [e8]; exact H7.new
  refine ⟨U8.k (i := 0) rfl rfl, ?_⟩
  intro h8 f8
  have H8 : Hp h h8 a ((21, 0, z0, zRm8 a) :: Am8) := by rw [f8, H7.1]; exact U8.wR (i := 0) rfl
  clear e8 f8 U8 H7
  refine ⟨by decide, by decide, by decide, by decide, ?_⟩
  intro u9 e9
  have U9 : Hp h u9 a ((21, 0, z0, zRm8 a) :: Am9) := by rw [e9]; exact H8.new
  refine ⟨U9.k (i := 0) rfl rfl, ?_⟩
  intro h9 f9
  have H9 : Hp h h9 a ((21, 0, z0, zRm9 a) :: Am9) := by rw [f9, H8.1]; exact U9.wR (i := 0) rfl
  clear e9 f9 U9 H8
  refine ⟨by decide, by decide, by decide, by decide, ?_⟩
  intro u10 e10
  have U10 : Hp h u10 a ((21, 0, z0, zRm9 a) :: Am10) := by rw [e10]; exact H9.new
  refine ⟨U10.k (i := 0) rfl rfl, ?_⟩
  intro h10 f10
  have H10 : Hp h h10 a ((21, 0, z0, zRm10 a) :: Am10) := by rw [f10, H9.1]; exact U10.wR (i := 0) rfl
  clear e10 f10 U10 H9
  refine ⟨by decide, by decide, by decide, by decide, ?_⟩
  intro u11 e11
  have U11 : Hp h u11 a ((21, 0, z0, zRm10 a) :: Am11) := by rw [e11]; exact H10.new
  refine ⟨U11.k (i := 0) rfl rfl, ?_⟩
  intro h11 f11
  have H11 : Hp h h11 a ((21, 0, z0, zRm11 a) :: Am11) := by rw [f11, H10.1]; exact U11.wR (i := 0) rfl
  clear e11 f11 U11 H10
  refine ⟨by decide, by decide, by decide, by decide, ?_⟩
  intro u12 e12
  have U12 : Hp h u12 a ((21, 0, z0, zRm11 a) :: Am12) := by rw [e12]; exact H11.new
  refine ⟨U12.k (i := 0) rfl rfl, ?_⟩
  intro h12 f12
  have H12 : Hp h h12 a ((21, 0, z0, zRm12 a) :: Am12) := by rw [f12, H11.1]; exact U12.wR (i := 0) rfl
  clear e12 f12 U12 H11
  refine ⟨by decide, by decide, by decide, by decide, ?_⟩
  intro u13 e13
  have U13 : Hp h u13 a ((21, 0, z0, zRm12 a) :: Am13) := by rw [e13]; exact H12.new
  refine ⟨U13.k (i := 0) rfl rfl, ?_⟩
  intro h13 f13
  have H13 : Hp h h13 a ((21, 0, z0, zRm13 a) :: Am13) := by rw [f13, H12.1]; exact U13.wR (i := 0) rfl
  clear e13 f13 U13 H12
  refine ⟨by decide, by decide, by decide, by decide, ?_⟩
  intro u14 e14
  have U14 : Hp h u14 a ((21, 0, z0, zRm13 a) :: Am14) := by rw [e14]; exact H13.new
  refine ⟨U14.k (i := 0) rfl rfl, ?_⟩
  intro h14 f14
  have H14 : Hp h h14 a ((21, 0, z0, zRm14 a) :: Am14) := by rw [f14, H13.1]; exact U14.wR (i := 0) rfl
  clear e14 f14 U14 H13
  refine ⟨by decide, by decide, by decide, by decide, ?_⟩
  intro u15 e15
  have U15 : Hp h u15 a ((21, 0, z0, zRm14 a) :: Am15) := by rw [e15]; exact H14.new
  refine ⟨U15.k (i := 0) rfl rfl, ?_⟩
  intro h15 f15
  have H15 : Hp h h15 a ((21, 0, z0, zRm15 a) :: Am15) := by rw [f15, H14.1]; exact U15.wR (i := 0) rfl
  clear e15 f15 U15 H14
  refine ⟨by decide, by decide, by decide, by decide, ?_⟩
  intro u16 e16
  have U16 : Hp h u16 a ((21, 0, z0, zRm15 a) :: Am16) := by rw [e16]; exact H15.new
  refine ⟨U16.k (i := 0) rfl rfl, ?_⟩
  intro h16 f16
  have H16 : Hp h h16 a ((21, 0, z0, zRm16 a) :: Am16) := by rw [f16, H15.1]; exact U16.wR (i := 0) rfl
  clear e16 f16 U16 H15
  refine ⟨by decide, by decide, by decide, by decide, ?_⟩
  intro u17 e17
  have U17 : Hp h u17 a ((21, 0, z0, zRm16 a) :: Am17) := by rw [e17]; exact H16.new
  refine ⟨U17.k (i := 0) rfl rfl, ?_⟩
  intro h17 f17
  have H17 : Hp h h17 a ((21, 0, z0, zRm17 a) :: Am17) := by rw [f17, H16.1]; exact U17.wR (i := 0) rfl
  clear e17 f17 U17 H16
  refine ⟨by decide, by decide, by decide, by decide, ?_⟩
  intro u18 e18
  have U18 : Hp h u18 a ((21, 0, z0, zRm17 a) :: Am18) := by rw [e18]; exact H17.new
  refine ⟨U18.k (i := 0) rfl rfl, ?_⟩
  intro h18 f18
  have H18 : Hp h h18 a ((21, 0, z0, zRm18 a) :: Am18) := by rw [f18, H17.1]; exact U18.wR (i := 0) rfl
  clear e18 f18 U18 H17
  refine ⟨by decide, by decide, by decide, by decide, ?_⟩
  intro u19 e19
  have U19 : Hp h u19 a ((21, 0, z0, zRm18 a) :: Am19) := by rw [e19]; exact H18.new
  refine ⟨U19.k (i := 0) rfl rfl, ?_⟩
  intro h19 f19
  have H19 : Hp h h19 a ((21, 0, z0, zRm19 a) :: Am19) := by rw [f19, H18.1]; exact U19.wR (i := 0) rfl
  clear e19 f19 U19 H18
  refine ⟨by decide, by decide, by decide, by decide, ?_⟩
  intro u20 e20
  have U20 : Hp h u20 a ((21, 0, z0, zRm19 a) :: Am20) := by rw [e20]; exact H19.new
  refine ⟨U20.k (i := 0) rfl rfl, ?_⟩
  intro h20 f20
  have H20 : Hp h h20 a ((21, 0, z0, zRm20 a) :: Am20) := by rw [f20, H19.1]; exact U20.wR (i := 0) rfl
  clear e20 f20 U20 H19
  refine ⟨by decide, by decide, by decide, by decide, ?_⟩
  intro u21 e21
  have U21 : Hp h u21 a ((21, 0, z0, zRm20 a) :: Am21) := by rw [e21]; exact H20.new
  refine ⟨U21.k (i := 0) rfl rfl, ?_⟩
  intro h21 f21
  have H21 : Hp h h21 a ((21, 0, z0, zRm21 a) :: Am21) := by rw [f21, H20.1]; exact U21.wR (i := 0) rfl
  clear e21 f21 U21 H20
  refine ⟨by decide, by decide, by decide, by decide, ?_⟩
  intro u22 e22
  have U22 : Hp h u22 a ((21, 0, z0, zRm21 a) :: Am22) := by rw [e22]; exact H21.new
  refine ⟨U22.k (i := 0) rfl rfl, ?_⟩
  intro h22 f22
  have H22 : Hp h h22 a ((21, 0, z0, zRm22 a) :: Am22) := by rw [f22, H21.1]; exact U22.wR (i := 0) rfl
  clear e22 f22 U22 H21
  refine ⟨by decide, by decide, by decide, by decide, ?_⟩
  intro u23 e23
  have U23 : Hp h u23 a ((21, 0, z0, zRm22 a) :: Am23) := by rw [e23]; exact H22.new
  refine ⟨U23.k (i := 0) rfl rfl, ?_⟩
  intro h23 f23
  have H23 : Hp h h23 a ((21, 0, z0, zRm23 a) :: Am23) := by rw [f23, H22.1]; exact U23.wR (i := 0) rfl
  clear e23 f23 U23 H22
  have loop : ∀ (t k : Nat) (h5 : zH) (cu su : Nat), k + t = 10 → Hp h h5 a ((21, 0, cI (wV x), zRm23 a) :: (Am9 ++ (1, 10, zfM k, r0) :: [(1, 10, z0, r0), (1, 5, z0, r0), (1, 12, z0, r0), (1, 12, z0, r0), (1, 12, z0, r0), (1, 12, z0, r0), (1, 12, z0, r0), (1, 12, z0, r0), (1, 12, z0, r0), (1, 520, z0, r0), (1, 520, z0, r0), (1, 192, z0, r0), (1, 8, z0, r0)])) → zWp zm74 (zD d) (fun r h' => r = none ∧ Hp h h' a ((21, 0, cI (wV x), zRm23 a) :: (Am9 ++ (1, 10, zfM 10, r0) :: [(1, 10, z0, r0), (1, 5, z0, r0), (1, 12, z0, r0), (1, 12, z0, r0), (1, 12, z0, r0), (1, 12, z0, r0), (1, 12, z0, r0), (1, 12, z0, r0), (1, 12, z0, r0), (1, 520, z0, r0), (1, 520, z0, r0), (1, 192, z0, r0), (1, 8, z0, r0)]))) cu su 213 [some (.inr a), some (.inl x), some (.inl (nI k))] [] h5 := by
    intro t
    induction t with
    | zero =>
      intro k h5 cu su hk X
      have hk : k = 10 := hk
      exact r74_213 ⟨fun _ => ⟨rfl, by rw [hk] at X; exact X⟩, fun q => absurd (show nI 10 ≤ nI k from nI_le (by omega) (by omega)) q⟩
    | succ t ih =>
      intro k h5 cu su hk X
      have r1 : zR h5 a 13 = a + 10 := X.r (i := 0) rfl rfl
      have k1 : zK h5 (a + 10) = 1 := X.k (i := 10) rfl rfl
      have l1 : zL h5 (a + 10) = 10 := X.l (i := 10) rfl rfl
      refine r74_213 ⟨fun q => absurd (show nI 10 ≤ nI k from q) (nI_ge (by omega) (by omega)), fun _ => ?_⟩
      rw [r1, k1, l1, nI_clamp (show k < 2 ^ 31 by omega), nI_1]
      refine ⟨X.k (i := 0) rfl rfl, rfl, vp_in_nI (by omega) (by omega), ?_⟩
      intro h6 e6
      refine ih (k + 1) h6 cu su (by omega) ?_
      rw [e6, ← fM_s]; exact X.wI (i := 10) rfl
  have fin : ∀ (h5 : zH) (y : Int32), y = nI (wV x) → h5 = zwI h23 a 0 y → Hp h h5 a ((21, 0, cI (wV x), zRm23 a) :: (Am9 ++ (1, 10, zfM 0, r0) :: [(1, 10, z0, r0), (1, 5, z0, r0), (1, 12, z0, r0), (1, 12, z0, r0), (1, 12, z0, r0), (1, 12, z0, r0), (1, 12, z0, r0), (1, 12, z0, r0), (1, 12, z0, r0), (1, 520, z0, r0), (1, 520, z0, r0), (1, 192, z0, r0), (1, 8, z0, r0)])) := by
    intro h5 y ey e
    rw [e, ey, fM_0]; exact H23.wI (i := 0) rfl
  refine ⟨fun q2 => ⟨fun q4 => ⟨H23.k (i := 0) rfl rfl, fun h5 e5 => loop 10 0 h5 _ _ rfl (fin h5 _ ?_ e5)⟩, fun q4 => ⟨H23.k (i := 0) rfl rfl, fun h5 e5 => loop 10 0 h5 _ _ rfl (fin h5 _ ?_ e5)⟩⟩, fun q2 => ⟨H23.k (i := 0) rfl rfl, fun h5 e5 => loop 10 0 h5 _ _ rfl (fin h5 _ ?_ e5)⟩⟩
  · exact wV_m1 q2 q4
  · exact wV_m2 q4
  · exact wV_m3 q2
/-! ===== the first state ===== -/
def sIni : sS := (0, z0, z0, z0, z0, fun _ => -1, z0, [], [], [], [], fun _ => [], z0)
theorem cellsAt.pre {h : zH} {b : Nat} {A B : List zC} (c : cellsAt h b (A ++ B)) : cellsAt h b A := fun i x hx => c i x (by rw [List.getElem?_append_left (List.getElem?_eq_some_iff.mp hx).1]; exact hx)
theorem cellsAt.suf {h : zH} {b a : Nat} {A B : List zC} (c : cellsAt h b (A ++ B)) (ha : a = b + A.length) : cellsAt h a B := fun i x hx => by
  subst ha
  have := c (A.length + i) x (by rw [List.getElem?_append_right (by omega), Nat.add_sub_cancel_left]; exact hx)
  rw [Nat.add_assoc]; exact this
theorem gW_of {h : zH} {ka kr kd a n : Nat} (c : cellsAt h a (cRo ka kr kd a n n)) : gW h a ka kr kd n ∧ zI h a 1 = 0 ∧ zI h a 2 = 0 := by
  obtain ⟨a1, a2, a3, a4⟩ := c 0 _ rfl
  obtain ⟨b1, b2, b3, b4⟩ := c 1 _ rfl
  have e : ∀ k, k < n → zR h (a + 1) k = a + 2 + k := fun k hk => by
    rw [b4 k]; show rW a n k = _
    unfold rW; rw [if_pos hk]
  refine ⟨⟨a1, a4 0, b1, b2, fun b hb1 hb2 => ?_, fun k hk => by rw [e k hk]; omega, fun j k hj hk z => by rw [e j hj, e k hk] at z; omega⟩, a3 1, a3 2⟩
  have := (c (b - a) (kd, 0, z0, r0) (by
    rw [show b - a = (b - a - 2) + 1 + 1 by omega]
    show (List.replicate n _)[b - a - 2]? = _
    rw [List.getElem?_replicate, if_pos (by omega)])).1
  rw [show a + (b - a) = b by omega] at this
  exact this
theorem gsl_cells {h : zH} : ∀ (k v : Nat), cellsAt h 54 (gsl k) → 1 ≤ v → v ≤ k → cellsAt h (50 + 4 * v) (cRo 15 14 13 (50 + 4 * v) 2 2)
  | 0, v, _, h1, h2 => absurd h1 (by omega)
  | k + 1, v, c, h1, h2 => by
    have c : cellsAt h 54 (gsl k ++ cRo 15 14 13 (54 + 4 * k) 2 2) := c
    by_cases e : v = k + 1
    · subst e
      have := c.suf (a := 54 + 4 * k) (by rw [gsl_len])
      rw [show 50 + 4 * (k + 1) = 54 + 4 * k by omega]; exact this
    · exact gsl_cells k v c.pre h1 (by omega)
theorem XS_of {h : zH} {w : Nat} (hw : w ≤ 4) (c : cellsAt h 3 (zLc w w)) (g : gP h) : XS h w sIni := by
  have p11 : cellsAt h 3 ((3, 0, cI w, zRd) :: T11 w (w + 1)) := cellsAt.pre (B := gsl w) c
  have p10 : cellsAt h 3 ((3, 0, cI w, zRd) :: T10 w) := cellsAt.pre (B := [(16, w + 1, z0, oA (w + 1))]) p11
  have p9 : cellsAt h 3 ((3, 0, cI w, zRd) :: T9 w) := cellsAt.pre (B := cRo 15 14 13 47 4 4) p10
  have p8 : cellsAt h 3 ((3, 0, cI w, zRd) :: T8 w) := cellsAt.pre (B := cNu 44 (2 * (w + 1)) (2 * (w + 1))) p9
  have p7 : cellsAt h 3 ((3, 0, cI w, zRd) :: T7 w) := cellsAt.pre (B := [(1, 4 * (w + 1), z0, r0)]) p8
  have p6 : cellsAt h 3 ((3, 0, cI w, zRd) :: T6) := cellsAt.pre (B := [(2, 4 * (w + 1), z0, r0)]) p7
  have p5 : cellsAt h 3 ((3, 0, cI w, zRd) :: T5) := cellsAt.pre (B := [(17, 0, z0, r0)]) p6
  have net : cellsAt h 15 (cRo 19 18 17 15 24 24) := cellsAt.suf (A := (3, 0, cI w, zRd) :: T4) p5 rfl
  have hom : cellsAt h 47 (cRo 15 14 13 47 4 4) := cellsAt.suf (A := (3, 0, cI w, zRd) :: T9 w) p10 rfl
  have gs : cellsAt h 54 (gsl w) := cellsAt.suf (A := (3, 0, cI w, zRd) :: T11 w (w + 1)) c rfl
  have G : ∀ v, v ≤ w → gW h (nA v) 15 14 13 (nC v) ∧ zI h (nA v) 1 = 0 ∧ zI h (nA v) 2 = 0 := fun v hv => by
    by_cases e : v = 0
    · subst e; exact gW_of hom
    · rw [nA_pos (by omega), nC_pos (by omega)]; exact gW_of (gsl_cells w v gs (by omega) hv)
  obtain ⟨a1, a2, a3, a4⟩ := c 0 _ rfl
  obtain ⟨n1, n2, n3⟩ := gW_of net
  have o53 : ∀ v, v ≤ w → zR h 53 v = nA v := fun v hv => by
    rw [(p11 50 _ rfl).2.2.2 v]; show oA (w + 1) v = _
    unfold oA; rw [if_pos (by omega)]
  refine ⟨⟨a1, a3 0, ⟨a4 2, a4 3, a4 4, a4 5, a4 6, a4 7, a4 8, a4 9, a4 10, a4 11, a4 12, a4 13⟩, ⟨(p5 1 _ rfl).1, (p5 1 _ rfl).2.1, (p5 2 _ rfl).1, (p5 2 _ rfl).2.1, (p7 39 _ rfl).1, (p7 39 _ rfl).2.1, (p8 40 _ rfl).1, (p8 40 _ rfl).2.1, (p6 38 _ rfl).1, (p11 50 _ rfl).1, (p11 50 _ rfl).2.1⟩, o53⟩,
    ⟨(p5 3 _ rfl).1, (p5 3 _ rfl).2.2.2 0, (p5 3 _ rfl).2.2.2 1, (p5 3 _ rfl).2.2.2 2, (p5 4 _ rfl).1, (p5 5 _ rfl).1, (p5 6 _ rfl).1, (p5 4 _ rfl).2.1, (p5 5 _ rfl).2.1, (p5 6 _ rfl).2.1⟩,
    ⟨(p5 7 _ rfl).1, (p5 7 _ rfl).2.2.2 0, (p5 8 _ rfl).1, (p5 8 _ rfl).2.1⟩,
    ⟨(p5 9 _ rfl).1, (p5 9 _ rfl).2.2.2 0, (p5 9 _ rfl).2.2.2 1, (p5 10 _ rfl).1, (p5 11 _ rfl).1, (p5 10 _ rfl).2.1, (p5 11 _ rfl).2.1⟩,
    ⟨(p9 41 _ rfl).1, (p9 41 _ rfl).2.2.2 0, (p9 41 _ rfl).2.2.2 1, (p9 42 _ rfl).1, (p9 43 _ rfl).1, (p9 42 _ rfl).2.1, (p9 43 _ rfl).2.1⟩,
    g, n1, fun v hv => (G v hv).1, a3 1, fun s _ => (p5 1 _ rfl).2.2.1 s, fun s _ => (p5 2 _ rfl).2.2.1 s, fun k _ => (p7 39 _ rfl).2.2.1 k, fun k _ => (p8 40 _ rfl).2.2.1 k,
    fun k hk => ⟨?_, (p9 43 _ rfl).2.2.1 k⟩, ⟨Nat.zero_le _, (p5 3 _ rfl).2.2.1 3, fun j t z => (by cases z)⟩, ⟨Nat.zero_le _, (p5 7 _ rfl).2.2.1 1, fun j t z => (by cases z)⟩,
    ⟨(p5 9 _ rfl).2.2.1 2, fun j t z => (by cases z), fun k _ _ => (p5 10 _ rfl).2.2.1 k⟩, ⟨Nat.zero_le _, n2, fun j t z => (by cases z)⟩, fun v hv => ⟨⟨Nat.zero_le _, (G v hv).2.1, fun j t z => (by cases z)⟩, (G v hv).2.2⟩⟩
  rw [(p9 42 _ rfl).2.2.1 k]
  show zfM (2 * (w + 1)) k = -1
  unfold zfM; rw [if_pos hk]
def zLm (w a : Nat) : List zC := (21, 0, cI w, zRm23 a) :: (Am9 ++ (1, 10, zfM 10, r0) :: [(1, 10, z0, r0), (1, 5, z0, r0), (1, 12, z0, r0), (1, 12, z0, r0), (1, 12, z0, r0), (1, 12, z0, r0), (1, 12, z0, r0), (1, 12, z0, r0), (1, 12, z0, r0), (1, 520, z0, r0), (1, 520, z0, r0), (1, 192, z0, r0), (1, 8, z0, r0)])
theorem MH_of {h : zH} {w a : Nat} (c : cellsAt h a (zLm w a)) : MM h a w sIni := by
  obtain ⟨a1, a2, a3, a4⟩ := c 0 _ rfl
  refine ⟨[], ⟨⟨a1, ⟨a4 2, a4 3, a4 5, a4 6, a4 7, a4 9, a4 10, a4 11, a4 12, a4 13, a4 14, a4 15, a4 17, a4 18, a4 19, a4 20, a4 21, a4 22, a4 23, a4 25, a4 26, a4 28, a4 29⟩, ⟨(c 1 _ rfl).1, (c 2 _ rfl).1, (c 3 _ rfl).1, (c 4 _ rfl).1, (c 5 _ rfl).1, (c 6 _ rfl).1, (c 7 _ rfl).1, (c 8 _ rfl).1, (c 9 _ rfl).1, (c 10 _ rfl).1, (c 11 _ rfl).1, (c 12 _ rfl).1, (c 13 _ rfl).1, (c 14 _ rfl).1, (c 15 _ rfl).1, (c 16 _ rfl).1, (c 17 _ rfl).1, (c 18 _ rfl).1, (c 19 _ rfl).1, (c 20 _ rfl).1, (c 21 _ rfl).1, (c 22 _ rfl).1, (c 23 _ rfl).1⟩, ⟨(c 1 _ rfl).2.1, (c 2 _ rfl).2.1, (c 3 _ rfl).2.1, (c 4 _ rfl).2.1, (c 5 _ rfl).2.1, (c 6 _ rfl).2.1, (c 7 _ rfl).2.1, (c 8 _ rfl).2.1, (c 9 _ rfl).2.1, (c 10 _ rfl).2.1, (c 11 _ rfl).2.1, (c 12 _ rfl).2.1, (c 13 _ rfl).2.1, (c 14 _ rfl).2.1, (c 15 _ rfl).2.1, (c 16 _ rfl).2.1, (c 17 _ rfl).2.1, (c 18 _ rfl).2.1, (c 19 _ rfl).2.1, (c 20 _ rfl).2.1, (c 21 _ rfl).2.1, (c 22 _ rfl).2.1, (c 23 _ rfl).2.1⟩⟩, a3 0, a3 1, fun s _ => (c 1 _ rfl).2.2.1 s, fun s _ => (c 2 _ rfl).2.2.1 s, ⟨Nat.zero_le _, a3 4, fun j t z => (by cases z)⟩, ⟨Nat.zero_le _, a3 8, fun j t z => (by cases z)⟩, fun k _ => (c 8 _ rfl).2.2.1 k, fun k _ => (c 9 _ rfl).2.2.1 k, fun k hk => ⟨?_, (c 11 _ rfl).2.2.1 k⟩, fun v _ => (c 12 _ rfl).2.2.1 v, ⟨Nat.zero_le _, a3 16, fun j t z => (by cases z)⟩, ⟨Nat.zero_le _, a3 24, fun j t z => (by cases z)⟩, ⟨Nat.zero_le _, a3 27, fun j t z => (by cases z)⟩⟩, ⟨fun p hp => (by cases hp), fun v hv => rfl⟩⟩
  rw [(c 10 _ rfl).2.2.1 k]
  show zfM 10 k = -1
  unfold zfM; rw [if_pos hk]
theorem IV_ini {w : Nat} : IV w 0 0 sIni := by
  refine ⟨fun t z => (by cases z), ⟨fun q z => (by cases z), fun i j p q z => (by cases z)⟩, Nat.le_refl _, Nat.zero_le _, fun p z => (by cases z), fun k => Or.inl rfl, fun k _ => rfl, fun s _ => ⟨0, Nat.zero_le _, rfl⟩, fun v _ => Nat.zero_le _, fun v _ => ⟨0, Nat.le_refl _, rfl⟩, fun v _ g z => (by cases z), fun x z => (by cases z), fun g z => (by cases z), fun f z => (by cases z)⟩
