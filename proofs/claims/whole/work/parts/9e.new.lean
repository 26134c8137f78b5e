/-! ===== the object's constructor ===== -/
def wV (x : Int32) : Nat := if x < 3 then 2 else if x < 4 then 3 else 4
theorem wV_ok (x : Int32) : 2 ≤ wV x ∧ wV x ≤ 4 := by unfold wV; split <;> (try split) <;> omega
theorem i32_3 {x : Int32} (h : ¬ x < 3) (h4 : x < 4) : x = 3 := by
  rw [Int32.lt_iff_toInt_lt] at h h4
  refine Int32.toInt_inj.mp ?_
  have a : (3 : Int32).toInt = 3 := by decide
  have b : (4 : Int32).toInt = 4 := by decide
  omega
theorem wV_c {x : Int32} : (if (2 : Int32) < (if x < (4 : Int32) then x else (4 : Int32)) then (if x < (4 : Int32) then x else (4 : Int32)) else (2 : Int32)) = nI (wV x) := by
  unfold wV
  by_cases h3 : x < 3
  · have h4 : x < 4 := by
      rw [Int32.lt_iff_toInt_lt] at h3 ⊢
      have a : (3 : Int32).toInt = 3 := by decide
      have b : (4 : Int32).toInt = 4 := by decide
      omega
    have h2 : ¬ (2 : Int32) < x := by
      rw [Int32.lt_iff_toInt_lt] at h3 ⊢
      have a : (3 : Int32).toInt = 3 := by decide
      have b : (2 : Int32).toInt = 2 := by decide
      omega
    rw [if_pos h3, if_pos h4, if_neg h2]; rfl
  · rw [if_neg h3]
    by_cases h4 : x < 4
    · have e := i32_3 h3 h4
      subst e
      decide
    · rw [if_neg h4, if_neg h4]; decide
def T1 : List zC := [(1, 4, z0, r0), (1, 4, z0, r0)]
def T2 : List zC := T1 ++ cTi 6
def T3 : List zC := T2 ++ cPl 10
def T4 : List zC := T3 ++ cQu 12
def T5 : List zC := T4 ++ cRo 19 18 17 15 24 24
def T6 : List zC := T5 ++ [(17, 0, z0, r0)]
def T7 (w : Nat) : List zC := T6 ++ [(2, 4 * (w + 1), z0, r0)]
def T8 (w : Nat) : List zC := T7 w ++ [(1, 4 * (w + 1), z0, r0)]
def T9 (w : Nat) : List zC := T8 w ++ cNu 44 (2 * (w + 1)) (2 * (w + 1))
def T10 (w : Nat) : List zC := T9 w ++ cRo 15 14 13 47 4 4
def oA (k : Nat) : Nat → Nat := fun j => if j < k then nA j else 0
theorem oA_s {k : Nat} : updN (oA k) k (nA k) = oA (k + 1) := by
  funext j; unfold updN oA
  by_cases e : j = k
  · rw [if_pos e, if_pos (by omega), e]
  · rw [if_neg e]
    by_cases e2 : j < k
    · rw [if_pos e2, if_pos (by omega)]
    · rw [if_neg e2, if_neg (by omega)]
def T11 (w k : Nat) : List zC := T10 w ++ [(16, w + 1, z0, oA k)]
def gsl : Nat → List zC
  | 0 => []
  | k + 1 => gsl k ++ cRo 15 14 13 (54 + 4 * k) 2 2
theorem gsl_len : ∀ k, (gsl k).length = 4 * k
  | 0 => rfl
  | k + 1 => by
    show (gsl k ++ cRo 15 14 13 (54 + 4 * k) 2 2).length = _
    rw [List.length_append, gsl_len k, cRo_len]; omega
def zRa : Nat → Nat := updN (updN r0 2 4) 3 5
def zRb : Nat → Nat := updN (updN (updN (updN (updN zRa 6 6) 7 10) 8 12) 9 15) 10 41
def zRc : Nat → Nat := updN (updN (updN zRb 4 42) 5 43) 11 44
def zRd : Nat → Nat := updN (updN zRc 12 47) 13 53
def cI (w : Nat) : Nat → Int32 := upd z0 0 (nI w)
/-- the object, with the registers of the first v visited nodes -/
def zLc (w v : Nat) : List zC := (3, 0, cI w, zRd) :: (T11 w (v + 1) ++ gsl v)
theorem Lc_len {w v : Nat} : (zLc w v).length = 51 + 4 * v := by
  show (T11 w (v + 1) ++ gsl v).length + 1 = _
  rw [List.length_append, gsl_len, show (T11 w (v + 1)).length = 50 from rfl]; omega
theorem c0_166 {d w : Nat} {h0 : zH} {l1 : Int32} (hw : w ≤ 4) : ∀ (t v : Nat) (h : zH) (cu su : Nat), v + t = w → cu ≤ 50 + 6 * v → su ≤ 400 + 31 * v → Hp h0 h 3 (zLc w v) →
    zWp zm0 (zD (d + 2)) (fun r h' => r = none ∧ Hp h0 h' 3 (zLc w w)) cu su 166 [some (.inr 3), some (.inl l1), some (.inl (nI (v + 1)))] [] h := by
  have m1 : zm0.2.2.1 = 80 := rfl
  have m2 : zm0.2.2.2 = 600 := rfl
  have c58' : zMc 58 = 5 := rfl
  have s58' : zMs 58 = 28 := rfl
  intro t
  induction t with
  | zero =>
    intro v h cu su hv hc hs H
    have hv : v = w := hv
    subst hv
    have i0 : zI h 3 0 = nI v := H.i (i := 0) rfl rfl
    exact r0_166 ⟨H.k (i := 0) rfl rfl, fun _ => ⟨rfl, H⟩, fun q => absurd (by rw [i0]; exact (nI_ltI (by omega) (by omega)).mpr (by omega)) q⟩
  | succ t ih =>
    intro v h cu su hv hc hs H
    have i0 : zI h 3 0 = nI w := H.i (i := 0) rfl rfl
    have eN : zN h = 54 + 4 * v := by rw [H.1, Lc_len]; omega
    refine r0_166 ⟨H.k (i := 0) rfl rfl, fun q => absurd q (by rw [i0, nI_ltI (by omega) (by omega)]; omega), fun _ => ?_⟩
    rw [m1, m2, c58', s58']
    refine ⟨H.k (i := 0) rfl rfl, by omega, by omega, ?_⟩
    intro h1 e1
    have H1 : Hp h0 h1 3 (zLc w v ++ [(15, 0, z0, r0)]) := by rw [e1]; exact H.new
    have ea : 54 + 4 * v = 3 + (zLc w v).length := by rw [Lc_len]; omega
    have H2 := H1.sub ea
    have r13 : zR h 3 13 = 53 := H.r (i := 0) rfl rfl
    rw [eN, r13]
    refine ⟨H2.k (i := 0) rfl rfl, by omega, by omega, _, c58 (d := d) (n := 2) (by omega) H2, ?_⟩
    rintro r h2 ⟨rfl, H3⟩
    have H4 := H1.app ea H3
    have H5 : Hp h0 h2 3 ((3, 0, cI w, zRd) :: (T11 w (v + 1) ++ gsl (v + 1))) := by
      have e : zLc w v ++ cRo 15 14 13 (54 + 4 * v) 2 2 = (3, 0, cI w, zRd) :: (T11 w (v + 1) ++ gsl (v + 1)) := by
        show (3, 0, cI w, zRd) :: ((T11 w (v + 1) ++ gsl v) ++ cRo 15 14 13 (54 + 4 * v) 2 2) = (3, 0, cI w, zRd) :: (T11 w (v + 1) ++ (gsl v ++ cRo 15 14 13 (54 + 4 * v) 2 2))
        rw [List.append_assoc]
      rw [← e]; exact H4
    have hx : ((3, 0, cI w, zRd) :: (T11 w (v + 1) ++ gsl (v + 1)))[50]? = some (16, w + 1, z0, oA (v + 1)) := by
      rw [List.getElem?_cons_succ, List.getElem?_append_left (by rw [show (T11 w (v + 1)).length = 50 from rfl]; omega)]; rfl
    have k15 : zK h2 (54 + 4 * v) = 15 := H3.k (i := 0) rfl rfl
    refine r0_187 ?_
    have l53 : zL h2 53 = w + 1 := H5.l hx rfl
    rw [l53, nI_clamp (show v + 1 < 2 ^ 31 by omega), nI_1]
    refine ⟨H5.k hx rfl, k15, vp_in_nI (by omega) (by omega), ?_⟩
    intro h3 e3
    refine ih (v + 1) h3 _ _ (by omega) (by omega) (by omega) ?_
    have H6 := H5.wR (k := v + 1) (v := 54 + 4 * v) hx
    rw [e3]
    have e : List.set ((3, 0, cI w, zRd) :: (T11 w (v + 1) ++ gsl (v + 1))) 50 (16, w + 1, z0, updN (oA (v + 1)) (v + 1) (54 + 4 * v)) = zLc w (v + 1) := by
      have e1 : 54 + 4 * v = nA (v + 1) := by rw [nA_pos (by omega)]; omega
      rw [e1, oA_s, List.set_cons_succ, List.set_append_left _ _ (by rw [show (T11 w (v + 1)).length = 50 from rfl]; omega)]
      rfl
    rw [← e]; exact H6
theorem cK0 {d : Nat} {h : zH} {x : Int32} (H : Hp h h 3 [(3, 0, z0, r0)]) : zD (d + 3) 0 [.inr 3, .inl x] h (fun r h' => r = none ∧ Hp h h' 3 (zLc (wV x) (wV x))) := by
  have hw := (wV_ok x).2
  have hw2 := (wV_ok x).1
  have m1 : zm0.2.2.1 = 80 := rfl
  have m2 : zm0.2.2.2 = 600 := rfl
  refine zD_of rfl (r0_0 ⟨H.k (i := 0) rfl rfl, by decide, by decide, by decide, by decide, ?_⟩)
  intro h1 e1
  have H1 : Hp h h1 3 [(3, 0, z0, r0), (1, 4, z0, r0)] := by rw [e1]; exact H.new
  refine ⟨H1.k (i := 0) rfl rfl, ?_⟩
  intro h2 e2
  have H2 : Hp h h2 3 [(3, 0, z0, updN r0 2 4), (1, 4, z0, r0)] := by rw [e2, H.1]; exact H1.wR (i := 0) rfl
  refine ⟨by decide, by decide, by decide, by decide, ?_⟩
  intro h3 e3
  have H3 : Hp h h3 3 [(3, 0, z0, updN r0 2 4), (1, 4, z0, r0), (1, 4, z0, r0)] := by rw [e3]; exact H2.new
  refine ⟨H3.k (i := 0) rfl rfl, ?_⟩
  intro h4 e4
  have H4 : Hp h h4 3 ((3, 0, z0, zRa) :: T1) := by rw [e4, H2.1]; exact H3.wR (i := 0) rfl
  refine ⟨by decide, by decide, ?_⟩
  intro h5 e5
  have H5 : Hp h h5 3 (((3, 0, z0, zRa) :: T1) ++ [(5, 0, z0, r0)]) := by rw [e5]; exact H4.new
  have S5 : Hp h5 h5 6 [(5, 0, z0, r0)] := H5.sub rfl
  rw [show zN h4 = 6 from H4.1]
  refine ⟨S5.k (i := 0) rfl rfl, by decide, by decide, _, c37 S5, ?_⟩
  rintro r h6 ⟨rfl, S6⟩
  have H6 : Hp h h6 3 ((3, 0, z0, zRa) :: T2) := H5.app rfl S6
  clear e1 e2 e3 e4 e5 H1 H2 H3 H4 H5 S5 S6
  refine r0_26 ⟨H6.k (i := 0) rfl rfl, ?_⟩
  intro h1 e1
  have H1 : Hp h h1 3 ((3, 0, z0, updN zRa 6 6) :: T2) := by rw [e1]; exact H6.wR (i := 0) rfl
  refine ⟨by decide, by decide, ?_⟩
  intro h2 e2
  have H2 : Hp h h2 3 (((3, 0, z0, updN zRa 6 6) :: T2) ++ [(7, 0, z0, r0)]) := by rw [e2]; exact H1.new
  have S2 : Hp h2 h2 10 [(7, 0, z0, r0)] := H2.sub rfl
  rw [show zN h1 = 10 from H1.1]
  refine ⟨S2.k (i := 0) rfl rfl, by decide, by decide, _, c41 S2, ?_⟩
  rintro r h7 ⟨rfl, S7⟩
  have H7 : Hp h h7 3 ((3, 0, z0, updN zRa 6 6) :: T3) := H2.app rfl S7
  clear e1 e2 H1 H2 S2 S7
  refine r0_37 ⟨H7.k (i := 0) rfl rfl, ?_⟩
  intro h1 e1
  have H1 : Hp h h1 3 ((3, 0, z0, updN (updN zRa 6 6) 7 10) :: T3) := by rw [e1]; exact H7.wR (i := 0) rfl
  refine ⟨by decide, by decide, ?_⟩
  intro h2 e2
  have H2 : Hp h h2 3 (((3, 0, z0, updN (updN zRa 6 6) 7 10) :: T3) ++ [(9, 0, z0, r0)]) := by rw [e2]; exact H1.new
  have S2 : Hp h2 h2 12 [(9, 0, z0, r0)] := H2.sub rfl
  rw [show zN h1 = 12 from H1.1]
  refine ⟨S2.k (i := 0) rfl rfl, by decide, by decide, _, cK48 S2, ?_⟩
  rintro r h8 ⟨rfl, S8⟩
  have H8 : Hp h h8 3 ((3, 0, z0, updN (updN zRa 6 6) 7 10) :: T4) := H2.app rfl S8
  clear e1 e2 H1 H2 S2 S8
  refine r0_48 ⟨H8.k (i := 0) rfl rfl, ?_⟩
  intro h1 e1
  have H1 : Hp h h1 3 ((3, 0, z0, updN (updN (updN zRa 6 6) 7 10) 8 12) :: T4) := by rw [e1]; exact H8.wR (i := 0) rfl
  refine ⟨by decide, by decide, ?_⟩
  intro h2 e2
  have H2 : Hp h h2 3 (((3, 0, z0, updN (updN (updN zRa 6 6) 7 10) 8 12) :: T4) ++ [(19, 0, z0, r0)]) := by rw [e2]; exact H1.new
  have S2 : Hp h2 h2 15 [(19, 0, z0, r0)] := H2.sub rfl
  rw [show zN h1 = 15 from H1.1]
  refine ⟨S2.k (i := 0) rfl rfl, by decide, by decide, _, c68 S2, ?_⟩
  rintro r h9 ⟨rfl, S9⟩
  have H9 : Hp h h9 3 ((3, 0, z0, updN (updN (updN zRa 6 6) 7 10) 8 12) :: T5) := H2.app rfl S9
  clear e1 e2 H1 H2 S2 S9
  refine r0_59 ⟨H9.k (i := 0) rfl rfl, ?_⟩
  intro h1 e1
  have H1 : Hp h h1 3 ((3, 0, z0, updN (updN (updN (updN zRa 6 6) 7 10) 8 12) 9 15) :: T5) := by rw [e1]; exact H9.wR (i := 0) rfl
  refine ⟨by decide, by decide, ?_⟩
  intro h2 e2
  have H2 : Hp h h2 3 ((3, 0, z0, updN (updN (updN (updN zRa 6 6) 7 10) 8 12) 9 15) :: T6) := by rw [e2]; exact H1.new
  have k41 : zK h2 41 = 17 := H2.k (i := 38) rfl rfl
  rw [show zN h1 = 41 from H1.1]
  refine ⟨k41, by decide, by decide, _, c65 k41, ?_⟩
  rintro r _ ⟨rfl, rfl⟩
  refine r0_70 ⟨H2.k (i := 0) rfl rfl, ?_⟩
  intro h3 e3
  have H3 : Hp h h3 3 ((3, 0, z0, zRb) :: T6) := by rw [e3]; exact H2.wR (i := 0) rfl
  clear e1 e2 e3 H1 H2
  refine ⟨H3.k (i := 0) rfl rfl, ?_⟩
  rw [wV_c]
  generalize wV x = w at hw hw2 ⊢
  intro h4 e4
  have H4 : Hp h h4 3 ((3, 0, cI w, zRb) :: T6) := by rw [e4]; exact H3.wI (i := 0) rfl
  have i4 : zI h4 3 0 = nI w := H4.i (i := 0) rfl rfl
  have e4' : (4 : Int32) * (nI w + 1) = nI (4 * (w + 1)) := by rw [nI_1, show (4 : Int32) = nI 4 from rfl, pk_mul]
  have cl := nI_clamp (show 4 * (w + 1) < 2 ^ 31 by omega)
  have c53' : zMc 53 = 2 := rfl
  have s53' : zMs 53 = 20 := rfl
  have ncu : (((((((((((0 + 1) + 1) + 1) + zMc 37) + 1) + zMc 41) + 1) + zMc 48) + 1) + zMc 68) + 1) + zMc 65 = 38 := by decide
  have nsu : (((((((((((0 + (4 : Int32).toNatClampNeg) + (4 : Int32).toNatClampNeg) + 4) + zMs 37) + 2) + zMs 41) + 3) + zMs 48) + 2) + zMs 68) + 7) + zMs 65 = 282 := by decide
  rw [i4, e4', cl, ncu, nsu, m1, m2, c53', s53']
  refine ⟨H4.k (i := 0) rfl rfl, nI_pos (by omega), by omega, by omega, by omega, ?_⟩
  intro h5 e5
  have H5 : Hp h h5 3 ((3, 0, cI w, zRb) :: T7 w) := by rw [e5]; exact H4.new
  refine ⟨H5.k (i := 0) rfl rfl, ?_⟩
  intro h6 e6
  have H6 : Hp h h6 3 ((3, 0, cI w, updN zRb 4 42) :: T7 w) := by rw [e6, show zN h4 = 42 from H4.1]; exact H5.wR (i := 0) rfl
  have i6 : zI h6 3 0 = nI w := H6.i (i := 0) rfl rfl
  rw [i6, e4', cl]
  refine ⟨H6.k (i := 0) rfl rfl, nI_pos (by omega), by omega, by omega, by omega, ?_⟩
  intro h7' e7
  have H7' : Hp h h7' 3 ((3, 0, cI w, updN zRb 4 42) :: T8 w) := by rw [e7]; exact H6.new
  refine ⟨H7'.k (i := 0) rfl rfl, ?_⟩
  intro h8' e8
  have H8' : Hp h h8' 3 ((3, 0, cI w, updN (updN zRb 4 42) 5 43) :: T8 w) := by rw [e8, show zN h6 = 43 from H6.1]; exact H7'.wR (i := 0) rfl
  refine ⟨by omega, by omega, ?_⟩
  intro h9' e9
  have H9' : Hp h h9' 3 (((3, 0, cI w, updN (updN zRb 4 42) 5 43) :: T8 w) ++ [(11, 0, z0, r0)]) := by rw [e9]; exact H8'.new
  have S9 : Hp h9' h9' 44 [(11, 0, z0, r0)] := H9'.sub rfl
  have i9 : zI h9' 3 0 = nI w := H9'.i (i := 0) rfl rfl
  rw [show zN h8' = 44 from H8'.1, i9]
  refine ⟨H9'.k (i := 0) rfl rfl, S9.k (i := 0) rfl rfl, by omega, by omega, _, c53 hw S9, ?_⟩
  rintro r ha ⟨rfl, Sa⟩
  have Ha : Hp h ha 3 ((3, 0, cI w, updN (updN zRb 4 42) 5 43) :: T9 w) := H9'.app rfl Sa
  clear i4 i6 i9 e4 e5 e6 e7 e8 e9 H3 H4 H5 H6 H7 H8 H9 H7' H8' H9' S9 Sa
  have bc : 38 + 1 + 1 + 1 + 2 ≤ 43 := by omega
  have bs : 282 + 4 * (w + 1) + 4 * (w + 1) + 2 + 20 ≤ 344 := by omega
  generalize 38 + 1 + 1 + 1 + 2 = cu at bc ⊢
  generalize 282 + 4 * (w + 1) + 4 * (w + 1) + 2 + 20 = su at bs ⊢
  have c58' : zMc 58 = 5 := rfl
  have s58' : zMs 58 = 28 := rfl
  refine r0_126 ⟨Ha.k (i := 0) rfl rfl, ?_⟩
  intro h1 e1
  have H1 : Hp h h1 3 ((3, 0, cI w, zRc) :: T9 w) := by rw [e1]; exact Ha.wR (i := 0) rfl
  rw [m1, m2, c58', s58']
  refine ⟨by omega, by omega, ?_⟩
  intro h2 e2
  have H2 : Hp h h2 3 (((3, 0, cI w, zRc) :: T9 w) ++ [(15, 0, z0, r0)]) := by rw [e2]; exact H1.new
  have S2 : Hp h2 h2 47 [(15, 0, z0, r0)] := H2.sub rfl
  rw [show zN h1 = 47 from H1.1]
  refine ⟨S2.k (i := 0) rfl rfl, by omega, by omega, _, c58 (n := 4) (by omega) S2, ?_⟩
  rintro r hb ⟨rfl, Sb⟩
  have Hb : Hp h hb 3 ((3, 0, cI w, zRc) :: T10 w) := H2.app rfl Sb
  clear e1 e2 H1 H2 S2 Sb Ha
  refine r0_138 ⟨Hb.k (i := 0) rfl rfl, ?_⟩
  intro h1 e1
  have H1 : Hp h h1 3 ((3, 0, cI w, updN zRc 12 47) :: T10 w) := by rw [e1]; exact Hb.wR (i := 0) rfl
  have i1 : zI h1 3 0 = nI w := H1.i (i := 0) rfl rfl
  rw [i1, nI_1, nI_clamp (show w + 1 < 2 ^ 31 by omega), m1, m2]
  refine ⟨H1.k (i := 0) rfl rfl, nI_pos (by omega), by omega, by omega, by omega, ?_⟩
  intro h2 e2
  have H2 : Hp h h2 3 ((3, 0, cI w, updN zRc 12 47) :: (T10 w ++ [(16, w + 1, z0, r0)])) := by rw [e2]; exact H1.new
  refine ⟨H2.k (i := 0) rfl rfl, ?_⟩
  intro h3 e3
  have H3 : Hp h h3 3 ((3, 0, cI w, zRd) :: (T10 w ++ [(16, w + 1, z0, r0)])) := by rw [e3, show zN h1 = 53 from H1.1]; exact H2.wR (i := 0) rfl
  have r13 : zR h3 3 13 = 53 := H3.r (i := 0) rfl rfl
  have r12 : zR h3 3 12 = 47 := H3.r (i := 0) rfl rfl
  have l53 : zL h3 53 = w + 1 := H3.l (i := 50) rfl rfl
  rw [r13, r12, l53]
  refine ⟨H3.k (i := 0) rfl rfl, H3.k (i := 0) rfl rfl, H3.k (i := 50) rfl rfl, H3.k (i := 44) rfl rfl, vp_in_nI (n := 0) (by omega) (by omega), ?_⟩
  intro h4 e4
  refine c0_166 hw w 0 h4 _ _ (by omega) (by omega) (by omega) ?_
  have H4 := H3.wR (i := 50) (k := 0) (v := 47) rfl
  rw [e4]
  have eo : updN r0 0 47 = oA 1 := by
    funext j; unfold updN oA r0
    by_cases e : j = 0
    · subst e; rfl
    · rw [if_neg e, if_neg (by omega)]
  have e : zLc w 0 = (3, 0, cI w, zRd) :: (T10 w ++ [(16, w + 1, z0, updN r0 0 47)]) := by
    rw [eo]; unfold zLc; show _ :: (T11 w 1 ++ []) = _
    rw [List.append_nil]; rfl
  rw [e]; exact H4
