/-- one instruction at pc: what must hold so that behind it P does; K: what must hold at the return -/
def zStep (mt : zMt) (call : zCall) (P : zP) (K : zT) : zP := fun cu su pc ls st h =>
  match zAt mt.1 pc with
  | some (i, n, x, y, z, c) =>
    match i with
    | .iconst _ => P cu su (pc + 1) ls (.inl c :: st) h
    | .bipush _ => P cu su (pc + 2) ls (.inl c :: st) h
    | .sipush _ => P cu su (pc + 3) ls (.inl c :: st) h
    | .ldc _ => P cu su (pc + 2) ls (.inl c :: st) h
    | .iload_n k => zGi ls k.val fun v => P cu su (pc + 1) ls (.inl v :: st) h
    | .iload k => zGi ls k fun v => P cu su (pc + 2) ls (.inl v :: st) h
    | .aload_n k => zGr ls k.val fun v => P cu su (pc + 1) ls (.inr v :: st) h
    | .aload k => zGr ls k fun v => P cu su (pc + 2) ls (.inr v :: st) h
    | .istore_n k => z1i st fun v r => zSt ls k.val (P cu su (pc + 1) (ls.set k.val (some (.inl v))) r h)
    | .istore k => z1i st fun v r => zSt ls k (P cu su (pc + 2) (ls.set k (some (.inl v))) r h)
    | .astore_n k => z1r st fun v r => zSt ls k.val (P cu su (pc + 1) (ls.set k.val (some (.inr v))) r h)
    | .astore k => z1r st fun v r => zSt ls k (P cu su (pc + 2) (ls.set k (some (.inr v))) r h)
    | .iinc k _ => zGi ls k fun v => zSt ls k (P cu su (pc + 3) (ls.set k (some (.inl (v + c)))) st h)
    | .iadd => z2i st fun a b r => P cu su (pc + 1) ls (.inl (a + b) :: r) h
    | .isub => z2i st fun a b r => P cu su (pc + 1) ls (.inl (a - b) :: r) h
    | .imul => z2i st fun a b r => P cu su (pc + 1) ls (.inl (a * b) :: r) h
    | .iand => z2i st fun a b r => P cu su (pc + 1) ls (.inl (a &&& b) :: r) h
    | .idiv => z2i st fun a b r => ¬ b = 0 ∧ P cu su (pc + 1) ls (.inl (a / b) :: r) h
    | .irem => z2i st fun a b r => ¬ b = 0 ∧ P cu su (pc + 1) ls (.inl (a - a / b * b) :: r) h
    | .dup => match st with
      | v :: r => P cu su (pc + 1) ls (v :: v :: r) h
      | _ => False
    | .dup2 => match st with
      | v :: w :: r => P cu su (pc + 1) ls (v :: w :: v :: w :: r) h
      | _ => False
    | .if_icmp .eq _ => z2i st fun a b r => (a = b → P cu su x ls r h) ∧ (¬ a = b → P cu su (pc + 3) ls r h)
    | .if_icmp .ne _ => z2i st fun a b r => (¬ a = b → P cu su x ls r h) ∧ (a = b → P cu su (pc + 3) ls r h)
    | .if_icmp .lt _ => z2i st fun a b r => (a < b → P cu su x ls r h) ∧ (¬ a < b → P cu su (pc + 3) ls r h)
    | .if_icmp .ge _ => z2i st fun a b r => (b ≤ a → P cu su x ls r h) ∧ (¬ b ≤ a → P cu su (pc + 3) ls r h)
    | .if_icmp .gt _ => z2i st fun a b r => (b < a → P cu su x ls r h) ∧ (¬ b < a → P cu su (pc + 3) ls r h)
    | .if_icmp .le _ => z2i st fun a b r => (a ≤ b → P cu su x ls r h) ∧ (¬ a ≤ b → P cu su (pc + 3) ls r h)
    | .ifCond .eq _ => z1i st fun a r => (a = 0 → P cu su x ls r h) ∧ (¬ a = 0 → P cu su (pc + 3) ls r h)
    | .ifCond .ne _ => z1i st fun a r => (¬ a = 0 → P cu su x ls r h) ∧ (a = 0 → P cu su (pc + 3) ls r h)
    | .ifCond .lt _ => z1i st fun a r => (a < 0 → P cu su x ls r h) ∧ (¬ a < 0 → P cu su (pc + 3) ls r h)
    | .ifCond .ge _ => z1i st fun a r => (0 ≤ a → P cu su x ls r h) ∧ (¬ 0 ≤ a → P cu su (pc + 3) ls r h)
    | .ifCond .gt _ => z1i st fun a r => (0 < a → P cu su x ls r h) ∧ (¬ 0 < a → P cu su (pc + 3) ls r h)
    | .ifCond .le _ => z1i st fun a r => (a ≤ 0 → P cu su x ls r h) ∧ (¬ a ≤ 0 → P cu su (pc + 3) ls r h)
    | .goto _ => P cu su x ls st h
    | .getfield _ => z1r st fun a r => zK h a = x ∧ (match z with
      | 0 => P cu su (pc + 3) ls (.inl (zI h a y) :: r) h
      | _ => P cu su (pc + 3) ls (.inr (zR h a y) :: r) h)
    | .putfield _ => match z with
      | 0 => z2ir st fun v a r => zK h a = x ∧ ∀ h', h' = zwI h a y v → P cu su (pc + 3) ls r h'
      | _ => z2rr st fun v a r => zK h a = x ∧ ∀ h', h' = zwR h a y v → P cu su (pc + 3) ls r h'
    | .getstatic _ => P cu su (pc + 3) ls (.inr x :: st) h
    | .iaload => z2ir st fun j a r => (zK h a = 1 ∨ zK h a = 101) ∧ vp_in j (zL h a) ∧ P cu su (pc + 1) ls (.inl (zI h a j.toNatClampNeg) :: r) h
    | .baload => z2ir st fun j a r => zK h a = 2 ∧ vp_in j (zL h a) ∧ P cu su (pc + 1) ls (.inl (zI h a j.toNatClampNeg) :: r) h
    | .aaload => z2ir st fun j a r => zK h a = x ∧ vp_in j (zL h a) ∧ P cu su (pc + 1) ls (.inr (zR h a j.toNatClampNeg) :: r) h
    | .iastore => z3i st fun v j a r => zK h a = 1 ∧ vp_in j (zL h a) ∧ ∀ h', h' = zwI h a j.toNatClampNeg v → P cu su (pc + 1) ls r h'
    | .bastore => z3i st fun v j a r => zK h a = 2 ∧ vp_in j (zL h a) ∧ ∀ h', h' = zwI h a j.toNatClampNeg (vp_nar .boolean v) → P cu su (pc + 1) ls r h'
    | .aastore => z3r st fun b j a r => zK h a = x ∧ zK h b = y ∧ vp_in j (zL h a) ∧ ∀ h', h' = zwR h a j.toNatClampNeg b → P cu su (pc + 1) ls r h'
    | .arraylength => z1r st fun a r => zK h a = x ∧ P cu su (pc + 1) ls (.inl (nI (zL h a)) :: r) h
    | .newarray _ => z1i st fun n r => ¬ n < 0 ∧ n.toNatClampNeg ≤ 100000 ∧ cu + 1 ≤ mt.2.2.1 ∧ su + n.toNatClampNeg ≤ mt.2.2.2 ∧ ∀ h', h' = zNew h x n.toNatClampNeg → P (cu + 1) (su + n.toNatClampNeg) (pc + 2) ls (.inr (zN h) :: r) h'
    | .anewarray _ => z1i st fun n r => ¬ n < 0 ∧ n.toNatClampNeg ≤ 100000 ∧ cu + 1 ≤ mt.2.2.1 ∧ su + n.toNatClampNeg ≤ mt.2.2.2 ∧ ∀ h', h' = zNew h x n.toNatClampNeg → P (cu + 1) (su + n.toNatClampNeg) (pc + 3) ls (.inr (zN h) :: r) h'
    | .new _ => cu + 1 ≤ mt.2.2.1 ∧ su + y ≤ mt.2.2.2 ∧ ∀ h', h' = zNew h x 0 → P (cu + 1) (su + y) (pc + 3) ls (.inr (zN h) :: st) h'
    | .invokevirtual _ => match st.drop y with
      | .inr a :: r => zSt8 r (zK h a = z ∧ ∃ Q : zT, call x (.inr a :: (st.take y).reverse) h Q ∧ ∀ v h', Q v h' → P cu su (pc + 3) ls (v.toList ++ r) h')
      | _ => False
    | .invokestatic _ => match z with
      | 7 => z2i st fun a b r => zSt8 r (P cu su (pc + 3) ls (.inl (if a < b then b else a) :: r) h)
      | 8 => z2i st fun a b r => zSt8 r (P cu su (pc + 3) ls (.inl (if b < a then b else a) :: r) h)
      | _ => zLe y st (zSt8 (st.drop y) (∃ Q : zT, call x (st.take y).reverse h Q ∧ ∀ v h', Q v h' → P cu su (pc + 3) ls (v.toList ++ st.drop y) h'))
    | .invokespecial _ => match z with
      | 0 => z1r st fun a r => zSt8 r (zK h a = x ∧ P cu su (pc + 3) ls r h)
      | _ => match st.drop y with
        | .inr a :: r => zSt8 r (zK h a = z ∧ cu + zMc x ≤ mt.2.2.1 ∧ su + zMs x ≤ mt.2.2.2 ∧ ∃ Q : zT, call x (.inr a :: (st.take y).reverse) h Q ∧ ∀ v h', Q v h' → P (cu + zMc x) (su + zMs x) (pc + 3) ls (v.toList ++ r) h')
        | _ => False
    | .ireturn => match st with
      | [.inl v] => (match mt.2.1 with
        | 0 => K (some (.inl v)) h
        | 1 => (v = 0 ∨ v = 1) ∧ K (some (.inl v)) h
        | _ => False)
      | _ => False
    | .return_ => match st with
      | [] => (match mt.2.1 with
        | 2 => K none h
        | _ => False)
      | _ => False
    | .tableswitch d lo hi offs => z1i st fun v r => (v.toInt < lo ∨ hi < v.toInt → P cu su ((pc : Int) + d).toNat ls r h) ∧ zSw (fun t => P cu su t ls r h) pc v lo offs.toList
    | .lookupswitch d ps => z1i st fun v r => zLk (fun t => P cu su t ls r h) pc v d ps.toList
    | _ => False
  | _ => False
/-- what a code does from a point on: the least predicate that the steps keep -/
def zWp (mt : zMt) (call : zCall) (K : zT) : zP := fun cu su pc ls st h =>
  ∀ P : zP, (∀ cu su pc ls st h, zStep mt call P K cu su pc ls st h → P cu su pc ls st h) → P cu su pc ls st h
theorem zGi_mono {ls : List (Option zV)} {i : Nat} {f g : Int32 → Prop} (h : ∀ v, f v → g v) (k : zGi ls i f) : zGi ls i g := by
  unfold zGi at *; split at k
  · exact h _ k
  · exact k
theorem zGr_mono {ls : List (Option zV)} {i : Nat} {f g : Nat → Prop} (h : ∀ v, f v → g v) (k : zGr ls i f) : zGr ls i g := by
  unfold zGr at *; split at k
  · exact h _ k
  · exact k
theorem zSt_mono {ls : List (Option zV)} {i : Nat} {f g : Prop} (h : f → g) (k : zSt ls i f) : zSt ls i g := by
  unfold zSt at *; split at k
  · exact h k
  · exact k
theorem zSt8_mono {r : List zV} {f g : Prop} (h : f → g) (k : zSt8 r f) : zSt8 r g := by
  unfold zSt8 at *; split at k
  · exact h k
  · exact k
theorem zLe_mono {n : Nat} {r : List zV} {f g : Prop} (h : f → g) (k : zLe n r f) : zLe n r g := by
  unfold zLe at *; split at k
  · exact h k
  · exact k
theorem z1i_mono {st : List zV} {f g : Int32 → List zV → Prop} (h : ∀ a r, f a r → g a r) (k : z1i st f) : z1i st g := by
  unfold z1i at *; split at k
  · exact h _ _ k
  · exact k
theorem z1r_mono {st : List zV} {f g : Nat → List zV → Prop} (h : ∀ a r, f a r → g a r) (k : z1r st f) : z1r st g := by
  unfold z1r at *; split at k
  · exact h _ _ k
  · exact k
theorem z2i_mono {st : List zV} {f g : Int32 → Int32 → List zV → Prop} (h : ∀ a b r, f a b r → g a b r) (k : z2i st f) : z2i st g := by
  unfold z2i at *; split at k
  · exact h _ _ _ k
  · exact k
theorem z2ir_mono {st : List zV} {f g : Int32 → Nat → List zV → Prop} (h : ∀ a b r, f a b r → g a b r) (k : z2ir st f) : z2ir st g := by
  unfold z2ir at *; split at k
  · exact h _ _ _ k
  · exact k
theorem z2rr_mono {st : List zV} {f g : Nat → Nat → List zV → Prop} (h : ∀ a b r, f a b r → g a b r) (k : z2rr st f) : z2rr st g := by
  unfold z2rr at *; split at k
  · exact h _ _ _ k
  · exact k
theorem z3i_mono {st : List zV} {f g : Int32 → Int32 → Nat → List zV → Prop} (h : ∀ v j a r, f v j a r → g v j a r) (k : z3i st f) : z3i st g := by
  unfold z3i at *; split at k
  · exact h _ _ _ _ k
  · exact k
theorem z3r_mono {st : List zV} {f g : Nat → Int32 → Nat → List zV → Prop} (h : ∀ v j a r, f v j a r → g v j a r) (k : z3r st f) : z3r st g := by
  unfold z3r at *; split at k
  · exact h _ _ _ _ k
  · exact k
theorem zSw_mono {P P' : Nat → Prop} (h : ∀ t, P t → P' t) {pc : Nat} {v : Int32} : ∀ (os : List Int) (lo : Int), zSw P pc v lo os → zSw P' pc v lo os
  | [], _, _ => trivial
  | _ :: os, lo, k => ⟨fun e => h _ (k.1 e), zSw_mono h os (lo + 1) k.2⟩
theorem zLk_mono {P P' : Nat → Prop} (h : ∀ t, P t → P' t) {pc : Nat} {v : Int32} {d : Int} : ∀ (ps : List (Int × Int)), zLk P pc v d ps → zLk P' pc v d ps
  | [], k => h _ k
  | (_, _) :: r, k => ⟨fun e => h _ (k.1 e), fun e => zLk_mono h r (k.2 e)⟩
set_option maxHeartbeats 4000000 in
theorem zStep_mono {mt : zMt} {call : zCall} {P P' : zP} {K K' : zT} (hP : ∀ cu su pc ls st h, P cu su pc ls st h → P' cu su pc ls st h) (hK : ∀ v h, K v h → K' v h) {cu su pc : Nat} {ls : List (Option zV)} {st : List zV} {h : zH}
    (k : zStep mt call P K cu su pc ls st h) : zStep mt call P' K' cu su pc ls st h := by
  unfold zStep at k ⊢
  split at k
  case h_2 => exact k
  case h_1 i n x y z c heq =>
    cases i
    case iconst => exact hP _ _ _ _ _ _ k
    case bipush => exact hP _ _ _ _ _ _ k
    case sipush => exact hP _ _ _ _ _ _ k
    case ldc => exact hP _ _ _ _ _ _ k
    case iload_n => exact zGi_mono (fun v k => hP _ _ _ _ _ _ k) k
    case iload => exact zGi_mono (fun v k => hP _ _ _ _ _ _ k) k
    case aload_n => exact zGr_mono (fun v k => hP _ _ _ _ _ _ k) k
    case aload => exact zGr_mono (fun v k => hP _ _ _ _ _ _ k) k
    case istore_n => exact z1i_mono (fun v r k => zSt_mono (hP _ _ _ _ _ _) k) k
    case istore => exact z1i_mono (fun v r k => zSt_mono (hP _ _ _ _ _ _) k) k
    case astore_n => exact z1r_mono (fun v r k => zSt_mono (hP _ _ _ _ _ _) k) k
    case astore => exact z1r_mono (fun v r k => zSt_mono (hP _ _ _ _ _ _) k) k
    case iinc => exact zGi_mono (fun v k => zSt_mono (hP _ _ _ _ _ _) k) k
    case iadd => exact z2i_mono (fun a b r k => hP _ _ _ _ _ _ k) k
    case isub => exact z2i_mono (fun a b r k => hP _ _ _ _ _ _ k) k
    case imul => exact z2i_mono (fun a b r k => hP _ _ _ _ _ _ k) k
    case iand => exact z2i_mono (fun a b r k => hP _ _ _ _ _ _ k) k
    case idiv => exact z2i_mono (fun a b r k => ⟨k.1, hP _ _ _ _ _ _ k.2⟩) k
    case irem => exact z2i_mono (fun a b r k => ⟨k.1, hP _ _ _ _ _ _ k.2⟩) k
    case dup =>
      cases st with
      | nil => exact k
      | cons v r => exact hP _ _ _ _ _ _ k
    case dup2 =>
      cases st with
      | nil => exact k
      | cons v r => cases r with
        | nil => exact k
        | cons w r => exact hP _ _ _ _ _ _ k
    case if_icmp q o => cases q <;> exact z2i_mono (fun a b r k => ⟨fun e => hP _ _ _ _ _ _ (k.1 e), fun e => hP _ _ _ _ _ _ (k.2 e)⟩) k
    case ifCond q o => cases q <;> exact z1i_mono (fun a r k => ⟨fun e => hP _ _ _ _ _ _ (k.1 e), fun e => hP _ _ _ _ _ _ (k.2 e)⟩) k
    case goto => exact hP _ _ _ _ _ _ k
    case getfield =>
      cases z with
      | zero => exact z1r_mono (fun a r k => ⟨k.1, hP _ _ _ _ _ _ k.2⟩) k
      | succ z => exact z1r_mono (fun a r k => ⟨k.1, hP _ _ _ _ _ _ k.2⟩) k
    case putfield =>
      cases z with
      | zero => exact z2ir_mono (fun v a r k => ⟨k.1, fun h' e => hP _ _ _ _ _ _ (k.2 h' e)⟩) k
      | succ z => exact z2rr_mono (fun v a r k => ⟨k.1, fun h' e => hP _ _ _ _ _ _ (k.2 h' e)⟩) k
    case getstatic => exact hP _ _ _ _ _ _ k
    case iaload => exact z2ir_mono (fun j a r k => ⟨k.1, k.2.1, hP _ _ _ _ _ _ k.2.2⟩) k
    case baload => exact z2ir_mono (fun j a r k => ⟨k.1, k.2.1, hP _ _ _ _ _ _ k.2.2⟩) k
    case aaload => exact z2ir_mono (fun j a r k => ⟨k.1, k.2.1, hP _ _ _ _ _ _ k.2.2⟩) k
    case iastore => exact z3i_mono (fun v j a r k => ⟨k.1, k.2.1, fun h' e => hP _ _ _ _ _ _ (k.2.2 h' e)⟩) k
    case bastore => exact z3i_mono (fun v j a r k => ⟨k.1, k.2.1, fun h' e => hP _ _ _ _ _ _ (k.2.2 h' e)⟩) k
    case aastore => exact z3r_mono (fun v j a r k => ⟨k.1, k.2.1, k.2.2.1, fun h' e => hP _ _ _ _ _ _ (k.2.2.2 h' e)⟩) k
    case arraylength => exact z1r_mono (fun a r k => ⟨k.1, hP _ _ _ _ _ _ k.2⟩) k
    case newarray => exact z1i_mono (fun n r k => ⟨k.1, k.2.1, k.2.2.1, k.2.2.2.1, fun h' e => hP _ _ _ _ _ _ (k.2.2.2.2 h' e)⟩) k
    case anewarray => exact z1i_mono (fun n r k => ⟨k.1, k.2.1, k.2.2.1, k.2.2.2.1, fun h' e => hP _ _ _ _ _ _ (k.2.2.2.2 h' e)⟩) k
    case new => exact ⟨k.1, k.2.1, fun h' e => hP _ _ _ _ _ _ (k.2.2 h' e)⟩
    case invokevirtual =>
      simp only at k ⊢
      split at k
      · refine zSt8_mono (fun k => ?_) k
        obtain ⟨k1, Q, k2, k3⟩ := k
        exact ⟨k1, Q, k2, fun v h' q => hP _ _ _ _ _ _ (k3 v h' q)⟩
      · exact k
    case invokestatic =>
      simp only at k ⊢
      split at k
      · exact z2i_mono (fun a b r k => zSt8_mono (hP _ _ _ _ _ _) k) k
      · exact z2i_mono (fun a b r k => zSt8_mono (hP _ _ _ _ _ _) k) k
      · refine zLe_mono (zSt8_mono (fun k => ?_)) k
        obtain ⟨Q, k2, k3⟩ := k
        exact ⟨Q, k2, fun v h' q => hP _ _ _ _ _ _ (k3 v h' q)⟩
    case invokespecial =>
      cases z with
      | zero => exact z1r_mono (fun a r k => zSt8_mono (fun k => ⟨k.1, hP _ _ _ _ _ _ k.2⟩) k) k
      | succ z =>
        simp only at k ⊢
        split at k
        · refine zSt8_mono (fun k => ?_) k
          obtain ⟨k1, k4, k5, Q, k2, k3⟩ := k
          exact ⟨k1, k4, k5, Q, k2, fun v h' q => hP _ _ _ _ _ _ (k3 v h' q)⟩
        · exact k
    case ireturn =>
      simp only at k ⊢
      split at k
      · split at k
        · exact hK _ _ k
        · exact ⟨k.1, hK _ _ k.2⟩
        · exact k
      · exact k
    case return_ =>
      cases st with
      | nil =>
        simp only at k ⊢
        split at k
        · exact hK _ _ k
        · exact k
      | cons v r => exact k
    case tableswitch => exact z1i_mono (fun v r k => ⟨fun e => hP _ _ _ _ _ _ (k.1 e), zSw_mono (fun t k => hP _ _ _ _ _ _ k) _ _ k.2⟩) k
    case lookupswitch => exact z1i_mono (fun v r k => zLk_mono (fun t k => hP _ _ _ _ _ _ k) _ k) k
    all_goals exact k
theorem zWp.step {mt : zMt} {call : zCall} {K : zT} {cu su pc : Nat} {ls : List (Option zV)} {st : List zV} {h : zH} (k : zStep mt call (zWp mt call K) K cu su pc ls st h) : zWp mt call K cu su pc ls st h :=
  fun P hP => hP _ _ _ _ _ _ (zStep_mono (fun _ _ _ _ _ _ w => w P hP) (fun _ _ q => q) k)
theorem zWp.mono {mt : zMt} {call : zCall} {K K' : zT} (hK : ∀ v h, K v h → K' v h) {cu su pc : Nat} {ls : List (Option zV)} {st : List zV} {h : zH} (k : zWp mt call K cu su pc ls st h) : zWp mt call K' cu su pc ls st h :=
  fun P hP => k P fun _ _ _ _ _ _ s => hP _ _ _ _ _ _ (zStep_mono (fun _ _ _ _ _ _ w => w) hK s)
/-- a stretch of code up to the points 'stops' -/
def zRun (stops : List Nat) (mt : zMt) (call : zCall) (P : zP) (K : zT) : Nat → zP
  | 0 => P
  | n + 1 => fun cu su pc ls st h => match stops.elem pc with
    | true => P cu su pc ls st h
    | false => zStep mt call (zRun stops mt call P K n) K cu su pc ls st h
theorem zRun.wp {stops : List Nat} {mt : zMt} {call : zCall} {K : zT} : ∀ (n : Nat) {cu su pc : Nat} {ls : List (Option zV)} {st : List zV} {h : zH}, zRun stops mt call (zWp mt call K) K n cu su pc ls st h → zWp mt call K cu su pc ls st h
  | 0, _, _, _, _, _, _, k => k
  | n + 1, cu, su, pc, ls, st, h, k => by
    unfold zRun at k
    split at k
    · exact k
    · exact zWp.step (zStep_mono (fun _ _ _ _ _ _ w => zRun.wp n w) (fun _ _ q => q) k)
theorem zGo (stops : List Nat) (n : Nat) {mt : zMt} {call : zCall} {K : zT} {cu su pc : Nat} {ls : List (Option zV)} {st : List zV} {h : zH} (k : zStep mt call (zRun stops mt call (zWp mt call K) K n) K cu su pc ls st h) : zWp mt call K cu su pc ls st h :=
  zWp.step (zStep_mono (fun _ _ _ _ _ _ w => zRun.wp n w) (fun _ _ q => q) k)
/-- a method, by its number, called at most d deep -/
def zD : Nat → zCall
  | 0 => fun _ _ _ _ => False
  | d + 1 => fun y as h K => match Nat.ble as.length (zMl y) with
    | true => zWp (zTab y) (zD d) K 0 0 0 (as.map some ++ List.replicate (zMl y - as.length) none) [] h
    | false => False
theorem zD.mono {d y : Nat} {as : List zV} {h : zH} {K K' : zT} (hK : ∀ v h, K v h → K' v h) (k : zD d y as h K) : zD d y as h K' := by
  cases d with
  | zero => exact k
  | succ d =>
    unfold zD at k ⊢
    split at k
    · exact zWp.mono hK k
    · exact k
