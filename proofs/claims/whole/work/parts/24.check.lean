/-! ===== what a program checks of the tables ===== -/
def zDec (y pc : Nat) (i : Instr) (n : Nat) : Bool := match decode (zBy y) pc with
  | .ok q => decide (q = (i, n))
  | .error _ => false
theorem zDec_of {y pc : Nat} {i : Instr} {n : Nat} (h : zDec y pc i n = true) : decode (zBy y) pc = .ok (i, n) := by
  unfold zDec at h
  split at h
  · rename_i q hq
    rw [hq, of_decide_eq_true h]
  · cases h
def zChk (y pc : Nat) (q : zE) : Bool := zDec y pc q.1 q.2.1 && (match q with
  | (.iconst k, n, _, _, _, c) => decide (n = 1) && decide (Int32.ofInt k = c)
  | (.bipush k, n, _, _, _, c) => decide (n = 2) && decide ((Int8.ofInt k).toInt32 = c)
  | (.sipush k, n, _, _, _, c) => decide (n = 3) && decide ((Int16.ofInt k).toInt32 = c)
  | (.ldc j, n, _, _, _, c) => decide (n = 2) && decide ((zOn y, j, c) ∈ zCs)
  | (.iload_n _, n, _, _, _, _) => decide (n = 1)
  | (.aload_n _, n, _, _, _, _) => decide (n = 1)
  | (.istore_n _, n, _, _, _, _) => decide (n = 1)
  | (.astore_n _, n, _, _, _, _) => decide (n = 1)
  | (.iload _, n, _, _, _, _) => decide (n = 2)
  | (.aload _, n, _, _, _, _) => decide (n = 2)
  | (.istore _, n, _, _, _, _) => decide (n = 2)
  | (.astore _, n, _, _, _, _) => decide (n = 2)
  | (.iinc _ k, n, _, _, _, c) => decide (n = 3) && decide (Int32.ofInt k = c)
  | (.if_icmp _ o, n, x, _, _, _) => decide (n = 3) && decide ((pc : Int) + o = (x : Int))
  | (.ifCond _ o, n, x, _, _, _) => decide (n = 3) && decide ((pc : Int) + o = (x : Int))
  | (.goto o, n, x, _, _, _) => decide (n = 3) && decide ((pc : Int) + o = (x : Int))
  | (.getfield j, n, x, k, z, _) => decide (n = 3) && (decide ((x - 3) / 2 < zCl.length) && (decide (x = 3 + 2 * ((x - 3) / 2)) && (decide (k < zNf ((x - 3) / 2)) && (decide (zFr ((x - 3) / 2) k = decide (z ≠ 0)) && decide ((zOn y, j, (x - 3) / 2, k) ∈ zFls ∨ (zOn y, j, (x - 3) / 2, k) ∈ zFns)))))
  | (.putfield j, n, x, k, z, _) => decide (n = 3) && (decide ((x - 3) / 2 < zCl.length) && (decide (x = 3 + 2 * ((x - 3) / 2)) && (decide (k < zNf ((x - 3) / 2)) && (decide (zFr ((x - 3) / 2) k = decide (z ≠ 0)) && decide ((zFin ((x - 3) / 2) k = false ∧ ((zOn y, j, (x - 3) / 2, k) ∈ zFls ∨ (zOn y, j, (x - 3) / 2, k) ∈ zFns)) ∨ (zFin ((x - 3) / 2) k = true ∧ (x - 3) / 2 = zOn y ∧ (zNm y).name = "<init>" ∧ (zOn y, j, (x - 3) / 2, k) ∈ zFls))))))
  | (.getstatic j, n, x, _, _, _) => decide (n = 3) && (decide (x = 2) && decide ((zOn y, j) ∈ zSls ∨ (zOn y, j) ∈ zSns))
  | (.iaload, n, _, _, _, _) => decide (n = 1)
  | (.baload, n, _, _, _, _) => decide (n = 1)
  | (.iastore, n, _, _, _, _) => decide (n = 1)
  | (.bastore, n, _, _, _, _) => decide (n = 1)
  | (.aaload, n, x, _, _, _) => decide (n = 1) && (decide ((x - 4) / 2 < zCl.length) && decide (x = 4 + 2 * ((x - 4) / 2)))
  | (.aastore, n, x, k, _, _) => decide (n = 1) && (decide ((x - 4) / 2 < zCl.length) && (decide (x = 4 + 2 * ((x - 4) / 2)) && decide (k + 1 = x)))
  | (.arraylength, n, x, _, _, _) => decide (n = 1) && (decide (x = 1) || (decide (x = 101) || (decide ((x - 4) / 2 < zCl.length) && decide (x = 4 + 2 * ((x - 4) / 2)))))
  | (.newarray a, n, x, _, _, _) => decide (n = 2) && decide ((a = .int ∧ x = 1) ∨ (a = .boolean ∧ x = 2))
  | (.anewarray j, n, x, _, _, _) => decide (n = 3) && (decide ((x - 4) / 2 < zCl.length) && (decide (x = 4 + 2 * ((x - 4) / 2)) && decide ((zOn y, j, (x - 4) / 2) ∈ zNas)))
  | (.new j, n, x, k, _, _) => decide (n = 3) && (decide ((x - 3) / 2 < zCl.length) && (decide (x = 3 + 2 * ((x - 3) / 2)) && (decide (k = zNf ((x - 3) / 2)) && decide ((zOn y, j, (x - 3) / 2) ∈ zNws))))
  | (.invokevirtual j, n, x, k, z, _) => decide (n = 3) && (decide ((z - 3) / 2 < zCl.length) && (decide (z = 3 + 2 * ((z - 3) / 2)) && (decide ((zOn y, j, x, k, (z - 3) / 2) ∈ zVls ∨ (zOn y, j, x, k, (z - 3) / 2) ∈ zVns) && (decide (zMc x = 0) && decide (zMs x = 0)))))
  | (.invokestatic j, n, x, k, z, _) => decide (n = 3) && (match z with
    | 7 => decide ((zOn y, j) ∈ zMaxs)
    | 8 => decide ((zOn y, j) ∈ zMins)
    | _ => decide ((zOn y, j, x, k) ∈ zTls) && (decide (zMc x = 0) && decide (zMs x = 0)))
  | (.invokespecial j, n, x, k, z, _) => decide (n = 3) && (match z with
    | 0 => decide ((zOn y, j) ∈ zObs) && (decide ((x - 3) / 2 < zCl.length) && decide (x = 3 + 2 * ((x - 3) / 2)))
    | _ => decide ((z - 3) / 2 < zCl.length) && (decide (z = 3 + 2 * ((z - 3) / 2)) && decide ((zOn y, j, x, k, (z - 3) / 2) ∈ zIls ∨ (zOn y, j, x, k, (z - 3) / 2) ∈ zIns)))
  | (.tableswitch d lo hi offs, _, _, _, _, _) => decide (hi = lo + offs.toList.length - 1) && (decide (0 ≤ (pc : Int) + d) && offs.toList.all (fun o => decide (0 ≤ (pc : Int) + o)))
  | (.lookupswitch d ps, _, _, _, _, _) => ((ps.toList.zip (ps.toList.drop 1)).all (fun (a, next) => a.1 < next.1)) && (decide (0 ≤ (pc : Int) + d) && ps.toList.all (fun o => decide (0 ≤ (pc : Int) + o.2)))
  | (_, n, _, _, _, _) => decide (n = 1))
def zChkL (y : Nat) : Nat → List (Option zE) → Bool
  | _, [] => true
  | pc, none :: r => zChkL y (pc + 1) r
  | pc, some q :: r => zChk y pc q && zChkL y (pc + 1) r
theorem zChkL_at {y : Nat} : ∀ (tb : List (Option zE)) (p0 pc : Nat) {q : zE}, zChkL y p0 tb = true → zAt tb pc = some q → zChk y (p0 + pc) q = true
  | [], _, _, _, _, h => by cases h
  | none :: r, p0, 0, _, _, h => by cases h
  | some q' :: r, p0, 0, q, k, h => by
    cases h
    exact (Bool.and_eq_true _ _ ▸ k : _ ∧ _).1
  | none :: r, p0, pc + 1, q, k, h => by
    have := zChkL_at r (p0 + 1) pc k h
    rw [show p0 + 1 + pc = p0 + (pc + 1) by omega] at this
    exact this
  | some q' :: r, p0, pc + 1, q, k, h => by
    have := zChkL_at r (p0 + 1) pc (Bool.and_eq_true _ _ ▸ k : _ ∧ _).2 h
    rw [show p0 + 1 + pc = p0 + (pc + 1) by omega] at this
    exact this
