/-! ===== each step of the small machine is one of the machine's ===== -/
theorem zGi_of {ls : List (Option zV)} {i : Nat} {f : Int32 → Prop} (k : zGi ls i f) : ∃ v, ls[i]? = some (some (.inl v)) ∧ f v := by
  unfold zGi at k; split at k
  · rename_i v hv; exact ⟨v, hv, k⟩
  · exact k.elim
theorem zGr_of {ls : List (Option zV)} {i : Nat} {f : Nat → Prop} (k : zGr ls i f) : ∃ v, ls[i]? = some (some (.inr v)) ∧ f v := by
  unfold zGr at k; split at k
  · rename_i v hv; exact ⟨v, hv, k⟩
  · exact k.elim
theorem zSt_of {ls : List (Option zV)} {i : Nat} {f : Prop} (k : zSt ls i f) : i < ls.length ∧ f := by
  unfold zSt at k; split at k
  · rename_i hv; exact ⟨by simpa [Nat.blt_eq] using hv, k⟩
  · exact k.elim
theorem zSt8_of {r : List zV} {f : Prop} (k : zSt8 r f) : r.length ≤ 8 ∧ f := by
  unfold zSt8 at k; split at k
  · rename_i hv; exact ⟨Nat.le_of_ble_eq_true hv, k⟩
  · exact k.elim
theorem zLe_of {n : Nat} {r : List zV} {f : Prop} (k : zLe n r f) : n ≤ r.length ∧ f := by
  unfold zLe at k; split at k
  · rename_i hv; exact ⟨Nat.le_of_ble_eq_true hv, k⟩
  · exact k.elim
theorem z1i_of {st : List zV} {f : Int32 → List zV → Prop} (k : z1i st f) : ∃ a r, st = .inl a :: r ∧ f a r := by
  unfold z1i at k; split at k
  · exact ⟨_, _, rfl, k⟩
  · exact k.elim
theorem z1r_of {st : List zV} {f : Nat → List zV → Prop} (k : z1r st f) : ∃ a r, st = .inr a :: r ∧ f a r := by
  unfold z1r at k; split at k
  · exact ⟨_, _, rfl, k⟩
  · exact k.elim
theorem z2i_of {st : List zV} {f : Int32 → Int32 → List zV → Prop} (k : z2i st f) : ∃ a b r, st = .inl b :: .inl a :: r ∧ f a b r := by
  unfold z2i at k; split at k
  · exact ⟨_, _, _, rfl, k⟩
  · exact k.elim
theorem z2ir_of {st : List zV} {f : Int32 → Nat → List zV → Prop} (k : z2ir st f) : ∃ j a r, st = .inl j :: .inr a :: r ∧ f j a r := by
  unfold z2ir at k; split at k
  · exact ⟨_, _, _, rfl, k⟩
  · exact k.elim
theorem z2rr_of {st : List zV} {f : Nat → Nat → List zV → Prop} (k : z2rr st f) : ∃ j a r, st = .inr j :: .inr a :: r ∧ f j a r := by
  unfold z2rr at k; split at k
  · exact ⟨_, _, _, rfl, k⟩
  · exact k.elim
theorem z3i_of {st : List zV} {f : Int32 → Int32 → Nat → List zV → Prop} (k : z3i st f) : ∃ v j a r, st = .inl v :: .inl j :: .inr a :: r ∧ f v j a r := by
  unfold z3i at k; split at k
  · exact ⟨_, _, _, _, rfl, k⟩
  · exact k.elim
theorem z3r_of {st : List zV} {f : Nat → Int32 → Nat → List zV → Prop} (k : z3r st f) : ∃ v j a r, st = .inr v :: .inl j :: .inr a :: r ∧ f v j a r := by
  unfold z3r at k; split at k
  · exact ⟨_, _, _, _, rfl, k⟩
  · exact k.elim
theorem zSw_at {P : Nat → Prop} {pc : Nat} {v : Int32} : ∀ (os : List Int) (lo : Int) (i : Nat), zSw P pc v lo os → v.toInt = lo + (i : Int) → i < os.length → ∃ o, os[i]? = some o ∧ P ((pc : Int) + o).toNat
  | [], _, _, _, _, h => absurd h (Nat.not_lt_zero _)
  | o :: os, lo, 0, k, e, _ => ⟨o, rfl, k.1 (by simpa using e)⟩
  | o :: os, lo, i + 1, k, e, h => by
    obtain ⟨o', h1, h2⟩ := zSw_at os (lo + 1) i k.2 (by omega) (Nat.lt_of_succ_lt_succ h)
    exact ⟨o', by rw [List.getElem?_cons_succ]; exact h1, h2⟩
theorem zLk_at {P : Nat → Prop} {pc : Nat} {v : Int32} {d : Int} : ∀ (ps : List (Int × Int)), zLk P pc v d ps → P ((pc : Int) + Op.lookupswitch.offset ps d v.toInt).toNat
  | [], k => k
  | (a, o) :: r, k => by
    rw [Op.lookupswitch.offset_cons]
    by_cases e : a = v.toInt
    · rw [if_pos e]; exact k.1 e.symm
    · rw [if_neg e]; exact zLk_at r (k.2 (fun q => e q.symm))
theorem zLk_pos {pc : Nat} {d x : Int} (hd : 0 ≤ (pc : Int) + d) : ∀ {ps : List (Int × Int)}, ps.all (fun o => decide (0 ≤ (pc : Int) + o.2)) = true → 0 ≤ (pc : Int) + Op.lookupswitch.offset ps d x
  | [], _ => hd
  | (a, o) :: r, h => by
    rw [List.all_cons, Bool.and_eq_true] at h
    rw [Op.lookupswitch.offset_cons]
    split
    · exact of_decide_eq_true h.1
    · exact zLk_pos hd h.2
/-- what the tables say: the classes' numbers, the links of nest mates -/
def zTS (D : va_G) (s : State) : Prop := va_K D zCl [] s ∧ (∀ q ∈ zFns, va_Nw (zFnw q) s) ∧ (∀ q ∈ zMns, va_Nw (zMnw q) s) ∧ (∀ q ∈ zSns, va_Nw (zSnw q) s) ∧ ∀ q ∈ zAos, va_AO (zCn q) s
theorem zTS.warm {D : va_G} {s U : State} (hW : s.WarmedH U.vm) (h : zTS D s) : zTS D U := ⟨va_K.moved hW.alike h.1, fun q hq => va_Nw.warmF hW (h.2.1 q hq), fun q hq => va_Nw.warmM hW (h.2.2.1 q hq), fun q hq => va_Nw.warmF hW (h.2.2.2.1 q hq), fun q hq => (h.2.2.2.2 q hq).moved hW.alike⟩
theorem zTS.same {D : va_G} {s U : State} (hW : s.vm = U.vm) (h : zTS D s) : zTS D U := ⟨va_K.moved (by rw [hW]; exact Vm.Alike.refl _) h.1, fun q hq => va_Nw.same rfl hW (h.2.1 q hq), fun q hq => va_Nw.same rfl hW (h.2.2.1 q hq), fun q hq => va_Nw.same rfl hW (h.2.2.2.1 q hq), fun q hq => (h.2.2.2.2 q hq).moved (by rw [hW]; exact Vm.Alike.refl _)⟩
def zRm (d y : Nat) : Room := { frames := d, cells := zMc y, slots := zMs y, locals := 30 * d }
def zWs (y : Nat) : List Cond := Cond.code (zNm y) (zBy y) (zMl y) (zRet y) :: zAll
def zPc (D : va_G) (b t base : Nat) (as : List zV) (h : zH) : Array Value → State → Prop := fun v U => v = (as.map (zcv (zAd b t base))).toArray ∧ zTS D U ∧ zRel D b t base U h U.heap
def zQc (D : va_G) (b t base : Nat) (K : zT) : Array Value → State → Outcome → State → Prop := fun _ _ o u => ∃ (v : Option zV) (h' : zH), o = .returned (v.map (zcv (zAd b t base))) ∧ zRel D b t base u h' u.heap ∧ K v h'
theorem zPc.blind {D : va_G} {b t base : Nat} {as : List zV} {h : zH} : FrameBlind (zPc D b t base as h) := by
  intro a U g mk ⟨q1, q2, q3⟩
  exact ⟨q1, zTS.same rfl q2, zRel.moved (Vm.Alike.refl U.vm) q3⟩
section ZS
variable {p : Program} {l : Launch} {e : Env} {R : Room} {s : State} {m : MethodId} {args : Array Value} {below : List Frame} {meth : Method} {c : Code} {H : Heap} {locs : List Loc} {cells slots : Nat} {Q : State → Prop}
variable {cc : ByteArray} {pc : Nat} {ls : Array Slot} {rest : List Value} {D : va_G} {b t base : Nat} {h : zH}
theorem zPc.of {as : List zV} (hT : zTS D s) (hr : zRel D b t base s h H) : ∀ U : State, U.heap = H → s.WarmedH U.vm → zPc D b t base as h (as.map (zcv (zAd b t base))).toArray U :=
  fun U hU hW => ⟨rfl, hT.warm hW, by rw [hU]; exact hr.moved hW.alike⟩
theorem zs_obj (hr : zRel D b t base s h H) {ci : Nat} {r : vw_C} (hc : zCl[ci]? = some r) {a : Nat} (ha : zK h a = 3 + 2 * ci) : 0 < a ∧ 3 ≤ a ∧ t_OB (zAd b t base a) (D.1 ci) r.2.2 (D.2 ci) H (zFv (zAd b t base) h a ci) := by
  obtain ⟨r1, r2, r3, r4, r5, r6, r7, r8⟩ := hr
  have hlt : ci < zCl.length := (List.getElem?_eq_some_iff.mp hc).1
  have hlen : zCl.length < 40 := zCl_len
  have h0 : zK h a ≠ 0 := by omega
  have h1 : zK h a ≠ 101 := by omega
  exact ⟨(r5 a h0).1, r6 a h0 h1, (r7 a h0).2.2.2.1 ci r ha hc⟩
theorem zs_k {a kd : Nat} (hr : zRel D b t base s h H) (ha : zK h a = kd) (h0 : kd ≠ 0) : 0 < a ∧ zCell D (zAd b t base) s h a H := by
  obtain ⟨r1, r2, r3, r4, r5, r6, r7, r8⟩ := hr
  have h0 : zK h a ≠ 0 := by omega
  exact ⟨(r5 a h0).1, r7 a h0⟩
theorem zs_w {a kd : Nat} (hr : zRel D b t base s h H) (ha : zK h a = kd) (h0 : kd ≠ 0) (h1 : kd ≠ 101) : 3 ≤ a := by
  obtain ⟨r1, r2, r3, r4, r5, r6, r7, r8⟩ := hr
  exact r6 a (by omega) (by omega)
theorem zs_locs {a k : Nat} (hlo : ∀ q ∈ locs, base ≤ q.base) (ha : 3 ≤ a) : ∀ q ∈ locs ++ [⟨zAd b t base a, k⟩], base ≤ q.base := by
  intro q hq
  rcases List.mem_append.mp hq with h1 | h1
  · exact hlo q h1
  · rw [List.mem_singleton.mp h1]
    show base ≤ zAd b t base a
    rw [zAd_hi ha]; omega
/-- a field read -/
theorem zs_get (hexec : p.tables.exec = Jvm.exec) (hb : c.code = cc) (hts : ∀ w ∈ zAll, w.before args s = true) (hT : zTS D s) (hr : zRel D b t base s h H) {own : Nat} (hown : s.vm.findClass (zCn own) = some m.cls) {ci k idx a : Nat} (hci : ci < zCl.length) (hk : k < zNf ci) (hl : (own, idx, ci, k) ∈ zFls ∨ (own, idx, ci, k) ∈ zFns) (ha : zK h a = 3 + 2 * ci) (hdg : decode cc pc = .ok (.getfield idx, 3))
    (kk : W p l e R s m args below meth c H locs cells slots Q (F0 m (pc + 3) ls (zFv (zAd b t base) h a ci k :: rest))) : W p l e R s m args below meth c H locs cells slots Q (F0 m pc ls (zcv (zAd b t base) (.inr a) :: rest)) := by
  obtain ⟨C, T, N, hc, hN, hin⟩ := zCl_at hci
  rw [hN] at hk
  obtain ⟨h0, -, cell, q1, q2, q3, q4⟩ := zs_obj hr hc ha
  obtain ⟨hS, hfc, kC, hkC, hkind⟩ := hT.1.1 ci _ hc
  obtain ⟨cf, kf, fi, f, hi, hsl⟩ := hS k hk
  rw [zcv_ref h0]
  have hst := (u_facts hfc hkC (u_lays hts hin hk) hi).1
  have hv : cell.slots[f.slot]? = some (zFv (zAd b t base) h a ci k) := by rw [hsl, q4 k hk]
  rcases hl with hl | hl
  · have hlink := hts _ (zFls_ok _ hl)
    rw [zFlw_eq hc] at hlink
    exact W.getf hexec hb hown hlink hi hst q1 (by rw [q3]; exact fun h => by cases h) hv rfl rfl hdg kk
  · have hlink := va_Nw.use (A := args) rfl (hT.2.1 _ hl)
    rw [zFnw_eq hc] at hlink
    exact va_Wgetf hexec hb hown hlink hi hst q1 (by rw [q3]; exact fun h => by cases h) hv rfl rfl hdg kk
/-- a field written -/
theorem zs_put (hexec : p.tables.exec = Jvm.exec) (hb : c.code = cc) (hts : ∀ w ∈ zAll, w.before args s = true) (hT : zTS D s) (hr : zRel D b t base s h H) {own : Nat} (hown : s.vm.findClass (zCn own) = some m.cls) {ci k idx a : Nat} (hci : ci < zCl.length) (hk : k < zNf ci) (hl : (zFin ci k = false ∧ ((own, idx, ci, k) ∈ zFls ∨ (own, idx, ci, k) ∈ zFns)) ∨ (zFin ci k = true ∧ ci = own ∧ meth.name = "<init>" ∧ (own, idx, ci, k) ∈ zFls)) (ha : zK h a = 3 + 2 * ci) (hdg : decode cc pc = .ok (.putfield idx, 3))
    {v : zV} (hv : zFr ci k = v.isRight) (kk : ∀ H' : Heap, t_OB (zAd b t base a) (D.1 ci) (zNf ci) (D.2 ci) H' (updV (zFv (zAd b t base) h a ci) k (zcv (zAd b t base) v)) → H'.size = H.size → (∀ q, q ≠ zAd b t base a → H'[q]? = H[q]?) → ∀ i, W p l e R s m args below meth c H' (locs ++ [⟨zAd b t base a, i⟩]) cells slots Q (F0 m (pc + 3) ls rest)) :
    W p l e R s m args below meth c H locs cells slots Q (F0 m pc ls (zcv (zAd b t base) v :: zcv (zAd b t base) (.inr a) :: rest)) := by
  obtain ⟨C, T, N, hc, hN, hin⟩ := zCl_at hci
  rw [hN] at hk kk
  have hty := zCl_ty hc
  have hnm := zCl_nm hc
  have hap := va_apart (own := zCn own) hts hin (zTy ci) hty hnm hT.1 hc
  obtain ⟨h0, -, cell, q1, q2, q3, q4⟩ := zs_obj hr hc ha
  obtain ⟨hS, hfc, kC, hkC, hkind⟩ := hT.1.1 ci _ hc
  obtain ⟨cf, kf, fi, f, hi, hsl⟩ := hS k hk
  rw [zcv_ref h0]
  have hst := (u_facts hfc hkC (u_lays hts hin hk) hi).1
  have hlay := hts _ (hin _ (u_in_lay hk))
  unfold u_lay at hlay
  have hnf := zTy_fit (ad := zAd b t base) hc hk hv
  have hslot : f.slot < cell.slots.size := by rw [hsl]; exact k2_hasslot (q4 k hk)
  rcases hl with ⟨hfin, hl⟩ | ⟨hfin, rfl, hinit, hl⟩
  · rw [zFin_eq hc hk] at hfin
    rw [if_neg (by rw [hfin]; decide)] at hlay
    have h6 := u_store hfc hkC hkind hlay hi (hty k hk) hnf.1 hnf.2
    rcases hl with hl | hl
    · have hlink := hts _ (zFls_ok _ hl)
      rw [zFlw_eq hc] at hlink
      refine W.putK hexec hb (f := f) ⟨hown, hlink, ⟨_, _, _, hi⟩, hst⟩ (by rw [q2]; exact h6) q1 q3 hslot rfl rfl hdg fun H' e1 e2 e3 => ?_
      rw [hsl] at e1
      exact kk H' ⟨_, e1, q2, q3, t_set q4 hap hk _⟩ e2 e3 f.slot
    · have hlink := va_Nw.use (A := args) rfl (hT.2.1 _ hl)
      rw [zFnw_eq hc] at hlink
      refine va_WputK hexec hb (f := f) hown hlink hi hst (by rw [q2]; exact h6) q1 q3 hslot rfl rfl hdg fun H' e1 e2 e3 => ?_
      rw [hsl] at e1
      exact kk H' ⟨_, e1, q2, q3, t_set q4 hap hk _⟩ e2 e3 f.slot
  · rw [zFin_eq hc hk] at hfin
    rw [if_pos hfin] at hlay
    have hlink := hts _ (zFls_ok _ hl)
    rw [zFlw_eq hc] at hlink
    have hcf : m.cls = cf := by
      obtain ⟨_, _, c', _, _, _, -, -, hf', -, -, -, hown2, -⟩ := Cond.laysFinal_spec hlay
      have e1 : c' = cf := by have := hi.symm.trans hf'; simp at this; exact this.1.symm
      rw [zFd_own hc hk] at hown2
      rw [← e1]; exact Option.some.inj (hown.symm.trans hown2)
    have h6 := u_fits hfc hkC hkind (Or.inr hlay) hi (hty k hk) hnf.1 hnf.2
    refine W.putFinK hexec hb hown hlink hi hst hcf hinit (by rw [q2]; exact h6) q1 q3 hslot rfl rfl hdg fun H' e1 e2 e3 => ?_
    rw [hsl] at e1
    exact kk H' ⟨_, e1, q2, q3, t_set q4 hap hk _⟩ e2 e3 f.slot
/-- a call's way back -/
theorem zs_call {mc ms : Nat} {st0 : List Value} {K : zT} {a : Array Value} (hr : va_Run p l e R s m args below meth c H locs cells slots mc ms (F0 m pc ls st0) rest (zQc D b t base K a) (fun q => base ≤ q)) (hlo : ∀ q ∈ locs, base ≤ q.base)
    (kk : ∀ (v : Option zV) (h' : zH) (H1 : Heap) (locs1 : List Loc), K v h' → zRel D b t base s h' H1 → (∀ q ∈ locs1, base ≤ q.base) → W p l e R s m args below meth c H1 locs1 (cells + mc) (slots + ms) Q (F0 m (pc + 3) ls ((v.map (zcv (zAd b t base))).toList ++ rest))) : W p l e R s m args below meth c H locs cells slots Q (F0 m pc ls st0) := by
  intro T hT X
  obtain ⟨v, st₀, u, T', L, h0, X', hL, e1, e2, ⟨w, h', hv, hrel, hk⟩, st⟩ := hr T hT X
  have hv' : v = w.map (zcv (zAd b t base)) := by cases hv; rfl
  subst hv'
  have hal : u.vm.Alike s.vm := by rw [← e2]; exact X'.warmed.alike.symm
  obtain ⟨t2, a1, b1⟩ := kk w h' T'.heap (locs ++ L) hk (by rw [e1]; exact hrel.moved hal) (fun q hq => by
    rcases List.mem_append.mp hq with h1 | h1
    · exact hlo q h1
    · exact hL q h1) T' rfl X'
  exact ⟨t2, st t2 a1, b1⟩
end ZS
