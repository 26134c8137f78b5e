/-! THE CLAIM OUT OF ONE WALK OF THE LAW'S BODY. Your part is whole_start (and what it stands on); all else here is the same for every law, but numbers. -/
def R_law : String := "RoamingRegistersLaw"
def lw_P (b : Addr) (xs : List Int32) (args : Array Value) (s : State) : Prop := args = #[.ref b] ∧ s.IntsAt b xs ∧ xs.length ≤ 2049 ∧ (Jvm.Cond.and given_1 narrow_1).before args s = true
def lw_Q (_ : Array Value) (s : State) (o : Outcome) (t : State) : Prop := o = .returned (some (.int 1)) ∧ Framed s o t [] 600000 7302250
def lw_Z (below : List Frame) (a : Array Value) (s : State) : State → Prop := fun t => ∃ o, t.status = .running ∧ Ended t below o ∧ lw_Q a s o t
/-- the law's own end, with 1 on the stack, nothing written that was there before, its room as the claim has it -/
theorem lw_ret {p : Program} {l : Launch} {e : Env} {s : State} {m : MethodId} {below : List Frame} {meth : Method} {c : Code} {b : Nat} (hx : p.tables.exec = Jvm.exec) (hb : c.code = code) (hr : meth.sig.returnType = ret) (hlocks : meth.locks = false) {pc : Nat} {H : Heap} {ls : Array Slot} (hdg : decode code pc = .ok (.ireturn, 1)) : W p l e room_1 s m #[Value.ref b] below meth c H [] 600000 7302250 (lw_Z below #[Value.ref b] s) (F0 m pc ls [.int 1]) := by
  intro T hT X
  obtain ⟨fs, hret, hrun, hended, hW, hframe⟩ := X.leave (v := some (.int 1)) (hlocks := hlocks) (fun h => by rw [hr] at h; cases h)
  have hmeth' : T.vm.method? m = some meth := X.method'
  refine ⟨T.setFrames fs, ?_, .returned (some (.int 1)), hrun, hended, rfl, ⟨_, rfl⟩, hW, hframe⟩
  jvm_step X.here [X.here.top, hx, hb, hdg, hmeth', hr, ret, narrow_b1]
  (try refine ⟨rfl, ?_⟩); (try refine ⟨rfl, ?_⟩)
  first | (intro acts; rw [hret _ acts rfl rfl rfl]) | rw [hret _ _ rfl rfl rfl]
  exact Steps.refl _
/-- what holds at the law's entry: the machine, the code, the tables' words (any of lw_tbl by 'hts w (by decide +kernel)'), the script of L ints xs at the cell b, what the Statement gives of the start (any of its parts by flat_of_before) -/
def lw_At (p : Program) (s : State) (m : MethodId) (meth : Method) (c : Code) (b L : Nat) (xs : Nat → Int32) : Prop :=
  p.tables.exec = Jvm.exec ∧ c.code = code ∧ meth.sig.returnType = ret ∧ c.maxLocals = 4 ∧ s.vm.findClass R_law = some m.cls ∧ (∀ w ∈ lw_tbl, w.before #[Value.ref b] s = true) ∧ va_X b L xs s s.heap ∧ b < s.heap.size ∧ meth.locks = false ∧ (Jvm.Cond.and given_1 narrow_1).before #[Value.ref b] s = true
theorem zNws_all : ∀ ci, ci < 10 → ∃ q ∈ zNws, q.2.2 = ci := by decide
theorem zCn_all : ∀ ci, ci < 10 → (zCl[ci]?).map (fun r => r.1) = some (zCn ci) := by decide
/-- the small machine's heap at the law's entry -/
def hIni (L : Nat) (xs : Nat → Int32) : zH := (fun a => if a = 1 ∨ a = 2 then 101 else 0, fun a => if a = 1 then L else 6, 3, fun a j => if a = 1 then xs j else nI (10 ^ j), fun _ _ => 0)
theorem hIni_k {L : Nat} {xs : Nat → Int32} {a : Nat} (h : zK (hIni L xs) a ≠ 0) : (a = 1 ∨ a = 2) ∧ zK (hIni L xs) a = 101 := by
  by_cases e : a = 1 ∨ a = 2
  · exact ⟨e, if_pos e⟩
  · exact absurd (if_neg e) h
theorem zCell_101 {D : va_G} {ad : Nat → Nat} {s : State} {h : zH} {a : Nat} {H : Heap} (hk : zK h a = 101) (k : ∃ cell : Cell, H[ad a]? = some cell ∧ s.isArrayOf cell .int ∧ cell.vm ≠ .unknown ∧ zL h a ≤ cell.slots.size ∧ cell.slots.size.toInt32 = Int32.ofNat (zL h a) ∧ ∀ j, j < zL h a → cell.slots[j]? = some (.int (zI h a j))) : zCell D ad s h a H := by
  refine ⟨fun q => absurd (hk.symm.trans q) (by decide), fun q => absurd (hk.symm.trans q) (by decide), fun _ => k, fun ci r q hc => ?_, fun ci r q _ => ?_⟩
  · rw [hk] at q
    have h1 : ci < zCl.length := (List.getElem?_eq_some_iff.mp hc).1
    have h2 := zCl_len
    omega
  · rw [hk] at q; omega
theorem law_ws {s : State} {args : Array Value} (hts : ∀ w ∈ lw_tbl, w.before args s = true) : ∃ D : va_G, zTS D s := by
  have hex : ∀ ci : Nat, ∃ (cC : ClassId) (iS : Nat → Nat), ∀ r : vw_C, zCl[ci]? = some r → u_Kn s r.1 r.2.1 r.2.2 cC iS := by
    have one : ∀ ci, ci < 10 → ∃ (cC : ClassId) (iS : Nat → Nat), ∀ r : vw_C, zCl[ci]? = some r → u_Kn s r.1 r.2.1 r.2.2 cC iS := fun ci hci => by
      obtain ⟨C, T, N, hc, hN, hin⟩ := zCl_at (ci := ci) hci
      obtain ⟨q, hq, eq⟩ := zNws_all ci hci
      have hcn := zCn_all ci hci
      rw [hc] at hcn
      have hcn : C = zCn ci := Option.some.inj hcn
      have hi := hts _ (List.mem_filter.mp (zNws_ok q hq).2.1).1
      rw [eq, ← hcn] at hi
      obtain ⟨cC, iS, hk⟩ := u_known hts (fun w hw => (List.mem_filter.mp (hin w hw)).1) hi
      exact ⟨cC, iS, fun r hr => by rw [hc] at hr; cases hr; exact hk⟩
    intro ci
    by_cases hci : ci < 10
    · exact one ci hci
    · obtain ⟨cC, iS, -⟩ := one 0 (by decide)
      exact ⟨cC, iS, fun r hr => absurd (List.getElem?_eq_some_iff.mp hr).1 hci⟩
  refine ⟨(fun ci => Classical.choose (hex ci), fun ci => Classical.choose (Classical.choose_spec (hex ci))), ⟨fun c q hq => Classical.choose_spec (Classical.choose_spec (hex c)) q hq, fun k q hk => (by cases hk)⟩, fun q hq => va_Nw.of rfl (hts _ (zFns_in q hq)), fun q hq => va_Nw.of rfl (hts _ (zMns_in q hq)), fun q hq => va_Nw.of rfl (hts _ (zSns_in q hq)), fun q hq => va_AO.of (hts _ (zAos_in q hq))⟩
theorem law_rel {D : va_G} {s : State} {b t L : Nat} {xs : Nat → Int32} (hX : va_X b L xs s s.heap) (hbl : b < s.heap.size) (hT : va_T .int t 6 (fun j => .int (nI (10 ^ j))) (fun q => s.heap.size ≤ q) s s.heap) (hZ : va_Z zSc zSn "[I" (.ref t) (fun q => s.heap.size ≤ q) s s.heap) : zRel D b t s.heap.size s (hIni L xs) s.heap := by
  obtain ⟨scr, x1, x2, x3, x4, x5⟩ := hX
  obtain ⟨tc, t1, t2, t3, t4, t5, t6, t7⟩ := hT
  refine ⟨hbl, (Array.getElem?_eq_some_iff.mp t1).1, Nat.le_refl _, rfl, fun a h => ?_, fun a h h2 => absurd (hIni_k h).2 h2, fun a h => zCell_101 (hIni_k h).2 ?_, hZ⟩
  · rcases (hIni_k h).1 with rfl | rfl
    · exact ⟨by decide, show 1 < 3 by decide⟩
    · exact ⟨by decide, show 2 < 3 by decide⟩
  · rcases (hIni_k h).1 with rfl | rfl
    · refine ⟨scr, x1, x2, x3, ?_, ?_, fun j hj => x5 j hj⟩
      · show L ≤ scr.slots.size
        rw [x4]; exact Nat.le_refl _
      · show scr.slots.size.toInt32 = Int32.ofNat L
        rw [x4]
    · exact ⟨tc, t1, t2, t3, t4, t5, fun j hj => t6 j hj⟩
theorem law_pow {s : State} {args : Array Value} (hl : (Cond.laysStatic zSc zSn "[I").before args s = true) (hini : (Cond.initialized zSc).before args s = true) (harr : (Cond.arrayOf (.static zSc zSn "[I") .int).before args s = true) (hlen : (Cond.eq (.length (.static zSc zSn "[I")) (.int 6)).before args s = true)
    (e0 : (Cond.eq (.elem (.static zSc zSn "[I") (.int 0)) (.int 1)).before args s = true) (e1 : (Cond.eq (.elem (.static zSc zSn "[I") (.int 1)) (.int 10)).before args s = true) (e2 : (Cond.eq (.elem (.static zSc zSn "[I") (.int 2)) (.int 100)).before args s = true) (e3 : (Cond.eq (.elem (.static zSc zSn "[I") (.int 3)) (.int 1000)).before args s = true) (e4 : (Cond.eq (.elem (.static zSc zSn "[I") (.int 4)) (.int 10000)).before args s = true) (e5 : (Cond.eq (.elem (.static zSc zSn "[I") (.int 5)) (.int 100000)).before args s = true) :
    ∃ t : Nat, va_T .int t 6 (fun j => .int (nI (10 ^ j))) (fun q => s.heap.size ≤ q) s s.heap ∧ va_Z zSc zSn "[I" (.ref t) (fun q => s.heap.size ≤ q) s s.heap := by
  have hA : ∀ a : Nat, a < s.heap.size → ¬ s.heap.size ≤ a := fun a h q => absurd q (by omega)
  obtain ⟨t, ht, hT⟩ := va_Tof (ty := .int) (N := 6) (f := fun j => .int (nI (10 ^ j))) (A := fun q => s.heap.size ≤ q) (by decide) harr (va_eqt hlen) (fun j hj => by
    rcases (show j = 0 ∨ j = 1 ∨ j = 2 ∨ j = 3 ∨ j = 4 ∨ j = 5 by omega) with rfl | rfl | rfl | rfl | rfl | rfl
    · exact va_eqt e0
    · exact va_eqt e1
    · exact va_eqt e2
    · exact va_eqt e3
    · exact va_eqt e4
    · exact va_eqt e5) hA
  exact ⟨t, hT, va_Zref hl hini ht hA⟩
theorem whole_start {p : Program} {e : Env} {s : State} {m : MethodId} {below : List Frame} {meth : Method} {c : Code} (l : Launch) {b L : Nat} {xs : Nat → Int32} (hL : L ≤ 2049) (C0 : lw_At p s m meth c b L xs) : W p l e room_1 s m #[Value.ref b] below meth c s.heap [] 0 0 (lw_Z below #[Value.ref b] s) (entryFrame m ([Value.ref b] : List Value).toArray 4) := by
  obtain ⟨hx, hcode, hret, hml, hown, hts, hX, hbl, hlk, hgv⟩ := C0
  have hfl := flat_of_before _ hgv
  obtain ⟨D, hTS⟩ := law_ws hts
  obtain ⟨t, hT, hZ⟩ := law_pow (s := s) (args := #[Value.ref b]) (hts _ (by decide +kernel)) (hts _ (by decide +kernel)) (hfl _ (by decide +kernel)) (hfl _ (by decide +kernel)) (hfl _ (by decide +kernel)) (hfl _ (by decide +kernel)) (hfl _ (by decide +kernel)) (hfl _ (by decide +kernel)) (hfl _ (by decide +kernel)) (hfl _ (by decide +kernel))
  have hrel := law_rel (D := D) hX hbl hT hZ
  have k := law_start (h := hIni L xs) (K := fun r _ => r = some (.inl 1)) rfl rfl hL ⟨rfl, rfl, fun j _ => rfl⟩ (fun _ => rfl)
  have C1 : zCtx 117 7 p room_1 s m #[Value.ref b] meth c D := ⟨hx, hcode, hml, hown, fun w hw => hts w (List.mem_filter.mp hw).1, hTS, fun q => absurd q (by decide), by decide, by decide, by decide, by decide, (zY_ok 117 (by decide)).2.2.1⟩
  have ea : ([Value.ref b] : List Value) = ([.inr 1] : List zV).map (zcv (zAd b t s.heap.size)) := by
    show _ = [zcv (zAd b t s.heap.size) (.inr 1)]
    rw [zcv_ref (by decide)]; rfl
  have g : entryFrame m ([Value.ref b] : List Value).toArray 4 = F0 m 0 ((lg_sl (([.inr 1] : List zV).map (zcv (zAd b t s.heap.size))) ++ List.replicate (4 - (lg_sl (([.inr 1] : List zV).map (zcv (zAd b t s.heap.size)))).length) Slot.unset).toArray) [] := by
    rw [ea]; exact lg_entry_eq m _ 4
  rw [g]
  refine k (zPW p l e room_1 s m #[Value.ref b] below meth c D b t s.heap.size (zMl 117) (zTab 117).2.2.1 (zTab 117).2.2.2 (lw_Z below #[Value.ref b] s)) (zSnd C1 (fun x as h Q' k => zMet 7 x as h Q' k) ?_ ?_) (Nat.zero_le _) (Nat.zero_le _) rfl s.heap [] _ hrel (zEntry _ [.inr 1] (by decide)) (fun q hq => by cases hq)
  · intro cu su pc h H locs lsR v hd hc hs hk hrt hr hlo
    have hk : some (Sum.inl v : zV) = some (.inl 1) := hk
    have ev : v = 1 := by cases hk; rfl
    subst ev
    refine va_forget hlo ?_
    exact W.widen (Nat.le_trans hc (by decide)) (Nat.le_trans hs (by decide)) (lw_ret hx hcode hret hlk hd)
  · intro cu su pc h H locs lsR hd hc hs hk h2 hr hlo
    have hk : (none : Option zV) = some (.inl 1) := hk
    cases hk
set_option maxHeartbeats 4000000 in
theorem lw_walk (l : Launch) (b : Addr) (xs : List Int32) : MetFree l x (headSpec (Jvm.Cond.code x code maxLocals ret :: tables_1) room_1) (lw_P b xs) (fun _ _ _ _ _ => True) lw_Q := by
  refine MetFree.of_bodyS (code := code) (maxLocals := maxLocals) (ret := ret) (by decide) ?_ ?_
  · intro args s m h hn
    obtain ⟨meth, c, h1, h2, h3, h4, h5, h6, -, -⟩ := Cond.code_spec hn (atoms_spec (ws := Jvm.Cond.code x code maxLocals ret :: tables_1) h _ List.mem_cons_self)
    exact ⟨meth, c, h1, h2, h3, h4, h5, h6⟩
  · intro p e s m args below meth c s₁ B hml0 hP _
    obtain ⟨rfl, hx, hbd, hgv⟩ := hP
    obtain ⟨scr, harrAt, hlist, hof, hsmall⟩ := hx
    obtain ⟨hcb, hkn, -, -⟩ := State.arrayAt?_spec harrAt
    have hown : s.vm.findClass R_law = some m.cls := findClass_of_methodNamed B.named
    have hts0 : ∀ c ∈ (Jvm.Cond.code x code maxLocals ret :: tables_1), c.before #[Value.ref b] s = true := atoms_spec (ws := Jvm.Cond.code x code maxLocals ret :: tables_1) B.pre
    have hts : ∀ w ∈ lw_tbl, w.before #[Value.ref b] s = true := k2_hts_sels lw_privs (fun w hw => hts0 w (List.mem_cons_of_mem _ hw)) lw_privs_ok
    have hml : c.maxLocals = 4 := B.maxLocals_eq (hts0 _ List.mem_cons_self)
    have X₀ : Stand p l e room_1 s m #[Value.ref b] below meth c s₁ [] 0 0 := Stand.of_body B
    have hh0 : s₁.heap = s.heap := by rw [B.state]; rfl
    have hsz : scr.slots.size = xs.length := by rw [← Array.length_toList, hlist, List.length_map]
    have hval : ∀ j : Nat, j < xs.length → scr.slots[j]? = some (.int (xs.getD j 0)) := fun j hj => by
      rw [← Array.getElem?_toList, hlist]
      simp [hj]
    have hbl : b < s.heap.size := (Array.getElem?_eq_some_iff.mp hcb).1
    have hX : va_X b xs.length (fun j => xs.getD j 0) s s.heap := ⟨scr, hcb, hof, hkn, hsz, hval⟩
    have K : W p l e room_1 s m #[Value.ref b] below meth c s₁.heap [] 0 0 (lw_Z below #[Value.ref b] s) (entryFrame m ([Value.ref b] : List Value).toArray 4) := by
      rw [hh0]
      exact whole_start l hbd ⟨B.exec, B.bytes, B.returns, hml, hown, hts, hX, hbl, B.notSynchronized, hgv⟩
    obtain ⟨t, a1, o, b1, b2, b3⟩ := K s₁ rfl X₀
    exact ⟨t, o, a1, b1, b2, b3⟩
theorem lw_pre_spec {args : Array Value} {s : State} (h : (Jvm.Cond.and given_1 narrow_1).before args s = true) (hr : rest_1_c.before args s = true) : ∃ (b : Addr) (xs : List Int32), lw_P b xs args s := by
  have hs := flat_of_before _ h
  have hq := flat_of_before _ hr
  have hc : (Cond.count 1).before args s = true := hs _ (by decide +kernel)
  have harr : (Cond.arrayOf (.arg 0) .int).before args s = true := hs _ (by decide +kernel)
  have hle : (Cond.le (.length (.arg 0)) (.int 2049)).before args s = true := hs _ (by decide +kernel)
  have hlen : (Cond.isInt (.length (.arg 0))).before args s = true := hq _ (by decide +kernel)
  have hall : (Cond.all (.arg 0) (.isInt (.elem (.arg 0) (.index 0)))).before args s = true := hq _ (by decide +kernel)
  obtain ⟨b, xs, hb, hx⟩ := State.ints_of_pre rfl harr hlen hall
  have hsm : xs.length < 2 ^ 31 := hx.choose_spec.2.2.2
  have hev : (Term.length (.arg 0)).eval args s none [] s = some (.int xs.length.toInt32) := hx.length_eval hb
  have hv := Cond.le_ints hev (show (Term.int 2049).eval args s none [] s = some (.int 2049) from rfl)
  have hd : xs.length.toInt32 ≤ 2049 := by
    simpa [Cond.before, Cond.holds, hv] using hle
  have hN : xs.length ≤ 2049 := (Int32.ofNat_le_ofNat hsm (by decide)).mp (show Int32.ofNat xs.length ≤ Int32.ofNat 2049 from hd)
  exact ⟨b, xs, Cond.one_arg hc (show args[0]? = some (.ref b) from hb), hx, hN, h⟩
theorem lw_comes (l : Launch) : Comes l x (Jvm.Cond.code x code maxLocals ret :: tables_1) room_1 (fun tb e args s => Calls_1 tb e args s ∧ rest_1 tb e args s ∧ Pre_1 tb e args s)
    (fun _ _ args s o t => lw_Q args s o t) := by
  intro p e ha hc hk s m args below hf hfit hheap happ hpre
  obtain ⟨b, xs, hP⟩ := lw_pre_spec hpre.2.2 hpre.2.1
  obtain ⟨k, o, h1, h2, h3, hQ⟩ := lw_walk l b xs p e ha hc hk s m args below hf ((Spec.applies_iff_loose hf).mp happ).1 hP trivial
  exact ⟨k, o, h1, h2, h3, hQ⟩
theorem lw_frame {s t : State} {o : Outcome} {args : Array Value} (h : Framed s o t [] 600000 7302250) :
    Framed s o t (fieldLocs frame_1_writes args s ++ arrayLocs frame_1_arrays args s ++ staticLocs frame_1_statics s) 600000 7302250 := h
theorem lw_limb (L : Cond) (hL : ∀ (args : Array Value) (s t : State), L.after args s (.returned (some (.int 1))) t = true) :
    ArmFor flags0 classFile x code maxLocals ret World_1 tables_1 room_1 Calls_1 rest_1 Pre_1
      (fun tb e a s o t => postC L tb e a s o t ∧ Framed s o t (fieldLocs frame_1_writes a s ++ arrayLocs frame_1_arrays a s ++ staticLocs frame_1_statics s) 600000 7302250) := by
  intro l _ _ _ p e ha hc hk s m args below hf hfit hheap happ hpre
  obtain ⟨k, o, h1, h2, h3, rfl, hF⟩ := lw_comes l p e ha hc hk s m args below hf hfit hheap happ hpre
  exact ⟨k, _, h1, h2, h3, hL args s _, lw_frame hF⟩
theorem i_vc : Claimed_1_1 ∧ Claimed_1_2 := ⟨lw_limb limb_1_1 (fun args s t => by simp [limb_1_1, Cond.after, Cond.holds, Cond.value]), lw_limb limb_1_2 (fun args s t => Cond.after_iff.mpr (by
  first | (rw [show limb_1_2 = Cond.eq .result (.int 1) from rfl, Cond.eq_ints (x := 1) (y := 1) rfl rfl]; simp; done) | (simp [limb_1_2, Cond.value, Term.eval]; done)))⟩
