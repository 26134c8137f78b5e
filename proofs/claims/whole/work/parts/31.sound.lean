def zPW (p : Program) (l : Launch) (e : Env) (R : Room) (s : State) (m : MethodId) (args : Array Value) (below : List Frame) (meth : Method) (c : Code) (D : va_G) (b t base nL mc ms : Nat) (Q : State → Prop) : zP := fun cu su pc ls st h =>
  cu ≤ mc → su ≤ ms → ls.length = nL → ∀ (H : Heap) (locs : List Loc) (lsR : Array Slot), zRel D b t base s h H → lv_has lsR nL (zLv (zAd b t base) ls) → (∀ q ∈ locs, base ≤ q.base) → W p l e R s m args below meth c H locs cu su Q (F0 m pc lsR (st.map (zcv (zAd b t base))))
/-- where a method's body is walked -/
def zCtx (y d : Nat) (p : Program) (R : Room) (s : State) (m : MethodId) (args : Array Value) (meth : Method) (c : Code) (D : va_G) : Prop :=
  p.tables.exec = Jvm.exec ∧ c.code = zBy y ∧ c.maxLocals = zMl y ∧ s.vm.findClass (zCn (zOn y)) = some m.cls ∧ (∀ w ∈ zAll, w.before args s = true) ∧ zTS D s ∧ ((zNm y).name = "<init>" → meth.name = (zNm y).name) ∧ d + 1 ≤ R.frames ∧ 30 * d + 30 ≤ R.locals ∧ (zTab y).2.2.1 ≤ R.cells ∧ (zTab y).2.2.2 ≤ R.slots ∧ zChkL y 0 (zTab y).1 = true
theorem zcats (ad : Nat → Nat) : ∀ r : List zV, ((r.map (zcv ad)).map fun v => v.category).sum = r.length
  | [] => rfl
  | v :: r => by
    show (zcv ad v).category + ((r.map (zcv ad)).map fun v => v.category).sum = r.length + 1
    rw [zcats ad r, zcv_cat]; omega
theorem zGd_in {L : List Cond} (h : ∀ w ∈ L, w ∈ zAll) : GoodIn zAll L := fun w hw => ⟨h w hw, zAll_good w (h w hw)⟩
theorem zWs_in {x : Nat} (hx : Cond.code (zNm x) (zBy x) (zMl x) (zRet x) ∈ zAll) : ∀ w ∈ zWs x, w ∈ zAll := by
  intro w hw
  rcases List.mem_cons.mp hw with rfl | h
  · exact hx
  · exact h
section ZN
variable {p : Program} {l : Launch} {e : Env} {R : Room} {s : State} {m : MethodId} {args : Array Value} {below : List Frame} {meth : Method} {c : Code} {Q : State → Prop} {D : va_G} {b t base y d : Nat} {call : zCall} {K : zT}
set_option maxHeartbeats 40000000 in
set_option maxRecDepth 100000 in
theorem zSnd (C0 : zCtx y d p R s m args meth c D)
    (hcall : ∀ x as h Q', call x as h Q' → Met l (zNm x) (zWs x) (zRm d x) (zPc D b t base as h) (zQc D b t base Q') (zMc x) (zMs x) (fun q => base ≤ q))
    (hI : ∀ (cu su pc : Nat) (h : zH) (H : Heap) (locs : List Loc) (lsR : Array Slot) (v : Int32), decode (zBy y) pc = .ok (.ireturn, 1) → cu ≤ (zTab y).2.2.1 → su ≤ (zTab y).2.2.2 → K (some (.inl v)) h → ((zTab y).2.1 = 0 ∨ (zTab y).2.1 = 1 ∧ (v = 0 ∨ v = 1)) → zRel D b t base s h H → (∀ q ∈ locs, base ≤ q.base) → W p l e R s m args below meth c H locs cu su Q (F0 m pc lsR [.int v]))
    (hV : ∀ (cu su pc : Nat) (h : zH) (H : Heap) (locs : List Loc) (lsR : Array Slot), decode (zBy y) pc = .ok (.return_, 1) → cu ≤ (zTab y).2.2.1 → su ≤ (zTab y).2.2.2 → K none h → (zTab y).2.1 = 2 → zRel D b t base s h H → (∀ q ∈ locs, base ≤ q.base) → W p l e R s m args below meth c H locs cu su Q (F0 m pc lsR []))
    (cu su pc : Nat) (ls : List (Option zV)) (st : List zV) (h : zH) (k : zStep (zTab y) call (zPW p l e R s m args below meth c D b t base (zMl y) (zTab y).2.2.1 (zTab y).2.2.2 Q) K cu su pc ls st h) :
    zPW p l e R s m args below meth c D b t base (zMl y) (zTab y).2.2.1 (zTab y).2.2.2 Q cu su pc ls st h := by
  obtain ⟨hx, hb, hml, hown, hts, hT, hnm, hRf, hRl, hRc, hRs, hok⟩ := C0
  unfold zStep at k
  split at k
  case h_2 => exact k.elim
  case h_1 i n x yy z c0 heq =>
    have hg := zChkL_at _ 0 pc hok heq
    rw [Nat.zero_add] at hg
    unfold zChk at hg
    rw [Bool.and_eq_true] at hg
    obtain ⟨hd0, hg⟩ := hg
    have hd : decode (zBy y) pc = .ok (i, n) := zDec_of hd0
    clear hd0
    intro hc hs hl H locs lsR hr hL hlo
    have hsz : lsR.size = zMl y := hL.1
    cases i
    case iconst v =>
      simp only [Bool.and_eq_true, decide_eq_true_eq] at hg
      obtain ⟨rfl, hg⟩ := hg
      exact lv_iconst hx hb hd hg (k hc hs hl H locs lsR hr hL hlo)
    case bipush v =>
      simp only [Bool.and_eq_true, decide_eq_true_eq] at hg
      obtain ⟨rfl, hg⟩ := hg
      exact lv_bipush hx hb hd hg (k hc hs hl H locs lsR hr hL hlo)
    case sipush v =>
      simp only [Bool.and_eq_true, decide_eq_true_eq] at hg
      obtain ⟨rfl, hg⟩ := hg
      exact lv_sipush hx hb hd hg (k hc hs hl H locs lsR hr hL hlo)
    case ldc v =>
      simp only [Bool.and_eq_true, decide_eq_true_eq] at hg
      obtain ⟨rfl, hg⟩ := hg
      exact lv_ldc hx hb hown (hts _ (zCs_ok _ hg)) hd (k hc hs hl H locs lsR hr hL hlo)
    case iload_n j =>
      simp only [decide_eq_true_eq] at hg
      subst hg
      obtain ⟨v, hv, k⟩ := zGi_of k
      exact lv_iload_n hx hb hd rfl (zLv_at hL hv) (k hc hs hl H locs lsR hr hL hlo)
    case iload j =>
      simp only [decide_eq_true_eq] at hg
      subst hg
      obtain ⟨v, hv, k⟩ := zGi_of k
      exact lv_iload hx hb hd (zLv_at hL hv) (k hc hs hl H locs lsR hr hL hlo)
    case aload_n j =>
      simp only [decide_eq_true_eq] at hg
      subst hg
      obtain ⟨v, hv, k⟩ := zGr_of k
      have hat := zLv_at hL hv
      have k := k hc hs hl H locs lsR hr hL hlo
      rw [List.map_cons] at k
      by_cases h0 : 0 < v
      · rw [zcv_ref h0] at hat k
        exact lv_aload_n hx hb hd rfl hat k
      · rw [zcv_null h0] at hat k
        exact lv_aload_nN hx hb hd rfl hat k
    case aload j =>
      simp only [decide_eq_true_eq] at hg
      subst hg
      obtain ⟨v, hv, k⟩ := zGr_of k
      have hat := zLv_at hL hv
      have k := k hc hs hl H locs lsR hr hL hlo
      rw [List.map_cons] at k
      by_cases h0 : 0 < v
      · rw [zcv_ref h0] at hat k
        exact lv_aload hx hb hd hat k
      · rw [zcv_null h0] at hat k
        exact lv_aloadN hx hb hd hat k
    case istore_n j =>
      simp only [decide_eq_true_eq] at hg
      subst hg
      obtain ⟨v, r, rfl, k⟩ := z1i_of k
      obtain ⟨hlt, k⟩ := zSt_of k
      exact lv_istore_n hx hb hd rfl hL (by rw [← hl]; exact hlt) rfl (fun ls' hL' => k hc hs (by rw [List.length_set]; exact hl) H locs ls' hr (zLv_set (v := .inl v) hlt hL') hlo)
    case istore j =>
      simp only [decide_eq_true_eq] at hg
      subst hg
      obtain ⟨v, r, rfl, k⟩ := z1i_of k
      obtain ⟨hlt, k⟩ := zSt_of k
      exact lv_istore hx hb hd hL (by rw [← hl]; exact hlt) rfl (fun ls' hL' => k hc hs (by rw [List.length_set]; exact hl) H locs ls' hr (zLv_set (v := .inl v) hlt hL') hlo)
    case astore_n j =>
      simp only [decide_eq_true_eq] at hg
      subst hg
      obtain ⟨v, r, rfl, k⟩ := z1r_of k
      obtain ⟨hlt, k⟩ := zSt_of k
      rw [List.map_cons]
      by_cases h0 : 0 < v
      · rw [zcv_ref h0]
        exact lv_astore_n hx hb hd rfl hL (by rw [← hl]; exact hlt) rfl (fun ls' hL' => k hc hs (by rw [List.length_set]; exact hl) H locs ls' hr (zLv_set (v := .inr v) hlt (by rw [zcv_ref h0]; exact hL')) hlo)
      · rw [zcv_null h0]
        exact lv_astore_nN hx hb hd rfl hL (by rw [← hl]; exact hlt) rfl (fun ls' hL' => k hc hs (by rw [List.length_set]; exact hl) H locs ls' hr (zLv_set (v := .inr v) hlt (by rw [zcv_null h0]; exact hL')) hlo)
    case astore j =>
      simp only [decide_eq_true_eq] at hg
      subst hg
      obtain ⟨v, r, rfl, k⟩ := z1r_of k
      obtain ⟨hlt, k⟩ := zSt_of k
      rw [List.map_cons]
      by_cases h0 : 0 < v
      · rw [zcv_ref h0]
        exact lv_astore hx hb hd hL (by rw [← hl]; exact hlt) rfl (fun ls' hL' => k hc hs (by rw [List.length_set]; exact hl) H locs ls' hr (zLv_set (v := .inr v) hlt (by rw [zcv_ref h0]; exact hL')) hlo)
      · rw [zcv_null h0]
        exact lv_astoreN hx hb hd hL (by rw [← hl]; exact hlt) rfl (fun ls' hL' => k hc hs (by rw [List.length_set]; exact hl) H locs ls' hr (zLv_set (v := .inr v) hlt (by rw [zcv_null h0]; exact hL')) hlo)
    case iinc j o =>
      simp only [Bool.and_eq_true, decide_eq_true_eq] at hg
      obtain ⟨rfl, hg⟩ := hg
      obtain ⟨v, hv, k⟩ := zGi_of k
      obtain ⟨hlt, k⟩ := zSt_of k
      obtain ⟨q, hq⟩ := List.getElem?_of_mem (zLv_mem (ad := zAd b t base) hv)
      exact lv_iinc hx hb hd hL hq (by rw [hg]) (by rw [← hl]; exact hlt) rfl (fun ls' hL' => k hc hs (by rw [List.length_set]; exact hl) H locs ls' hr (zLv_set (v := .inl (v + c0)) hlt hL') hlo)
    case iadd =>
      simp only [decide_eq_true_eq] at hg
      subst hg
      obtain ⟨a, a', r, rfl, k⟩ := z2i_of k
      exact lv_iadd hx hb hd (k hc hs hl H locs lsR hr hL hlo)
    case isub =>
      simp only [decide_eq_true_eq] at hg
      subst hg
      obtain ⟨a, a', r, rfl, k⟩ := z2i_of k
      exact lv_isub hx hb hd (k hc hs hl H locs lsR hr hL hlo)
    case imul =>
      simp only [decide_eq_true_eq] at hg
      subst hg
      obtain ⟨a, a', r, rfl, k⟩ := z2i_of k
      exact lv_imul hx hb hd (k hc hs hl H locs lsR hr hL hlo)
    case iand =>
      simp only [decide_eq_true_eq] at hg
      subst hg
      obtain ⟨a, a', r, rfl, k⟩ := z2i_of k
      exact lv_iand hx hb hd (k hc hs hl H locs lsR hr hL hlo)
    case idiv =>
      simp only [decide_eq_true_eq] at hg
      subst hg
      obtain ⟨a, a', r, rfl, h0, k⟩ := z2i_of k
      exact lv_idiv hx hb hd h0 (k hc hs hl H locs lsR hr hL hlo)
    case irem =>
      simp only [decide_eq_true_eq] at hg
      subst hg
      obtain ⟨a, a', r, rfl, h0, k⟩ := z2i_of k
      exact lv_irem hx hb hd h0 (k hc hs hl H locs lsR hr hL hlo)
    case dup =>
      simp only [decide_eq_true_eq] at hg
      subst hg
      cases st with
      | nil => exact k.elim
      | cons v r => exact lv_dup hx hb hd (zcv_cat _ _) (k hc hs hl H locs lsR hr hL hlo)
    case dup2 =>
      simp only [decide_eq_true_eq] at hg
      subst hg
      cases st with
      | nil => exact k.elim
      | cons v r => cases r with
        | nil => exact k.elim
        | cons w r => exact lv_dup2_11 hx hb hd (zcv_cat _ _) (zcv_cat _ _) (k hc hs hl H locs lsR hr hL hlo)
    case if_icmp q o =>
      simp only [Bool.and_eq_true, decide_eq_true_eq] at hg
      obtain ⟨rfl, hg⟩ := hg
      cases q with
      | eq =>
        obtain ⟨a, a', r, rfl, k⟩ := z2i_of k
        exact lv_icmp_eq hx hb hd hg (fun q => k.1 q hc hs hl H locs lsR hr hL hlo) (fun q => k.2 q hc hs hl H locs lsR hr hL hlo)
      | ne =>
        obtain ⟨a, a', r, rfl, k⟩ := z2i_of k
        exact lv_icmp_ne hx hb hd hg (fun q => k.1 q hc hs hl H locs lsR hr hL hlo) (fun q => k.2 q hc hs hl H locs lsR hr hL hlo)
      | lt =>
        obtain ⟨a, a', r, rfl, k⟩ := z2i_of k
        exact lv_icmp_lt hx hb hd hg (fun q => k.1 q hc hs hl H locs lsR hr hL hlo) (fun q => k.2 q hc hs hl H locs lsR hr hL hlo)
      | ge =>
        obtain ⟨a, a', r, rfl, k⟩ := z2i_of k
        exact lv_icmp_ge hx hb hd hg (fun q => k.1 q hc hs hl H locs lsR hr hL hlo) (fun q => k.2 q hc hs hl H locs lsR hr hL hlo)
      | gt =>
        obtain ⟨a, a', r, rfl, k⟩ := z2i_of k
        exact lv_icmp_gt hx hb hd hg (fun q => k.1 q hc hs hl H locs lsR hr hL hlo) (fun q => k.2 q hc hs hl H locs lsR hr hL hlo)
      | le =>
        obtain ⟨a, a', r, rfl, k⟩ := z2i_of k
        exact lv_icmp_le hx hb hd hg (fun q => k.1 q hc hs hl H locs lsR hr hL hlo) (fun q => k.2 q hc hs hl H locs lsR hr hL hlo)
    case ifCond q o =>
      simp only [Bool.and_eq_true, decide_eq_true_eq] at hg
      obtain ⟨rfl, hg⟩ := hg
      cases q with
      | eq =>
        obtain ⟨a, r, rfl, k⟩ := z1i_of k
        exact lv_if_eq hx hb hd hg (fun q => k.1 q hc hs hl H locs lsR hr hL hlo) (fun q => k.2 q hc hs hl H locs lsR hr hL hlo)
      | ne =>
        obtain ⟨a, r, rfl, k⟩ := z1i_of k
        exact lv_if_ne hx hb hd hg (fun q => k.1 q hc hs hl H locs lsR hr hL hlo) (fun q => k.2 q hc hs hl H locs lsR hr hL hlo)
      | lt =>
        obtain ⟨a, r, rfl, k⟩ := z1i_of k
        exact lv_if_lt hx hb hd hg (fun q => k.1 q hc hs hl H locs lsR hr hL hlo) (fun q => k.2 q hc hs hl H locs lsR hr hL hlo)
      | ge =>
        obtain ⟨a, r, rfl, k⟩ := z1i_of k
        exact lv_if_ge hx hb hd hg (fun q => k.1 q hc hs hl H locs lsR hr hL hlo) (fun q => k.2 q hc hs hl H locs lsR hr hL hlo)
      | gt =>
        obtain ⟨a, r, rfl, k⟩ := z1i_of k
        exact lv_if_gt hx hb hd hg (fun q => k.1 q hc hs hl H locs lsR hr hL hlo) (fun q => k.2 q hc hs hl H locs lsR hr hL hlo)
      | le =>
        obtain ⟨a, r, rfl, k⟩ := z1i_of k
        exact lv_if_le hx hb hd hg (fun q => k.1 q hc hs hl H locs lsR hr hL hlo) (fun q => k.2 q hc hs hl H locs lsR hr hL hlo)
    case goto o =>
      simp only [Bool.and_eq_true, decide_eq_true_eq] at hg
      obtain ⟨rfl, hg⟩ := hg
      exact lv_goto hx hb hd hg (k hc hs hl H locs lsR hr hL hlo)
    case getfield j =>
      simp only [Bool.and_eq_true, decide_eq_true_eq] at hg
      obtain ⟨rfl, hci, hxe, hkN, hfr, hlk⟩ := hg
      obtain ⟨a, r, rfl, ha, k⟩ := z1r_of k
      refine zs_get hx hb hts hT hr hown hci hkN hlk (by rw [ha]; exact hxe) hd ?_
      cases z with
      | zero =>
        unfold zFv
        rw [if_neg (by rw [hfr]; decide)]
        exact k hc hs hl H locs lsR hr hL hlo
      | succ z =>
        unfold zFv
        rw [if_pos (by rw [hfr]; exact decide_eq_true (Nat.succ_ne_zero z))]
        exact k hc hs hl H locs lsR hr hL hlo
    case putfield j =>
      simp only [Bool.and_eq_true, decide_eq_true_eq] at hg
      obtain ⟨rfl, hci, hxe, hkN, hfr, hlk⟩ := hg
      replace hlk := hlk.imp_right (fun ⟨w1, w2, w3, w4⟩ => And.intro w1 (And.intro w2 (And.intro ((hnm w3).trans w3) w4)))
      obtain ⟨C, T, N, hcl, hN, -⟩ := zCl_at hci
      cases z with
      | zero =>
        obtain ⟨v, a, r, rfl, ha, k⟩ := z2ir_of k
        have ha' := ha.trans hxe
        refine zs_put hx hb hts hT hr hown hci hkN hlk ha' hd (v := .inl v) (by rw [hfr]; rfl) (fun H' e1 e2 e3 i => k _ rfl hc hs hl H' _ lsR ?_ hL (zs_locs hlo (zs_obj hr hcl ha').2.1))
        refine hr.upd (zs_obj hr hcl ha').2.1 (fun _ => rfl) (fun _ => rfl) rfl (fun _ q => zwI_ne q) (fun _ _ => rfl) e2 e3 (zCell_obj hcl ha' ?_)
        rw [hN] at e1
        refine e1.to (fun j' _ => ?_)
        unfold updV zFv
        by_cases hj : j' = yy
        · rw [if_pos hj, hj, if_neg (by rw [hfr]; decide), zI_wI, if_pos ⟨rfl, rfl⟩]; rfl
        · have e9 : zI (zwI h a yy v) a j' = zI h a j' := by rw [zI_wI, if_neg (fun q => hj q.2)]
          rw [if_neg hj, e9]; rfl
      | succ z =>
        obtain ⟨v, a, r, rfl, ha, k⟩ := z2rr_of k
        have ha' := ha.trans hxe
        have hfr' : zFr ((x - 3) / 2) yy = true := by rw [hfr]; exact decide_eq_true (Nat.succ_ne_zero z)
        refine zs_put hx hb hts hT hr hown hci hkN hlk ha' hd (v := .inr v) hfr' (fun H' e1 e2 e3 i => k _ rfl hc hs hl H' _ lsR ?_ hL (zs_locs hlo (zs_obj hr hcl ha').2.1))
        refine hr.upd (zs_obj hr hcl ha').2.1 (fun _ => rfl) (fun _ => rfl) rfl (fun _ _ => rfl) (fun _ q => zwR_ne q) e2 e3 (zCell_obj hcl ha' ?_)
        rw [hN] at e1
        refine e1.to (fun j' _ => ?_)
        unfold updV zFv
        by_cases hj : j' = yy
        · rw [if_pos hj, hj, if_pos hfr', zR_wR, if_pos ⟨rfl, rfl⟩]
        · have e9 : zR (zwR h a yy v) a j' = zR h a j' := by rw [zR_wR, if_neg (fun q => hj q.2)]
          rw [if_neg hj, e9]; rfl
    case getstatic j =>
      simp only [Bool.and_eq_true, decide_eq_true_eq] at hg
      obtain ⟨rfl, rfl, hg⟩ := hg
      obtain ⟨cf, kf, fi, f, a0, cell, h1, h2, h3, h4, h5, h6, h7, h8⟩ := hr.2.2.2.2.2.2.2
      rcases hg with hg | hg
      · exact W.gets hx hb hown (hts _ (zSls_ok _ hg)) h1 h2 h3 h4 h5 (fun e => by rw [e] at h6; cases h6) h7 rfl hd (k hc hs hl H locs lsR hr hL hlo)
      · exact va_WgetsN hx hb hown (va_Nw.use (A := args) rfl (hT.2.2.2.1 _ hg)) h1 h2 h3 h4 h5 (fun e => by rw [e] at h6; cases h6) h7 rfl hd (k hc hs hl H locs lsR hr hL hlo)
    case iaload =>
      simp only [decide_eq_true_eq] at hg
      subst hg
      obtain ⟨j, a, r, rfl, hk, hin, k⟩ := z2ir_of k
      have hlt : j.toNatClampNeg < zL h a := Nat.not_le.mp fun q => hin (Or.inr q)
      rw [List.map_cons, List.map_cons]
      rcases hk with hk | hk
      · obtain ⟨h0, cl⟩ := zs_k hr hk (by decide)
        obtain ⟨cA, q1, q2⟩ := cl.1 hk
        rw [zcv_ref h0]
        exact W.iald (v := .int (zI h a j.toNatClampNeg)) hx hb q1 (q2 _ _) (fun q => by cases q) (by rw [arrV_size]; exact hin) (arrV_read _ _ hlt) rfl rfl hd (k hc hs hl H locs lsR hr hL hlo)
      · obtain ⟨h0, cl⟩ := zs_k hr hk (by decide)
        obtain ⟨cell, q1, q2, q3, q4, q5, q6⟩ := cl.2.2.1 hk
        rw [zcv_ref h0]
        exact W.iald (v := .int (zI h a j.toNatClampNeg)) hx hb q1 q2 q3 (fun q => hin (q.imp id (fun z => Nat.le_trans q4 z))) (q6 _ hlt) rfl rfl hd (k hc hs hl H locs lsR hr hL hlo)
    case baload =>
      simp only [decide_eq_true_eq] at hg
      subst hg
      obtain ⟨j, a, r, rfl, hk, hin, k⟩ := z2ir_of k
      have hlt : j.toNatClampNeg < zL h a := Nat.not_le.mp fun q => hin (Or.inr q)
      rw [List.map_cons, List.map_cons]
      obtain ⟨h0, cl⟩ := zs_k hr hk (by decide)
      obtain ⟨cA, q1, q2⟩ := cl.2.1 hk
      rw [zcv_ref h0]
      exact W.zald (v := .int (zI h a j.toNatClampNeg)) hx hb q1 (q2 _ _) (fun q => by cases q) (by rw [arrV_size]; exact hin) (arrV_read _ _ hlt) rfl rfl hd (k hc hs hl H locs lsR hr hL hlo)
    case aaload =>
      simp only [Bool.and_eq_true, decide_eq_true_eq] at hg
      obtain ⟨rfl, hci, hxe⟩ := hg
      obtain ⟨C, T, N, hcl, hN, -⟩ := zCl_at hci
      obtain ⟨j, a, r, rfl, hk, hin, k⟩ := z2ir_of k
      have hlt : j.toNatClampNeg < zL h a := Nat.not_le.mp fun q => hin (Or.inr q)
      rw [List.map_cons, List.map_cons]
      have hk' := hk.trans hxe
      obtain ⟨h0, cl⟩ := zs_k hr hk' (by omega)
      obtain ⟨cA, kA, comp, q1, q2, q3, q4⟩ := cl.2.2.2.2 _ _ hk' hcl
      rw [zcv_ref h0]
      exact W.aald (v := zcv (zAd b t base) (.inr (zR h a j.toNatClampNeg))) (ty := .object C) hx hb q1 ⟨(fun _ q => by cases q), kA, q2, comp, q3⟩ rfl (fun q => by cases q) (by rw [arrV_size]; exact hin) (arrV_read _ _ hlt) rfl rfl hd (k hc hs hl H locs lsR hr hL hlo)
    case iastore =>
      simp only [decide_eq_true_eq] at hg
      subst hg
      obtain ⟨v, j, a, r, rfl, hk, hin, k⟩ := z3i_of k
      have h3 := zs_w hr hk (by decide) (by decide)
      obtain ⟨h0, cl⟩ := zs_k hr hk (by decide)
      obtain ⟨cA, q1, q2⟩ := cl.1 hk
      rw [List.map_cons, List.map_cons, List.map_cons, zcv_ref h0]
      refine W.iast hx hb q1 (q2 _ _) (fun q => by cases q) (by rw [arrV_size]; exact hin) rfl rfl hd fun H' e1 e2 e3 => k _ rfl hc hs hl H' _ lsR ?_ hL (zs_locs hlo h3)
      refine hr.upd h3 (fun _ => rfl) (fun _ => rfl) rfl (fun _ q => zwI_ne q) (fun _ _ => rfl) e2 e3 (zCell_1 hk ⟨cA, ?_, q2⟩)
      rw [e1, arrV_store]
      congr 2
      funext q
      show updV _ _ _ _ = Value.int (zI (zwI h a _ v) a q)
      rw [zI_wI]
      unfold updV
      by_cases hq : q = j.toNatClampNeg
      · rw [if_pos hq, if_pos ⟨rfl, hq⟩]
      · rw [if_neg hq, if_neg (fun z => hq z.2)]
    case bastore =>
      simp only [decide_eq_true_eq] at hg
      subst hg
      obtain ⟨v, j, a, r, rfl, hk, hin, k⟩ := z3i_of k
      have h3 := zs_w hr hk (by decide) (by decide)
      obtain ⟨h0, cl⟩ := zs_k hr hk (by decide)
      obtain ⟨cA, q1, q2⟩ := cl.2.1 hk
      rw [List.map_cons, List.map_cons, List.map_cons, zcv_ref h0]
      refine W.zast hx hb q1 (q2 _ _) (fun q => by cases q) (by rw [arrV_size]; exact hin) rfl rfl hd fun H' e1 e2 e3 => k _ rfl hc hs hl H' _ lsR ?_ hL (zs_locs hlo h3)
      refine hr.upd h3 (fun _ => rfl) (fun _ => rfl) rfl (fun _ q => zwI_ne q) (fun _ _ => rfl) e2 e3 (zCell_2 hk ⟨cA, ?_, q2⟩)
      rw [e1, arrV_store]
      congr 2
      funext q
      show updV _ _ _ _ = Value.int (zI (zwI h a _ _) a q)
      rw [zI_wI]
      unfold updV
      by_cases hq : q = j.toNatClampNeg
      · rw [if_pos hq, if_pos ⟨rfl, hq⟩]
        rfl
      · rw [if_neg hq, if_neg (fun z => hq z.2)]
    case aastore =>
      simp only [Bool.and_eq_true, decide_eq_true_eq] at hg
      obtain ⟨rfl, hci, hxe, hye⟩ := hg
      obtain ⟨C, T, N, hcl, hN, -⟩ := zCl_at hci
      obtain ⟨v, j, a, r, rfl, hk, hkb, hin, k⟩ := z3r_of k
      have hk' := hk.trans hxe
      have hkb' : zK h v = 3 + 2 * ((x - 4) / 2) := by omega
      have hlen : zCl.length < 40 := zCl_len
      have h3 := zs_w hr hk' (by omega) (by omega)
      obtain ⟨h0, cl⟩ := zs_k hr hk' (by omega)
      obtain ⟨cA, kA, comp, q1, q2, q3, q4⟩ := cl.2.2.2.2 _ _ hk' hcl
      obtain ⟨hv0, -, cv, g1, g2, g3, g4⟩ := zs_obj hr hcl hkb'
      obtain ⟨hS, hfc, kC, hkC, hkind⟩ := hT.1.1 _ _ hcl
      have hcomp : comp = D.1 ((x - 4) / 2) := Option.some.inj (q4.symm.trans hfc)
      subst hcomp
      rw [List.map_cons, List.map_cons, List.map_cons, zcv_ref h0, zcv_ref hv0]
      refine W.aast hx hb q1 (fun _ q => by cases q) (fun q => by cases q) q2 q3 rfl hkC (by rw [arrV_size]; exact ⟨fun q => hin (Or.inl q), Nat.not_le.mp fun q => hin (Or.inr q)⟩) g1 (fun _ q => by rw [g3] at q; cases q) (by rw [g2]; exact hkC) (by rw [g2]; exact va_assign ⟨hfc, kC, hkC, hkind⟩) rfl rfl hd fun H' e1 e2 e3 => k _ rfl hc hs hl H' _ lsR ?_ hL (zs_locs hlo h3)
      refine hr.upd h3 (fun _ => rfl) (fun _ => rfl) rfl (fun _ _ => rfl) (fun _ q => zwR_ne q) e2 e3 (zCell_r hcl hk' ⟨cA, kA, _, ?_, q2, q3, q4⟩)
      rw [e1, arrV_store]
      congr 2
      funext q
      show updV _ _ _ _ = zcv (zAd b t base) (.inr (zR (zwR h a _ v) a q))
      rw [zR_wR]
      unfold updV
      by_cases hq : q = j.toNatClampNeg
      · rw [if_pos hq, if_pos ⟨rfl, hq⟩, zcv_ref hv0]
      · rw [if_neg hq, if_neg (fun z => hq z.2)]
    case arraylength =>
      simp only [Bool.and_eq_true, Bool.or_eq_true, decide_eq_true_eq] at hg
      obtain ⟨rfl, hg⟩ := hg
      obtain ⟨a, r, rfl, hk, k⟩ := z1r_of k
      rw [List.map_cons]
      rcases hg with h9 | h9 | ⟨hci, hxe⟩
      · rw [h9] at hk
        obtain ⟨h0, cl⟩ := zs_k hr hk (by decide)
        obtain ⟨cA, q1, q2⟩ := cl.1 hk
        rw [zcv_ref h0]
        exact W.alen (n := nI (zL h a)) hx hb q1 (q2 _ _) (by rw [arrV_size] <;> rfl) rfl rfl hd (k hc hs hl H locs lsR hr hL hlo)
      · rw [h9] at hk
        obtain ⟨h0, cl⟩ := zs_k hr hk (by decide)
        obtain ⟨cell, q1, q2, q3, q4, q5, q6⟩ := cl.2.2.1 hk
        rw [zcv_ref h0]
        exact W.alen (n := nI (zL h a)) hx hb q1 q2 q5 rfl rfl hd (k hc hs hl H locs lsR hr hL hlo)
      · obtain ⟨C, T, N, hcl, hN, -⟩ := zCl_at hci
        have hk' := hk.trans hxe
        obtain ⟨h0, cl⟩ := zs_k hr hk' (by omega)
        obtain ⟨cA, kA, comp, q1, q2, q3, q4⟩ := cl.2.2.2.2 _ _ hk' hcl
        rw [zcv_ref h0]
        exact W.alen (n := nI (zL h a)) (ty := .object C) hx hb q1 ⟨(fun _ q => by cases q), kA, q2, comp, q3⟩ (by rw [arrV_size] <;> rfl) rfl rfl hd (k hc hs hl H locs lsR hr hL hlo)
    case newarray ty =>
      simp only [Bool.and_eq_true, decide_eq_true_eq] at hg
      obtain ⟨rfl, hg⟩ := hg
      have hN := hr.2.2.2.1
      have h3 := hr.2.2.1
      have had : H.size = zAd b t base (zN h) := by rw [zAd_hi h3]; exact hN
      rcases hg with ⟨rfl, rfl⟩ | ⟨rfl, rfl⟩
      all_goals obtain ⟨v, r, rfl, hv0, hv1, hc1, hs1, k9⟩ := z1i_of k
      · refine W.newaK (atype := .int) hx hb (hts _ zw_aI) rfl hd rfl hv0 rfl (Nat.le_trans (Nat.mul_le_mul_right _ hv1) (by decide)) (Nat.le_trans hc1 hRc) (Nat.le_trans hs1 hRs) rfl fun H' cA e1 e2 e3 e4 => ?_
        have k := k9 _ rfl hc1 hs1 hl H' locs lsR (hr.new (by decide) e2 e3 (zCell_1 (by rw [zK_new, if_pos rfl]) ⟨cA, ?_, e4⟩)) hL hlo
        · rw [List.map_cons, zcv_ref (by omega), ← had] at k
          exact k
        · rw [← had, e1, zL_new, if_pos rfl]
          congr 2
          funext q
          rw [zI_new, if_pos rfl]; rfl
      · refine W.newaK (atype := .boolean) hx hb (hts _ zw_aZ) rfl hd rfl hv0 rfl (Nat.le_trans (Nat.mul_le_mul_right _ hv1) (by decide)) (Nat.le_trans hc1 hRc) (Nat.le_trans hs1 hRs) rfl fun H' cA e1 e2 e3 e4 => ?_
        have k := k9 _ rfl hc1 hs1 hl H' locs lsR (hr.new (by decide) e2 e3 (zCell_2 (by rw [zK_new, if_pos rfl]) ⟨cA, ?_, e4⟩)) hL hlo
        · rw [List.map_cons, zcv_ref (by omega), ← had] at k
          exact k
        · rw [← had, e1, zL_new, if_pos rfl]
          congr 2
          funext q
          rw [zI_new, if_pos rfl]; rfl
    case anewarray j =>
      simp only [Bool.and_eq_true, decide_eq_true_eq] at hg
      obtain ⟨rfl, hci, hxe, hlk⟩ := hg
      obtain ⟨C, T, N, hcl, hN', -⟩ := zCl_at hci
      obtain ⟨v, r, rfl, hv0, hv1, hc1, hs1, k⟩ := z1i_of k
      have hN := hr.2.2.2.1
      have h3 := hr.2.2.1
      have had : H.size = zAd b t base (zN h) := by rw [zAd_hi h3]; exact hN
      obtain ⟨w1, w2⟩ := zNas_ok _ hlk
      have w1 := hts _ w1
      have w2 := hT.2.2.2.2 _ w2
      rw [zCn_eq hcl] at w1 w2
      refine W.anew hx hb hown w1 (va_AO.use w2) rfl hd rfl hv0 (Nat.le_trans (Nat.mul_le_mul_right _ hv1) (by decide)) (Nat.le_trans hc1 hRc) (Nat.le_trans hs1 hRs) fun cA kA comp g1 g2 g3 g4 => ?_
      have k := k _ rfl hc1 hs1 hl _ locs lsR (hr.new (H' := H.push { cls := cA, slots := Array.replicate v.toNatClampNeg .null, vm := .none }) (by omega) (by simp) (fun q hq => by rw [Array.getElem?_push, if_neg (Nat.ne_of_lt hq)]) (zCell_r hcl (by rw [zK_new, if_pos rfl]; exact hxe) ⟨cA, kA, comp, ?_, g2, g3, g4⟩)) hL hlo
      · rw [List.map_cons, zcv_ref (by omega), ← had] at k
        exact k
      · rw [← had, arrV_new, zL_new, if_pos rfl, Array.getElem?_push, if_pos rfl]
        congr 2
        funext q
        rw [zR_new, if_pos rfl]; rfl
    case new j =>
      simp only [Bool.and_eq_true, decide_eq_true_eq] at hg
      obtain ⟨rfl, hci, hxe, hye, hlk⟩ := hg
      obtain ⟨C, T, N, hcl, hN', hin⟩ := zCl_at hci
      obtain ⟨hc1, hs1, k⟩ := k
      have hN := hr.2.2.2.1
      have h3 := hr.2.2.1
      have had : H.size = zAd b t base (zN h) := by rw [zAd_hi h3]; exact hN
      obtain ⟨w1, w2, w3⟩ := zNws_ok _ hlk
      have w1 := hts _ w1
      have w2 := hts _ w2
      have w3 := hts _ w3
      rw [zCn_eq hcl] at w1 w2 w3
      have hKn := hT.1.1 _ _ hcl
      refine W.newcK hx hb hown w1 w2 w3 rfl hd (Nat.le_trans hc1 hRc) (by rw [← hye]; exact Nat.le_trans hs1 hRs) hKn.2.1 rfl fun H' kC hkC e1 e2 e3 => ?_
      rw [← hye]
      have k := k _ rfl hc1 hs1 hl H' locs lsR (hr.new (by omega) e2 e3 (zCell_obj hcl (by rw [zK_new, if_pos rfl]; exact hxe) ?_)) hL hlo
      · rw [List.map_cons, zcv_ref (by omega), ← had] at k
        exact k
      · rw [← had]
        refine (u_born (zTy ((x - 3) / 2)) hts hin hKn hkC e1 (zCl_ty hcl)).to (fun q hq => ?_)
        rw [zDef hci (by rw [hN']; exact hq)]
        unfold zFv
        rw [zI_new, if_pos rfl, zR_new, if_pos rfl]
        rfl
    case invokevirtual j =>
      simp only [Bool.and_eq_true, decide_eq_true_eq] at hg
      obtain ⟨rfl, hci, hze, hlk, hm0, hm1⟩ := hg
      obtain ⟨C, T, N, hcl, hN', -⟩ := zCl_at hci
      simp only at k
      split at k
      case h_2 => exact k.elim
      case h_1 a r hdr =>
        obtain ⟨h8, ha, Q', hq, k⟩ := zSt8_of k
        have ha' := ha.trans hze
        obtain ⟨h0, -, cell, q1, q2, q3, -⟩ := zs_obj hr hcl ha'
        have hlen : (st.take yy).length = yy := by
          have := congrArg List.length hdr
          rw [List.length_drop, List.length_cons] at this
          rw [List.length_take]; omega
        have hstk : st.map (zcv (zAd b t base)) = (((st.take yy).reverse).map (zcv (zAd b t base))).reverse ++ .ref (zAd b t base a) :: r.map (zcv (zAd b t base)) := by
          rw [List.map_reverse, List.reverse_reverse, ← zcv_ref h0, ← List.map_cons, ← hdr, ← List.map_append, List.take_append_drop]
        have hrest : ((r.map (zcv (zAd b t base))).map fun v => v.category).sum ≤ 8 := by rw [zcats]; exact h8
        have hM := hcall x _ h Q' hq
        have hcls := (hT.1.1 _ _ hcl).2.1
        have hpre : PreV s H C (zAd b t base a) (zPc D b t base (.inr a :: (st.take yy).reverse) h) ((st.take yy).reverse.map (zcv (zAd b t base))) :=
          ⟨zPc.blind, ⟨cell, q1, by rw [q3]; rfl, by rw [q2]; exact hcls⟩, fun U hU hW => by
            have := zPc.of (as := .inr a :: (st.take yy).reverse) hT hr U hU hW
            rw [List.map_cons, zcv_ref h0] at this
            exact this⟩
        have hfin : ∀ (v : Option zV) (h' : zH) (H1 : Heap) (locs1 : List Loc), Q' v h' → zRel D b t base s h' H1 → (∀ q ∈ locs1, base ≤ q.base) → W p l e R s m args below meth c H1 locs1 (cu + zMc x) (su + zMs x) Q (F0 m (pc + 3) lsR ((v.map (zcv (zAd b t base))).toList ++ r.map (zcv (zAd b t base)))) := by
          intro v h' H1 locs1 hq' hr' hlo'
          rw [hm0, hm1, Nat.add_zero, Nat.add_zero]
          have k := k v h' hq' hc hs hl H1 locs1 lsR hr' hL hlo'
          cases v with
          | none => exact k
          | some v => exact k
        rw [hstk]
        rcases hlk with hlk | hlk
        · obtain ⟨w1, w2, w3, w4, w5, w6, w7, w8, w9⟩ := zVls_ok _ hlk
          have w9 : zMl x ≤ 11 := w9
          rw [zCn_eq hcl] at w3 w4 w6
          exact zs_call (va_runV (As := (st.take yy).reverse.map (zcv (zAd b t base))) ⟨hx, hb, hml, hown, hts⟩ hM (cwV yy hts (zGd_in (fun w hw => by
              rcases List.mem_append.mp hw with hw | hw
              · simp only [List.mem_cons, List.not_mem_nil, or_false] at hw
                rcases hw with rfl | rfl | rfl | rfl
                · exact w1
                · exact w2
                · exact w3
                · exact w4
              · exact zWs_in w5 w hw)) rfl rfl rfl ⟨w6, w7.1, w7.2, w8⟩ ⟨hRf, by show 8 + (zMl x + 11) + 30 * d ≤ R.locals; omega⟩) hpre rfl (by rw [List.length_map, List.length_reverse]; exact hlen) hsz rfl (lv_room hrest) hd ⟨by rw [hm0]; omega, by rw [hm1]; omega⟩) hlo hfin
        · obtain ⟨w1, w2, w3, w4, w5, w6, w7, w8, w9⟩ := zVns_ok _ hlk
          have w9 : zMl x ≤ 11 := w9
          rw [zCn_eq hcl] at w3 w6
          exact zs_call (va_runVN (As := (st.take yy).reverse.map (zcv (zAd b t base))) ⟨hx, hb, hml, hown, hts⟩ hM ⟨va_cnB yy hts (zGd_in (zWs_in w5)) rfl rfl rfl (hT.2.2.1 _ w1) (hts _ w4) ⟨w7.1, w7.2, w8⟩ ⟨hRf, by show 8 + (zMl x + 11) + 30 * d ≤ R.locals; omega⟩, hts _ w2, hts _ w3⟩ hpre rfl (by rw [List.length_map, List.length_reverse]; exact hlen) hsz rfl (lv_room hrest) hd ⟨by rw [hm0]; omega, by rw [hm1]; omega⟩) hlo hfin
    case invokestatic j =>
      simp only [Bool.and_eq_true, decide_eq_true_eq] at hg
      obtain ⟨rfl, hg⟩ := hg
      simp only at k hg
      split at k
      · obtain ⟨a, a', r, rfl, k⟩ := z2i_of k
        obtain ⟨h8, k⟩ := zSt8_of k
        simp only [decide_eq_true_eq] at hg
        obtain ⟨w1, w2, w3, w4⟩ := zMaxs_ok _ hg
        exact va_mmax hx hb (hml.trans hsz.symm) hown (hts _ w1) (hts _ w2) (hts _ w3) (hts _ w4) (by omega) (by rw [zcats]; omega) (Nat.le_trans hc hRc) (Nat.le_trans hs hRs) hd (k hc hs hl H locs lsR hr hL hlo)
      · obtain ⟨a, a', r, rfl, k⟩ := z2i_of k
        obtain ⟨h8, k⟩ := zSt8_of k
        simp only [decide_eq_true_eq] at hg
        obtain ⟨w1, w2, w3, w4⟩ := zMins_ok _ hg
        exact va_mmin hx hb (hml.trans hsz.symm) hown (hts _ w1) (hts _ w2) (hts _ w3) (hts _ w4) (by omega) (by rw [zcats]; omega) (Nat.le_trans hc hRc) (Nat.le_trans hs hRs) hd (k hc hs hl H locs lsR hr hL hlo)
      · split at hg
        · rename_i h7 _ ; exact absurd rfl (by assumption)
        · rename_i h7 h8 _; exact absurd rfl (by assumption)
        obtain ⟨hle, k⟩ := zLe_of k
        obtain ⟨h8, Q', hq, k⟩ := zSt8_of k
        simp only [Bool.and_eq_true, decide_eq_true_eq] at hg
        obtain ⟨hlk, hm0, hm1⟩ := hg
        have hlen : (st.take yy).length = yy := by rw [List.length_take]; omega
        have hstk : st.map (zcv (zAd b t base)) = (((st.take yy).reverse).map (zcv (zAd b t base))).reverse ++ (st.drop yy).map (zcv (zAd b t base)) := by
          rw [List.map_reverse, List.reverse_reverse, ← List.map_append, List.take_append_drop]
        have hrest : (((st.drop yy).map (zcv (zAd b t base))).map fun v => v.category).sum ≤ 8 := by rw [zcats]; exact h8
        have hM := hcall x _ h Q' hq
        have hfin : ∀ (v : Option zV) (h' : zH) (H1 : Heap) (locs1 : List Loc), Q' v h' → zRel D b t base s h' H1 → (∀ q ∈ locs1, base ≤ q.base) → W p l e R s m args below meth c H1 locs1 (cu + zMc x) (su + zMs x) Q (F0 m (pc + 3) lsR ((v.map (zcv (zAd b t base))).toList ++ (st.drop yy).map (zcv (zAd b t base)))) := by
          intro v h' H1 locs1 hq' hr' hlo'
          rw [hm0, hm1, Nat.add_zero, Nat.add_zero]
          have k := k v h' hq' hc hs hl H1 locs1 lsR hr' hL hlo'
          cases v with
          | none => exact k
          | some v => exact k
        obtain ⟨w1, w2, w3, w5, w6, w7, w8, w9⟩ := zTls_ok _ hlk
        have w9 : zMl x ≤ 11 := w9
        rw [hstk]
        exact zs_call (va_runS (As := (st.take yy).reverse.map (zcv (zAd b t base))) ⟨hx, hb, hml, hown, hts⟩ hM (cwS yy hts (zGd_in (fun w hw => by
              rcases List.mem_append.mp hw with hw | hw
              · simp only [List.mem_cons, List.not_mem_nil, or_false] at hw
                rcases hw with rfl | rfl | rfl
                · exact w1
                · exact w2
                · exact w3
              · exact zWs_in w5 w hw)) rfl rfl rfl ⟨w6, w7.1, w7.2, w8⟩ ⟨hRf, by show 8 + (zMl x + 11) + 30 * d ≤ R.locals; omega⟩) ⟨zPc.blind, zPc.of hT hr⟩ rfl (by rw [List.length_map, List.length_reverse]; exact hlen) hsz rfl (lv_room hrest) hd ⟨by rw [hm0]; omega, by rw [hm1]; omega⟩) hlo hfin
    case invokespecial j =>
      simp only [Bool.and_eq_true, decide_eq_true_eq] at hg
      obtain ⟨rfl, hg⟩ := hg
      cases z with
      | zero =>
        simp only [Bool.and_eq_true, decide_eq_true_eq] at hg
        obtain ⟨hlk, hci, hxe⟩ := hg
        obtain ⟨C, T, N, hcl, hN', -⟩ := zCl_at hci
        obtain ⟨a, r, rfl, k⟩ := z1r_of k
        obtain ⟨h8, ha, k⟩ := zSt8_of k
        obtain ⟨h0, -, -⟩ := zs_obj hr hcl (ha.trans hxe)
        obtain ⟨w1, w2, w3⟩ := zObs_ok _ hlk
        rw [List.map_cons, zcv_ref h0]
        have h9 := lv_room (m := m) (pc := pc) (ls := lsR) (rest := .ref (zAd b t base a) :: r.map (zcv (zAd b t base))) (st := r.map (zcv (zAd b t base))) (by rw [zcats]; exact h8)
        exact W.objInit hx hb hown (hts _ w1) (hts _ w2) (hts _ w3) rfl (by rw [hml]; exact hsz) rfl hd (by omega) (by omega) (k hc hs hl H locs lsR hr hL hlo)
      | succ z =>
        simp only [Bool.and_eq_true, decide_eq_true_eq] at hg
        obtain ⟨hci, hze, hlk⟩ := hg
        obtain ⟨C, T, N, hcl, hN', -⟩ := zCl_at hci
        simp only at k
        split at k
        case h_2 => exact k.elim
        case h_1 a r hdr =>
          obtain ⟨h8, ha, hc1, hs1, Q', hq, k⟩ := zSt8_of k
          have ha' := ha.trans hze
          obtain ⟨h0, -, cell, q1, q2, q3, -⟩ := zs_obj hr hcl ha'
          have hlen : (st.take yy).length = yy := by
            have := congrArg List.length hdr
            rw [List.length_drop, List.length_cons] at this
            rw [List.length_take]; omega
          have hstk : st.map (zcv (zAd b t base)) = (((st.take yy).reverse).map (zcv (zAd b t base))).reverse ++ .ref (zAd b t base a) :: r.map (zcv (zAd b t base)) := by
            rw [List.map_reverse, List.reverse_reverse, ← zcv_ref h0, ← List.map_cons, ← hdr, ← List.map_append, List.take_append_drop]
          have hrest : ((r.map (zcv (zAd b t base))).map fun v => v.category).sum ≤ 8 := by rw [zcats]; exact h8
          have hM := hcall x _ h Q' hq
          have hpre : PreS s H (zPc D b t base (.inr a :: (st.take yy).reverse) h) (.ref (zAd b t base a) :: (st.take yy).reverse.map (zcv (zAd b t base))) :=
            ⟨zPc.blind, fun U hU hW => by
              have := zPc.of (as := .inr a :: (st.take yy).reverse) hT hr U hU hW
              rw [List.map_cons, zcv_ref h0] at this
              exact this⟩
          have hfin : ∀ (v : Option zV) (h' : zH) (H1 : Heap) (locs1 : List Loc), Q' v h' → zRel D b t base s h' H1 → (∀ q ∈ locs1, base ≤ q.base) → W p l e R s m args below meth c H1 locs1 (cu + zMc x) (su + zMs x) Q (F0 m (pc + 3) lsR ((v.map (zcv (zAd b t base))).toList ++ r.map (zcv (zAd b t base)))) := by
            intro v h' H1 locs1 hq' hr' hlo'
            have k := k v h' hq' hc1 hs1 hl H1 locs1 lsR hr' hL hlo'
            cases v with
            | none => exact k
            | some v => exact k
          rw [hstk]
          rcases hlk with hlk | hlk
          · obtain ⟨w1, w2, w4, w5, w6, w7, w8, w9, w10⟩ := zIls_ok _ hlk
            have w9 : zMl x ≤ 11 := w9
            exact zs_call (va_runI (As := (st.take yy).reverse.map (zcv (zAd b t base))) ⟨hx, hb, hml, hown, hts⟩ hM (cwI yy hts (zGd_in (zWs_in w5)) (by unfold zWs; rw [w10]) rfl rfl (hts _ w4) (hts _ w1) (hts _ w2) w6 ⟨w7.1, w7.2, w8⟩ ⟨hRf, by show 8 + (zMl x + 11) + 30 * d ≤ R.locals; omega⟩) hpre rfl (by rw [List.length_map, List.length_reverse]; exact hlen) hsz rfl (lv_room hrest) hd ⟨Nat.le_trans hc1 hRc, Nat.le_trans hs1 hRs⟩) hlo hfin
          · obtain ⟨w1, w2, w4, w5, w6, w7, w8, w9, w10⟩ := zIns_ok _ hlk
            have w9 : zMl x ≤ 11 := w9
            exact zs_call (va_runIN (As := (st.take yy).reverse.map (zcv (zAd b t base))) ⟨hx, hb, hml, hown, hts⟩ hM ⟨va_cnB yy hts (zGd_in (zWs_in w5)) (by unfold zWs; rw [w10]) rfl rfl (hT.2.2.1 _ w1) (hts _ w4) ⟨w7.1, w7.2, w8⟩ ⟨hRf, by show 8 + (zMl x + 11) + 30 * d ≤ R.locals; omega⟩, w6, hts _ w2⟩ hpre rfl (by rw [List.length_map, List.length_reverse]; exact hlen) hsz rfl (lv_room hrest) hd ⟨Nat.le_trans hc1 hRc, Nat.le_trans hs1 hRs⟩) hlo hfin
    case ireturn =>
      simp only [decide_eq_true_eq] at hg
      subst hg
      simp only at k
      split at k
      · split at k
        · rename_i hrt
          exact hI cu su pc h H locs lsR _ hd hc hs k (Or.inl hrt) hr hlo
        · rename_i hrt
          exact hI cu su pc h H locs lsR _ hd hc hs k.2 (Or.inr ⟨hrt, k.1⟩) hr hlo
        · exact k.elim
      · exact k.elim
    case return_ =>
      simp only [decide_eq_true_eq] at hg
      subst hg
      cases st with
      | nil =>
        simp only at k
        split at k
        · rename_i hrt
          exact hV cu su pc h H locs lsR hd hc hs k hrt hr hlo
        · exact k.elim
      | cons v r => exact k.elim
    case tableswitch df lo hi offs =>
      simp only [Bool.and_eq_true, decide_eq_true_eq] at hg
      obtain ⟨hhi, hdf, hofs⟩ := hg
      obtain ⟨v, r, rfl, kd, ks⟩ := z1i_of k
      by_cases hout : v.toInt < lo ∨ hi < v.toInt
      · exact lv_tableOut hx hb hd hout (Int.toNat_of_nonneg hdf).symm (kd hout hc hs hl H locs lsR hr hL hlo)
      · obtain ⟨o, ho, hz⟩ := zSw_at _ lo (v.toInt - lo).toNat ks (by omega) (by omega)
        have h1 : ¬ v.toInt < lo := fun q => hout (Or.inl q)
        have h2 : ¬ hi < v.toInt := fun q => hout (Or.inr q)
        have hpos : 0 ≤ (pc : Int) + o := by
          have := List.all_eq_true.mp hofs o (List.mem_of_getElem? ho)
          simpa using this
        exact lv_tableIn hx hb hd h1 h2 (by rw [← Array.getElem?_toList]; exact ho) (Int.toNat_of_nonneg hpos).symm (hz hc hs hl H locs lsR hr hL hlo)
    case lookupswitch df ps =>
      simp only [Bool.and_eq_true, decide_eq_true_eq] at hg
      obtain ⟨hinc, hdf, hofs⟩ := hg
      obtain ⟨v, r, rfl, k⟩ := z1i_of k
      have hz := zLk_at _ k
      have hpos : 0 ≤ (pc : Int) + Op.lookupswitch.offset ps.toList df v.toInt := zLk_pos hdf hofs
      exact lv_lookup hx hb hd hinc rfl (Int.toNat_of_nonneg hpos).symm (hz hc hs hl H locs lsR hr hL hlo)
    all_goals exact k.elim
end ZN
theorem zsl (ad : Nat → Nat) : ∀ as : List zV, lg_sl (as.map (zcv ad)) = as.map (fun v => Slot.val (zcv ad v))
  | [] => rfl
  | v :: r => by
    show (if (zcv ad v).category = 2 then _ else _) ++ lg_sl (r.map (zcv ad)) = _
    rw [zsl ad r, zcv_cat, if_neg (by decide)]; rfl
theorem zEntry (ad : Nat → Nat) (as : List zV) {n : Nat} (hn : as.length ≤ n) : lv_has ((lg_sl (as.map (zcv ad)) ++ List.replicate (n - (lg_sl (as.map (zcv ad))).length) Slot.unset).toArray) n (zLv ad (as.map some ++ List.replicate (n - as.length) none)) := by
  have hlen : (lg_sl (as.map (zcv ad))).length = as.length := by rw [zsl, List.length_map]
  have h1 := lv_entry (as.map (zcv ad)) (n := n) (by rw [hlen]; exact hn)
  refine ⟨h1.1, h1.2.1, fun q hq => ?_⟩
  obtain ⟨v, hv, e⟩ := zLv_of hq
  have hlt : q.1 < as.length := by
    refine Nat.not_le.mp fun hle => ?_
    rw [List.getElem?_append_right (by rw [List.length_map]; exact hle)] at hv
    have := List.mem_of_getElem? hv
    have := (List.mem_replicate.mp this).2
    cases this
  rw [List.getElem?_append_left (by rw [List.length_map]; exact hlt), List.getElem?_map] at hv
  rw [List.getElem?_toArray, List.getElem?_append_left (by rw [hlen]; exact hlt), zsl, List.getElem?_map, e]
  cases hw : as[q.1]? with
  | none => rw [hw] at hv; cases hv
  | some w => rw [hw] at hv; cases hv; rfl
section ZM
variable {l : Launch} {D : va_G} {b t base : Nat}
set_option maxHeartbeats 4000000 in
/-- what the small machine does, the machine does: the contract of every method -/
theorem zMet : ∀ (d y : Nat) (as : List zV) (h : zH) (K : zT), zD d y as h K → Met l (zNm y) (zWs y) (zRm d y) (zPc D b t base as h) (zQc D b t base K) (zMc y) (zMs y) (fun q => base ≤ q)
  | 0, y, as, h, K, k => k.elim
  | d + 1, y, as, h, K, k => by
    unfold zD at k
    split at k
    case h_2 => exact k.elim
    case h_1 hble =>
      have hle : as.length ≤ zMl y := Nat.le_of_ble_eq_true hble
      by_cases hy : y < zNum
      · obtain ⟨hpl, hcn, hch, hret⟩ := zY_ok y hy
        refine Met.ofW (cc := zBy y) (maxL := zMl y) (ret := zRet y) hpl rfl ?_
        intro p e s m args below meth c s₁ B hml hv
        obtain ⟨rfl, hTS, hrel⟩ := hv
        have hts := atoms_spec (ws := zWs y) B.pre
        have hown : s.vm.findClass (zNm y).cls = some m.cls := findClass_of_methodNamed B.named
        rw [hcn] at hown
        have C0 : zCtx y d p (headSpec (zWs y) (zRm (d + 1) y)).room s m (as.map (zcv (zAd b t base))).toArray meth c D :=
          ⟨B.exec, B.bytes, hml, hown, fun w hw => hts w (List.mem_cons_of_mem _ hw), hTS, fun _ => (name_of_methodNamed B.named B.method).1, Nat.le_refl _, by show 30 * d + 30 ≤ 30 * (d + 1); omega, Nat.le_refl _, Nat.le_refl _, hch⟩
        rw [lg_entry_eq]
        refine k (zPW p l e (headSpec (zWs y) (zRm (d + 1) y)).room s m (as.map (zcv (zAd b t base))).toArray below meth c D b t base (zMl y) (zTab y).2.2.1 (zTab y).2.2.2 (MQ below (zQc D b t base K) (as.map (zcv (zAd b t base))).toArray s (zMc y) (zMs y) (fun q => base ≤ q)))
          (zSnd C0 (fun x as h Q' k => zMet d x as h Q' k) ?_ ?_) (Nat.zero_le _) (Nat.zero_le _) ?_ s.heap [] _ hrel (zEntry _ as hle) (fun q hq => by cases hq)
        · intro cu su pc h H locs lsR v hd hc hs hk hrt hr hlo
          refine W.widen hc hs ?_
          have hq : ∀ u : State, u.heap = H → s.WarmedH u.vm → zQc D b t base K (as.map (zcv (zAd b t base))).toArray s (.returned (some (.int v))) u := fun u hu hW => ⟨some (.inl v), h, rfl, by rw [hu]; exact hr.moved hW.alike, hk⟩
          rcases hrt with h0 | ⟨h1, hv⟩
          · exact W.iret (v := v) B.exec B.bytes (B.returns.trans (hret.1 h0)) hq hlo hd
          · exact W.zret (v := v) (ty := .boolean) B.exec B.bytes (B.returns.trans (hret.2.1 h1)) (by rcases hv with rfl | rfl <;> rfl) hq hlo hd
        · intro cu su pc h H locs lsR hd hc hs hk h2 hr hlo
          refine W.widen hc hs ?_
          exact W.vret B.exec B.bytes (B.returns.trans (hret.2.2 h2)) (fun u hu hW => ⟨none, h, rfl, by rw [hu]; exact hr.moved hW.alike, hk⟩) hlo hd
        · rw [List.length_append, List.length_map, List.length_replicate]; omega
      · refine (k (fun _ _ _ _ _ _ => False) (fun cu su pc ls st h k => ?_)).elim
        rw [zTab_out hy] at k
        exact k
end ZM
