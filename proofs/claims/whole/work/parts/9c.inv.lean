/-! ===== deliver and tick keep it ===== -/
theorem s_upd {w q b sn : Nat} {S : sS} {f : Nat → Int32} (hw : w ≤ 4) (hb : b < 2 ^ 30) (hs : sn < 4) (es : f 3 = nI sn) (I : IV w q b S) (d : dG w S f) (e2 : f 2 = 11) : IV w q (b + 1) (oUpd S sn f) := by
  have J := I.mono (Nat.le_refl q) (Nat.le_succ b)
  have h0 := Nat.zero_le w
  obtain ⟨⟨vn, hv, ev⟩, ⟨rn, hr, er⟩, -, d⟩ := d
  have N : nm S vn (f 4) (f 3) := by
    rcases d with ⟨a, _, c⟩ | ⟨a, _⟩ | ⟨a, _⟩ | ⟨a, _⟩ | ⟨a, _⟩ | a | a | ⟨a, _⟩ | ⟨a, _⟩
    · rw [clampI hw hv ev] at c; exact c
    all_goals (rw [e2] at a; exact absurd a (by decide))
  unfold oUpd; split
  · exact J
  · split
    · exact J.send (dG.ab ⟨rn, hr, er⟩ ⟨vn, hv, ev⟩)
    · rename_i hn
      have hl := I.2.2.2.2.2.2.2.2.1 0 h0
      obtain ⟨I1, G1, D1, L1, C1⟩ := I.mv hw hs es hv ev
      have hlt : (sD (oMove S sn (f 3) (f 0)) 0).length < nC 0 := by
        have h6 : ¬ (sD S 0).length = 4 := fun z => hn (Or.inl z)
        rw [show nC 0 = 4 from rfl] at hl ⊢; omega
      obtain ⟨I2, G2, N2⟩ := I1.beg (kd := 2) (ot := f 0) (su := f 3) (dl := sClk S + 6) (an := f 4) hw h0 hb hlt ⟨sn, hs, es⟩ (fun e => absurd rfl e) (fun _ => ⟨by decide, vn, hv, ev⟩) (by decide)
      rw [L1] at N2
      refine I2.send ⟨⟨0, h0, rfl⟩, ⟨vn, hv, ev⟩, ⟨sn, hs, es⟩, Or.inr (Or.inr (Or.inr (Or.inl ⟨rfl, rfl, ?_, N2⟩)))⟩
      have e : (sRow [0, f 0, 22, f 3, sL S 0 + 1, f 4, 0] 1).toNatClampNeg = vn := clampI hw hv ev
      rw [e]
      exact G2.2 vn hv _ _ (G1.2 vn hv _ _ N)
theorem s_can {w q b rn sn : Nat} {S : sS} {f : Nat → Int32} (hw : w ≤ 4) (I : IV w q b S) (d : dG w S f) : IV w q b (oCan S rn sn f) := by
  obtain ⟨-, d1, d3, -⟩ := d
  have A : ∀ S1 : sS, IV w q b S1 → IV w q b (oSend S1 (sRow [f 1, 0, 33, f 3, 0, f 4, 0])) := fun S1 I1 =>
    I1.send ⟨d1, ⟨0, Nat.zero_le _, rfl⟩, d3, Or.inr (Or.inr (Or.inr (Or.inr (Or.inr (Or.inr (Or.inr (Or.inl ⟨rfl, rfl⟩)))))))⟩
  unfold oCan
  refine A _ ?_
  have I1 := (I.same (S' := oHold S (4 * rn + sn) 0) hw rfl rfl rfl rfl rfl rfl rfl rfl).1
  split
  · exact (I1.enR hw).1
  · exact I1
theorem sUpK_at (f : Nat → Int32) (n : Nat) (o : Option Nat) (v : Int32) (k : Nat) : sUpK f n o v k = f k ∨ (sUpK f n o v k = v ∧ 2 * n ≤ k) := by
  cases o with
  | none => exact Or.inl rfl
  | some j =>
    show upd f (2 * n + j) v k = _ ∨ (upd f (2 * n + j) v k = _ ∧ _)
    unfold upd; split
    · exact Or.inr ⟨rfl, by omega⟩
    · exact Or.inl rfl
theorem s_pro {w q b rn sn : Nat} {S : sS} {f : Nat → Int32} (hw : w ≤ 4) (hr : rn ≤ w) (er : f 1 = nI rn) (I : IV w q b S) (d : dG w S f) (e2 : f 2 = 14) : IV w q b (oPro S rn sn f) := by
  obtain ⟨-, d1, d3, d⟩ := d
  have N : ¬ f 1 = 0 ∧ qIn S (f 4) := by
    rcases d with ⟨a, _⟩ | ⟨a, _⟩ | ⟨a, _, c⟩ | ⟨a, _⟩ | ⟨a, _⟩ | a | a | ⟨a, _⟩ | ⟨a, _⟩
    rotate_left 2
    · exact c
    all_goals (rw [e2] at a; exact absurd a (by decide))
  have hr1 : 1 ≤ rn := Nat.pos_of_ne_zero fun z => N.1 (by rw [er, z]; rfl)
  have A : ∀ (S1 : sS) (x : Int32), IV w q b S1 → gro w S S1 → IV w q b (oSend S1 (sRow [f 1, 0, 34, f 3, 0, f 4, x])) := fun S1 x I1 G1 =>
    I1.send ⟨d1, ⟨0, Nat.zero_le _, rfl⟩, d3, Or.inr (Or.inr (Or.inr (Or.inr (Or.inr (Or.inr (Or.inr (Or.inr ⟨rfl, rfl, G1.1 _ N.2⟩)))))))⟩
  unfold oPro; split
  · exact A _ _ I gro.rf
  · have h := I.O (O := sUpK (sO S) rn (sAlK (sO S) rn) (f 3)) (U := sUpK (sU S) rn (sAlK (sO S) rn) (sClk S + 8)) (fun k => ?_) (fun k hk => ?_)
    · exact A _ _ h.1 h.2
    · rcases sUpK_at (sO S) rn (sAlK (sO S) rn) (f 3) k with e | ⟨e, _⟩
      · rw [e]; exact I.2.2.2.2.2.1 k
      · obtain ⟨sn', hs', es'⟩ := d3
        rw [e]; right; rw [es']; exact nI_pos' (by omega)
    · rcases sUpK_at (sO S) rn (sAlK (sO S) rn) (f 3) k with e | ⟨_, e⟩
      · rw [e]; exact I.2.2.2.2.2.2.1 k hk
      · omega
theorem s_ins {w q b rn sn : Nat} {S : sS} {f : Nat → Int32} (hw : w ≤ 4) (hr : rn ≤ w) (er : f 1 = nI rn) (I : IV w q b S) (d : dG w S f) (e2 : f 2 = 22) : IV w q b (oIns S rn sn f) := by
  have h0 := Nat.zero_le w
  obtain ⟨d0, d1, d3, d⟩ := d
  unfold oIns; split
  · exact I.send (dG.ab d1 d0)
  · rename_i k hk
    split
    · obtain ⟨I1, G1⟩ := I.en (v := 0) (k := k) hw
      exact I1.send ⟨⟨0, h0, rfl⟩, d0, d3, Or.inr (Or.inr (Or.inr (Or.inr (Or.inr (Or.inl rfl)))))⟩
    · rename_i hn
      have N : nm S 0 (f 4) (f 3) := by
        rcases d with ⟨a, _⟩ | ⟨a, _⟩ | ⟨a, _⟩ | ⟨a, _, _, c⟩ | ⟨a, c, _⟩ | a | a | ⟨a, _⟩ | ⟨a, _⟩
        rotate_left 3
        · exact c
        · refine absurd ?_ hn
          exact (nI_eq (by omega) (by decide)).mp (er.symm.trans c)
        all_goals (rw [e2] at a; exact absurd a (by decide))
      split
      · rename_i g hg
        obtain ⟨I1, G1⟩ := I.same (S' := oHold S (4 * rn + sn) 1) hw rfl rfl rfl rfl rfl rfl rfl rfl
        obtain ⟨I2, G2⟩ := I1.dead (v := rn) (k := k) (g := g) (x := sClk S + 10) hw hg
        exact I2.send ⟨d1, ⟨0, h0, rfl⟩, d3, Or.inr (Or.inr (Or.inr (Or.inr (Or.inl ⟨rfl, rfl, G2.2 0 h0 _ _ (G1.2 0 h0 _ _ N)⟩))))⟩
      · exact I
theorem s_lst {w q b rn : Nat} {S : sS} {f : Nat → Int32} (hw : w ≤ 4) (I : IV w q b S) : IV w q b (oLst S rn f) := by
  unfold oLst; split
  · exact I
  · split
    · exact I
    · split
      · refine (IV.en hw ?_).1
        split
        · exact I.drop.1
        · split
          · exact (I.Qs hw).1
          · exact I
      · exact (I.enR hw).1
theorem s_deliver {w q b : Nat} {S : sS} {i : Int32} (hw : w ≤ 4) (hb : b < 2 ^ 30) (I : IV w q b S) : IV w q (b + 1) (oDeliver S i).2 := by
  unfold oDeliver; split
  · rename_i k f hx
    have hm := I.f f (List.mem_of_getElem? (lx_some hx).2)
    obtain ⟨I1, G1⟩ := I.lose (k := k)
    have d := dG.gro hw G1 hm
    show IV w q (b + 1) (oRecv (stF S ((sF S).eraseIdx k)) f)
    generalize stF S ((sF S).eraseIdx k) = S1 at I1 d ⊢
    have J := I1.mono (Nat.le_refl q) (Nat.le_succ b)
    obtain ⟨-, ⟨rn, hr, er⟩, ⟨sn, hs, es⟩, -⟩ := id d
    unfold oRecv
    rw [clampI hw hr er, show (f 3).toNatClampNeg = sn by rw [es, nI_clamp (by omega)]]
    by_cases h11 : f 2 = 11
    · rw [if_pos h11]; exact s_upd hw hb hs es I1 d h11
    · rw [if_neg h11]
      by_cases h13 : f 2 = 13
      · rw [if_pos h13]; exact s_can hw J d
      · rw [if_neg h13]
        by_cases h14 : f 2 = 14
        · rw [if_pos h14]; exact s_pro hw hr er J d h14
        · rw [if_neg h14]
          by_cases h22 : f 2 = 22
          · rw [if_pos h22]; exact s_ins hw hr er J d h22
          · rw [if_neg h22]; exact s_lst hw J
  · exact I.mono (Nat.le_refl q) (Nat.le_succ b)
theorem IV.gv {w q b v k : Nat} {S : sS} {g : Nat → Int32} (hw : w ≤ 4) (I : IV w q b S) (hg : g ∈ sD S v) (hv : v ≤ w) : IV w q b (oGive S v k g) := by
  unfold oGive; split
  · rename_i e; subst e
    obtain ⟨-, -, -, h⟩ := I.2.2.2.2.2.2.2.2.2.2.1 0 hv g hg
    refine (IV.en hw ?_).1
    unfold oGvA; split
    · exact I.send (dG.ab ⟨0, hv, rfl⟩ (h rfl).2)
    · split
      · exact (I.Qs hw).1
      · exact I
  · exact (I.enR hw).1
theorem IV.due {w q b v : Nat} (hw : w ≤ 4) (hv : v ≤ w) : ∀ (n k : Nat) (S : sS), IV w q b S → IV w q b (oDue v n k S)
  | 0, _, _, I => I
  | n + 1, k, S, I => by
    unfold oDue; split
    · rename_i g hg
      split
      · exact IV.due hw hv n k _ (I.gv hw (List.mem_of_getElem? hg) hv)
      · exact IV.due hw hv n (k + 1) S I
    · exact I
theorem IV.dues {w q b : Nat} (hw : w ≤ 4) : ∀ (n v : Nat) (S : sS), v + n = w + 1 → IV w q b S → IV w q b (oDues n v S)
  | 0, _, _, _, I => I
  | n + 1, v, S, h, I => by
    unfold oDues
    exact IV.dues hw n (v + 1) _ (by omega) (IV.due hw (by omega) _ 0 S I)
theorem IV.free {w q b : Nat} {S : sS} (I : IV w q b S) : IV w q b (oFree S) := by
  refine (I.O (fun k => ?_) (fun k hk => ?_)).1
  · split
    · exact Or.inl rfl
    · exact I.2.2.2.2.2.1 k
  · split
    · rfl
    · exact I.2.2.2.2.2.2.1 k hk
theorem IV.sc {w q b : Nat} {S : sS} {p : Int32} (hw : w ≤ 4) (hb : b < 2 ^ 30) (I : IV w q b S) (hp : pO w p) : IV w q (b + 1) (oSC S p) := by
  have h0 := Nat.zero_le w
  obtain ⟨a, c, ha, hc, ep⟩ := hp
  have d4 : p / 4 = nI a := by rw [ep]; have := nI_div (a := 4 * a + c) (b := 4) (by omega) (by decide) (by decide); rw [show (4 * a + c) / 4 = a by omega] at this; exact this
  have m4 : p - p / 4 * 4 = nI c := by rw [ep]; have := nI_mod (a := 4 * a + c) (b := 4) (by omega) (by decide) (by decide); rw [show (4 * a + c) % 4 = c by omega] at this; exact this
  unfold oSC; split
  · exact I.mono (Nat.le_refl q) (Nat.le_succ b)
  · rename_i hn
    have hl := I.2.2.2.2.2.2.2.2.1 0 h0
    have hlt : (sD S 0).length < nC 0 := by
      have h6 : ¬ (sD S 0).length = 4 := fun z => hn (Or.inl z)
      rw [show nC 0 = 4 from rfl] at hl ⊢; omega
    obtain ⟨I2, G2, N2⟩ := I.beg (kd := 3) (ot := p / 4) (su := p - p / 4 * 4) (dl := sClk S + 4) (an := 0) hw h0 hb hlt ⟨c, hc, m4⟩ (fun e => absurd rfl e) (fun _ => ⟨by decide, a, ha, d4⟩) (by decide)
    exact I2.send ⟨⟨0, h0, rfl⟩, ⟨a, ha, d4⟩, ⟨c, hc, m4⟩, Or.inr (Or.inl ⟨rfl, rfl⟩)⟩
theorem IV.scs {w q : Nat} (hw : w ≤ 4) : ∀ (n k b : Nat) (S : sS), b + n < 2 ^ 30 → IV w q b S → IV w q (b + n) (oSCs n k S)
  | 0, _, _, _, _, I => I
  | n + 1, k, b, S, hb, I => by
    unfold oSCs; split
    · rename_i p hp
      have h := IV.scs hw n (k + 1) (b + 1) (oSC S p) (by omega) (I.sc hw (by omega) (I.2.2.2.2.1 p (List.mem_of_getElem? hp)))
      rw [show b + 1 + n = b + (n + 1) by omega] at h; exact h
    · exact I.mono (Nat.le_refl q) (by omega)
theorem s_tick {w q b : Nat} {S : sS} (hw : w ≤ 4) (hb : b + 6 < 2 ^ 30) (I : IV w q b S) : IV w q (b + 6) (oTick w S) := by
  have I1 := (I.same (S' := stClk S (sClk S + 1)) hw rfl rfl rfl rfl rfl rfl rfl rfl).1
  have I2 := (IV.dues hw (w + 1) 0 _ (by omega) I1).free
  unfold oTick
  generalize oFree (oDues (w + 1) 0 (stClk S (sClk S + 1))) = S2 at I2 ⊢
  have h6 := I2.2.2.2.1
  exact (IV.scs hw _ 0 b S2 (by omega) I2).mono (Nat.le_refl q) (by omega)
/-! ===== what the calls ask of it ===== -/
theorem IV.oD {w q b : Nat} {S : sS} (I : IV w q b S) : okD w S := fun v hv g hg => (I.2.2.2.2.2.2.2.2.2.2.1 v hv g hg).1
theorem IV.oF {w q b : Nat} {S : sS} (I : IV w q b S) : okF w S := fun f hf => ⟨(I.f f hf).2.1, (I.f f hf).2.2.1⟩
theorem IV.oM {w q b : Nat} {S : sS} (I : IV w q b S) : okM w S := by
  obtain ⟨i1, i2, i3, i4, i5, i6, i7, i8, i9, i10, i11, i12, i13, i14⟩ := I
  exact ⟨i9, fun v hv g hg => (i11 v hv g hg).1, i2, i6, i8, fun v h1 h2 g hg => (i11 v h2 g hg).2.2.1 (by omega), fun g hg => ((i11 0 (Nat.zero_le _) g hg).2.2.2 rfl).1, fun g hg => ((i11 0 (Nat.zero_le _) g hg).2.2.2 rfl).2⟩
theorem IV.oE {w q b : Nat} {S : sS} (I : IV w q b S) : okE w S := by
  obtain ⟨i1, i2, i3, i4, i5, i6, i7, i8, i9, i10, i11, i12, i13, i14⟩ := I
  exact ⟨fun v hv g hg => (i11 v hv g hg).1, i2, i9, fun v h1 h2 g hg => (i11 v h2 g hg).2.2.1 (by omega), fun g hg => ((i11 0 (Nat.zero_le _) g hg).2.2.2 rfl).1, i13⟩
theorem IV.dF {w q b : Nat} {S : sS} (hw : w ≤ 4) (I : IV w q b S) : ∀ f ∈ sF S, dF w S f (f 1).toNatClampNeg := fun f hf => by
  obtain ⟨⟨vn, hv, ev⟩, ⟨rn, hr, er⟩, -, d⟩ := I.f f hf
  have c1 := clampI hw hr er
  have z0 : f 1 = 0 → (f 1).toNatClampNeg = 0 := fun e => by rw [e]; rfl
  rcases d with ⟨a, c, _⟩ | ⟨a, c⟩ | ⟨a, c, _⟩ | ⟨a, c, e, _⟩ | ⟨a, c, e⟩ | a | a | ⟨a, c⟩ | ⟨a, c, e⟩
  · exact Or.inl ⟨a, c, vn, hv, ev⟩
  · exact Or.inr (Or.inl ⟨a, c⟩)
  · exact Or.inr (Or.inr (Or.inl ⟨a, c⟩))
  · exact Or.inr (Or.inr (Or.inr (Or.inl ⟨a, fun _ => c, e.2⟩)))
  · exact Or.inr (Or.inr (Or.inr (Or.inl ⟨a, fun z => absurd (z0 c) z, by rw [z0 c]; exact e.2⟩)))
  · exact Or.inr (Or.inr (Or.inr (Or.inr ⟨Or.inl a, fun z => by rw [a] at z; exact absurd z (by decide), fun z => by rw [a] at z; exact absurd z (by decide)⟩)))
  · exact Or.inr (Or.inr (Or.inr (Or.inr ⟨Or.inr (Or.inr (Or.inr a)), fun z => by rw [a] at z; exact absurd z (by decide), fun z => by rw [a] at z; exact absurd z (by decide)⟩)))
  · exact Or.inr (Or.inr (Or.inr (Or.inr ⟨Or.inr (Or.inl a), fun _ => z0 c, fun z => by rw [a] at z; exact absurd z (by decide)⟩)))
  · exact Or.inr (Or.inr (Or.inr (Or.inr ⟨Or.inr (Or.inr (Or.inl a)), fun _ => z0 c, fun _ _ _ _ => qIn_at e⟩)))
