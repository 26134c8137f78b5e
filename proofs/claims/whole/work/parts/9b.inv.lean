/-! ===== every call keeps it ===== -/
theorem dG.ab {w : Nat} {S : sS} {a b c : Int32} (ha : ∃ n : Nat, n ≤ w ∧ a = nI n) (hb : ∃ n : Nat, n ≤ w ∧ b = nI n) {x : Int32} : dG w S (sRow [a, b, 40, 0, x, c, 0]) :=
  ⟨ha, hb, ⟨0, by omega, rfl⟩, Or.inr (Or.inr (Or.inr (Or.inr (Or.inr (Or.inr (Or.inl rfl))))))⟩
theorem IV.f {w q b : Nat} {S : sS} (I : IV w q b S) : ∀ f ∈ sF S, dG w S f := I.2.2.2.2.2.2.2.2.2.2.2.2.2
theorem IV.lose {w q b : Nat} {S : sS} {k : Nat} (I : IV w q b S) : IV w q b (stF S ((sF S).eraseIdx k)) ∧ gro w S (stF S ((sF S).eraseIdx k)) :=
  I.F (fun f hf => I.f f (List.mem_of_mem_eraseIdx hf))
theorem s_digits {w q b : Nat} {S : sS} {s n : Int32} (hw : w ≤ 4) (I : IV w q b S) : IV w q b (oDigits S s n).2 := by
  unfold oDigits; split
  · exact (I.same hw rfl rfl rfl rfl rfl rfl rfl rfl).1
  · exact I
theorem okT_put {T : List (Nat → Int32)} {f : Nat → Int32} (h : okT T) (h1 : ∃ c : Nat, c ≤ 5 ∧ f 1 = nI c) (h2 : f 2 = 0 ∨ f 2 = 1) : okT (sPut T f) := by
  intro t ht
  unfold sPut at ht
  split at ht
  · rcases List.mem_or_eq_of_mem_set ht with h' | h'
    · exact h t h'
    · subst h'; exact ⟨h1, h2⟩
  · split at ht
    · exact h t ht
    · rcases List.mem_append.mp ht with h' | h'
      · exact h t h'
      · rw [List.mem_singleton] at h'; subst h'; exact ⟨h1, h2⟩
theorem s_title {w q b : Nat} {S : sS} {f c y : Int32} (I : IV w q b S) (hy : y = 0 ∨ y = 1) : IV w q b (oTitle S f c y).2 := by
  unfold oTitle; split
  · exact I
  · rename_i n hn
    obtain ⟨h1, h2⟩ := ix_some hn
    split
    · exact I
    · exact I.T (okT_put I.1 ⟨n, by omega, h2⟩ hy)
theorem s_appear {w q b : Nat} {S : sS} {v s : Int32} (hw : w ≤ 4) (hb : b < 2 ^ 30) (I : IV w q b S) : IV w q (b + 1) (oAppear w S v s).2 := by
  have J := I.mono (Nat.le_refl q) (Nat.le_succ b)
  unfold oAppear; split
  · rename_i a c ha hc
    obtain ⟨h1, h2, h3⟩ := iv_some ha
    obtain ⟨h4, h5⟩ := ix_some hc
    split
    · exact J
    · rename_i hn
      split
      · exact J
      · have hl := I.2.2.2.2.2.2.2.2.1 a h2
        have hlt : (sD S a).length < nC a := by
          have h6 : ¬ (sD S a).length = 2 := fun z => hn (Or.inl z)
          rw [nC_pos h1] at hl ⊢; omega
        obtain ⟨I1, G1, N1⟩ := I.beg (kd := 1) (ot := 0) (su := s) (dl := sClk S + 10) (an := 0) hw h2 hb hlt ⟨c, h4, h5⟩ (fun _ => rfl) (fun e => absurd e (by omega)) (by decide)
        obtain ⟨I2, G2⟩ := I1.same (S' := oStand (oBegin S a 1 0 s (sClk S + 10) 0) (4 * a + c) 1) hw rfl rfl rfl rfl rfl rfl rfl rfl
        refine I2.send ⟨⟨a, h2, h3⟩, ⟨0, Nat.zero_le _, rfl⟩, ⟨c, h4, h5⟩, Or.inl ⟨rfl, rfl, ?_⟩⟩
        have e : (sRow [v, 0, 11, s, sL S a + 1, 0, 0] 0).toNatClampNeg = a := clampI hw h2 h3
        rw [e]
        exact G2.2 a h2 _ _ N1
  · exact J
theorem s_ask {w q b : Nat} {S : sS} {s : Int32} (hw : w ≤ 4) (hb : b < 2 ^ 30) (I : IV w q b S) : IV w (q + 1) (b + 1) (oAsk S s).2 := by
  have J := I.mono (Nat.le_succ q) (Nat.le_succ b)
  have h0 := Nat.zero_le w
  unfold oAsk; split
  · exact J
  · rename_i c hc
    obtain ⟨h4, h5⟩ := ix_some hc
    split
    · exact J
    · rename_i hlo
      split
      · exact J
      · rename_i hn
        have hl := I.2.2.2.2.2.2.2.2.1 0 h0
        have hlt : (sD S 0).length < nC 0 := by rw [show nC 0 = 4 from rfl] at hl ⊢; omega
        obtain ⟨lo, hlo1, hlo2⟩ := I.2.2.2.2.2.2.2.1 c h4
        obtain ⟨l, hl1, hl2⟩ := I.2.2.2.2.2.2.2.2.2.1 0 h0
        have el : sL S 0 + 1 = nI (l + 1) := by rw [hl2, nI_1]
        have nuQ := I.2.2.2.2.2.2.2.2.2.2.2.1
        have nQ : ∀ x ∈ sQ S, x.1 ≠ sL S 0 + 1 := fun x hx => by
          obtain ⟨y, hy, ey⟩ := nuQ x hx
          rw [hl2, nI_clamp (by omega)] at hy
          rw [el, ey]; exact nI_ne (by omega) (by omega)
        have oq : okQ (sQ S ++ [(sL S 0 + 1, -6)]) := by
          refine ⟨fun x hx => ?_, fun i j p r hp hr e => ?_⟩
          · rcases List.mem_append.mp hx with hx | hx
            · exact I.2.1.1 x hx
            · rw [List.mem_singleton] at hx; subst hx
              show 0 < sL S 0 + 1
              rw [el]; exact (nI_ltI (a := 0) (by decide) (by omega)).mpr (by omega)
          · have key : ∀ (i : Nat) (p : Int32 × Int32), (sQ S ++ [(sL S 0 + 1, -6)])[i]? = some p → (sQ S)[i]? = some p ∨ (i = (sQ S).length ∧ p.1 = sL S 0 + 1) := fun i p hp => by
              by_cases hi : i < (sQ S).length
              · rw [List.getElem?_append_left hi] at hp; exact Or.inl hp
              · rw [List.getElem?_append_right (by omega)] at hp
                have := lt_at hp
                rw [List.length_singleton] at this
                have e0 : i - (sQ S).length = 0 := by omega
                rw [e0] at hp
                cases hp
                exact Or.inr ⟨by omega, rfl⟩
            rcases key i p hp with a | ⟨a, a'⟩ <;> rcases key j r hr with c | ⟨c, c'⟩
            · exact I.2.1.2 i j p r a c e
            · exact absurd (e.trans c') (nQ p (List.mem_of_getElem? a))
            · exact absurd (e.symm.trans a') (nQ r (List.mem_of_getElem? c))
            · omega
        obtain ⟨I1, G1, N1⟩ := IV.begQ (q' := q + 1) (kd := 4) (ot := sLo S c) (su := s) (dl := sClk S + 6) (an := 0) (Q' := sQ S ++ [(sL S 0 + 1, -6)]) hw h0 I hb hlt ⟨c, h4, h5⟩ (fun e => absurd rfl e) (fun _ => ⟨by decide, lo, hlo1, hlo2⟩) oq
          (by rw [List.length_append, List.length_singleton]; have := I.2.2.1; omega) (fun n hn => by rw [List.map_append]; exact List.mem_append_left _ hn)
          (fun x hx => by
            rcases List.mem_append.mp hx with hx | hx
            · exact nu_beg I hb h0 (nuQ x hx)
            · rw [List.mem_singleton] at hx; subst hx
              refine ⟨l + 1, ?_, el⟩
              show l + 1 ≤ (upd (sL S) 0 (sL S 0 + 1) 0).toNatClampNeg
              unfold upd
              rw [if_pos rfl, el, nI_clamp (by omega)]; exact Nat.le_refl _)
          (fun _ _ => by rw [List.map_append]; exact List.mem_append_right _ (List.mem_singleton.mpr rfl))
        refine I1.send ⟨⟨0, h0, rfl⟩, ⟨lo, hlo1, hlo2⟩, ⟨c, h4, h5⟩, Or.inr (Or.inr (Or.inl ⟨rfl, rfl, hlo, ?_⟩))⟩
        show (sL S 0 + 1) ∈ (sQ S ++ [(sL S 0 + 1, -6)]).map Prod.fst
        rw [List.map_append]; exact List.mem_append_right _ (List.mem_singleton.mpr rfl)
theorem s_lose {w q b : Nat} {S : sS} {i : Int32} (I : IV w q b S) : IV w q b (oLose S i).2 := by
  unfold oLose; split
  · exact I.lose.1
  · exact I
theorem s_copy {w q b : Nat} {S : sS} {i : Int32} (I : IV w q b S) : IV w q b (oCopy S i).2 := by
  unfold oCopy; split
  · rename_i k f hx
    have hm := I.f f (List.mem_of_getElem? (lx_some hx).2)
    split
    · exact I
    · refine (I.F (fun x hx => ?_)).1
      rcases List.mem_append.mp hx with hx | hx
      · exact I.f x hx
      · rw [List.mem_singleton] at hx; subst hx; exact hm
  · exact I
theorem s_call {w q b : Nat} {S : sS} {r : Int32} (I : IV w q b S) : IV w q b (oCall w S r).2 := by
  unfold oCall; split
  · refine (I.O (fun k => ?_) (fun k hk => ?_)).1
    · unfold upd; split
      · exact Or.inl rfl
      · exact I.2.2.2.2.2.1 k
    · unfold upd; split
      · rfl
      · exact I.2.2.2.2.2.2.1 k hk
  · exact I
theorem sDrop_sub {C : List Int32} {p x : Int32} (h : x ∈ sDrop C p) : x ∈ C := by
  unfold sDrop at h; split at h
  · exact List.mem_of_mem_eraseIdx h
  · exact h
theorem sDrop_len {C : List Int32} {p : Int32} : (sDrop C p).length ≤ C.length := by
  unfold sDrop; split
  · exact List.length_eraseIdx_le ..
  · exact Nat.le_refl _
theorem IV.drop {w q b : Nat} {S : sS} {p : Int32} (I : IV w q b S) : IV w q b (stC S (sDrop (sC S) p)) ∧ gro w S (stC S (sDrop (sC S) p)) :=
  I.C (Nat.le_trans sDrop_len I.2.2.2.1) (fun x hx => I.2.2.2.2.1 x (sDrop_sub hx))
theorem IV.mv {w q b sn vn : Nat} {S : sS} {s v : Int32} (hw : w ≤ 4) (hs : sn < 4) (es : s = nI sn) (hv : vn ≤ w) (ev : v = nI vn) (I : IV w q b S) :
    IV w q b (oMove S sn s v) ∧ gro w S (oMove S sn s v) ∧ (sD (oMove S sn s v) 0).length ≤ (sD S 0).length ∧ sL (oMove S sn s v) = sL S ∧ sClk (oMove S sn s v) = sClk S := by
  have A1 : IV w q b (oMv1 S sn s v) ∧ gro w S (oMv1 S sn s v) ∧ sD (oMv1 S sn s v) = sD S ∧ sL (oMv1 S sn s v) = sL S ∧ sClk (oMv1 S sn s v) = sClk S := by
    unfold oMv1; split
    · obtain ⟨lo, hlo1, hlo2⟩ := I.2.2.2.2.2.2.2.1 sn hs
      have hp : pO w (4 * sLo S sn + s) := ⟨lo, sn, hlo1, hs, by rw [hlo2, es, show (4 : Int32) = nI 4 from rfl, pk_mul, nI_add]⟩
      have h := I.C (C := sAdd (sC S) (4 * sLo S sn + s)) (by
          unfold sAdd; split
          · exact I.2.2.2.1
          · split
            · exact I.2.2.2.1
            · have := I.2.2.2.1; rw [List.length_append, List.length_singleton]; omega) (fun p hp' => by
          unfold sAdd at hp'; split at hp'
          · exact I.2.2.2.2.1 p hp'
          · split at hp'
            · exact I.2.2.2.2.1 p hp'
            · rcases List.mem_append.mp hp' with h | h
              · exact I.2.2.2.2.1 p h
              · rw [List.mem_singleton] at h; subst h; exact hp)
      exact ⟨h.1, h.2, rfl, rfl, rfl⟩
    · exact ⟨I, gro.rf, rfl, rfl, rfl⟩
  obtain ⟨I1, G1, d1, l1, c1⟩ := A1
  obtain ⟨I2, G2⟩ := I1.drop (p := 4 * v + s)
  have A3 : IV w q b (oMv3 (oMv2 (oMv1 S sn s v) s v) s v) ∧ gro w (oMv2 (oMv1 S sn s v) s v) (oMv3 (oMv2 (oMv1 S sn s v) s v) s v) ∧ (sD (oMv3 (oMv2 (oMv1 S sn s v) s v) s v) 0).length ≤ (sD (oMv1 S sn s v) 0).length ∧ sL (oMv3 (oMv2 (oMv1 S sn s v) s v) s v) = sL (oMv1 S sn s v) ∧ sClk (oMv3 (oMv2 (oMv1 S sn s v) s v) s v) = sClk (oMv1 S sn s v) := by
    unfold oMv3; split
    · rename_i k hk
      obtain ⟨a, c⟩ := IV.en (v := 0) (k := k) hw I2
      refine ⟨a, c, ?_, rfl, rfl⟩
      show (updD (sD (oMv1 S sn s v)) 0 ((sD (oMv1 S sn s v) 0).eraseIdx k) 0).length ≤ _
      rw [updD_at]; exact List.length_eraseIdx_le ..
    · exact ⟨I2, gro.rf, Nat.le_refl _, rfl, rfl⟩
  obtain ⟨I3, G3, d3, l3, c3⟩ := A3
  have A4 := I3.Lo (x := upd (sLo (oMv3 (oMv2 (oMv1 S sn s v) s v) s v)) sn v) (fun u hu => by
    unfold upd; split
    · exact ⟨vn, hv, ev⟩
    · exact I3.2.2.2.2.2.2.2.1 u hu)
  refine ⟨A4.1, (G1.tr G2).tr (G3.tr A4.2), ?_, l3.trans l1, c3.trans c1⟩
  rw [d1] at d3; exact d3
