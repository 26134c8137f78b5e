/-! ===== the reference: tick ===== -/
def qIn (S : sS) (n : Int32) : Prop := n ∈ (sQ S).map Prod.fst
theorem sSet_fst {Q : List (Int32 × Int32)} {n v : Int32} : (sSet Q n v).map Prod.fst = Q.map Prod.fst := by
  unfold sSet; rw [List.map_map]
  refine List.map_congr_left fun q _ => ?_
  show (if q.1 = n then (q.1, v) else q).1 = q.1
  split <;> rfl
theorem qIn_at {S : sS} {n : Int32} (h : qIn S n) : ∃ (i : Nat) (q : Int32 × Int32), (sQ S)[i]? = some q ∧ q.1 = n := by
  obtain ⟨q, hq, e⟩ := List.mem_map.mp h
  obtain ⟨i, hi⟩ := List.mem_iff_getElem?.mp hq
  exact ⟨i, q, hi, e⟩
/-- what a tick needs of the dialogues -/
def okE (w : Nat) (S : sS) : Prop := okD w S ∧ okQ (sQ S) ∧ okL w S ∧ (∀ v, 1 ≤ v → v ≤ w → ∀ g ∈ sD S v, g 1 = 1) ∧ (∀ g ∈ sD S 0, ¬ g 1 = 1) ∧ ∀ g ∈ sD S 0, g 1 = 4 → qIn S (g 0)
theorem oGive_sub {S : sS} {v k u : Nat} {g x : Nat → Int32} (h : x ∈ sD (oGive S v k g) u) : x ∈ sD S u := by
  rw [oGive_D.1] at h
  by_cases e : u = v
  · subst e; rw [updD_at] at h; exact List.mem_of_mem_eraseIdx h
  · rw [updD_ne e] at h; exact h
theorem oGive_len {S : sS} {v k u : Nat} {g : Nat → Int32} : (sD (oGive S v k g) u).length ≤ (sD S u).length := by
  rw [oGive_D.1]; by_cases e : u = v
  · subst e; rw [updD_at]; exact List.length_eraseIdx_le ..
  · rw [updD_ne e]; exact Nat.le_refl _
theorem oGvA_fst {S : sS} {g : Nat → Int32} : (sQ (oGvA S g)).map Prod.fst = (sQ S).map Prod.fst := by
  unfold oGvA; split
  · rfl
  · split
    · exact sSet_fst
    · rfl
theorem oGive_fst {S : sS} {v k : Nat} {g : Nat → Int32} : (sQ (oGive S v k g)).map Prod.fst = (sQ S).map Prod.fst := by
  unfold oGive; split
  · exact oGvA_fst
  · rfl
theorem okE.give {w v k : Nat} {S : sS} {g : Nat → Int32} (o : okE w S) : okE w (oGive S v k g) := by
  obtain ⟨o1, o2, o3, o4, o5, o6⟩ := o
  refine ⟨okD_er oGive_D.1 o1, oGive_Q o2, fun u hu => Nat.le_trans oGive_len (o3 u hu), fun u h1 h2 x hx => o4 u h1 h2 x (oGive_sub hx), fun x hx => o5 x (oGive_sub hx), fun x hx e => ?_⟩
  unfold qIn; rw [oGive_fst]; exact o6 x (oGive_sub hx) e
theorem LG_give {w v d : Nat} {S : sS} {G : List (Nat × (Nat → Int32))} {g : Nat → Int32} (L : LG w S G) (hd : G[d]? = some (v, g)) : LG w (oGive S v (rk v G d) g) (G.eraseIdx d) := by
  have h := L.er hd
  refine ⟨h.1, fun u hu => ?_⟩
  rw [oGive_D.1]; exact h.2 u hu
theorem rk_er {v : Nat} : ∀ (G : List (Nat × (Nat → Int32))) (j : Nat), rk v (G.eraseIdx j) j = rk v G j
  | [], _ => rfl
  | _ :: G, 0 => by rw [rk_0, rk_0]
  | p :: G, j + 1 => by
    show rk v (p :: G.eraseIdx j) (j + 1) = rk v (p :: G) (j + 1)
    have h := rk_er (v := v) G j
    simp only [rk, h]
theorem c107i {d : Nat} {h : zH} {m w v : Nat} {K : zT} {SF : sS} (hw : w ≤ 4) (hv : v ≤ w)
    (hK : ∀ (h2 : zH) (G2 : List (Nat × (Nat → Int32))) (o : Int32), MH h2 m w SF G2 → LG w SF G2 → okE w SF → zJ (yA m) h h2 → zWp zm107 (zD (d + 3)) K 0 0 12 [some (.inr m), some (.inl (nI (v + 1))), some (.inl o)] [] h2) :
    ∀ (t j : Nat) (h1 : zH) (S1 : sS) (G1 : List (Nat × (Nat → Int32))), G1.length - j = t → j ≤ G1.length → MH h1 m w S1 G1 → LG w S1 G1 → okE w S1 → zJ (yA m) h h1 → oDue v ((flt v G1).length - rk v G1 j) (rk v G1 j) S1 = SF →
    zWp zm107 (zD (d + 3)) K 0 0 22 [some (.inr m), some (.inl (nI v)), some (.inl (nI j))] [] h1 := by
  intro t
  induction t with
  | zero =>
    intro j h1 S1 G1 ht hj X L o s1 e
    have ej : j = G1.length := by omega
    have hg := X.gg.1
    rw [ej, rk_len, Nat.sub_self] at e
    have e : S1 = SF := e
    subst e
    refine r107_22 ⟨X.1.1, fun _ => ?_, fun q => absurd (by rw [X.gg.2.1, ej]; exact nI_le (Nat.le_refl _) (by omega)) q⟩
    rw [nI_1]; exact hK h1 G1 _ X L o s1
  | succ t ih =>
    intro j h1 S1 G1 ht hj X L o s1 e
    obtain ⟨y1, y2, y3⟩ := X.gg
    obtain ⟨⟨u, g⟩, hg⟩ := at_lt (show j < G1.length by omega)
    obtain ⟨z1, z2, z3, z4, z5, z6, z7⟩ := y3 j (u, g) hg
    have zz1 : zI h1 (m + 13) j = nI u := z1
    have zz6 : zI h1 (m + 18) j = g 4 := z6
    have hu : u ≤ w := L.1 _ (List.mem_of_getElem? hg)
    have jk := nI_clamp (show j < 2 ^ 31 by omega)
    have vk : vp_in (nI j) 12 := vp_in_nI (by omega) (by omega)
    have q1 : ¬ nI G1.length ≤ nI j := nI_ge (by omega) (by omega)
    have ck : zI h1 m 1 = sClk S1 := X.clk
    have rs := rk_s (v := v) hg
    have eU : (nI u = nI v) = (u = v) := propext (nI_eq (by omega) (by omega))
    refine r107_22 ⟨X.1.1, fun q => absurd (by rw [← y2]; exact q) q1, fun _ => ?_⟩
    obtain ⟨k0, ⟨r1, r2, r3, r4, r5, r6, r7, r8, r9, r10, r11, r12, r13, r14, r15, r16, r17, r18, r19, r20, r21, r22, r23⟩, ⟨k1, k2, k3, k4, k5, k6, k7, k8, k9, k10, k11, k12, k13, k14, k15, k16, k17, k18, k19, k20, k21, k22, k23⟩, ⟨l1, l2, l3, l4, l5, l6, l7, l8, l9, l10, l11, l12, l13, l14, l15, l16, l17, l18, l19, l20, l21, l22, l23⟩⟩ := X.1
    simp only [k0, r1, r2, r3, r4, r5, r6, r7, r8, r9, r10, r11, r12, r13, r14, r15, r16, r17, r18, r19, r20, r21, r22, r23, k1, k2, k3, k4, k5, k6, k7, k8, k9, k10, k11, k12, k13, k14, k15, k16, k17, k18, k19, k20, k21, k22, k23, l1, l2, l3, l4, l5, l6, l7, l8, l9, l10, l11, l12, l13, l14, l15, l16, l17, l18, l19, l20, l21, l22, l23, true_and, true_or, or_true, jk, vk, zz1, zz6, ck, eU, nI_1]
    clear k0 r1 r2 r3 r4 r5 r6 r7 r8 r9 r10 r11 r12 r13 r14 r15 r16 r17 r18 r19 r20 r21 r22 r23 k1 k2 k3 k4 k5 k6 k7 k8 k9 k10 k11 k12 k13 k14 k15 k16 k17 k18 k19 k20 k21 k22 k23 l1 l2 l3 l4 l5 l6 l7 l8 l9 l10 l11 l12 l13 l14 l15 l16 l17 l18 l19 l20 l21 l22 l23
    by_cases ev : u = v
    · subst ev
      have rs : rk u G1 (j + 1) = rk u G1 j + 1 := by rw [rs]; exact congrArg _ (if_pos rfl)
      have hf := flt_at hg
      have hl := lt_at hf
      have en : (flt u G1).length - rk u G1 j = ((flt u G1).length - (rk u G1 j + 1)) + 1 := by omega
      have hD : (sD S1 u)[rk u G1 j]? = some g := by rw [L.2 u hu]; exact hf
      have eD : oDue u ((flt u G1).length - rk u G1 j) (rk u G1 j) S1 = if g 4 = sClk S1 then oDue u ((flt u G1).length - (rk u G1 j + 1)) (rk u G1 j) (oGive S1 u (rk u G1 j) g) else oDue u ((flt u G1).length - (rk u G1 j + 1)) (rk u G1 j + 1) S1 := by
        rw [en]
        show (match (sD S1 u)[rk u G1 j]? with | some g => _ | none => _) = _
        rw [hD]
      rw [eD] at e
      refine ⟨fun q => absurd rfl q, fun _ => ⟨fun q => ?_, fun q => ?_⟩⟩
      · rw [if_neg q] at e
        exact ih (j + 1) h1 S1 G1 (by omega) (by omega) X L o s1 (by rw [rs]; exact e)
      · rw [if_pos q] at e
        obtain ⟨o1, o2, o3, o4, o5, o6⟩ := o
        have hm : g ∈ sD S1 u := List.mem_of_getElem? hD
        obtain ⟨sn, hs, g3⟩ := o1 u hu g hm
        refine ⟨_, c106 hw X L o2 hg hs g3 (fun z => o4 u (by omega) hu g hm) (fun z => by subst z; exact o5 g hm) (fun z => ?_), ?_⟩
        · by_cases z0 : u = 0
          · subst z0; exact qIn_at (o6 g hm z)
          · have := o4 u (by omega) hu g hm; rw [z] at this; exact absurd this (by decide)
        · rintro r h2 ⟨rfl, X2, s2⟩
          refine r107_58 ?_
          have L2 := LG_give L hg
          have e2 := rk_er (v := u) G1 j
          have lf : (flt u (G1.eraseIdx j)).length = (flt u G1).length - 1 := by rw [flt_er hg, List.length_eraseIdx_of_lt hl]
          have lg : (G1.eraseIdx j).length = G1.length - 1 := List.length_eraseIdx_of_lt (lt_at hg)
          refine ih j h2 _ (G1.eraseIdx j) (by omega) (by omega) X2 L2 (okE.give ⟨o1, o2, o3, o4, o5, o6⟩) (s1.tr s2) ?_
          rw [e2, lf, ← e, show (flt u G1).length - 1 - rk u G1 j = (flt u G1).length - (rk u G1 j + 1) by omega]
    · refine ⟨fun _ => ?_, fun q => absurd q ev⟩
      rw [if_neg ev] at rs
      exact ih (j + 1) h1 S1 G1 (by omega) (by omega) X L o s1 (by rw [rs]; exact e)
theorem c107o {d : Nat} {h : zH} {m w : Nat} {K : zT} {SF : sS} (hw : w ≤ 4)
    (hK : ∀ (h2 : zH) (G2 : List (Nat × (Nat → Int32))) (o : Option zV), MH h2 m w SF G2 → LG w SF G2 → okE w SF → zJ (yA m) h h2 → zWp zm107 (zD (d + 3)) K 0 0 75 [some (.inr m), some (.inl 2), o] [] h2) :
    ∀ (t v : Nat) (h1 : zH) (S1 : sS) (G1 : List (Nat × (Nat → Int32))) (o2 : Option zV), v + t = w + 1 → MH h1 m w S1 G1 → LG w S1 G1 → okE w S1 → zJ (yA m) h h1 → oDues t v S1 = SF →
    zWp zm107 (zD (d + 3)) K 0 0 12 [some (.inr m), some (.inl (nI v)), o2] [] h1 := by
  intro t
  induction t with
  | zero =>
    intro v h1 S1 G1 o2 hv X L o s1 e
    have e : S1 = SF := e
    subst e
    exact r107_12 ⟨X.1.1, fun _ => hK h1 G1 _ X L o s1, fun q => absurd (by rw [X.2.1]; exact (nI_ltI (a := w) (b := v) (by omega) (by omega)).mpr (by omega)) q⟩
  | succ t ih =>
    intro v h1 S1 G1 o2 hv X L o s1 e
    refine r107_12 ⟨X.1.1, fun q => absurd ((nI_ltI (a := w) (b := v) (by omega) (by omega)).mp (by rw [← X.2.1]; exact q)) (by omega), fun _ => ?_⟩
    refine c107i (SF := oDue v (sD S1 v).length 0 S1) hw (by omega) (fun h2 G2 o3 X2 L2 ok2 s2 => ?_) _ 0 h1 S1 G1 rfl (Nat.zero_le _) X L o s1 (by rw [rk_0, L.2 v (by omega)]; rfl)
    exact ih (v + 1) h2 _ G2 _ (by omega) X2 L2 ok2 s2 e
theorem oGive_O {S : sS} {v k : Nat} {g : Nat → Int32} : sO (oGive S v k g) = sO S := by
  unfold oGive; split
  · unfold oGvA; split
    · rfl
    · split <;> rfl
  · rfl
theorem oDue_O {v : Nat} : ∀ (n k : Nat) (S : sS), sO (oDue v n k S) = sO S
  | 0, _, _ => rfl
  | n + 1, k, S => by
    unfold oDue
    split
    · split
      · rw [oDue_O n k]; exact oGive_O
      · exact oDue_O n (k + 1) S
    · rfl
theorem oDues_O : ∀ (n v : Nat) (S : sS), sO (oDues n v S) = sO S
  | 0, _, _ => rfl
  | n + 1, v, S => by unfold oDues; rw [oDues_O n (v + 1), oDue_O]
theorem c107 {d : Nat} {h : zH} {m w : Nat} {S : sS} (hw : w ≤ 4) (M : MM h m w S) (ok : okE w S) (hO : ∀ k, sO S k = -1 ∨ 0 ≤ sO S k) (hlow : ∀ k, k < 2 → sO S k = -1) :
    zD (d + 4) 107 [.inr m] h (fun r h' => r = some (.inl (sClk S + 1)) ∧ MM h' m w (oTick w S) ∧ zJ (yA m) h h') := by
  obtain ⟨G, X, L⟩ := M
  have ek := X.clk
  refine zD_of rfl (r107_0 ⟨X.1.1, X.1.1, ?_⟩)
  rintro _ rfl
  rw [ek]
  have X1 := X.Clk (x := sClk S + 1)
  have s1 : zJ (yA m) h (zwI h m 1 (sClk S + 1)) := zJ.wI (by unfold yA; omega)
  have cl := oDues_clk (w := w) (w + 1) 0 (stClk S (sClk S + 1)) ok.1 ok.2.1
  have eO := oDues_O (w + 1) 0 (stClk S (sClk S + 1))
  refine c107o hw (SF := oDues (w + 1) 0 (stClk S (sClk S + 1))) (fun h2 G2 o2 X2 L2 ok2 s2 => ?_) (w + 1) 0 _ (stClk S (sClk S + 1)) G _ (by omega) X1 L ok s1 rfl
  have eT : oTick w S = oSCs (sC (oFree (oDues (w + 1) 0 (stClk S (sClk S + 1))))).length 0 (oFree (oDues (w + 1) 0 (stClk S (sClk S + 1)))) := rfl
  rw [eT]
  have cl : sClk (oDues (w + 1) 0 (stClk S (sClk S + 1))) = sClk S + 1 := cl
  have eO : sO (oDues (w + 1) 0 (stClk S (sClk S + 1))) = sO S := eO
  generalize oDues (w + 1) 0 (stClk S (sClk S + 1)) = S2 at X2 L2 ok2 cl eO ⊢
  refine c107n X2 (fun k => by rw [eO]; exact hO k) (fun k hk => by rw [eO]; exact hlow k hk) (fun h3 X3 s3 => ?_)
  exact c107c (d := d + 2) hw _ 0 h3 (oFree S2) G2 o2 rfl (Nat.zero_le _) X3 L2 ok2.2.2.1 cl (s2.tr s3)
