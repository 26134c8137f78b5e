/-! ===== the reference receives: update, its middle ===== -/
theorem a01 : (0 : Int32) + 1 = 1 := nI_1 0
theorem a11 : (1 : Int32) + 1 = 2 := nI_1 1
theorem a21 : (2 : Int32) + 1 = 3 := nI_1 2
theorem a31 : (3 : Int32) + 1 = 4 := nI_1 3
theorem MH.oE {h : zH} {m w v k : Nat} {S : sS} {G : List (Nat × (Nat → Int32))} (X : MH h m w S G) : MH h m w (oEnd S v k) G :=
  X.eqv rfl rfl rfl rfl rfl rfl rfl rfl rfl rfl rfl rfl
theorem c96c {d : Nat} {h h1 : zH} {m w sn : Nat} {S1 : sS} {G : List (Nat × (Nat → Int32))} {f0 f4 l4 l5 l6 ck : Int32} (hw : w ≤ 4) (hs : sn < 4) (X1 : MH h1 m w S1 G) (L1 : LG w S1 G) (s1 : zJ (yA m) h h1) (hl : G.length < 12) (hck : sClk S1 = ck) :
    zWp zm96 (zD (d + 2)) (fun r h' => r = none ∧ MM h' m w (oSend (oBegin (oMv4 (oMv3 S1 (nI sn) f0) sn f0) 0 2 f0 (nI sn) (ck + 6) f4) (sRow [0, f0, 22, nI sn, sL S1 0 + 1, f4, 0])) ∧ zJ (yA m) h h') 0 0 184 [some (.inr m), some (.inl f0), some (.inl f4), some (.inl (nI sn)), some (.inl l4), some (.inl l5), some (.inl l6), none, none] [] h1 := by
  have hgl := X1.gl
  have k83 := c83 (d := d + 1) (v := 0) (kd := 2) (ot := f0) (su := nI sn) hw (by omega) L1.1 X1
  rw [a21] at k83
  refine r96_184 ⟨X1.1.1, _, k83, ?_⟩
  rintro r _ ⟨rfl, rfl⟩
  cases hx : sFx (pAb 0 3 f0 (nI sn)) G 0 with
  | none =>
    have hy := L1.none (P := pFind 3 f0 (nI sn)) (Nat.zero_le _) hx
    have e : oMv3 S1 (nI sn) f0 = S1 := by unfold oMv3; rw [hy]
    rw [e]
    exact r96_192 ⟨fun _ => c96b hw hs X1 L1 s1 hl hck, fun q => absurd (by rw [sIx_lt0 hgl, hx]) q⟩
  | some k =>
    obtain ⟨g, hg, -, hy, -⟩ := L1.some (P := pFind 3 f0 (nI sn)) (Nat.zero_le _) hx
    have e : oMv3 S1 (nI sn) f0 = oEnd S1 0 (rk 0 G k) := by unfold oMv3; rw [hy]
    have hk := lt_at hg
    have el : sL S1 0 = sL (oEnd S1 0 (rk 0 G k)) 0 := rfl
    have ec : sClk (oEnd S1 0 (rk 0 G k)) = ck := hck
    have hL := L1.er hg
    rw [e, el, sIx_pos hx]
    have hX : ∀ h2, MH h2 m w S1 (G.eraseIdx k) → MH h2 m w (oEnd S1 0 (rk 0 G k)) (G.eraseIdx k) := fun h2 X2 => X2.oE
    generalize oEnd S1 0 (rk 0 G k) = S2 at ec hL hX ⊢
    refine r96_192 ⟨fun q => absurd q (nI_pos (by omega)), fun _ => ⟨X1.1.1, _, c85 X1 hk, ?_⟩⟩
    rintro r h2 ⟨rfl, X2, s2⟩
    exact c96b hw hs (hX h2 X2) hL (s1.tr s2) (by rw [List.length_eraseIdx_of_lt hk]; omega) ec
