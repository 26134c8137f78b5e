theorem MH.ans {h : zH} {m w n v : Nat} {S : sS} {G : List (Nat × (Nat → Int32))} {g g' : Nat → Int32} {x : Int32} (X : MH h m w S (G ++ [(v, g)])) (hn : G.length = n) (hg : ∀ i, i < 5 → g' i = g i) (h5 : g' 5 = x) :
    MH (zwI h (m + 19) n x) m w S (G ++ [(v, g')]) := by
  obtain ⟨y1, y2, y3⟩ := X.gg
  have el : (G ++ [(v, g')]).length = (G ++ [(v, g)]).length := by rw [List.length_append, List.length_append]; rfl
  have hlast : (G ++ [(v, g)])[n]? = some (v, g) := by rw [List.getElem?_append_right (by omega), hn, Nat.sub_self]; rfl
  have hlast' : (G ++ [(v, g')])[n]? = some (v, g') := by rw [List.getElem?_append_right (by omega), hn, Nat.sub_self]; rfl
  have ell : (G ++ [(v, g')]).length = n + 1 := by rw [List.length_append, hn]; rfl
  refine X.G (S' := S) (zJ.wI (by omega)) (fun i _ => zI_oa (by omega)) (fun u hu => (zI_oa (by omega)).trans (X.l hu)) ⟨by rw [el]; exact y1, by rw [zI_oa (by omega), y2, el], fun j p hp => ?_⟩ rfl rfl rfl rfl rfl rfl rfl rfl rfl rfl rfl
  by_cases hj : j < n
  · rw [List.getElem?_append_left (by omega)] at hp
    exact rG_mv (fun t _ => zI_ok (by omega)) (y3 j p (by rw [List.getElem?_append_left (by omega)]; exact hp))
  · have hl := lt_at hp
    have ej : j = n := by omega
    subst ej
    rw [hlast'] at hp
    cases hp
    obtain ⟨z1, z2, z3, z4, z5, z6, z7⟩ := y3 j (v, g) hlast
    have z1 : zI h (m + 13) j = nI v := z1
    have z2 : zI h (m + 14) j = g 0 := z2
    have z3 : zI h (m + 15) j + 1 = g 1 := z3
    have z4 : zI h (m + 16) j = g 3 := z4
    have z5 : zI h (m + 17) j = g 2 := z5
    have z6 : zI h (m + 18) j = g 4 := z6
    show zI (zwI h (m + 19) j x) (m + 13) j = nI v ∧ zI (zwI h (m + 19) j x) (m + 14) j = g' 0 ∧ zI (zwI h (m + 19) j x) (m + 15) j + 1 = g' 1 ∧ zI (zwI h (m + 19) j x) (m + 16) j = g' 3 ∧ zI (zwI h (m + 19) j x) (m + 17) j = g' 2 ∧ zI (zwI h (m + 19) j x) (m + 18) j = g' 4 ∧ zI (zwI h (m + 19) j x) (m + 19) j = g' 5
    rw [hg 0 (by decide), hg 1 (by decide), hg 2 (by decide), hg 3 (by decide), hg 4 (by decide), h5]
    exact ⟨(zI_oa (by omega)).trans z1, (zI_oa (by omega)).trans z2, by rw [zI_oa (by omega)]; exact z3, (zI_oa (by omega)).trans z4, (zI_oa (by omega)).trans z5, (zI_oa (by omega)).trans z6, zI_at⟩
