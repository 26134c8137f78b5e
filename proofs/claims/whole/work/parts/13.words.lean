/-! ===== words, written by a program: where each stands in lw_tbl ===== -/
def zAll : List Cond := lw_tbl.filter goodWord
theorem zAll_good : ∀ w ∈ zAll, (w.onTables && w.keeps) = true ∨ ∃ ty, w = .arrayClass ty := fun w h => good_of_word (List.mem_filter.mp h).2
def zIx {α : Type} (f : α → Cond) (L : List (α × Nat)) : Bool := L.all (fun q => decide (lw_tbl[q.2]? = some (f q.1)) && goodWord (f q.1))
theorem zIx_ok {α : Type} {f : α → Cond} {L : List (α × Nat)} (h : zIx f L = true) : ∀ q ∈ L.map Prod.fst, f q ∈ zAll := by
  intro q hq
  obtain ⟨x, hx, rfl⟩ := List.mem_map.mp hq
  have h1 := List.all_eq_true.mp h x hx
  rw [Bool.and_eq_true] at h1
  exact List.mem_filter.mpr ⟨List.mem_of_getElem? (of_decide_eq_true h1.1), h1.2⟩
def zIn {α : Type} (f : α → Cond) (L : List (α × Nat)) : Bool := L.all (fun q => decide (lw_tbl[q.2]? = some (f q.1)))
theorem zIn_ok {α : Type} {f : α → Cond} {L : List (α × Nat)} (h : zIn f L = true) : ∀ q ∈ L.map Prod.fst, f q ∈ lw_tbl := by
  intro q hq
  obtain ⟨x, hx, rfl⟩ := List.mem_map.mp hq
  exact List.mem_of_getElem? (of_decide_eq_true (List.all_eq_true.mp h x hx))
def zF (ci k : Nat) : String × String × String × Bool := match zCl[ci]? with
  | some r => r.2.1 k
  | none => ("", "", "", false)
theorem zF_eq {ci k : Nat} {C : String} {T : u_T} {N : Nat} (h : zCl[ci]? = some (C, T, N)) : zF ci k = T k := by
  unfold zF; rw [h]
def zFlw (q : Nat × Nat × Nat × Nat) : Cond := .fieldLink (zCn q.1) q.2.1 (zF q.2.2.1 q.2.2.2).1 (zF q.2.2.1 q.2.2.2).2.1 (zF q.2.2.1 q.2.2.2).2.2.1
def zFnw (q : Nat × Nat × Nat × Nat) : Cond := .fieldLinkNest (zCn q.1) q.2.1 (zF q.2.2.1 q.2.2.2).1 (zF q.2.2.1 q.2.2.2).2.1 (zF q.2.2.1 q.2.2.2).2.2.1 "RoamingRegisters"
theorem zFlw_eq {own idx ci k : Nat} {C : String} {T : u_T} {N : Nat} (h : zCl[ci]? = some (C, T, N)) : zFlw (own, idx, ci, k) = .fieldLink (zCn own) idx (T k).1 (T k).2.1 (T k).2.2.1 := by
  unfold zFlw; rw [zF_eq h]
theorem zFnw_eq {own idx ci k : Nat} {C : String} {T : u_T} {N : Nat} (h : zCl[ci]? = some (C, T, N)) : zFnw (own, idx, ci, k) = .fieldLinkNest (zCn own) idx (T k).1 (T k).2.1 (T k).2.2.1 "RoamingRegisters" := by
  unfold zFnw; rw [zF_eq h]
def zFlsI : List ((Nat × Nat × Nat × Nat) × Nat) := [((1, 11, 1, 0), 65), ((1, 15, 1, 1), 66), ((1, 18, 1, 2), 67), ((1, 26, 1, 3), 68), ((2, 11, 2, 0), 86), ((2, 15, 2, 1), 87), ((3, 11, 3, 0), 100), ((3, 15, 3, 1), 101), ((3, 18, 3, 2), 102), ((7, 9, 7, 0), 123), ((7, 15, 7, 1), 126), ((7, 18, 7, 2), 129), ((7, 21, 7, 3), 132), ((7, 24, 7, 4), 135), ((7, 27, 7, 5), 138), ((7, 30, 7, 6), 141), ((8, 11, 8, 0), 159), ((8, 16, 8, 1), 161), ((4, 11, 4, 0), 182), ((4, 15, 4, 1), 183), ((6, 11, 6, 0), 227), ((6, 18, 6, 1), 229), ((6, 22, 6, 2), 231), ((0, 60, 0, 0), 240), ((0, 116, 0, 1), 241), ((0, 9, 0, 2), 242), ((0, 13, 0, 3), 243), ((0, 64, 0, 4), 244), ((0, 68, 0, 5), 245), ((0, 19, 0, 6), 246), ((0, 26, 0, 7), 247), ((0, 33, 0, 8), 248), ((0, 40, 0, 9), 249), ((0, 47, 0, 10), 250), ((0, 76, 0, 11), 251), ((0, 83, 0, 12), 252), ((0, 87, 0, 13), 253), ((9, 80, 9, 0), 557), ((9, 99, 9, 1), 558), ((9, 7, 9, 2), 559), ((9, 13, 9, 3), 560), ((9, 93, 9, 4), 561), ((9, 16, 9, 5), 562), ((9, 19, 9, 6), 563), ((9, 22, 9, 7), 564), ((9, 137, 9, 8), 565), ((9, 26, 9, 9), 566), ((9, 29, 9, 10), 567), ((9, 32, 9, 11), 568), ((9, 35, 9, 12), 569), ((9, 38, 9, 13), 570), ((9, 41, 9, 14), 571), ((9, 44, 9, 15), 572), ((9, 96, 9, 16), 573), ((9, 47, 9, 17), 574), ((9, 50, 9, 18), 575), ((9, 53, 9, 19), 576), ((9, 56, 9, 20), 577), ((9, 59, 9, 21), 578), ((9, 62, 9, 22), 579), ((9, 65, 9, 23), 580), ((9, 131, 9, 24), 581), ((9, 68, 9, 25), 582), ((9, 71, 9, 26), 583), ((9, 106, 9, 27), 584), ((9, 74, 9, 28), 585), ((9, 77, 9, 29), 586)]
abbrev zFls : List (Nat × Nat × Nat × Nat) := zFlsI.map Prod.fst
def zFnsI : List ((Nat × Nat × Nat × Nat) × Nat) := [((0, 173, 2, 1), 88), ((8, 24, 7, 0), 124), ((0, 210, 7, 0), 125), ((8, 27, 7, 1), 127), ((0, 245, 7, 1), 128), ((8, 30, 7, 2), 130), ((0, 154, 7, 2), 131), ((8, 33, 7, 3), 133), ((0, 213, 7, 3), 134), ((8, 36, 7, 4), 136), ((0, 216, 7, 4), 137), ((8, 39, 7, 5), 139), ((0, 248, 7, 5), 140), ((8, 42, 7, 6), 142), ((0, 268, 7, 6), 143), ((0, 140, 8, 0), 160), ((0, 161, 8, 1), 162), ((6, 25, 5, 0), 202), ((0, 187, 5, 0), 203), ((6, 28, 5, 1), 204), ((0, 277, 5, 1), 205), ((6, 31, 5, 2), 206), ((0, 264, 5, 2), 207), ((6, 34, 5, 3), 208), ((0, 267, 5, 3), 209), ((6, 37, 5, 4), 210), ((0, 254, 5, 4), 211), ((6, 40, 5, 5), 212), ((0, 280, 5, 5), 213), ((0, 184, 6, 0), 228), ((0, 183, 6, 1), 230)]
abbrev zFns : List (Nat × Nat × Nat × Nat) := zFnsI.map Prod.fst
def zSlsI : List ((Nat × Nat) × Nat) := [((0, 95), 290)]
abbrev zSls : List (Nat × Nat) := zSlsI.map Prod.fst
def zSnsI : List ((Nat × Nat) × Nat) := [((1, 30), 324)]
abbrev zSns : List (Nat × Nat) := zSnsI.map Prod.fst
theorem zFls_ok : ∀ q ∈ zFls, zFlw q ∈ zAll := zIx_ok (by decide +kernel)
theorem zFns_in : ∀ q ∈ zFns, zFnw q ∈ lw_tbl := zIn_ok (by decide +kernel)
def zSlw (q : Nat × Nat) : Cond := .fieldLink (zCn q.1) q.2 zSc zSn "[I"
def zSnw (q : Nat × Nat) : Cond := .fieldLinkNest (zCn q.1) q.2 zSc zSn "[I" "RoamingRegisters"
theorem zSls_ok : ∀ q ∈ zSls, zSlw q ∈ zAll := zIx_ok (by decide +kernel)
theorem zSns_in : ∀ q ∈ zSns, zSnw q ∈ lw_tbl := zIn_ok (by decide +kernel)
def zMnsI : List ((Nat × Nat × Nat) × Nat) := [((0, 18, 37), 61), ((0, 25, 41), 82), ((0, 32, 48), 96), ((8, 15, 65), 119), ((0, 46, 65), 169), ((6, 17, 57), 198)]
abbrev zMns : List (Nat × Nat × Nat) := zMnsI.map Prod.fst
def zMnw (q : Nat × Nat × Nat) : Cond := .methodLinkNest (zCn q.1) q.2.1 (zNm q.2.2) "RoamingRegisters"
theorem zMns_in : ∀ q ∈ zMns, zMnw q ∈ lw_tbl := zIn_ok (by decide +kernel)
def zAosI : List ((Nat) × Nat) := [(7, 117), (5, 196), (6, 239)]
abbrev zAos : List (Nat) := zAosI.map Prod.fst
theorem zAos_in : ∀ q ∈ zAos, Cond.arrayOver (.object (zCn q)) ∈ lw_tbl := zIn_ok (f := fun q => Cond.arrayOver (.object (zCn q))) (by decide +kernel)
set_option maxRecDepth 100000 in
theorem zcd0 : Cond.code (zNm 0) (zBy 0) (zMl 0) (zRet 0) ∈ zAll := List.mem_filter.mpr ⟨List.mem_of_getElem? (i := 55) rfl, rfl⟩
set_option maxRecDepth 100000 in
theorem zcd1 : Cond.code (zNm 1) (zBy 1) (zMl 1) (zRet 1) ∈ zAll := List.mem_filter.mpr ⟨List.mem_of_getElem? (i := 286) rfl, rfl⟩
set_option maxRecDepth 100000 in
theorem zcd2 : Cond.code (zNm 2) (zBy 2) (zMl 2) (zRet 2) ∈ zAll := List.mem_filter.mpr ⟨List.mem_of_getElem? (i := 295) rfl, rfl⟩
set_option maxRecDepth 100000 in
theorem zcd3 : Cond.code (zNm 3) (zBy 3) (zMl 3) (zRet 3) ∈ zAll := List.mem_filter.mpr ⟨List.mem_of_getElem? (i := 307) rfl, rfl⟩
set_option maxRecDepth 100000 in
theorem zcd4 : Cond.code (zNm 4) (zBy 4) (zMl 4) (zRet 4) ∈ zAll := List.mem_filter.mpr ⟨List.mem_of_getElem? (i := 343) rfl, rfl⟩
set_option maxRecDepth 100000 in
theorem zcd5 : Cond.code (zNm 5) (zBy 5) (zMl 5) (zRet 5) ∈ zAll := List.mem_filter.mpr ⟨List.mem_of_getElem? (i := 351) rfl, rfl⟩
set_option maxRecDepth 100000 in
theorem zcd6 : Cond.code (zNm 6) (zBy 6) (zMl 6) (zRet 6) ∈ zAll := List.mem_filter.mpr ⟨List.mem_of_getElem? (i := 363) rfl, rfl⟩
set_option maxRecDepth 100000 in
theorem zcd7 : Cond.code (zNm 7) (zBy 7) (zMl 7) (zRet 7) ∈ zAll := List.mem_filter.mpr ⟨List.mem_of_getElem? (i := 465) rfl, rfl⟩
set_option maxRecDepth 100000 in
theorem zcd8 : Cond.code (zNm 8) (zBy 8) (zMl 8) (zRet 8) ∈ zAll := List.mem_filter.mpr ⟨List.mem_of_getElem? (i := 469) rfl, rfl⟩
set_option maxRecDepth 100000 in
theorem zcd9 : Cond.code (zNm 9) (zBy 9) (zMl 9) (zRet 9) ∈ zAll := List.mem_filter.mpr ⟨List.mem_of_getElem? (i := 479) rfl, rfl⟩
set_option maxRecDepth 100000 in
theorem zcd10 : Cond.code (zNm 10) (zBy 10) (zMl 10) (zRet 10) ∈ zAll := List.mem_filter.mpr ⟨List.mem_of_getElem? (i := 483) rfl, rfl⟩
set_option maxRecDepth 100000 in
theorem zcd11 : Cond.code (zNm 11) (zBy 11) (zMl 11) (zRet 11) ∈ zAll := List.mem_filter.mpr ⟨List.mem_of_getElem? (i := 491) rfl, rfl⟩
set_option maxRecDepth 100000 in
theorem zcd12 : Cond.code (zNm 12) (zBy 12) (zMl 12) (zRet 12) ∈ zAll := List.mem_filter.mpr ⟨List.mem_of_getElem? (i := 515) rfl, rfl⟩
set_option maxRecDepth 100000 in
theorem zcd13 : Cond.code (zNm 13) (zBy 13) (zMl 13) (zRet 13) ∈ zAll := List.mem_filter.mpr ⟨List.mem_of_getElem? (i := 519) rfl, rfl⟩
set_option maxRecDepth 100000 in
theorem zcd14 : Cond.code (zNm 14) (zBy 14) (zMl 14) (zRet 14) ∈ zAll := List.mem_filter.mpr ⟨List.mem_of_getElem? (i := 523) rfl, rfl⟩
set_option maxRecDepth 100000 in
theorem zcd15 : Cond.code (zNm 15) (zBy 15) (zMl 15) (zRet 15) ∈ zAll := List.mem_filter.mpr ⟨List.mem_of_getElem? (i := 527) rfl, rfl⟩
set_option maxRecDepth 100000 in
theorem zcd16 : Cond.code (zNm 16) (zBy 16) (zMl 16) (zRet 16) ∈ zAll := List.mem_filter.mpr ⟨List.mem_of_getElem? (i := 535) rfl, rfl⟩
set_option maxRecDepth 100000 in
theorem zcd17 : Cond.code (zNm 17) (zBy 17) (zMl 17) (zRet 17) ∈ zAll := List.mem_filter.mpr ⟨List.mem_of_getElem? (i := 539) rfl, rfl⟩
set_option maxRecDepth 100000 in
theorem zcd18 : Cond.code (zNm 18) (zBy 18) (zMl 18) (zRet 18) ∈ zAll := List.mem_filter.mpr ⟨List.mem_of_getElem? (i := 543) rfl, rfl⟩
set_option maxRecDepth 100000 in
theorem zcd19 : Cond.code (zNm 19) (zBy 19) (zMl 19) (zRet 19) ∈ zAll := List.mem_filter.mpr ⟨List.mem_of_getElem? (i := 531) rfl, rfl⟩
set_option maxRecDepth 100000 in
theorem zcd20 : Cond.code (zNm 20) (zBy 20) (zMl 20) (zRet 20) ∈ zAll := List.mem_filter.mpr ⟨List.mem_of_getElem? (i := 311) rfl, rfl⟩
set_option maxRecDepth 100000 in
theorem zcd21 : Cond.code (zNm 21) (zBy 21) (zMl 21) (zRet 21) ∈ zAll := List.mem_filter.mpr ⟨List.mem_of_getElem? (i := 289) rfl, rfl⟩
set_option maxRecDepth 100000 in
theorem zcd22 : Cond.code (zNm 22) (zBy 22) (zMl 22) (zRet 22) ∈ zAll := List.mem_filter.mpr ⟨List.mem_of_getElem? (i := 331) rfl, rfl⟩
set_option maxRecDepth 100000 in
theorem zcd23 : Cond.code (zNm 23) (zBy 23) (zMl 23) (zRet 23) ∈ zAll := List.mem_filter.mpr ⟨List.mem_of_getElem? (i := 379) rfl, rfl⟩
set_option maxRecDepth 100000 in
theorem zcd24 : Cond.code (zNm 24) (zBy 24) (zMl 24) (zRet 24) ∈ zAll := List.mem_filter.mpr ⟨List.mem_of_getElem? (i := 383) rfl, rfl⟩
set_option maxRecDepth 100000 in
theorem zcd25 : Cond.code (zNm 25) (zBy 25) (zMl 25) (zRet 25) ∈ zAll := List.mem_filter.mpr ⟨List.mem_of_getElem? (i := 395) rfl, rfl⟩
set_option maxRecDepth 100000 in
theorem zcd26 : Cond.code (zNm 26) (zBy 26) (zMl 26) (zRet 26) ∈ zAll := List.mem_filter.mpr ⟨List.mem_of_getElem? (i := 391) rfl, rfl⟩
set_option maxRecDepth 100000 in
theorem zcd27 : Cond.code (zNm 27) (zBy 27) (zMl 27) (zRet 27) ∈ zAll := List.mem_filter.mpr ⟨List.mem_of_getElem? (i := 415) rfl, rfl⟩
set_option maxRecDepth 100000 in
theorem zcd28 : Cond.code (zNm 28) (zBy 28) (zMl 28) (zRet 28) ∈ zAll := List.mem_filter.mpr ⟨List.mem_of_getElem? (i := 449) rfl, rfl⟩
set_option maxRecDepth 100000 in
theorem zcd29 : Cond.code (zNm 29) (zBy 29) (zMl 29) (zRet 29) ∈ zAll := List.mem_filter.mpr ⟨List.mem_of_getElem? (i := 433) rfl, rfl⟩
set_option maxRecDepth 100000 in
theorem zcd30 : Cond.code (zNm 30) (zBy 30) (zMl 30) (zRet 30) ∈ zAll := List.mem_filter.mpr ⟨List.mem_of_getElem? (i := 441) rfl, rfl⟩
set_option maxRecDepth 100000 in
theorem zcd31 : Cond.code (zNm 31) (zBy 31) (zMl 31) (zRet 31) ∈ zAll := List.mem_filter.mpr ⟨List.mem_of_getElem? (i := 457) rfl, rfl⟩
set_option maxRecDepth 100000 in
theorem zcd32 : Cond.code (zNm 32) (zBy 32) (zMl 32) (zRet 32) ∈ zAll := List.mem_filter.mpr ⟨List.mem_of_getElem? (i := 437) rfl, rfl⟩
set_option maxRecDepth 100000 in
theorem zcd33 : Cond.code (zNm 33) (zBy 33) (zMl 33) (zRet 33) ∈ zAll := List.mem_filter.mpr ⟨List.mem_of_getElem? (i := 411) rfl, rfl⟩
set_option maxRecDepth 100000 in
theorem zcd34 : Cond.code (zNm 34) (zBy 34) (zMl 34) (zRet 34) ∈ zAll := List.mem_filter.mpr ⟨List.mem_of_getElem? (i := 495) rfl, rfl⟩
set_option maxRecDepth 100000 in
theorem zcd35 : Cond.code (zNm 35) (zBy 35) (zMl 35) (zRet 35) ∈ zAll := List.mem_filter.mpr ⟨List.mem_of_getElem? (i := 499) rfl, rfl⟩
set_option maxRecDepth 100000 in
theorem zcd36 : Cond.code (zNm 36) (zBy 36) (zMl 36) (zRet 36) ∈ zAll := List.mem_filter.mpr ⟨List.mem_of_getElem? (i := 511) rfl, rfl⟩
set_option maxRecDepth 100000 in
theorem zcd37 : Cond.code (zNm 37) (zBy 37) (zMl 37) (zRet 37) ∈ zAll := List.mem_filter.mpr ⟨List.mem_of_getElem? (i := 63) rfl, rfl⟩
set_option maxRecDepth 100000 in
theorem zcd38 : Cond.code (zNm 38) (zBy 38) (zMl 38) (zRet 38) ∈ zAll := List.mem_filter.mpr ⟨List.mem_of_getElem? (i := 299) rfl, rfl⟩
set_option maxRecDepth 100000 in
theorem zcd39 : Cond.code (zNm 39) (zBy 39) (zMl 39) (zRet 39) ∈ zAll := List.mem_filter.mpr ⟨List.mem_of_getElem? (i := 303) rfl, rfl⟩
set_option maxRecDepth 100000 in
theorem zcd40 : Cond.code (zNm 40) (zBy 40) (zMl 40) (zRet 40) ∈ zAll := List.mem_filter.mpr ⟨List.mem_of_getElem? (i := 323) rfl, rfl⟩
set_option maxRecDepth 100000 in
theorem zcd41 : Cond.code (zNm 41) (zBy 41) (zMl 41) (zRet 41) ∈ zAll := List.mem_filter.mpr ⟨List.mem_of_getElem? (i := 84) rfl, rfl⟩
set_option maxRecDepth 100000 in
theorem zcd42 : Cond.code (zNm 42) (zBy 42) (zMl 42) (zRet 42) ∈ zAll := List.mem_filter.mpr ⟨List.mem_of_getElem? (i := 407) rfl, rfl⟩
set_option maxRecDepth 100000 in
theorem zcd43 : Cond.code (zNm 43) (zBy 43) (zMl 43) (zRet 43) ∈ zAll := List.mem_filter.mpr ⟨List.mem_of_getElem? (i := 399) rfl, rfl⟩
set_option maxRecDepth 100000 in
theorem zcd44 : Cond.code (zNm 44) (zBy 44) (zMl 44) (zRet 44) ∈ zAll := List.mem_filter.mpr ⟨List.mem_of_getElem? (i := 507) rfl, rfl⟩
set_option maxRecDepth 100000 in
theorem zcd45 : Cond.code (zNm 45) (zBy 45) (zMl 45) (zRet 45) ∈ zAll := List.mem_filter.mpr ⟨List.mem_of_getElem? (i := 419) rfl, rfl⟩
set_option maxRecDepth 100000 in
theorem zcd46 : Cond.code (zNm 46) (zBy 46) (zMl 46) (zRet 46) ∈ zAll := List.mem_filter.mpr ⟨List.mem_of_getElem? (i := 425) rfl, rfl⟩
set_option maxRecDepth 100000 in
theorem zcd47 : Cond.code (zNm 47) (zBy 47) (zMl 47) (zRet 47) ∈ zAll := List.mem_filter.mpr ⟨List.mem_of_getElem? (i := 403) rfl, rfl⟩
set_option maxRecDepth 100000 in
theorem zcd48 : Cond.code (zNm 48) (zBy 48) (zMl 48) (zRet 48) ∈ zAll := List.mem_filter.mpr ⟨List.mem_of_getElem? (i := 98) rfl, rfl⟩
set_option maxRecDepth 100000 in
theorem zcd49 : Cond.code (zNm 49) (zBy 49) (zMl 49) (zRet 49) ∈ zAll := List.mem_filter.mpr ⟨List.mem_of_getElem? (i := 347) rfl, rfl⟩
set_option maxRecDepth 100000 in
theorem zcd50 : Cond.code (zNm 50) (zBy 50) (zMl 50) (zRet 50) ∈ zAll := List.mem_filter.mpr ⟨List.mem_of_getElem? (i := 461) rfl, rfl⟩
set_option maxRecDepth 100000 in
theorem zcd51 : Cond.code (zNm 51) (zBy 51) (zMl 51) (zRet 51) ∈ zAll := List.mem_filter.mpr ⟨List.mem_of_getElem? (i := 355) rfl, rfl⟩
set_option maxRecDepth 100000 in
theorem zcd52 : Cond.code (zNm 52) (zBy 52) (zMl 52) (zRet 52) ∈ zAll := List.mem_filter.mpr ⟨List.mem_of_getElem? (i := 359) rfl, rfl⟩
set_option maxRecDepth 100000 in
theorem zcd53 : Cond.code (zNm 53) (zBy 53) (zMl 53) (zRet 53) ∈ zAll := List.mem_filter.mpr ⟨List.mem_of_getElem? (i := 180) rfl, rfl⟩
set_option maxRecDepth 100000 in
theorem zcd54 : Cond.code (zNm 54) (zBy 54) (zMl 54) (zRet 54) ∈ zAll := List.mem_filter.mpr ⟨List.mem_of_getElem? (i := 445) rfl, rfl⟩
set_option maxRecDepth 100000 in
theorem zcd55 : Cond.code (zNm 55) (zBy 55) (zMl 55) (zRet 55) ∈ zAll := List.mem_filter.mpr ⟨List.mem_of_getElem? (i := 547) rfl, rfl⟩
set_option maxRecDepth 100000 in
theorem zcd56 : Cond.code (zNm 56) (zBy 56) (zMl 56) (zRet 56) ∈ zAll := List.mem_filter.mpr ⟨List.mem_of_getElem? (i := 503) rfl, rfl⟩
set_option maxRecDepth 100000 in
theorem zcd57 : Cond.code (zNm 57) (zBy 57) (zMl 57) (zRet 57) ∈ zAll := List.mem_filter.mpr ⟨List.mem_of_getElem? (i := 200) rfl, rfl⟩
set_option maxRecDepth 100000 in
theorem zcd58 : Cond.code (zNm 58) (zBy 58) (zMl 58) (zRet 58) ∈ zAll := List.mem_filter.mpr ⟨List.mem_of_getElem? (i := 193) rfl, rfl⟩
set_option maxRecDepth 100000 in
theorem zcd59 : Cond.code (zNm 59) (zBy 59) (zMl 59) (zRet 59) ∈ zAll := List.mem_filter.mpr ⟨List.mem_of_getElem? (i := 315) rfl, rfl⟩
set_option maxRecDepth 100000 in
theorem zcd60 : Cond.code (zNm 60) (zBy 60) (zMl 60) (zRet 60) ∈ zAll := List.mem_filter.mpr ⟨List.mem_of_getElem? (i := 328) rfl, rfl⟩
set_option maxRecDepth 100000 in
theorem zcd61 : Cond.code (zNm 61) (zBy 61) (zMl 61) (zRet 61) ∈ zAll := List.mem_filter.mpr ⟨List.mem_of_getElem? (i := 453) rfl, rfl⟩
set_option maxRecDepth 100000 in
theorem zcd62 : Cond.code (zNm 62) (zBy 62) (zMl 62) (zRet 62) ∈ zAll := List.mem_filter.mpr ⟨List.mem_of_getElem? (i := 319) rfl, rfl⟩
set_option maxRecDepth 100000 in
theorem zcd63 : Cond.code (zNm 63) (zBy 63) (zMl 63) (zRet 63) ∈ zAll := List.mem_filter.mpr ⟨List.mem_of_getElem? (i := 387) rfl, rfl⟩
set_option maxRecDepth 100000 in
theorem zcd64 : Cond.code (zNm 64) (zBy 64) (zMl 64) (zRet 64) ∈ zAll := List.mem_filter.mpr ⟨List.mem_of_getElem? (i := 429) rfl, rfl⟩
set_option maxRecDepth 100000 in
theorem zcd65 : Cond.code (zNm 65) (zBy 65) (zMl 65) (zRet 65) ∈ zAll := List.mem_filter.mpr ⟨List.mem_of_getElem? (i := 121) rfl, rfl⟩
set_option maxRecDepth 100000 in
theorem zcd66 : Cond.code (zNm 66) (zBy 66) (zMl 66) (zRet 66) ∈ zAll := List.mem_filter.mpr ⟨List.mem_of_getElem? (i := 371) rfl, rfl⟩
set_option maxRecDepth 100000 in
theorem zcd67 : Cond.code (zNm 67) (zBy 67) (zMl 67) (zRet 67) ∈ zAll := List.mem_filter.mpr ⟨List.mem_of_getElem? (i := 487) rfl, rfl⟩
set_option maxRecDepth 100000 in
theorem zcd68 : Cond.code (zNm 68) (zBy 68) (zMl 68) (zRet 68) ∈ zAll := List.mem_filter.mpr ⟨List.mem_of_getElem? (i := 114) rfl, rfl⟩
set_option maxRecDepth 100000 in
theorem zcd69 : Cond.code (zNm 69) (zBy 69) (zMl 69) (zRet 69) ∈ zAll := List.mem_filter.mpr ⟨List.mem_of_getElem? (i := 367) rfl, rfl⟩
set_option maxRecDepth 100000 in
theorem zcd70 : Cond.code (zNm 70) (zBy 70) (zMl 70) (zRet 70) ∈ zAll := List.mem_filter.mpr ⟨List.mem_of_getElem? (i := 339) rfl, rfl⟩
set_option maxRecDepth 100000 in
theorem zcd71 : Cond.code (zNm 71) (zBy 71) (zMl 71) (zRet 71) ∈ zAll := List.mem_filter.mpr ⟨List.mem_of_getElem? (i := 335) rfl, rfl⟩
set_option maxRecDepth 100000 in
theorem zcd72 : Cond.code (zNm 72) (zBy 72) (zMl 72) (zRet 72) ∈ zAll := List.mem_filter.mpr ⟨List.mem_of_getElem? (i := 474) rfl, rfl⟩
set_option maxRecDepth 100000 in
theorem zcd73 : Cond.code (zNm 73) (zBy 73) (zMl 73) (zRet 73) ∈ zAll := List.mem_filter.mpr ⟨List.mem_of_getElem? (i := 375) rfl, rfl⟩
set_option maxRecDepth 100000 in
theorem zcd74 : Cond.code (zNm 74) (zBy 74) (zMl 74) (zRet 74) ∈ zAll := List.mem_filter.mpr ⟨List.mem_of_getElem? (i := 555) rfl, rfl⟩
set_option maxRecDepth 100000 in
theorem zcd75 : Cond.code (zNm 75) (zBy 75) (zMl 75) (zRet 75) ∈ zAll := List.mem_filter.mpr ⟨List.mem_of_getElem? (i := 654) rfl, rfl⟩
set_option maxRecDepth 100000 in
theorem zcd76 : Cond.code (zNm 76) (zBy 76) (zMl 76) (zRet 76) ∈ zAll := List.mem_filter.mpr ⟨List.mem_of_getElem? (i := 670) rfl, rfl⟩
set_option maxRecDepth 100000 in
theorem zcd77 : Cond.code (zNm 77) (zBy 77) (zMl 77) (zRet 77) ∈ zAll := List.mem_filter.mpr ⟨List.mem_of_getElem? (i := 662) rfl, rfl⟩
set_option maxRecDepth 100000 in
theorem zcd78 : Cond.code (zNm 78) (zBy 78) (zMl 78) (zRet 78) ∈ zAll := List.mem_filter.mpr ⟨List.mem_of_getElem? (i := 651) rfl, rfl⟩
set_option maxRecDepth 100000 in
theorem zcd79 : Cond.code (zNm 79) (zBy 79) (zMl 79) (zRet 79) ∈ zAll := List.mem_filter.mpr ⟨List.mem_of_getElem? (i := 659) rfl, rfl⟩
set_option maxRecDepth 100000 in
theorem zcd80 : Cond.code (zNm 80) (zBy 80) (zMl 80) (zRet 80) ∈ zAll := List.mem_filter.mpr ⟨List.mem_of_getElem? (i := 682) rfl, rfl⟩
set_option maxRecDepth 100000 in
theorem zcd81 : Cond.code (zNm 81) (zBy 81) (zMl 81) (zRet 81) ∈ zAll := List.mem_filter.mpr ⟨List.mem_of_getElem? (i := 674) rfl, rfl⟩
set_option maxRecDepth 100000 in
theorem zcd82 : Cond.code (zNm 82) (zBy 82) (zMl 82) (zRet 82) ∈ zAll := List.mem_filter.mpr ⟨List.mem_of_getElem? (i := 750) rfl, rfl⟩
set_option maxRecDepth 100000 in
theorem zcd83 : Cond.code (zNm 83) (zBy 83) (zMl 83) (zRet 83) ∈ zAll := List.mem_filter.mpr ⟨List.mem_of_getElem? (i := 678) rfl, rfl⟩
set_option maxRecDepth 100000 in
theorem zcd84 : Cond.code (zNm 84) (zBy 84) (zMl 84) (zRet 84) ∈ zAll := List.mem_filter.mpr ⟨List.mem_of_getElem? (i := 686) rfl, rfl⟩
set_option maxRecDepth 100000 in
theorem zcd85 : Cond.code (zNm 85) (zBy 85) (zMl 85) (zRet 85) ∈ zAll := List.mem_filter.mpr ⟨List.mem_of_getElem? (i := 730) rfl, rfl⟩
set_option maxRecDepth 100000 in
theorem zcd86 : Cond.code (zNm 86) (zBy 86) (zMl 86) (zRet 86) ∈ zAll := List.mem_filter.mpr ⟨List.mem_of_getElem? (i := 738) rfl, rfl⟩
set_option maxRecDepth 100000 in
theorem zcd87 : Cond.code (zNm 87) (zBy 87) (zMl 87) (zRet 87) ∈ zAll := List.mem_filter.mpr ⟨List.mem_of_getElem? (i := 690) rfl, rfl⟩
set_option maxRecDepth 100000 in
theorem zcd88 : Cond.code (zNm 88) (zBy 88) (zMl 88) (zRet 88) ∈ zAll := List.mem_filter.mpr ⟨List.mem_of_getElem? (i := 710) rfl, rfl⟩
set_option maxRecDepth 100000 in
theorem zcd89 : Cond.code (zNm 89) (zBy 89) (zMl 89) (zRet 89) ∈ zAll := List.mem_filter.mpr ⟨List.mem_of_getElem? (i := 666) rfl, rfl⟩
set_option maxRecDepth 100000 in
theorem zcd90 : Cond.code (zNm 90) (zBy 90) (zMl 90) (zRet 90) ∈ zAll := List.mem_filter.mpr ⟨List.mem_of_getElem? (i := 694) rfl, rfl⟩
set_option maxRecDepth 100000 in
theorem zcd91 : Cond.code (zNm 91) (zBy 91) (zMl 91) (zRet 91) ∈ zAll := List.mem_filter.mpr ⟨List.mem_of_getElem? (i := 702) rfl, rfl⟩
set_option maxRecDepth 100000 in
theorem zcd92 : Cond.code (zNm 92) (zBy 92) (zMl 92) (zRet 92) ∈ zAll := List.mem_filter.mpr ⟨List.mem_of_getElem? (i := 698) rfl, rfl⟩
set_option maxRecDepth 100000 in
theorem zcd93 : Cond.code (zNm 93) (zBy 93) (zMl 93) (zRet 93) ∈ zAll := List.mem_filter.mpr ⟨List.mem_of_getElem? (i := 718) rfl, rfl⟩
set_option maxRecDepth 100000 in
theorem zcd94 : Cond.code (zNm 94) (zBy 94) (zMl 94) (zRet 94) ∈ zAll := List.mem_filter.mpr ⟨List.mem_of_getElem? (i := 726) rfl, rfl⟩
set_option maxRecDepth 100000 in
theorem zcd95 : Cond.code (zNm 95) (zBy 95) (zMl 95) (zRet 95) ∈ zAll := List.mem_filter.mpr ⟨List.mem_of_getElem? (i := 722) rfl, rfl⟩
set_option maxRecDepth 100000 in
theorem zcd96 : Cond.code (zNm 96) (zBy 96) (zMl 96) (zRet 96) ∈ zAll := List.mem_filter.mpr ⟨List.mem_of_getElem? (i := 714) rfl, rfl⟩
set_option maxRecDepth 100000 in
theorem zcd97 : Cond.code (zNm 97) (zBy 97) (zMl 97) (zRet 97) ∈ zAll := List.mem_filter.mpr ⟨List.mem_of_getElem? (i := 746) rfl, rfl⟩
set_option maxRecDepth 100000 in
theorem zcd98 : Cond.code (zNm 98) (zBy 98) (zMl 98) (zRet 98) ∈ zAll := List.mem_filter.mpr ⟨List.mem_of_getElem? (i := 734) rfl, rfl⟩
set_option maxRecDepth 100000 in
theorem zcd99 : Cond.code (zNm 99) (zBy 99) (zMl 99) (zRet 99) ∈ zAll := List.mem_filter.mpr ⟨List.mem_of_getElem? (i := 742) rfl, rfl⟩
set_option maxRecDepth 100000 in
theorem zcd100 : Cond.code (zNm 100) (zBy 100) (zMl 100) (zRet 100) ∈ zAll := List.mem_filter.mpr ⟨List.mem_of_getElem? (i := 754) rfl, rfl⟩
set_option maxRecDepth 100000 in
theorem zcd101 : Cond.code (zNm 101) (zBy 101) (zMl 101) (zRet 101) ∈ zAll := List.mem_filter.mpr ⟨List.mem_of_getElem? (i := 706) rfl, rfl⟩
set_option maxRecDepth 100000 in
theorem zcd102 : Cond.code (zNm 102) (zBy 102) (zMl 102) (zRet 102) ∈ zAll := List.mem_filter.mpr ⟨List.mem_of_getElem? (i := 758) rfl, rfl⟩
set_option maxRecDepth 100000 in
theorem zcd103 : Cond.code (zNm 103) (zBy 103) (zMl 103) (zRet 103) ∈ zAll := List.mem_filter.mpr ⟨List.mem_of_getElem? (i := 762) rfl, rfl⟩
set_option maxRecDepth 100000 in
theorem zcd104 : Cond.code (zNm 104) (zBy 104) (zMl 104) (zRet 104) ∈ zAll := List.mem_filter.mpr ⟨List.mem_of_getElem? (i := 766) rfl, rfl⟩
set_option maxRecDepth 100000 in
theorem zcd105 : Cond.code (zNm 105) (zBy 105) (zMl 105) (zRet 105) ∈ zAll := List.mem_filter.mpr ⟨List.mem_of_getElem? (i := 770) rfl, rfl⟩
set_option maxRecDepth 100000 in
theorem zcd106 : Cond.code (zNm 106) (zBy 106) (zMl 106) (zRet 106) ∈ zAll := List.mem_filter.mpr ⟨List.mem_of_getElem? (i := 778) rfl, rfl⟩
set_option maxRecDepth 100000 in
theorem zcd107 : Cond.code (zNm 107) (zBy 107) (zMl 107) (zRet 107) ∈ zAll := List.mem_filter.mpr ⟨List.mem_of_getElem? (i := 774) rfl, rfl⟩
set_option maxRecDepth 100000 in
theorem zcd108 : Cond.code (zNm 108) (zBy 108) (zMl 108) (zRet 108) ∈ zAll := List.mem_filter.mpr ⟨List.mem_of_getElem? (i := 782) rfl, rfl⟩
set_option maxRecDepth 100000 in
theorem zcd109 : Cond.code (zNm 109) (zBy 109) (zMl 109) (zRet 109) ∈ zAll := List.mem_filter.mpr ⟨List.mem_of_getElem? (i := 786) rfl, rfl⟩
set_option maxRecDepth 100000 in
theorem zcd110 : Cond.code (zNm 110) (zBy 110) (zMl 110) (zRet 110) ∈ zAll := List.mem_filter.mpr ⟨List.mem_of_getElem? (i := 790) rfl, rfl⟩
set_option maxRecDepth 100000 in
theorem zcd111 : Cond.code (zNm 111) (zBy 111) (zMl 111) (zRet 111) ∈ zAll := List.mem_filter.mpr ⟨List.mem_of_getElem? (i := 794) rfl, rfl⟩
set_option maxRecDepth 100000 in
theorem zcd112 : Cond.code (zNm 112) (zBy 112) (zMl 112) (zRet 112) ∈ zAll := List.mem_filter.mpr ⟨List.mem_of_getElem? (i := 798) rfl, rfl⟩
set_option maxRecDepth 100000 in
theorem zcd113 : Cond.code (zNm 113) (zBy 113) (zMl 113) (zRet 113) ∈ zAll := List.mem_filter.mpr ⟨List.mem_of_getElem? (i := 802) rfl, rfl⟩
set_option maxRecDepth 100000 in
theorem zcd114 : Cond.code (zNm 114) (zBy 114) (zMl 114) (zRet 114) ∈ zAll := List.mem_filter.mpr ⟨List.mem_of_getElem? (i := 806) rfl, rfl⟩
set_option maxRecDepth 100000 in
theorem zcd116 : Cond.code (zNm 116) (zBy 116) (zMl 116) (zRet 116) ∈ zAll := List.mem_filter.mpr ⟨List.mem_of_getElem? (i := 550) rfl, rfl⟩
def zCdL : List Nat := [0, 1, 2, 3, 4, 5, 6, 7, 8, 9, 10, 11, 12, 13, 14, 15, 16, 17, 18, 19, 20, 21, 22, 23, 24, 25, 26, 27, 28, 29, 30, 31, 32, 33, 34, 35, 36, 37, 38, 39, 40, 41, 42, 43, 44, 45, 46, 47, 48, 49, 50, 51, 52, 53, 54, 55, 56, 57, 58, 59, 60, 61, 62, 63, 64, 65, 66, 67, 68, 69, 70, 71, 72, 73, 74, 75, 76, 77, 78, 79, 80, 81, 82, 83, 84, 85, 86, 87, 88, 89, 90, 91, 92, 93, 94, 95, 96, 97, 98, 99, 100, 101, 102, 103, 104, 105, 106, 107, 108, 109, 110, 111, 112, 113, 114, 116]
set_option maxRecDepth 100000 in
theorem zCd_all : ∀ x ∈ zCdL, Cond.code (zNm x) (zBy x) (zMl x) (zRet x) ∈ zAll := List.forall_mem_cons.mpr ⟨zcd0, List.forall_mem_cons.mpr ⟨zcd1, List.forall_mem_cons.mpr ⟨zcd2, List.forall_mem_cons.mpr ⟨zcd3, List.forall_mem_cons.mpr ⟨zcd4, List.forall_mem_cons.mpr ⟨zcd5, List.forall_mem_cons.mpr ⟨zcd6, List.forall_mem_cons.mpr ⟨zcd7, List.forall_mem_cons.mpr ⟨zcd8, List.forall_mem_cons.mpr ⟨zcd9, List.forall_mem_cons.mpr ⟨zcd10, List.forall_mem_cons.mpr ⟨zcd11, List.forall_mem_cons.mpr ⟨zcd12, List.forall_mem_cons.mpr ⟨zcd13, List.forall_mem_cons.mpr ⟨zcd14, List.forall_mem_cons.mpr ⟨zcd15, List.forall_mem_cons.mpr ⟨zcd16, List.forall_mem_cons.mpr ⟨zcd17, List.forall_mem_cons.mpr ⟨zcd18, List.forall_mem_cons.mpr ⟨zcd19, List.forall_mem_cons.mpr ⟨zcd20, List.forall_mem_cons.mpr ⟨zcd21, List.forall_mem_cons.mpr ⟨zcd22, List.forall_mem_cons.mpr ⟨zcd23, List.forall_mem_cons.mpr ⟨zcd24, List.forall_mem_cons.mpr ⟨zcd25, List.forall_mem_cons.mpr ⟨zcd26, List.forall_mem_cons.mpr ⟨zcd27, List.forall_mem_cons.mpr ⟨zcd28, List.forall_mem_cons.mpr ⟨zcd29, List.forall_mem_cons.mpr ⟨zcd30, List.forall_mem_cons.mpr ⟨zcd31, List.forall_mem_cons.mpr ⟨zcd32, List.forall_mem_cons.mpr ⟨zcd33, List.forall_mem_cons.mpr ⟨zcd34, List.forall_mem_cons.mpr ⟨zcd35, List.forall_mem_cons.mpr ⟨zcd36, List.forall_mem_cons.mpr ⟨zcd37, List.forall_mem_cons.mpr ⟨zcd38, List.forall_mem_cons.mpr ⟨zcd39, List.forall_mem_cons.mpr ⟨zcd40, List.forall_mem_cons.mpr ⟨zcd41, List.forall_mem_cons.mpr ⟨zcd42, List.forall_mem_cons.mpr ⟨zcd43, List.forall_mem_cons.mpr ⟨zcd44, List.forall_mem_cons.mpr ⟨zcd45, List.forall_mem_cons.mpr ⟨zcd46, List.forall_mem_cons.mpr ⟨zcd47, List.forall_mem_cons.mpr ⟨zcd48, List.forall_mem_cons.mpr ⟨zcd49, List.forall_mem_cons.mpr ⟨zcd50, List.forall_mem_cons.mpr ⟨zcd51, List.forall_mem_cons.mpr ⟨zcd52, List.forall_mem_cons.mpr ⟨zcd53, List.forall_mem_cons.mpr ⟨zcd54, List.forall_mem_cons.mpr ⟨zcd55, List.forall_mem_cons.mpr ⟨zcd56, List.forall_mem_cons.mpr ⟨zcd57, List.forall_mem_cons.mpr ⟨zcd58, List.forall_mem_cons.mpr ⟨zcd59, List.forall_mem_cons.mpr ⟨zcd60, List.forall_mem_cons.mpr ⟨zcd61, List.forall_mem_cons.mpr ⟨zcd62, List.forall_mem_cons.mpr ⟨zcd63, List.forall_mem_cons.mpr ⟨zcd64, List.forall_mem_cons.mpr ⟨zcd65, List.forall_mem_cons.mpr ⟨zcd66, List.forall_mem_cons.mpr ⟨zcd67, List.forall_mem_cons.mpr ⟨zcd68, List.forall_mem_cons.mpr ⟨zcd69, List.forall_mem_cons.mpr ⟨zcd70, List.forall_mem_cons.mpr ⟨zcd71, List.forall_mem_cons.mpr ⟨zcd72, List.forall_mem_cons.mpr ⟨zcd73, List.forall_mem_cons.mpr ⟨zcd74, List.forall_mem_cons.mpr ⟨zcd75, List.forall_mem_cons.mpr ⟨zcd76, List.forall_mem_cons.mpr ⟨zcd77, List.forall_mem_cons.mpr ⟨zcd78, List.forall_mem_cons.mpr ⟨zcd79, List.forall_mem_cons.mpr ⟨zcd80, List.forall_mem_cons.mpr ⟨zcd81, List.forall_mem_cons.mpr ⟨zcd82, List.forall_mem_cons.mpr ⟨zcd83, List.forall_mem_cons.mpr ⟨zcd84, List.forall_mem_cons.mpr ⟨zcd85, List.forall_mem_cons.mpr ⟨zcd86, List.forall_mem_cons.mpr ⟨zcd87, List.forall_mem_cons.mpr ⟨zcd88, List.forall_mem_cons.mpr ⟨zcd89, List.forall_mem_cons.mpr ⟨zcd90, List.forall_mem_cons.mpr ⟨zcd91, List.forall_mem_cons.mpr ⟨zcd92, List.forall_mem_cons.mpr ⟨zcd93, List.forall_mem_cons.mpr ⟨zcd94, List.forall_mem_cons.mpr ⟨zcd95, List.forall_mem_cons.mpr ⟨zcd96, List.forall_mem_cons.mpr ⟨zcd97, List.forall_mem_cons.mpr ⟨zcd98, List.forall_mem_cons.mpr ⟨zcd99, List.forall_mem_cons.mpr ⟨zcd100, List.forall_mem_cons.mpr ⟨zcd101, List.forall_mem_cons.mpr ⟨zcd102, List.forall_mem_cons.mpr ⟨zcd103, List.forall_mem_cons.mpr ⟨zcd104, List.forall_mem_cons.mpr ⟨zcd105, List.forall_mem_cons.mpr ⟨zcd106, List.forall_mem_cons.mpr ⟨zcd107, List.forall_mem_cons.mpr ⟨zcd108, List.forall_mem_cons.mpr ⟨zcd109, List.forall_mem_cons.mpr ⟨zcd110, List.forall_mem_cons.mpr ⟨zcd111, List.forall_mem_cons.mpr ⟨zcd112, List.forall_mem_cons.mpr ⟨zcd113, List.forall_mem_cons.mpr ⟨zcd114, List.forall_mem_cons.mpr ⟨zcd116, fun _ h => absurd h List.not_mem_nil⟩⟩⟩⟩⟩⟩⟩⟩⟩⟩⟩⟩⟩⟩⟩⟩⟩⟩⟩⟩⟩⟩⟩⟩⟩⟩⟩⟩⟩⟩⟩⟩⟩⟩⟩⟩⟩⟩⟩⟩⟩⟩⟩⟩⟩⟩⟩⟩⟩⟩⟩⟩⟩⟩⟩⟩⟩⟩⟩⟩⟩⟩⟩⟩⟩⟩⟩⟩⟩⟩⟩⟩⟩⟩⟩⟩⟩⟩⟩⟩⟩⟩⟩⟩⟩⟩⟩⟩⟩⟩⟩⟩⟩⟩⟩⟩⟩⟩⟩⟩⟩⟩⟩⟩⟩⟩⟩⟩⟩⟩⟩⟩⟩⟩⟩⟩
def zCk (x : Nat) : Bool := decide (x ∈ zCdL)
theorem zCd_of {x : Nat} (h : zCk x = true) : Cond.code (zNm x) (zBy x) (zMl x) (zRet x) ∈ zAll := zCd_all x (of_decide_eq_true h)
def zVls : List (Nat × Nat × Nat × Nat × Nat) := [(0, 98, 38, 3, 1), (0, 102, 20, 1, 0), (0, 105, 59, 0, 6), (0, 109, 62, 3, 6), (0, 113, 40, 1, 1), (0, 119, 60, 5, 6), (0, 126, 71, 7, 8), (0, 130, 49, 1, 3), (0, 133, 51, 1, 3), (0, 137, 69, 1, 8), (0, 144, 66, 1, 7), (0, 148, 73, 1, 8), (0, 151, 23, 1, 0), (0, 157, 70, 0, 8), (0, 158, 72, 1, 8), (0, 164, 67, 1, 7), (0, 170, 56, 1, 4), (0, 174, 44, 1, 2), (0, 177, 36, 1, 0), (0, 167, 34, 1, 0), (0, 180, 19, 1, 0), (0, 192, 55, 2, 4), (0, 207, 31, 1, 0), (0, 204, 28, 1, 0), (0, 201, 30, 1, 0), (0, 198, 29, 1, 0), (0, 195, 24, 1, 0), (0, 219, 63, 2, 6), (0, 226, 33, 1, 0), (0, 222, 26, 2, 0), (0, 229, 27, 2, 0), (0, 233, 25, 2, 0), (0, 236, 43, 1, 2), (0, 237, 42, 0, 2), (0, 239, 46, 1, 2), (0, 242, 64, 1, 6), (0, 238, 45, 1, 2), (0, 251, 61, 1, 6), (0, 257, 32, 3, 0), (0, 261, 54, 3, 4), (0, 271, 50, 2, 3), (0, 274, 35, 2, 0), (1, 22, 39, 2, 1), (2, 19, 47, 1, 2), (2, 23, 43, 1, 2), (2, 27, 42, 0, 2), (3, 22, 52, 1, 3), (8, 20, 70, 0, 8), (8, 45, 66, 1, 7), (9, 102, 85, 1, 9), (9, 109, 76, 1, 9), (9, 113, 81, 1, 9), (9, 116, 83, 4, 9), (9, 120, 80, 1, 9), (9, 123, 84, 5, 9), (9, 127, 87, 7, 9), (9, 134, 91, 1, 9), (9, 140, 93, 2, 9), (9, 144, 95, 4, 9), (9, 148, 94, 2, 9), (9, 152, 82, 2, 9), (9, 155, 86, 2, 9), (9, 158, 88, 1, 9), (9, 174, 100, 5, 9), (9, 171, 97, 4, 9), (9, 168, 99, 4, 9), (9, 165, 98, 4, 9), (9, 161, 96, 3, 9), (9, 178, 106, 1, 9), (10, 95, 18, 1, 0), (10, 98, 114, 1, 9), (10, 91, 17, 1, 0), (10, 94, 113, 1, 9), (10, 87, 16, 2, 0), (10, 90, 112, 2, 9), (10, 83, 15, 1, 0), (10, 86, 111, 1, 9), (10, 79, 14, 2, 0), (10, 82, 110, 2, 9), (10, 75, 13, 1, 0), (10, 78, 109, 1, 9), (10, 71, 12, 2, 0), (10, 74, 108, 2, 9), (10, 67, 11, 0, 0), (10, 70, 107, 0, 9), (10, 63, 10, 2, 0), (10, 66, 105, 2, 9), (10, 58, 9, 0, 0), (10, 62, 104, 0, 9), (10, 54, 8, 1, 0), (10, 57, 103, 1, 9), (10, 49, 7, 1, 0), (10, 53, 102, 1, 9), (10, 45, 6, 1, 0), (10, 48, 101, 1, 9), (10, 41, 5, 1, 0), (10, 44, 92, 1, 9), (10, 36, 4, 1, 0), (10, 40, 90, 1, 9), (10, 31, 3, 2, 0), (10, 35, 89, 2, 9), (10, 26, 2, 3, 0), (10, 30, 79, 3, 9), (10, 21, 1, 2, 0), (10, 25, 78, 2, 9)]
theorem zVls_0 : zIx (fun q : Nat × Nat × Nat × Nat × Nat => .methodLink (zCn q.1) q.2.1 (zNm q.2.2.1)) [((0, 98, 38, 3, 1), 296), ((0, 102, 20, 1, 0), 308), ((0, 105, 59, 0, 6), 312), ((0, 109, 62, 3, 6), 316), ((0, 113, 40, 1, 1), 320), ((0, 119, 60, 5, 6), 325), ((0, 126, 71, 7, 8), 332), ((0, 130, 49, 1, 3), 344), ((0, 133, 51, 1, 3), 352), ((0, 137, 69, 1, 8), 364), ((0, 144, 66, 1, 7), 368), ((0, 148, 73, 1, 8), 372), ((0, 151, 23, 1, 0), 376), ((0, 157, 70, 0, 8), 470), ((0, 158, 72, 1, 8), 471), ((0, 164, 67, 1, 7), 484), ((0, 170, 56, 1, 4), 500), ((0, 174, 44, 1, 2), 504), ((0, 177, 36, 1, 0), 508), ((0, 167, 34, 1, 0), 492), ((0, 180, 19, 1, 0), 528), ((0, 192, 55, 2, 4), 544), ((0, 207, 31, 1, 0), 454), ((0, 204, 28, 1, 0), 446), ((0, 201, 30, 1, 0), 438), ((0, 198, 29, 1, 0), 430), ((0, 195, 24, 1, 0), 380), ((0, 219, 63, 2, 6), 384), ((0, 226, 33, 1, 0), 408), ((0, 222, 26, 2, 0), 388), ((0, 229, 27, 2, 0), 412), ((0, 233, 25, 2, 0), 392), ((0, 236, 43, 1, 2), 396), ((0, 237, 42, 0, 2), 404), ((0, 239, 46, 1, 2), 422), ((0, 242, 64, 1, 6), 426), ((0, 238, 45, 1, 2), 416), ((0, 251, 61, 1, 6), 450), ((0, 257, 32, 3, 0), 434), ((0, 261, 54, 3, 4), 442), ((0, 271, 50, 2, 3), 458), ((0, 274, 35, 2, 0), 496), ((1, 22, 39, 2, 1), 300), ((2, 19, 47, 1, 2), 400), ((2, 23, 43, 1, 2), 420), ((2, 27, 42, 0, 2), 421), ((3, 22, 52, 1, 3), 356), ((8, 20, 70, 0, 8), 336), ((8, 45, 66, 1, 7), 475), ((9, 102, 85, 1, 9), 727), ((9, 109, 76, 1, 9), 667), ((9, 113, 81, 1, 9), 671), ((9, 116, 83, 4, 9), 675), ((9, 120, 80, 1, 9), 679), ((9, 123, 84, 5, 9), 683), ((9, 127, 87, 7, 9), 687), ((9, 134, 91, 1, 9), 699), ((9, 140, 93, 2, 9), 715), ((9, 144, 95, 4, 9), 719), ((9, 148, 94, 2, 9), 723), ((9, 152, 82, 2, 9), 747), ((9, 155, 86, 2, 9), 735), ((9, 158, 88, 1, 9), 707), ((9, 174, 100, 5, 9), 751), ((9, 171, 97, 4, 9), 743), ((9, 168, 99, 4, 9), 739), ((9, 165, 98, 4, 9), 731), ((9, 161, 96, 3, 9), 711), ((9, 178, 106, 1, 9), 775), ((10, 95, 18, 1, 0), 540), ((10, 98, 114, 1, 9), 803), ((10, 91, 17, 1, 0), 536), ((10, 94, 113, 1, 9), 799), ((10, 87, 16, 2, 0), 532), ((10, 90, 112, 2, 9), 795), ((10, 83, 15, 1, 0), 524), ((10, 86, 111, 1, 9), 791), ((10, 79, 14, 2, 0), 520), ((10, 82, 110, 2, 9), 787), ((10, 75, 13, 1, 0), 516), ((10, 78, 109, 1, 9), 783), ((10, 71, 12, 2, 0), 512), ((10, 74, 108, 2, 9), 779), ((10, 67, 11, 0, 0), 488), ((10, 70, 107, 0, 9), 771), ((10, 63, 10, 2, 0), 480), ((10, 66, 105, 2, 9), 767), ((10, 58, 9, 0, 0), 476), ((10, 62, 104, 0, 9), 763), ((10, 54, 8, 1, 0), 466), ((10, 57, 103, 1, 9), 759), ((10, 49, 7, 1, 0), 462), ((10, 53, 102, 1, 9), 755), ((10, 45, 6, 1, 0), 360), ((10, 48, 101, 1, 9), 703), ((10, 41, 5, 1, 0), 348), ((10, 44, 92, 1, 9), 695), ((10, 36, 4, 1, 0), 340), ((10, 40, 90, 1, 9), 691), ((10, 31, 3, 2, 0), 304), ((10, 35, 89, 2, 9), 663), ((10, 26, 2, 3, 0), 292), ((10, 30, 79, 3, 9), 656), ((10, 21, 1, 2, 0), 283), ((10, 25, 78, 2, 9), 648)] = true := by decide +kernel
theorem zVls_1 : zIx (fun q : Nat × Nat × Nat × Nat × Nat => .instanceMethod (zNm q.2.2.1)) [((0, 98, 38, 3, 1), 297), ((0, 102, 20, 1, 0), 310), ((0, 105, 59, 0, 6), 313), ((0, 109, 62, 3, 6), 317), ((0, 113, 40, 1, 1), 321), ((0, 119, 60, 5, 6), 326), ((0, 126, 71, 7, 8), 333), ((0, 130, 49, 1, 3), 345), ((0, 133, 51, 1, 3), 353), ((0, 137, 69, 1, 8), 365), ((0, 144, 66, 1, 7), 369), ((0, 148, 73, 1, 8), 373), ((0, 151, 23, 1, 0), 378), ((0, 157, 70, 0, 8), 337), ((0, 158, 72, 1, 8), 472), ((0, 164, 67, 1, 7), 485), ((0, 170, 56, 1, 4), 501), ((0, 174, 44, 1, 2), 505), ((0, 177, 36, 1, 0), 510), ((0, 167, 34, 1, 0), 494), ((0, 180, 19, 1, 0), 530), ((0, 192, 55, 2, 4), 545), ((0, 207, 31, 1, 0), 456), ((0, 204, 28, 1, 0), 448), ((0, 201, 30, 1, 0), 440), ((0, 198, 29, 1, 0), 432), ((0, 195, 24, 1, 0), 382), ((0, 219, 63, 2, 6), 385), ((0, 226, 33, 1, 0), 410), ((0, 222, 26, 2, 0), 390), ((0, 229, 27, 2, 0), 414), ((0, 233, 25, 2, 0), 394), ((0, 236, 43, 1, 2), 397), ((0, 237, 42, 0, 2), 405), ((0, 239, 46, 1, 2), 423), ((0, 242, 64, 1, 6), 427), ((0, 238, 45, 1, 2), 417), ((0, 251, 61, 1, 6), 451), ((0, 257, 32, 3, 0), 436), ((0, 261, 54, 3, 4), 443), ((0, 271, 50, 2, 3), 459), ((0, 274, 35, 2, 0), 498), ((1, 22, 39, 2, 1), 302), ((2, 19, 47, 1, 2), 402), ((2, 23, 43, 1, 2), 397), ((2, 27, 42, 0, 2), 405), ((3, 22, 52, 1, 3), 358), ((8, 20, 70, 0, 8), 337), ((8, 45, 66, 1, 7), 369), ((9, 102, 85, 1, 9), 729), ((9, 109, 76, 1, 9), 669), ((9, 113, 81, 1, 9), 673), ((9, 116, 83, 4, 9), 677), ((9, 120, 80, 1, 9), 681), ((9, 123, 84, 5, 9), 685), ((9, 127, 87, 7, 9), 689), ((9, 134, 91, 1, 9), 701), ((9, 140, 93, 2, 9), 717), ((9, 144, 95, 4, 9), 721), ((9, 148, 94, 2, 9), 725), ((9, 152, 82, 2, 9), 749), ((9, 155, 86, 2, 9), 737), ((9, 158, 88, 1, 9), 709), ((9, 174, 100, 5, 9), 753), ((9, 171, 97, 4, 9), 745), ((9, 168, 99, 4, 9), 741), ((9, 165, 98, 4, 9), 733), ((9, 161, 96, 3, 9), 713), ((9, 178, 106, 1, 9), 777), ((10, 95, 18, 1, 0), 541), ((10, 98, 114, 1, 9), 804), ((10, 91, 17, 1, 0), 537), ((10, 94, 113, 1, 9), 800), ((10, 87, 16, 2, 0), 533), ((10, 90, 112, 2, 9), 796), ((10, 83, 15, 1, 0), 525), ((10, 86, 111, 1, 9), 792), ((10, 79, 14, 2, 0), 521), ((10, 82, 110, 2, 9), 788), ((10, 75, 13, 1, 0), 517), ((10, 78, 109, 1, 9), 784), ((10, 71, 12, 2, 0), 513), ((10, 74, 108, 2, 9), 780), ((10, 67, 11, 0, 0), 489), ((10, 70, 107, 0, 9), 772), ((10, 63, 10, 2, 0), 481), ((10, 66, 105, 2, 9), 768), ((10, 58, 9, 0, 0), 477), ((10, 62, 104, 0, 9), 764), ((10, 54, 8, 1, 0), 467), ((10, 57, 103, 1, 9), 760), ((10, 49, 7, 1, 0), 463), ((10, 53, 102, 1, 9), 756), ((10, 45, 6, 1, 0), 361), ((10, 48, 101, 1, 9), 704), ((10, 41, 5, 1, 0), 349), ((10, 44, 92, 1, 9), 696), ((10, 36, 4, 1, 0), 341), ((10, 40, 90, 1, 9), 692), ((10, 31, 3, 2, 0), 305), ((10, 35, 89, 2, 9), 664), ((10, 26, 2, 3, 0), 293), ((10, 30, 79, 3, 9), 657), ((10, 21, 1, 2, 0), 284), ((10, 25, 78, 2, 9), 649)] = true := by decide +kernel
theorem zVls_2 : zIx (fun q : Nat × Nat × Nat × Nat × Nat => .selects (zCn q.2.2.2.2) (zNm q.2.2.1) (zNm q.2.2.1)) [((0, 98, 38, 3, 1), 298), ((0, 102, 20, 1, 0), 1), ((0, 105, 59, 0, 6), 314), ((0, 109, 62, 3, 6), 318), ((0, 113, 40, 1, 1), 322), ((0, 119, 60, 5, 6), 327), ((0, 126, 71, 7, 8), 334), ((0, 130, 49, 1, 3), 346), ((0, 133, 51, 1, 3), 354), ((0, 137, 69, 1, 8), 366), ((0, 144, 66, 1, 7), 370), ((0, 148, 73, 1, 8), 374), ((0, 151, 23, 1, 0), 3), ((0, 157, 70, 0, 8), 338), ((0, 158, 72, 1, 8), 473), ((0, 164, 67, 1, 7), 486), ((0, 170, 56, 1, 4), 502), ((0, 174, 44, 1, 2), 506), ((0, 177, 36, 1, 0), 17), ((0, 167, 34, 1, 0), 15), ((0, 180, 19, 1, 0), 18), ((0, 192, 55, 2, 4), 546), ((0, 207, 31, 1, 0), 14), ((0, 204, 28, 1, 0), 13), ((0, 201, 30, 1, 0), 12), ((0, 198, 29, 1, 0), 10), ((0, 195, 24, 1, 0), 4), ((0, 219, 63, 2, 6), 386), ((0, 226, 33, 1, 0), 8), ((0, 222, 26, 2, 0), 5), ((0, 229, 27, 2, 0), 9), ((0, 233, 25, 2, 0), 6), ((0, 236, 43, 1, 2), 398), ((0, 237, 42, 0, 2), 406), ((0, 239, 46, 1, 2), 424), ((0, 242, 64, 1, 6), 428), ((0, 238, 45, 1, 2), 418), ((0, 251, 61, 1, 6), 452), ((0, 257, 32, 3, 0), 11), ((0, 261, 54, 3, 4), 444), ((0, 271, 50, 2, 3), 460), ((0, 274, 35, 2, 0), 16), ((1, 22, 39, 2, 1), 0), ((2, 19, 47, 1, 2), 7), ((2, 23, 43, 1, 2), 398), ((2, 27, 42, 0, 2), 406), ((3, 22, 52, 1, 3), 2), ((8, 20, 70, 0, 8), 338), ((8, 45, 66, 1, 7), 370), ((9, 102, 85, 1, 9), 31), ((9, 109, 76, 1, 9), 19), ((9, 113, 81, 1, 9), 20), ((9, 116, 83, 4, 9), 21), ((9, 120, 80, 1, 9), 22), ((9, 123, 84, 5, 9), 23), ((9, 127, 87, 7, 9), 24), ((9, 134, 91, 1, 9), 25), ((9, 140, 93, 2, 9), 28), ((9, 144, 95, 4, 9), 29), ((9, 148, 94, 2, 9), 30), ((9, 152, 82, 2, 9), 36), ((9, 155, 86, 2, 9), 33), ((9, 158, 88, 1, 9), 26), ((9, 174, 100, 5, 9), 37), ((9, 171, 97, 4, 9), 35), ((9, 168, 99, 4, 9), 34), ((9, 165, 98, 4, 9), 32), ((9, 161, 96, 3, 9), 27), ((9, 178, 106, 1, 9), 38), ((10, 95, 18, 1, 0), 542), ((10, 98, 114, 1, 9), 805), ((10, 91, 17, 1, 0), 538), ((10, 94, 113, 1, 9), 801), ((10, 87, 16, 2, 0), 534), ((10, 90, 112, 2, 9), 797), ((10, 83, 15, 1, 0), 526), ((10, 86, 111, 1, 9), 793), ((10, 79, 14, 2, 0), 522), ((10, 82, 110, 2, 9), 789), ((10, 75, 13, 1, 0), 518), ((10, 78, 109, 1, 9), 785), ((10, 71, 12, 2, 0), 514), ((10, 74, 108, 2, 9), 781), ((10, 67, 11, 0, 0), 490), ((10, 70, 107, 0, 9), 773), ((10, 63, 10, 2, 0), 482), ((10, 66, 105, 2, 9), 769), ((10, 58, 9, 0, 0), 478), ((10, 62, 104, 0, 9), 765), ((10, 54, 8, 1, 0), 468), ((10, 57, 103, 1, 9), 761), ((10, 49, 7, 1, 0), 464), ((10, 53, 102, 1, 9), 757), ((10, 45, 6, 1, 0), 362), ((10, 48, 101, 1, 9), 705), ((10, 41, 5, 1, 0), 350), ((10, 44, 92, 1, 9), 697), ((10, 36, 4, 1, 0), 342), ((10, 40, 90, 1, 9), 693), ((10, 31, 3, 2, 0), 306), ((10, 35, 89, 2, 9), 665), ((10, 26, 2, 3, 0), 294), ((10, 30, 79, 3, 9), 658), ((10, 21, 1, 2, 0), 285), ((10, 25, 78, 2, 9), 650)] = true := by decide +kernel
theorem zVls_3 : zIx (fun q : Nat × Nat × Nat × Nat × Nat => .initialized (zCn q.2.2.2.2)) [((0, 98, 38, 3, 1), 41), ((0, 102, 20, 1, 0), 40), ((0, 105, 59, 0, 6), 48), ((0, 109, 62, 3, 6), 48), ((0, 113, 40, 1, 1), 41), ((0, 119, 60, 5, 6), 48), ((0, 126, 71, 7, 8), 44), ((0, 130, 49, 1, 3), 43), ((0, 133, 51, 1, 3), 43), ((0, 137, 69, 1, 8), 44), ((0, 144, 66, 1, 7), 45), ((0, 148, 73, 1, 8), 44), ((0, 151, 23, 1, 0), 40), ((0, 157, 70, 0, 8), 44), ((0, 158, 72, 1, 8), 44), ((0, 164, 67, 1, 7), 45), ((0, 170, 56, 1, 4), 47), ((0, 174, 44, 1, 2), 42), ((0, 177, 36, 1, 0), 40), ((0, 167, 34, 1, 0), 40), ((0, 180, 19, 1, 0), 40), ((0, 192, 55, 2, 4), 47), ((0, 207, 31, 1, 0), 40), ((0, 204, 28, 1, 0), 40), ((0, 201, 30, 1, 0), 40), ((0, 198, 29, 1, 0), 40), ((0, 195, 24, 1, 0), 40), ((0, 219, 63, 2, 6), 48), ((0, 226, 33, 1, 0), 40), ((0, 222, 26, 2, 0), 40), ((0, 229, 27, 2, 0), 40), ((0, 233, 25, 2, 0), 40), ((0, 236, 43, 1, 2), 42), ((0, 237, 42, 0, 2), 42), ((0, 239, 46, 1, 2), 42), ((0, 242, 64, 1, 6), 48), ((0, 238, 45, 1, 2), 42), ((0, 251, 61, 1, 6), 48), ((0, 257, 32, 3, 0), 40), ((0, 261, 54, 3, 4), 47), ((0, 271, 50, 2, 3), 43), ((0, 274, 35, 2, 0), 40), ((1, 22, 39, 2, 1), 41), ((2, 19, 47, 1, 2), 42), ((2, 23, 43, 1, 2), 42), ((2, 27, 42, 0, 2), 42), ((3, 22, 52, 1, 3), 43), ((8, 20, 70, 0, 8), 44), ((8, 45, 66, 1, 7), 45), ((9, 102, 85, 1, 9), 50), ((9, 109, 76, 1, 9), 50), ((9, 113, 81, 1, 9), 50), ((9, 116, 83, 4, 9), 50), ((9, 120, 80, 1, 9), 50), ((9, 123, 84, 5, 9), 50), ((9, 127, 87, 7, 9), 50), ((9, 134, 91, 1, 9), 50), ((9, 140, 93, 2, 9), 50), ((9, 144, 95, 4, 9), 50), ((9, 148, 94, 2, 9), 50), ((9, 152, 82, 2, 9), 50), ((9, 155, 86, 2, 9), 50), ((9, 158, 88, 1, 9), 50), ((9, 174, 100, 5, 9), 50), ((9, 171, 97, 4, 9), 50), ((9, 168, 99, 4, 9), 50), ((9, 165, 98, 4, 9), 50), ((9, 161, 96, 3, 9), 50), ((9, 178, 106, 1, 9), 50), ((10, 95, 18, 1, 0), 40), ((10, 98, 114, 1, 9), 50), ((10, 91, 17, 1, 0), 40), ((10, 94, 113, 1, 9), 50), ((10, 87, 16, 2, 0), 40), ((10, 90, 112, 2, 9), 50), ((10, 83, 15, 1, 0), 40), ((10, 86, 111, 1, 9), 50), ((10, 79, 14, 2, 0), 40), ((10, 82, 110, 2, 9), 50), ((10, 75, 13, 1, 0), 40), ((10, 78, 109, 1, 9), 50), ((10, 71, 12, 2, 0), 40), ((10, 74, 108, 2, 9), 50), ((10, 67, 11, 0, 0), 40), ((10, 70, 107, 0, 9), 50), ((10, 63, 10, 2, 0), 40), ((10, 66, 105, 2, 9), 50), ((10, 58, 9, 0, 0), 40), ((10, 62, 104, 0, 9), 50), ((10, 54, 8, 1, 0), 40), ((10, 57, 103, 1, 9), 50), ((10, 49, 7, 1, 0), 40), ((10, 53, 102, 1, 9), 50), ((10, 45, 6, 1, 0), 40), ((10, 48, 101, 1, 9), 50), ((10, 41, 5, 1, 0), 40), ((10, 44, 92, 1, 9), 50), ((10, 36, 4, 1, 0), 40), ((10, 40, 90, 1, 9), 50), ((10, 31, 3, 2, 0), 40), ((10, 35, 89, 2, 9), 50), ((10, 26, 2, 3, 0), 40), ((10, 30, 79, 3, 9), 50), ((10, 21, 1, 2, 0), 40), ((10, 25, 78, 2, 9), 50)] = true := by decide +kernel
theorem zVls_y : ∀ q ∈ zVls, zCk q.2.2.1 = true := by decide +kernel
theorem zVls_x : ∀ q ∈ zVls, (zNm q.2.2.1).cls = zCn q.2.2.2.2 ∧ ((zNm q.2.2.1).cls ≠ "java/lang/invoke/MethodHandle" ∧ (zNm q.2.2.1).cls ≠ "java/lang/invoke/VarHandle") ∧ (parseMethodDescriptor (zNm q.2.2.1).desc).map (fun d => d.parameters.length) = some q.2.2.2.1 ∧ zMl q.2.2.1 ≤ 11 := by decide +kernel
theorem zVls_ok : ∀ q ∈ zVls, Cond.methodLink (zCn q.1) q.2.1 (zNm q.2.2.1) ∈ zAll ∧ Cond.instanceMethod (zNm q.2.2.1) ∈ zAll ∧ Cond.selects (zCn q.2.2.2.2) (zNm q.2.2.1) (zNm q.2.2.1) ∈ zAll ∧ Cond.initialized (zCn q.2.2.2.2) ∈ zAll ∧ Cond.code (zNm q.2.2.1) (zBy q.2.2.1) (zMl q.2.2.1) (zRet q.2.2.1) ∈ zAll ∧ (zNm q.2.2.1).cls = zCn q.2.2.2.2 ∧ ((zNm q.2.2.1).cls ≠ "java/lang/invoke/MethodHandle" ∧ (zNm q.2.2.1).cls ≠ "java/lang/invoke/VarHandle") ∧ (parseMethodDescriptor (zNm q.2.2.1).desc).map (fun d => d.parameters.length) = some q.2.2.2.1 ∧ zMl q.2.2.1 ≤ 11 := fun q h => ⟨zIx_ok zVls_0 q h, zIx_ok zVls_1 q h, zIx_ok zVls_2 q h, zIx_ok zVls_3 q h, zCd_of (zVls_y q h), zVls_x q h⟩
def zVns : List (Nat × Nat × Nat × Nat × Nat) := []
theorem zVns_ok : ∀ q ∈ zVns, (q.1, q.2.1, q.2.2.1) ∈ zMns ∧ Cond.instanceMethod (zNm q.2.2.1) ∈ zAll ∧ Cond.selects (zCn q.2.2.2.2) (zNm q.2.2.1) (zNm q.2.2.1) ∈ zAll ∧ Cond.initialized (zNm q.2.2.1).cls ∈ zAll ∧ Cond.code (zNm q.2.2.1) (zBy q.2.2.1) (zMl q.2.2.1) (zRet q.2.2.1) ∈ zAll ∧ (zNm q.2.2.1).cls = zCn q.2.2.2.2 ∧ ((zNm q.2.2.1).cls ≠ "java/lang/invoke/MethodHandle" ∧ (zNm q.2.2.1).cls ≠ "java/lang/invoke/VarHandle") ∧ (parseMethodDescriptor (zNm q.2.2.1).desc).map (fun d => d.parameters.length) = some q.2.2.2.1 ∧ zMl q.2.2.1 ≤ 11 := fun q h => absurd h List.not_mem_nil
def zTls : List (Nat × Nat × Nat × Nat) := [(0, 91, 21, 1), (0, 123, 22, 2), (9, 84, 75, 3), (9, 89, 77, 1), (10, 9, 116, 2)]
theorem zTls_0 : zIx (fun q : Nat × Nat × Nat × Nat => .methodLink (zCn q.1) q.2.1 (zNm q.2.2.1)) [((0, 91, 21, 1), 287), ((0, 123, 22, 2), 329), ((9, 84, 75, 3), 652), ((9, 89, 77, 1), 660), ((10, 9, 116, 2), 548)] = true := by decide +kernel
theorem zTls_1 : zIx (fun q : Nat × Nat × Nat × Nat => .static (zNm q.2.2.1)) [((0, 91, 21, 1), 288), ((0, 123, 22, 2), 330), ((9, 84, 75, 3), 653), ((9, 89, 77, 1), 661), ((10, 9, 116, 2), 549)] = true := by decide +kernel
theorem zTls_2 : zIx (fun q : Nat × Nat × Nat × Nat => .initialized (zCn q.1)) [((0, 91, 21, 1), 40), ((0, 123, 22, 2), 40), ((9, 84, 75, 3), 50), ((9, 89, 77, 1), 50), ((10, 9, 116, 2), 39)] = true := by decide +kernel
theorem zTls_y : ∀ q ∈ zTls, zCk q.2.2.1 = true := by decide +kernel
theorem zTls_x : ∀ q ∈ zTls, (zNm q.2.2.1).cls = zCn q.1 ∧ ((zNm q.2.2.1).cls ≠ "java/lang/invoke/MethodHandle" ∧ (zNm q.2.2.1).cls ≠ "java/lang/invoke/VarHandle") ∧ (parseMethodDescriptor (zNm q.2.2.1).desc).map (fun d => d.parameters.length) = some q.2.2.2 ∧ zMl q.2.2.1 ≤ 11 := by decide +kernel
theorem zTls_ok : ∀ q ∈ zTls, Cond.methodLink (zCn q.1) q.2.1 (zNm q.2.2.1) ∈ zAll ∧ Cond.static (zNm q.2.2.1) ∈ zAll ∧ Cond.initialized (zCn q.1) ∈ zAll ∧ Cond.code (zNm q.2.2.1) (zBy q.2.2.1) (zMl q.2.2.1) (zRet q.2.2.1) ∈ zAll ∧ (zNm q.2.2.1).cls = zCn q.1 ∧ ((zNm q.2.2.1).cls ≠ "java/lang/invoke/MethodHandle" ∧ (zNm q.2.2.1).cls ≠ "java/lang/invoke/VarHandle") ∧ (parseMethodDescriptor (zNm q.2.2.1).desc).map (fun d => d.parameters.length) = some q.2.2.2 ∧ zMl q.2.2.1 ≤ 11 := fun q h => ⟨zIx_ok zTls_0 q h, zIx_ok zTls_1 q h, zIx_ok zTls_2 q h, zCd_of (zTls_y q h), zTls_x q h⟩
def zIls : List (Nat × Nat × Nat × Nat × Nat) := [(0, 39, 68, 0, 8), (0, 73, 53, 1, 4), (0, 82, 58, 1, 6), (10, 15, 0, 1, 0), (10, 20, 74, 1, 9)]
theorem zIls_0 : zIx (fun q : Nat × Nat × Nat × Nat × Nat => .methodLink (zCn q.1) q.2.1 (zNm q.2.2.1)) [((0, 39, 68, 0, 8), 112), ((0, 73, 53, 1, 4), 178), ((0, 82, 58, 1, 6), 191), ((10, 15, 0, 1, 0), 53), ((10, 20, 74, 1, 9), 553)] = true := by decide +kernel
theorem zIls_1 : zIx (fun q : Nat × Nat × Nat × Nat × Nat => .instanceMethod (zNm q.2.2.1)) [((0, 39, 68, 0, 8), 113), ((0, 73, 53, 1, 4), 179), ((0, 82, 58, 1, 6), 192), ((10, 15, 0, 1, 0), 54), ((10, 20, 74, 1, 9), 554)] = true := by decide +kernel
theorem zIls_2 : zIx (fun q : Nat × Nat × Nat × Nat × Nat => .initialized (zNm q.2.2.1).cls) [((0, 39, 68, 0, 8), 44), ((0, 73, 53, 1, 4), 47), ((0, 82, 58, 1, 6), 48), ((10, 15, 0, 1, 0), 40), ((10, 20, 74, 1, 9), 50)] = true := by decide +kernel
theorem zIls_y : ∀ q ∈ zIls, zCk q.2.2.1 = true := by decide +kernel
theorem zIls_x : ∀ q ∈ zIls, (zNm q.2.2.1).name = "<init>" ∧ ((zNm q.2.2.1).cls ≠ "java/lang/invoke/MethodHandle" ∧ (zNm q.2.2.1).cls ≠ "java/lang/invoke/VarHandle") ∧ (parseMethodDescriptor (zNm q.2.2.1).desc).map (fun d => d.parameters.length) = some q.2.2.2.1 ∧ zMl q.2.2.1 ≤ 11 ∧ zRet q.2.2.1 = none := by decide +kernel
theorem zIls_ok : ∀ q ∈ zIls, Cond.methodLink (zCn q.1) q.2.1 (zNm q.2.2.1) ∈ zAll ∧ Cond.instanceMethod (zNm q.2.2.1) ∈ zAll ∧ Cond.initialized (zNm q.2.2.1).cls ∈ zAll ∧ Cond.code (zNm q.2.2.1) (zBy q.2.2.1) (zMl q.2.2.1) (zRet q.2.2.1) ∈ zAll ∧ (zNm q.2.2.1).name = "<init>" ∧ ((zNm q.2.2.1).cls ≠ "java/lang/invoke/MethodHandle" ∧ (zNm q.2.2.1).cls ≠ "java/lang/invoke/VarHandle") ∧ (parseMethodDescriptor (zNm q.2.2.1).desc).map (fun d => d.parameters.length) = some q.2.2.2.1 ∧ zMl q.2.2.1 ≤ 11 ∧ zRet q.2.2.1 = none := fun q h => ⟨zIx_ok zIls_0 q h, zIx_ok zIls_1 q h, zIx_ok zIls_2 q h, zCd_of (zIls_y q h), zIls_x q h⟩
def zIns : List (Nat × Nat × Nat × Nat × Nat) := [(0, 18, 37, 0, 1), (0, 25, 41, 0, 2), (0, 32, 48, 0, 3), (0, 46, 65, 0, 7), (6, 17, 57, 0, 5), (8, 15, 65, 0, 7)]
theorem zIns_0 : zIx (fun q : Nat × Nat × Nat × Nat × Nat => .instanceMethod (zNm q.2.2.1)) [((0, 18, 37, 0, 1), 62), ((0, 25, 41, 0, 2), 83), ((0, 32, 48, 0, 3), 97), ((0, 46, 65, 0, 7), 120), ((6, 17, 57, 0, 5), 199), ((8, 15, 65, 0, 7), 120)] = true := by decide +kernel
theorem zIns_1 : zIx (fun q : Nat × Nat × Nat × Nat × Nat => .initialized (zNm q.2.2.1).cls) [((0, 18, 37, 0, 1), 41), ((0, 25, 41, 0, 2), 42), ((0, 32, 48, 0, 3), 43), ((0, 46, 65, 0, 7), 45), ((6, 17, 57, 0, 5), 49), ((8, 15, 65, 0, 7), 45)] = true := by decide +kernel
theorem zIns_y : ∀ q ∈ zIns, zCk q.2.2.1 = true := by decide +kernel
theorem zIns_x : ∀ q ∈ zIns, (q.1, q.2.1, q.2.2.1) ∈ zMns ∧ (zNm q.2.2.1).name = "<init>" ∧ ((zNm q.2.2.1).cls ≠ "java/lang/invoke/MethodHandle" ∧ (zNm q.2.2.1).cls ≠ "java/lang/invoke/VarHandle") ∧ (parseMethodDescriptor (zNm q.2.2.1).desc).map (fun d => d.parameters.length) = some q.2.2.2.1 ∧ zMl q.2.2.1 ≤ 11 ∧ zRet q.2.2.1 = none := by decide +kernel
theorem zIns_ok : ∀ q ∈ zIns, (q.1, q.2.1, q.2.2.1) ∈ zMns ∧ Cond.instanceMethod (zNm q.2.2.1) ∈ zAll ∧ Cond.initialized (zNm q.2.2.1).cls ∈ zAll ∧ Cond.code (zNm q.2.2.1) (zBy q.2.2.1) (zMl q.2.2.1) (zRet q.2.2.1) ∈ zAll ∧ (zNm q.2.2.1).name = "<init>" ∧ ((zNm q.2.2.1).cls ≠ "java/lang/invoke/MethodHandle" ∧ (zNm q.2.2.1).cls ≠ "java/lang/invoke/VarHandle") ∧ (parseMethodDescriptor (zNm q.2.2.1).desc).map (fun d => d.parameters.length) = some q.2.2.2.1 ∧ zMl q.2.2.1 ≤ 11 ∧ zRet q.2.2.1 = none := fun q h => ⟨(zIns_x q h).1, zIx_ok zIns_0 q h, zIx_ok zIns_1 q h, zCd_of (zIns_y q h), (zIns_x q h).2⟩
def zObs : List (Nat × Nat) := [(0, 1), (1, 3), (2, 3), (3, 3), (4, 3), (5, 1), (6, 3), (7, 3), (8, 1), (9, 1)]
theorem zObs_0 : zIx (fun q : Nat × Nat => .methodLink (zCn q.1) q.2 objectInit) [((0, 1), 56), ((1, 3), 64), ((2, 3), 85), ((3, 3), 99), ((4, 3), 181), ((5, 1), 201), ((6, 3), 194), ((7, 3), 122), ((8, 1), 115), ((9, 1), 556)] = true := by decide +kernel
theorem zObs_1 : zIx (fun q : Nat × Nat => .instanceMethod objectInit) [((0, 1), 57), ((1, 3), 57), ((2, 3), 57), ((3, 3), 57), ((4, 3), 57), ((5, 1), 57), ((6, 3), 57), ((7, 3), 57), ((8, 1), 57), ((9, 1), 57)] = true := by decide +kernel
theorem zObs_2 : zIx (fun q : Nat × Nat => .code objectInit ⟨#[0xb1]⟩ 1 none) [((0, 1), 58), ((1, 3), 58), ((2, 3), 58), ((3, 3), 58), ((4, 3), 58), ((5, 1), 58), ((6, 3), 58), ((7, 3), 58), ((8, 1), 58), ((9, 1), 58)] = true := by decide +kernel
theorem zObs_ok : ∀ q ∈ zObs, Cond.methodLink (zCn q.1) q.2 objectInit ∈ zAll ∧ Cond.instanceMethod objectInit ∈ zAll ∧ Cond.code objectInit ⟨#[0xb1]⟩ 1 none ∈ zAll := fun q h => ⟨zIx_ok zObs_0 q h, zIx_ok zObs_1 q h, zIx_ok zObs_2 q h⟩
def zMaxs : List (Nat × Nat) := [(0, 57)]
theorem zMaxs_0 : zIx (fun q : Nat × Nat => .methodLink (zCn q.1) q.2 Lib.Math.max.name) [((0, 57), 173)] = true := by decide +kernel
theorem zMaxs_1 : zIx (fun q : Nat × Nat => .static Lib.Math.max.name) [((0, 57), 174)] = true := by decide +kernel
theorem zMaxs_2 : zIx (fun q : Nat × Nat => .initialized "java/lang/Math") [((0, 57), 46)] = true := by decide +kernel
theorem zMaxs_3 : zIx (fun q : Nat × Nat => .code Lib.Math.max.name Lib.Math.max.code 2 (some .int)) [((0, 57), 175)] = true := by decide +kernel
theorem zMaxs_ok : ∀ q ∈ zMaxs, Cond.methodLink (zCn q.1) q.2 Lib.Math.max.name ∈ zAll ∧ Cond.static Lib.Math.max.name ∈ zAll ∧ Cond.initialized "java/lang/Math" ∈ zAll ∧ Cond.code Lib.Math.max.name Lib.Math.max.code 2 (some .int) ∈ zAll := fun q h => ⟨zIx_ok zMaxs_0 q h, zIx_ok zMaxs_1 q h, zIx_ok zMaxs_2 q h, zIx_ok zMaxs_3 q h⟩
def zMins : List (Nat × Nat) := [(0, 51)]
theorem zMins_0 : zIx (fun q : Nat × Nat => .methodLink (zCn q.1) q.2 Lib.Math.min.name) [((0, 51), 170)] = true := by decide +kernel
theorem zMins_1 : zIx (fun q : Nat × Nat => .static Lib.Math.min.name) [((0, 51), 171)] = true := by decide +kernel
theorem zMins_2 : zIx (fun q : Nat × Nat => .initialized "java/lang/Math") [((0, 51), 46)] = true := by decide +kernel
theorem zMins_3 : zIx (fun q : Nat × Nat => .code Lib.Math.min.name Lib.Math.min.code 2 (some .int)) [((0, 51), 172)] = true := by decide +kernel
theorem zMins_ok : ∀ q ∈ zMins, Cond.methodLink (zCn q.1) q.2 Lib.Math.min.name ∈ zAll ∧ Cond.static Lib.Math.min.name ∈ zAll ∧ Cond.initialized "java/lang/Math" ∈ zAll ∧ Cond.code Lib.Math.min.name Lib.Math.min.code 2 (some .int) ∈ zAll := fun q h => ⟨zIx_ok zMins_0 q h, zIx_ok zMins_1 q h, zIx_ok zMins_2 q h, zIx_ok zMins_3 q h⟩
def zCs : List (Nat × Nat × Int32) := [(9, 88, 99999)]
theorem zCs_0 : zIx (fun q : Nat × Nat × Int32 => .constant (zCn q.1) q.2.1 q.2.2) [((9, 88, 99999), 655)] = true := by decide +kernel
theorem zCs_ok : ∀ q ∈ zCs, Cond.constant (zCn q.1) q.2.1 q.2.2 ∈ zAll := fun q h => zIx_ok zCs_0 q h
def zNws : List (Nat × Nat × Nat) := [(0, 16, 1), (0, 23, 2), (0, 30, 3), (0, 37, 8), (0, 44, 7), (0, 71, 4), (0, 80, 6), (6, 9, 5), (8, 9, 7), (10, 7, 0), (10, 18, 9)]
theorem zNws_0 : zIx (fun q : Nat × Nat × Nat => .classLink (zCn q.1) q.2.1 (zCn q.2.2)) [((0, 16, 1), 59), ((0, 23, 2), 80), ((0, 30, 3), 94), ((0, 37, 8), 110), ((0, 44, 7), 168), ((0, 71, 4), 176), ((0, 80, 6), 189), ((6, 9, 5), 195), ((8, 9, 7), 116), ((10, 7, 0), 51), ((10, 18, 9), 551)] = true := by decide +kernel
theorem zNws_1 : zIx (fun q : Nat × Nat × Nat => .instantiable (zCn q.2.2) (zNf q.2.2)) [((0, 16, 1), 60), ((0, 23, 2), 81), ((0, 30, 3), 95), ((0, 37, 8), 111), ((0, 44, 7), 118), ((0, 71, 4), 177), ((0, 80, 6), 190), ((6, 9, 5), 197), ((8, 9, 7), 118), ((10, 7, 0), 52), ((10, 18, 9), 552)] = true := by decide +kernel
theorem zNws_2 : zIx (fun q : Nat × Nat × Nat => .initialized (zCn q.2.2)) [((0, 16, 1), 41), ((0, 23, 2), 42), ((0, 30, 3), 43), ((0, 37, 8), 44), ((0, 44, 7), 45), ((0, 71, 4), 47), ((0, 80, 6), 48), ((6, 9, 5), 49), ((8, 9, 7), 45), ((10, 7, 0), 40), ((10, 18, 9), 50)] = true := by decide +kernel
theorem zNws_ok : ∀ q ∈ zNws, Cond.classLink (zCn q.1) q.2.1 (zCn q.2.2) ∈ zAll ∧ Cond.instantiable (zCn q.2.2) (zNf q.2.2) ∈ zAll ∧ Cond.initialized (zCn q.2.2) ∈ zAll := fun q h => ⟨zIx_ok zNws_0 q h, zIx_ok zNws_1 q h, zIx_ok zNws_2 q h⟩
def zNas : List (Nat × Nat × Nat) := [(0, 80, 6), (6, 9, 5), (8, 9, 7)]
theorem zNas_0 : zIx (fun q : Nat × Nat × Nat => .classLink (zCn q.1) q.2.1 (zCn q.2.2)) [((0, 80, 6), 189), ((6, 9, 5), 195), ((8, 9, 7), 116)] = true := by decide +kernel
theorem zNas_x : ∀ q ∈ zNas, q.2.2 ∈ zAos := by decide +kernel
theorem zNas_ok : ∀ q ∈ zNas, Cond.classLink (zCn q.1) q.2.1 (zCn q.2.2) ∈ zAll ∧ q.2.2 ∈ zAos := fun q h => ⟨zIx_ok zNas_0 q h, zNas_x q h⟩
theorem zw_aI : Cond.arrayClass .int ∈ zAll := List.mem_filter.mpr ⟨List.mem_of_getElem? (i := 78) (by decide +kernel), by decide +kernel⟩
theorem zw_aZ : Cond.arrayClass .boolean ∈ zAll := List.mem_filter.mpr ⟨List.mem_of_getElem? (i := 79) (by decide +kernel), by decide +kernel⟩
def zUw (q : Nat × Nat) : Cond := u_lay (zCn q.1) (zF q.1) q.2
theorem zUw_0 : zIx zUw [((0, 0), 254), ((0, 1), 256), ((0, 2), 258), ((0, 3), 260), ((0, 4), 262), ((0, 5), 264), ((0, 6), 266), ((0, 7), 268), ((0, 8), 270), ((0, 9), 272), ((0, 10), 274), ((0, 11), 276), ((0, 12), 278), ((0, 13), 280), ((1, 0), 69), ((1, 1), 71), ((1, 2), 73), ((1, 3), 75), ((2, 0), 89), ((2, 1), 91), ((3, 0), 103), ((3, 1), 105), ((3, 2), 107), ((4, 0), 184), ((4, 1), 186), ((5, 0), 214), ((5, 1), 216), ((5, 2), 218), ((5, 3), 220), ((5, 4), 222), ((5, 5), 224), ((6, 0), 232), ((6, 1), 234), ((6, 2), 236), ((7, 0), 144), ((7, 1), 146), ((7, 2), 148), ((7, 3), 150), ((7, 4), 152), ((7, 5), 154), ((7, 6), 156), ((8, 0), 163), ((8, 1), 165), ((9, 0), 587), ((9, 1), 589), ((9, 2), 591), ((9, 3), 593), ((9, 4), 595), ((9, 5), 597), ((9, 6), 599), ((9, 7), 601), ((9, 8), 603), ((9, 9), 605), ((9, 10), 607), ((9, 11), 609), ((9, 12), 611), ((9, 13), 613), ((9, 14), 615), ((9, 15), 617), ((9, 16), 619), ((9, 17), 621), ((9, 18), 623), ((9, 19), 625), ((9, 20), 627), ((9, 21), 629), ((9, 22), 631), ((9, 23), 633), ((9, 24), 635), ((9, 25), 637), ((9, 26), 639), ((9, 27), 641), ((9, 28), 643), ((9, 29), 645)] = true := by decide +kernel
theorem zUw_x : ∀ ci, ci < zCl.length → (∀ k, k < zNf ci → (ci, k) ∈ ([(0, 0), (0, 1), (0, 2), (0, 3), (0, 4), (0, 5), (0, 6), (0, 7), (0, 8), (0, 9), (0, 10), (0, 11), (0, 12), (0, 13), (1, 0), (1, 1), (1, 2), (1, 3), (2, 0), (2, 1), (3, 0), (3, 1), (3, 2), (4, 0), (4, 1), (5, 0), (5, 1), (5, 2), (5, 3), (5, 4), (5, 5), (6, 0), (6, 1), (6, 2), (7, 0), (7, 1), (7, 2), (7, 3), (7, 4), (7, 5), (7, 6), (8, 0), (8, 1), (9, 0), (9, 1), (9, 2), (9, 3), (9, 4), (9, 5), (9, 6), (9, 7), (9, 8), (9, 9), (9, 10), (9, 11), (9, 12), (9, 13), (9, 14), (9, 15), (9, 16), (9, 17), (9, 18), (9, 19), (9, 20), (9, 21), (9, 22), (9, 23), (9, 24), (9, 25), (9, 26), (9, 27), (9, 28), (9, 29)] : List (Nat × Nat))) := by decide +kernel
theorem zCn_c : ∀ ci, ci < zCl.length → (zCl[ci]?).map (fun r => (r.1, r.2.2)) = some (zCn ci, zNf ci) := by decide +kernel
theorem zCl_at {ci : Nat} (h : ci < zCl.length) : ∃ (C : String) (T : u_T) (N : Nat), zCl[ci]? = some (C, T, N) ∧ zNf ci = N ∧ ∀ w ∈ u_ws C T N, w ∈ zAll := by
  have h1 := zCn_c ci h
  cases hc : zCl[ci]? with
  | none => rw [hc] at h1; cases h1
  | some r =>
    obtain ⟨C, T, N⟩ := r
    rw [hc] at h1
    have h2 := Option.some.inj h1
    have e1 : C = zCn ci := congrArg Prod.fst h2
    have e2 : N = zNf ci := congrArg Prod.snd h2
    refine ⟨C, T, N, rfl, e2.symm, fun w hw => ?_⟩
    obtain ⟨k, hk, rfl⟩ := List.mem_map.mp hw
    have hk' : k < zNf ci := by rw [← e2]; exact List.mem_range.mp hk
    have h3 := zIx_ok zUw_0 (ci, k) (by exact zUw_x ci h k hk')
    have e3 : zUw (ci, k) = u_lay C T k := by
      unfold zUw u_lay
      rw [show zF (ci, k).1 (ci, k).2 = T k from zF_eq hc, ← e1]
    rw [← e3]; exact h3
theorem zCn_eq {ci : Nat} {C : String} {T : u_T} {N : Nat} (h : zCl[ci]? = some (C, T, N)) : zCn ci = C := by
  have h1 := zCn_c ci (List.getElem?_eq_some_iff.mp h).1
  rw [h] at h1
  exact (congrArg Prod.fst (Option.some.inj h1)).symm
theorem zNf_eq {ci : Nat} {C : String} {T : u_T} {N : Nat} (h : zCl[ci]? = some (C, T, N)) : zNf ci = N := by
  have h1 := zCn_c ci (List.getElem?_eq_some_iff.mp h).1
  rw [h] at h1
  exact (congrArg Prod.snd (Option.some.inj h1)).symm
theorem zTy_x : ∀ ci, ci < zCl.length → ∀ k, k < zNf ci → parseFieldDescriptor (zF ci k).2.2.1 = some (zTy ci k) ∧ zFin ci k = (zF ci k).2.2.2 ∧ (zF ci k).1 = zCn ci := by decide +kernel
theorem zNm_x : ∀ ci, ci < zCl.length → ∀ a, a < zNf ci → ∀ b, b < zNf ci → a ≠ b → (zF ci a).2.1 ≠ (zF ci b).2.1 := by decide +kernel
theorem zTy_k : ∀ ci, ci < zCl.length → ∀ k, k < zNf ci → (zFr ci k = false ∧ zTy ci k = .int) ∨ (zFr ci k = true ∧ (zTy ci k).isReference = true) := by decide +kernel
theorem zCl_ty {ci : Nat} {C : String} {T : u_T} {N : Nat} (h : zCl[ci]? = some (C, T, N)) : ∀ k, k < N → parseFieldDescriptor (T k).2.2.1 = some (zTy ci k) := by
  intro k hk
  have h1 := (zTy_x ci (List.getElem?_eq_some_iff.mp h).1 k (by rw [zNf_eq h]; exact hk)).1
  rw [zF_eq h] at h1; exact h1
theorem zCl_nm {ci : Nat} {C : String} {T : u_T} {N : Nat} (h : zCl[ci]? = some (C, T, N)) : ∀ a, a < N → ∀ b, b < N → a ≠ b → (T a).2.1 ≠ (T b).2.1 := by
  intro a ha b hb hne
  have h1 := zNm_x ci (List.getElem?_eq_some_iff.mp h).1 a (by rw [zNf_eq h]; exact ha) b (by rw [zNf_eq h]; exact hb) hne
  rw [zF_eq h, zF_eq h] at h1; exact h1
theorem zFin_eq {ci k : Nat} {C : String} {T : u_T} {N : Nat} (h : zCl[ci]? = some (C, T, N)) (hk : k < N) : zFin ci k = (T k).2.2.2 := by
  have h1 := (zTy_x ci (List.getElem?_eq_some_iff.mp h).1 k (by rw [zNf_eq h]; exact hk)).2.1
  rw [zF_eq h] at h1; exact h1
theorem zFd_own {ci k : Nat} {C : String} {T : u_T} {N : Nat} (h : zCl[ci]? = some (C, T, N)) (hk : k < N) : (T k).1 = zCn ci := by
  have h1 := (zTy_x ci (List.getElem?_eq_some_iff.mp h).1 k (by rw [zNf_eq h]; exact hk)).2.2
  rw [zF_eq h] at h1; exact h1
