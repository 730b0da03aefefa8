/-! THE STRUCTURE: which cell is where; the families of like objects. -/
def ab_fix : List (Int × Int × Int) := [(0, 0, 1), (0, 2, 2), (0, 7, 45), (0, 8, 51), (0, 9, 57), (0, 10, 59), (0, 11, 61), (0, 12, 64), (0, 13, 65), (0, 15, 66), (0, 16, 77), (2, 0, 4), (2, 1, 3), (2, 0, 4), (5, 0, 6), (5, 2, 7), (5, 3, 8), (5, 4, 9), (5, 6, 10), (5, 7, 11), (5, 8, 12), (5, 9, 13), (14, 0, 15), (14, 2, 16), (14, 3, 17), (14, 4, 18), (14, 6, 19), (14, 7, 20), (14, 8, 21), (14, 9, 22), (23, 0, 24), (23, 1, 25), (23, 2, 26), (23, 3, 27), (23, 4, 28), (23, 5, 29), (23, 6, 30), (23, 7, 31), (23, 8, 32), (23, 9, 33), (34, 0, 35), (34, 1, 36), (34, 2, 37), (34, 3, 38), (34, 4, 39), (34, 5, 40), (34, 6, 41), (34, 7, 42), (34, 8, 43), (34, 9, 44), (45, 0, 46), (45, 1, 47), (45, 2, 48), (45, 3, 49), (45, 4, 50), (51, 0, 52), (51, 1, 53), (51, 2, 54), (51, 3, 55), (51, 4, 56), (57, 0, 58), (59, 0, 60), (61, 0, 62), (61, 1, 63), (66, 0, 67), (66, 1, 68), (66, 2, 69), (66, 3, 70), (66, 4, 71), (66, 5, 72), (66, 6, 73), (66, 7, 74), (66, 8, 75), (66, 9, 76), (77, 3, 78), (78, 0, 79), (78, 1, 80), (81, 3, 82), (82, 0, 83), (82, 1, 84), (85, 3, 86), (86, 0, 87), (86, 1, 88), (89, 3, 90), (90, 0, 91), (90, 1, 92), (93, 3, 94), (94, 0, 95), (94, 1, 96), (97, 3, 98), (98, 0, 99), (98, 1, 100), (101, 3, 102), (102, 0, 103), (102, 1, 104), (105, 3, 106), (106, 0, 107), (106, 1, 108), (109, 3, 110), (110, 0, 111), (110, 1, 112), (113, 3, 114), (114, 0, 115), (114, 1, 116), (117, 3, 118), (118, 0, 119), (118, 1, 120), (121, 3, 122), (122, 0, 123), (122, 1, 124), (125, 3, 126), (126, 0, 127), (126, 1, 128), (129, 3, 130), (130, 0, 131), (130, 1, 132), (133, 3, 134), (134, 0, 135), (134, 1, 136), (137, 3, 138), (138, 0, 139), (138, 1, 140), (141, 3, 142), (142, 0, 143), (142, 1, 144), (145, 3, 146), (146, 0, 147), (146, 1, 148), (149, 3, 150), (150, 0, 151), (150, 1, 152), (153, 3, 154), (154, 0, 155), (154, 1, 156), (157, 3, 158), (158, 0, 159), (158, 1, 160), (161, 1, 162), (161, 3, 163), (161, 4, 164), (161, 5, 165), (161, 6, 166), (161, 7, 167), (161, 8, 168), (161, 9, 169), (161, 10, 170), (161, 11, 171), (161, 12, 172), (161, 13, 173), (161, 26, 174), (161, 27, 175), (161, 28, 176), (161, 29, 177), (161, 33, 178), (161, 36, 179), (161, 37, 180), (161, 38, 181), (161, 39, 182), (161, 40, 183), (161, 44, 184)]
def SI (r : ab_H) : Prop := ∀ (i : Nat) (q : Int × Int × Int), ab_nth ab_fix i = some q → r q.1 q.2.1 = q.2.2
def ab_ff (x a : Int) : Bool := ab_fix.all fun q => !(decide (q.1 = x) && decide (q.2.1 = a))
def ab_ffx (x : Int) : Bool := ab_fix.all fun q => !decide (q.1 = x)
theorem SI_up {r : ab_H} {x a v : Int} (h : SI r) (hf : ab_ff x a = true) : SI (ab_up r x a v) := by
  intro i q hq
  have h1 := List.all_eq_true.mp hf q (ab_nth_mem hq)
  simp only [Bool.not_eq_true', Bool.and_eq_false_imp, decide_eq_true_eq, decide_eq_false_iff_not] at h1
  simp only [ab_up]
  rw [if_neg (fun hc => h1 hc.1 hc.2)]
  exact h i q hq
theorem SI_upx {r : ab_H} {x a v : Int} (h : SI r) (hf : ab_ffx x = true) : SI (ab_up r x a v) := by
  intro i q hq
  have h1 := List.all_eq_true.mp hf q (ab_nth_mem hq)
  simp only [Bool.not_eq_true', decide_eq_false_iff_not] at h1
  simp only [ab_up]
  rw [if_neg (fun hc => h1 hc.1)]
  exact h i q hq
def isLg (x : Int) : Prop := x = 23 ∨ x = 34 ∨ x = 66
def isSt (x : Int) : Prop := x = 45 ∨ x = 51
def isSh (x : Int) : Prop := x = 57 ∨ x = 59
def isTe (x : Int) : Prop := x = 5 ∨ x = 14
def isTa (x : Int) : Prop := x = 61 ∨ (78 ≤ x ∧ x ≤ 158 ∧ (x - 78) % 4 = 0)
def isMk (x : Int) : Prop := 77 ≤ x ∧ x ≤ 157 ∧ (x - 77) % 4 = 0
def isWd (x : Int) : Prop := -21 ≤ x ∧ x ≤ -5
theorem Mk_ex {x : Int} (h : isMk x) : ∃ j : Nat, j < 21 ∧ x = 77 + 4 * (j : Int) := ⟨((x - 77) / 4).toNat, by unfold isMk at h; omega, by unfold isMk at h; omega⟩
theorem Ta_ex {x : Int} (h : isTa x) : x = 61 ∨ ∃ j : Nat, j < 21 ∧ x = 78 + 4 * (j : Int) := by
  unfold isTa at h
  rcases h with h | h
  · exact Or.inl h
  · exact Or.inr ⟨((x - 78) / 4).toNat, by omega, by omega⟩
theorem ob_Lg {K x : Int} (h : isLg x) (hK : 186 ≤ K) : ab_OB K x 1 := by
  rcases h with rfl | rfl | rfl
  · exact ⟨rfl, by omega, by omega⟩
  · exact ⟨rfl, by omega, by omega⟩
  · exact ⟨rfl, by omega, by omega⟩
theorem fx_Lg_0 {r : ab_H} {x : Int} (hr : SI r) (h : isLg x) : r x 0 = x + 1 := by
  rcases h with rfl | rfl | rfl
  · exact hr 30 _ rfl
  · exact hr 40 _ rfl
  · exact hr 64 _ rfl
theorem ar_Lg_0 {K x : Int} (h : isLg x) (hK : 186 ≤ K) : ab_AR K (x + 1) 100 120 := by
  rcases h with rfl | rfl | rfl
  · exact ⟨rfl, by omega, by omega⟩
  · exact ⟨rfl, by omega, by omega⟩
  · exact ⟨rfl, by omega, by omega⟩
theorem fx_Lg_1 {r : ab_H} {x : Int} (hr : SI r) (h : isLg x) : r x 1 = x + 2 := by
  rcases h with rfl | rfl | rfl
  · exact hr 31 _ rfl
  · exact hr 41 _ rfl
  · exact hr 65 _ rfl
theorem ar_Lg_1 {K x : Int} (h : isLg x) (hK : 186 ≤ K) : ab_AR K (x + 2) 100 120 := by
  rcases h with rfl | rfl | rfl
  · exact ⟨rfl, by omega, by omega⟩
  · exact ⟨rfl, by omega, by omega⟩
  · exact ⟨rfl, by omega, by omega⟩
theorem fx_Lg_2 {r : ab_H} {x : Int} (hr : SI r) (h : isLg x) : r x 2 = x + 3 := by
  rcases h with rfl | rfl | rfl
  · exact hr 32 _ rfl
  · exact hr 42 _ rfl
  · exact hr 66 _ rfl
theorem ar_Lg_2 {K x : Int} (h : isLg x) (hK : 186 ≤ K) : ab_AR K (x + 3) 100 120 := by
  rcases h with rfl | rfl | rfl
  · exact ⟨rfl, by omega, by omega⟩
  · exact ⟨rfl, by omega, by omega⟩
  · exact ⟨rfl, by omega, by omega⟩
theorem fx_Lg_3 {r : ab_H} {x : Int} (hr : SI r) (h : isLg x) : r x 3 = x + 4 := by
  rcases h with rfl | rfl | rfl
  · exact hr 33 _ rfl
  · exact hr 43 _ rfl
  · exact hr 67 _ rfl
theorem ar_Lg_3 {K x : Int} (h : isLg x) (hK : 186 ≤ K) : ab_AR K (x + 4) 100 120 := by
  rcases h with rfl | rfl | rfl
  · exact ⟨rfl, by omega, by omega⟩
  · exact ⟨rfl, by omega, by omega⟩
  · exact ⟨rfl, by omega, by omega⟩
theorem fx_Lg_4 {r : ab_H} {x : Int} (hr : SI r) (h : isLg x) : r x 4 = x + 5 := by
  rcases h with rfl | rfl | rfl
  · exact hr 34 _ rfl
  · exact hr 44 _ rfl
  · exact hr 68 _ rfl
theorem ar_Lg_4 {K x : Int} (h : isLg x) (hK : 186 ≤ K) : ab_AR K (x + 5) 100 120 := by
  rcases h with rfl | rfl | rfl
  · exact ⟨rfl, by omega, by omega⟩
  · exact ⟨rfl, by omega, by omega⟩
  · exact ⟨rfl, by omega, by omega⟩
theorem fx_Lg_5 {r : ab_H} {x : Int} (hr : SI r) (h : isLg x) : r x 5 = x + 6 := by
  rcases h with rfl | rfl | rfl
  · exact hr 35 _ rfl
  · exact hr 45 _ rfl
  · exact hr 69 _ rfl
theorem ar_Lg_5 {K x : Int} (h : isLg x) (hK : 186 ≤ K) : ab_AR K (x + 6) 100 360 := by
  rcases h with rfl | rfl | rfl
  · exact ⟨rfl, by omega, by omega⟩
  · exact ⟨rfl, by omega, by omega⟩
  · exact ⟨rfl, by omega, by omega⟩
theorem fx_Lg_6 {r : ab_H} {x : Int} (hr : SI r) (h : isLg x) : r x 6 = x + 7 := by
  rcases h with rfl | rfl | rfl
  · exact hr 36 _ rfl
  · exact hr 46 _ rfl
  · exact hr 70 _ rfl
theorem ar_Lg_6 {K x : Int} (h : isLg x) (hK : 186 ≤ K) : ab_AR K (x + 7) 100 360 := by
  rcases h with rfl | rfl | rfl
  · exact ⟨rfl, by omega, by omega⟩
  · exact ⟨rfl, by omega, by omega⟩
  · exact ⟨rfl, by omega, by omega⟩
theorem fx_Lg_7 {r : ab_H} {x : Int} (hr : SI r) (h : isLg x) : r x 7 = x + 8 := by
  rcases h with rfl | rfl | rfl
  · exact hr 37 _ rfl
  · exact hr 47 _ rfl
  · exact hr 71 _ rfl
theorem ar_Lg_7 {K x : Int} (h : isLg x) (hK : 186 ≤ K) : ab_AR K (x + 8) 100 120 := by
  rcases h with rfl | rfl | rfl
  · exact ⟨rfl, by omega, by omega⟩
  · exact ⟨rfl, by omega, by omega⟩
  · exact ⟨rfl, by omega, by omega⟩
theorem fx_Lg_8 {r : ab_H} {x : Int} (hr : SI r) (h : isLg x) : r x 8 = x + 9 := by
  rcases h with rfl | rfl | rfl
  · exact hr 38 _ rfl
  · exact hr 48 _ rfl
  · exact hr 72 _ rfl
theorem ar_Lg_8 {K x : Int} (h : isLg x) (hK : 186 ≤ K) : ab_AR K (x + 9) 100 120 := by
  rcases h with rfl | rfl | rfl
  · exact ⟨rfl, by omega, by omega⟩
  · exact ⟨rfl, by omega, by omega⟩
  · exact ⟨rfl, by omega, by omega⟩
theorem fx_Lg_9 {r : ab_H} {x : Int} (hr : SI r) (h : isLg x) : r x 9 = x + 10 := by
  rcases h with rfl | rfl | rfl
  · exact hr 39 _ rfl
  · exact hr 49 _ rfl
  · exact hr 73 _ rfl
theorem ar_Lg_9 {K x : Int} (h : isLg x) (hK : 186 ≤ K) : ab_AR K (x + 10) 100 121 := by
  rcases h with rfl | rfl | rfl
  · exact ⟨rfl, by omega, by omega⟩
  · exact ⟨rfl, by omega, by omega⟩
  · exact ⟨rfl, by omega, by omega⟩
theorem ob_St {K x : Int} (h : isSt x) (hK : 186 ≤ K) : ab_OB K x 2 := by
  rcases h with rfl | rfl
  · exact ⟨rfl, by omega, by omega⟩
  · exact ⟨rfl, by omega, by omega⟩
theorem fx_St_0 {r : ab_H} {x : Int} (hr : SI r) (h : isSt x) : r x 0 = x + 1 := by
  rcases h with rfl | rfl
  · exact hr 50 _ rfl
  · exact hr 55 _ rfl
theorem ar_St_0 {K x : Int} (h : isSt x) (hK : 186 ≤ K) : ab_AR K (x + 1) 100 8 := by
  rcases h with rfl | rfl
  · exact ⟨rfl, by omega, by omega⟩
  · exact ⟨rfl, by omega, by omega⟩
theorem fx_St_1 {r : ab_H} {x : Int} (hr : SI r) (h : isSt x) : r x 1 = x + 2 := by
  rcases h with rfl | rfl
  · exact hr 51 _ rfl
  · exact hr 56 _ rfl
theorem ar_St_1 {K x : Int} (h : isSt x) (hK : 186 ≤ K) : ab_AR K (x + 2) 100 8 := by
  rcases h with rfl | rfl
  · exact ⟨rfl, by omega, by omega⟩
  · exact ⟨rfl, by omega, by omega⟩
theorem fx_St_2 {r : ab_H} {x : Int} (hr : SI r) (h : isSt x) : r x 2 = x + 3 := by
  rcases h with rfl | rfl
  · exact hr 52 _ rfl
  · exact hr 57 _ rfl
theorem ar_St_2 {K x : Int} (h : isSt x) (hK : 186 ≤ K) : ab_AR K (x + 3) 100 8 := by
  rcases h with rfl | rfl
  · exact ⟨rfl, by omega, by omega⟩
  · exact ⟨rfl, by omega, by omega⟩
theorem fx_St_3 {r : ab_H} {x : Int} (hr : SI r) (h : isSt x) : r x 3 = x + 4 := by
  rcases h with rfl | rfl
  · exact hr 53 _ rfl
  · exact hr 58 _ rfl
theorem ar_St_3 {K x : Int} (h : isSt x) (hK : 186 ≤ K) : ab_AR K (x + 4) 100 8 := by
  rcases h with rfl | rfl
  · exact ⟨rfl, by omega, by omega⟩
  · exact ⟨rfl, by omega, by omega⟩
theorem fx_St_4 {r : ab_H} {x : Int} (hr : SI r) (h : isSt x) : r x 4 = x + 5 := by
  rcases h with rfl | rfl
  · exact hr 54 _ rfl
  · exact hr 59 _ rfl
theorem ar_St_4 {K x : Int} (h : isSt x) (hK : 186 ≤ K) : ab_AR K (x + 5) 100 120 := by
  rcases h with rfl | rfl
  · exact ⟨rfl, by omega, by omega⟩
  · exact ⟨rfl, by omega, by omega⟩
theorem ob_Sh {K x : Int} (h : isSh x) (hK : 186 ≤ K) : ab_OB K x 3 := by
  rcases h with rfl | rfl
  · exact ⟨rfl, by omega, by omega⟩
  · exact ⟨rfl, by omega, by omega⟩
theorem fx_Sh_0 {r : ab_H} {x : Int} (hr : SI r) (h : isSh x) : r x 0 = x + 1 := by
  rcases h with rfl | rfl
  · exact hr 60 _ rfl
  · exact hr 61 _ rfl
theorem ar_Sh_0 {K x : Int} (h : isSh x) (hK : 186 ≤ K) : ab_AR K (x + 1) 100 7 := by
  rcases h with rfl | rfl
  · exact ⟨rfl, by omega, by omega⟩
  · exact ⟨rfl, by omega, by omega⟩
theorem ob_Te {K x : Int} (h : isTe x) (hK : 186 ≤ K) : ab_OB K x 6 := by
  rcases h with rfl | rfl
  · exact ⟨rfl, by omega, by omega⟩
  · exact ⟨rfl, by omega, by omega⟩
theorem fx_Te_0 {r : ab_H} {x : Int} (hr : SI r) (h : isTe x) : r x 0 = x + 1 := by
  rcases h with rfl | rfl
  · exact hr 14 _ rfl
  · exact hr 22 _ rfl
theorem ar_Te_0 {K x : Int} (h : isTe x) (hK : 186 ≤ K) : ab_AR K (x + 1) 100 8 := by
  rcases h with rfl | rfl
  · exact ⟨rfl, by omega, by omega⟩
  · exact ⟨rfl, by omega, by omega⟩
theorem fx_Te_2 {r : ab_H} {x : Int} (hr : SI r) (h : isTe x) : r x 2 = x + 2 := by
  rcases h with rfl | rfl
  · exact hr 15 _ rfl
  · exact hr 23 _ rfl
theorem ar_Te_2 {K x : Int} (h : isTe x) (hK : 186 ≤ K) : ab_AR K (x + 2) 100 4 := by
  rcases h with rfl | rfl
  · exact ⟨rfl, by omega, by omega⟩
  · exact ⟨rfl, by omega, by omega⟩
theorem fx_Te_3 {r : ab_H} {x : Int} (hr : SI r) (h : isTe x) : r x 3 = x + 3 := by
  rcases h with rfl | rfl
  · exact hr 16 _ rfl
  · exact hr 24 _ rfl
theorem ar_Te_3 {K x : Int} (h : isTe x) (hK : 186 ≤ K) : ab_AR K (x + 3) 100 4 := by
  rcases h with rfl | rfl
  · exact ⟨rfl, by omega, by omega⟩
  · exact ⟨rfl, by omega, by omega⟩
theorem fx_Te_4 {r : ab_H} {x : Int} (hr : SI r) (h : isTe x) : r x 4 = x + 4 := by
  rcases h with rfl | rfl
  · exact hr 17 _ rfl
  · exact hr 25 _ rfl
theorem ar_Te_4 {K x : Int} (h : isTe x) (hK : 186 ≤ K) : ab_AR K (x + 4) 100 4 := by
  rcases h with rfl | rfl
  · exact ⟨rfl, by omega, by omega⟩
  · exact ⟨rfl, by omega, by omega⟩
theorem fx_Te_6 {r : ab_H} {x : Int} (hr : SI r) (h : isTe x) : r x 6 = x + 5 := by
  rcases h with rfl | rfl
  · exact hr 18 _ rfl
  · exact hr 26 _ rfl
theorem ar_Te_6 {K x : Int} (h : isTe x) (hK : 186 ≤ K) : ab_AR K (x + 5) 100 14 := by
  rcases h with rfl | rfl
  · exact ⟨rfl, by omega, by omega⟩
  · exact ⟨rfl, by omega, by omega⟩
theorem fx_Te_7 {r : ab_H} {x : Int} (hr : SI r) (h : isTe x) : r x 7 = x + 6 := by
  rcases h with rfl | rfl
  · exact hr 19 _ rfl
  · exact hr 27 _ rfl
theorem ar_Te_7 {K x : Int} (h : isTe x) (hK : 186 ≤ K) : ab_AR K (x + 6) 100 56 := by
  rcases h with rfl | rfl
  · exact ⟨rfl, by omega, by omega⟩
  · exact ⟨rfl, by omega, by omega⟩
theorem fx_Te_8 {r : ab_H} {x : Int} (hr : SI r) (h : isTe x) : r x 8 = x + 7 := by
  rcases h with rfl | rfl
  · exact hr 20 _ rfl
  · exact hr 28 _ rfl
theorem ar_Te_8 {K x : Int} (h : isTe x) (hK : 186 ≤ K) : ab_AR K (x + 7) 100 56 := by
  rcases h with rfl | rfl
  · exact ⟨rfl, by omega, by omega⟩
  · exact ⟨rfl, by omega, by omega⟩
theorem fx_Te_9 {r : ab_H} {x : Int} (hr : SI r) (h : isTe x) : r x 9 = x + 8 := by
  rcases h with rfl | rfl
  · exact hr 21 _ rfl
  · exact hr 29 _ rfl
theorem ar_Te_9 {K x : Int} (h : isTe x) (hK : 186 ≤ K) : ab_AR K (x + 8) 100 56 := by
  rcases h with rfl | rfl
  · exact ⟨rfl, by omega, by omega⟩
  · exact ⟨rfl, by omega, by omega⟩
theorem ob_Ta_c : (List.range 21).all (fun j => decide ((ab_kd (78 + 4 * (j : Int))).1 = 4)) = true := by decide +kernel
theorem ob_Ta {K x : Int} (h : isTa x) (hK : 186 ≤ K) : ab_OB K x 4 := by
  rcases Ta_ex h with rfl | ⟨j, hj, rfl⟩
  · exact ⟨rfl, by omega, by omega⟩
  · exact ⟨of_decide_eq_true (List.all_eq_true.mp ob_Ta_c j (List.mem_range.mpr hj)), by omega, by omega⟩
theorem fx_Ta_0_c : (List.range 21).all (fun j => decide (ab_nth ab_fix ((ab_nth [75, 78, 81, 84, 87, 90, 93, 96, 99, 102, 105, 108, 111, 114, 117, 120, 123, 126, 129, 132, 135] j).getD 0) = some (78 + 4 * (j : Int), 0, 78 + 4 * (j : Int) + 1))) = true := by decide +kernel
theorem fx_Ta_0 {r : ab_H} {x : Int} (hr : SI r) (h : isTa x) : r x 0 = x + 1 := by
  rcases Ta_ex h with rfl | ⟨j, hj, rfl⟩
  · exact hr 62 _ rfl
  · exact hr _ _ (of_decide_eq_true (List.all_eq_true.mp fx_Ta_0_c j (List.mem_range.mpr hj)))
theorem ar_Ta_0_c : (List.range 21).all (fun j => decide (ab_kd (78 + 4 * (j : Int) + 1) = (100, 4))) = true := by decide +kernel
theorem ar_Ta_0 {K x : Int} (h : isTa x) (hK : 186 ≤ K) : ab_AR K (x + 1) 100 4 := by
  rcases Ta_ex h with rfl | ⟨j, hj, rfl⟩
  · exact ⟨rfl, by omega, by omega⟩
  · exact ⟨of_decide_eq_true (List.all_eq_true.mp ar_Ta_0_c j (List.mem_range.mpr hj)), by omega, by omega⟩
theorem fx_Ta_1_c : (List.range 21).all (fun j => decide (ab_nth ab_fix ((ab_nth [76, 79, 82, 85, 88, 91, 94, 97, 100, 103, 106, 109, 112, 115, 118, 121, 124, 127, 130, 133, 136] j).getD 0) = some (78 + 4 * (j : Int), 1, 78 + 4 * (j : Int) + 2))) = true := by decide +kernel
theorem fx_Ta_1 {r : ab_H} {x : Int} (hr : SI r) (h : isTa x) : r x 1 = x + 2 := by
  rcases Ta_ex h with rfl | ⟨j, hj, rfl⟩
  · exact hr 63 _ rfl
  · exact hr _ _ (of_decide_eq_true (List.all_eq_true.mp fx_Ta_1_c j (List.mem_range.mpr hj)))
theorem ar_Ta_1_c : (List.range 21).all (fun j => decide (ab_kd (78 + 4 * (j : Int) + 2) = (100, 120))) = true := by decide +kernel
theorem ar_Ta_1 {K x : Int} (h : isTa x) (hK : 186 ≤ K) : ab_AR K (x + 2) 100 120 := by
  rcases Ta_ex h with rfl | ⟨j, hj, rfl⟩
  · exact ⟨rfl, by omega, by omega⟩
  · exact ⟨of_decide_eq_true (List.all_eq_true.mp ar_Ta_1_c j (List.mem_range.mpr hj)), by omega, by omega⟩
theorem ob_Mk_c : (List.range 21).all (fun j => decide ((ab_kd (77 + 4 * (j : Int))).1 = 5)) = true := by decide +kernel
theorem ob_Mk {K x : Int} (h : isMk x) (hK : 186 ≤ K) : ab_OB K x 5 := by
  obtain ⟨j, hj, rfl⟩ := Mk_ex h
  exact ⟨of_decide_eq_true (List.all_eq_true.mp ob_Mk_c j (List.mem_range.mpr hj)), by omega, by omega⟩
theorem fx_Mk_3_c : (List.range 21).all (fun j => decide (ab_nth ab_fix ((ab_nth [74, 77, 80, 83, 86, 89, 92, 95, 98, 101, 104, 107, 110, 113, 116, 119, 122, 125, 128, 131, 134] j).getD 0) = some (77 + 4 * (j : Int), 3, 77 + 4 * (j : Int) + 1))) = true := by decide +kernel
theorem fx_Mk_3 {r : ab_H} {x : Int} (hr : SI r) (h : isMk x) : r x 3 = x + 1 := by
  obtain ⟨j, hj, rfl⟩ := Mk_ex h
  exact hr _ _ (of_decide_eq_true (List.all_eq_true.mp fx_Mk_3_c j (List.mem_range.mpr hj)))
theorem Mk_Ta {x : Int} (h : isMk x) : isTa (x + 1) := by unfold isMk at h; unfold isTa; omega
theorem nn_Lg {x : Int} (h : isLg x) : x ≠ -1 := by unfold isLg at h; omega
theorem nn_Te {x : Int} (h : isTe x) : x ≠ -1 := by unfold isTe at h; omega
theorem nn_Mk {x : Int} (h : isMk x) : x ≠ -1 := by unfold isMk at h; omega
theorem nn_Ta {x : Int} (h : isTa x) : x ≠ -1 := by unfold isTa at h; omega
theorem nn_St {x : Int} (h : isSt x) : x ≠ -1 := by unfold isSt at h; omega
theorem nn_Sh {x : Int} (h : isSh x) : x ≠ -1 := by unfold isSh at h; omega
theorem nn_Wd {x : Int} (h : isWd x) : x ≠ -1 := by unfold isWd at h; omega
abbrev m_EL_init : Nat := 0
abbrev m_EL_feed : Nat := 1
abbrev m_EL_text : Nat := 2
abbrev m_EL_fault : Nat := 3
abbrev m_EL_named : Nat := 4
abbrev m_EL_event : Nat := 5
abbrev m_EL_old : Nat := 6
abbrev m_EL_revoke : Nat := 7
abbrev m_EL_of : Nat := 8
abbrev m_EL_field : Nat := 9
abbrev m_EL_account : Nat := 10
abbrev m_EL_at : Nat := 11
abbrev m_EL_known : Nat := 12
abbrev m_EL_cost : Nat := 13
abbrev m_EL_costAt : Nat := 14
abbrev m_EL_snapshot : Nat := 15
abbrev m_EL_inSnapshot : Nat := 16
abbrev m_EL_bestPlace : Nat := 17
abbrev m_EL_aside : Nat := 18
abbrev m_EL_blame : Nat := 19
abbrev m_EL_without : Nat := 20
abbrev m_EL_firstBelow : Nat := 21
abbrev m_EL_peak : Nat := 22
abbrev m_EL_touches : Nat := 23
abbrev m_EL_ifPlain : Nat := 24
abbrev m_EL_resnap : Nat := 25
abbrev m_EL_see : Nat := 26
abbrev m_EL_rewind : Nat := 27
abbrev m_EL_tally : Nat := 28
abbrev m_EL_sum : Nat := 29
abbrev m_EL_chance : Nat := 30
abbrev m_EL_undo : Nat := 31
abbrev m_EL_keep : Nat := 32
abbrev m_EL_back : Nat := 33
abbrev m_EL_count : Nat := 34
abbrev m_EL_putBytes : Nat := 35
abbrev m_EL_takeOverSpares : Nat := 36
abbrev m_EL_isAccount : Nat := 37
abbrev m_EL_isTally : Nat := 38
abbrev m_EL_isTime : Nat := 39
abbrev m_EL_isNumber : Nat := 40
abbrev m_EL_canBe : Nat := 41
abbrev m_EL_fillRow : Nat := 42
abbrev m_EL_refusalAt : Nat := 43
abbrev m_EL_comes : Nat := 44
abbrev m_EL_rebuild : Nat := 45
abbrev m_EL_costOf : Nat := 46
abbrev m_EL_seeNext : Nat := 47
abbrev m_EL_countsNow : Nat := 48
abbrev m_EL_countedField : Nat := 49
abbrev m_EL_sumCounted : Nat := 50
abbrev m_EL_sumAnew : Nat := 51
abbrev m_EL_addByChance : Nat := 52
abbrev m_EL_nextNumber : Nat := 53
abbrev m_EL_drawn : Nat := 54
abbrev m_EL_mark : Nat := 55
abbrev m_EL_fillMark : Nat := 56
abbrev m_EL_restore : Nat := 57
abbrev m_M_init : Nat := 58
abbrev m_M_thrown : Nat := 59
abbrev m_M_feed : Nat := 60
abbrev m_M_here : Nat := 61
abbrev m_M_isSmall : Nat := 62
abbrev m_M_isDigit : Nat := 63
abbrev m_M_token : Nat := 64
abbrev m_M_wordHere : Nat := 65
abbrev m_M_nameHere : Nat := 66
abbrev m_M_wrong : Nat := 67
abbrev m_M_goOn : Nat := 68
abbrev m_M_numeral : Nat := 69
abbrev m_M_reading : Nat := 70
abbrev m_M_reads : Nat := 71
abbrev m_M_foundIn : Nat := 72
abbrev m_M_newName : Nat := 73
abbrev m_M_wordOf : Nat := 74
abbrev m_M_accountHere : Nat := 75
abbrev m_M_readAccount : Nat := 76
abbrev m_M_stepAt : Nat := 77
abbrev m_M_readLift : Nat := 78
abbrev m_M_readTally : Nat := 79
abbrev m_M_readSnap : Nat := 80
abbrev m_M_readSeed : Nat := 81
abbrev m_M_timeAhead : Nat := 82
abbrev m_M_readEvent : Nat := 83
abbrev m_M_readRevoke : Nat := 84
abbrev m_M_readLine : Nat := 85
abbrev m_M_freshText : Nat := 86
abbrev m_M_readText : Nat := 87
abbrev m_M_takeText : Nat := 88
abbrev m_M_text : Nat := 89
abbrev m_M_fault : Nat := 90
abbrev m_M_accounts : Nat := 91
abbrev m_M_tallies : Nat := 92
abbrev m_M_named : Nat := 93
abbrev m_M_copies : Nat := 94
abbrev m_M_many : Nat := 95
abbrev m_M_begins : Nat := 96
abbrev m_M_remembers : Nat := 97
abbrev m_M_undo : Nat := 98
abbrev m_M_keep : Nat := 99
abbrev m_M_back : Nat := 100
abbrev m_M_isVoid : Nat := 101
abbrev m_M_isVoided : Nat := 102
abbrev m_M_weightOf : Nat := 103
abbrev m_M_weights : Nat := 104
abbrev m_M_snapAt : Nat := 105
abbrev m_M_snapGoes : Nat := 106
abbrev m_M_snaps : Nat := 107
abbrev m_M_letsGo : Nat := 108
abbrev m_M_comes : Nat := 109
abbrev m_M_breaks : Nat := 110
abbrev m_M_breaksBy : Nat := 111
abbrev m_M_causeOf : Nat := 112
abbrev m_M_applies : Nat := 113
abbrev m_M_replays : Nat := 114
abbrev m_M_replaysAll : Nat := 115
abbrev m_M_asidesNow : Nat := 116
abbrev m_M_isAccount : Nat := 117
abbrev m_M_isTime : Nat := 118
abbrev m_M_has : Nat := 119
abbrev m_M_placeAt : Nat := 120
abbrev m_M_latestTime : Nat := 121
abbrev m_M_eventOf : Nat := 122
abbrev m_M_event : Nat := 123
abbrev m_M_old : Nat := 124
abbrev m_M_isEvent : Nat := 125
abbrev m_M_revoke : Nat := 126
abbrev m_M_of : Nat := 127
abbrev m_M_field : Nat := 128
abbrev m_M_isWhat : Nat := 129
abbrev m_M_account : Nat := 130
abbrev m_M_at : Nat := 131
abbrev m_M_known : Nat := 132
abbrev m_M_costOf : Nat := 133
abbrev m_M_cost : Nat := 134
abbrev m_M_costAt : Nat := 135
abbrev m_M_snapshot : Nat := 136
abbrev m_M_inSnapshot : Nat := 137
abbrev m_M_costsWith : Nat := 138
abbrev m_M_bestPlace : Nat := 139
abbrev m_M_resnap : Nat := 140
abbrev m_M_aside : Nat := 141
abbrev m_M_blame : Nat := 142
abbrev m_M_without : Nat := 143
abbrev m_M_touches : Nat := 144
abbrev m_M_firstBelow : Nat := 145
abbrev m_M_peak : Nat := 146
abbrev m_M_ifPlain : Nat := 147
abbrev m_M_isTally : Nat := 148
abbrev m_M_tallyAt : Nat := 149
abbrev m_M_counts : Nat := 150
abbrev m_M_sees : Nat := 151
abbrev m_M_see : Nat := 152
abbrev m_M_rewind : Nat := 153
abbrev m_M_countedMany : Nat := 154
abbrev m_M_sums : Nat := 155
abbrev m_M_anew : Nat := 156
abbrev m_M_tally : Nat := 157
abbrev m_M_sum : Nat := 158
abbrev m_M_draw : Nat := 159
abbrev m_M_balances : Nat := 160
abbrev m_M_chance : Nat := 161
abbrev m_M_voidedMany : Nat := 162
abbrev m_M_openMany : Nat := 163
abbrev m_M_asideMany : Nat := 164
abbrev m_M_count : Nat := 165
abbrev m_Lg_init : Nat := 166
abbrev m_Lg_clear : Nat := 167
abbrev m_Lg_holds : Nat := 168
abbrev m_Lg_holdsPlain : Nat := 169
abbrev m_Lg_latestTime : Nat := 170
abbrev m_Lg_add : Nat := 171
abbrev m_Lg_addVoid : Nat := 172
abbrev m_Lg_cutTo : Nat := 173
abbrev m_Lg_unlift : Nat := 174
abbrev m_Lg_weights : Nat := 175
abbrev m_Lg_placeAt : Nat := 176
abbrev m_Lg_countVoided : Nat := 177
abbrev m_Lg_copyFrom : Nat := 178
abbrev m_Mk_init : Nat := 179
abbrev m_Pa_init : Nat := 180
abbrev m_Pa_parse : Nat := 181
abbrev m_Pa_readLine : Nat := 182
abbrev m_Pa_readAccount : Nat := 183
abbrev m_Pa_readLift : Nat := 184
abbrev m_Pa_readTally : Nat := 185
abbrev m_Pa_readSnap : Nat := 186
abbrev m_Pa_readSeed : Nat := 187
abbrev m_Pa_readVoid : Nat := 188
abbrev m_Pa_readEvent : Nat := 189
abbrev m_Pa_needRoom : Nat := 190
abbrev m_Pa_fail : Nat := 191
abbrev m_Pa_stands : Nat := 192
abbrev m_Pa_takeStop : Nat := 193
abbrev m_Pa_takeName : Nat := 194
abbrev m_Pa_takeNumber : Nat := 195
abbrev m_Pa_leastTime : Nat := 196
abbrev m_Pa_takeAccount : Nat := 197
abbrev m_Pa_takeNamed : Nat := 198
abbrev m_Sh_init : Nat := 199
abbrev m_Sh_retake : Nat := 200
abbrev m_Sh_letGoAbove : Nat := 201
abbrev m_Sh_leastWorth : Nat := 202
abbrev m_Sh_letGo : Nat := 203
abbrev m_Sh_latestUpTo : Nat := 204
abbrev m_Sh_nextBehind : Nat := 205
abbrev m_St_init : Nat := 206
abbrev m_St_begin : Nat := 207
abbrev m_St_replay : Nat := 208
abbrev m_St_step : Nat := 209
abbrev m_St_passesOver : Nat := 210
abbrev m_St_causeOf : Nat := 211
abbrev m_St_isTooLittle : Nat := 212
abbrev m_St_change : Nat := 213
abbrev m_St_look : Nat := 214
abbrev m_St_countAside : Nat := 215
abbrev m_St_countOpen : Nat := 216
abbrev m_St_sumBalances : Nat := 217
abbrev m_Ta_init : Nat := 218
abbrev m_Ta_clear : Nat := 219
abbrev m_Ta_restart : Nat := 220
abbrev m_Ta_putOn : Nat := 221
abbrev m_Ta_takeOff : Nat := 222
abbrev m_Ta_isCounted : Nat := 223
abbrev m_Ta_countCounted : Nat := 224
abbrev m_Ta_copyFrom : Nat := 225
abbrev m_Te_init : Nat := 226
abbrev m_Te_clear : Nat := 227
abbrev m_Te_accountNamed : Nat := 228
abbrev m_Te_tallyNamed : Nat := 229
abbrev m_Te_find : Nat := 230
abbrev m_Te_addAccount : Nat := 231
abbrev m_Te_addTally : Nat := 232
abbrev m_Te_group : Nat := 233
abbrev m_Te_countSteps : Nat := 234
abbrev m_Te_addStep : Nat := 235
abbrev m_Te_lift : Nat := 236
abbrev m_Te_takeStep : Nat := 237
abbrev m_To_init : Nat := 238
abbrev m_To_begin : Nat := 239
abbrev m_To_advance : Nat := 240
abbrev m_To_readWord : Nat := 241
abbrev m_To_readNumber : Nat := 242
abbrev m_To_isLetter : Nat := 243
abbrev m_To_isDigit : Nat := 244
abbrev m_Lw_of : Nat := 245
abbrev m_Lw_law : Nat := 246
