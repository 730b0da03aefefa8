/-! THE LAW'S BODY: its cases. -/
def LwL (i : Int) : ab_F := [some (2, -2), some (2, 0), some (2, 161), some (2, 185), some (0, i), none, none]
/-- how a case ends, where it goes on -/
def LwT (i : Int) (S : Nat) (g r : ab_H) : Nat → ab_F → List ab_V → ab_W → Prop := fun i' L' st' w' => i' = 939 ∧ (∀ (j : Nat) (v : ab_V), ab_lk (LwL i) j = some v → ab_lk L' j = some v) ∧ st' = [] ∧ ∃ g' r' : ab_H, w' = (187, S, g', r') ∧ Rel g' r' ∧ ∀ c : Int, c < 0 → g' c = g c ∧ r' c = r c
theorem lw_PB {kc km : Nat} {ac am : List ab_V} {S : Nat} {g r : ab_H} (hk : kc < 245) (h : PB kc ac km am 187 S g r) : ab_RI kc ac 187 S g r (fun x g1 r1 => ab_RI km am 187 S g1 r1 (fun y g2 r2 => x = y ∧ Rel g2 r2 ∧ ∀ c : Int, c < 0 → g2 c = g c ∧ r2 c = r c) ∧ g1 (-2) = g (-2) ∧ r1 (-2) = r (-2)) :=
  (RI_prt hk (by omega) h).mono (fun x g1 r1 h => ⟨h.1, (h.2 (-2) (Or.inl (by omega))).1, (h.2 (-2) (Or.inl (by omega))).2⟩)
theorem lw_ob0 : ab_OB 187 0 0 := ⟨by decide +kernel, by omega, by omega⟩
theorem lw_ob161 : ab_OB 187 161 9 := ⟨by decide +kernel, by omega, by omega⟩
set_option maxRecDepth 20000 in
theorem lwc_feed {S : Nat} {g r : ab_H} {i : Int} (hr : SI r) (R : Rel g r) (hI : ∀ j, I32 (g (-2) j)) (hi : 0 ≤ i ∧ i + 6 < r (-2) (-1)) : ab_Gn 246 25 (LwL i) [] (187, S, g, r) (LwT i S g r) := by
  refine Gn_pure 5 (i' := 30) (L' := LwL i) (st' := [(0, i + 1), (2, -2), (2, 0)]) rfl ?_
  refine Gn_sld rfl ⟨by omega, by omega⟩ ?_
  refine Gn_pure 4 (i' := 35) (L' := LwL i) (st' := [(0, i + 2), (2, -2), (0, g (-2) (i + 1)), (2, 0)]) rfl ?_
  refine Gn_sld rfl ⟨by omega, by omega⟩ ?_
  refine Gn_pure 4 (i' := 40) (L' := LwL i) (st' := [(0, i + 3), (2, -2), (0, g (-2) (i + 2)), (0, g (-2) (i + 1)), (2, 0)]) rfl ?_
  refine Gn_sld rfl ⟨by omega, by omega⟩ ?_
  refine Gn_pure 4 (i' := 45) (L' := LwL i) (st' := [(0, i + 4), (2, -2), (0, g (-2) (i + 3)), (0, g (-2) (i + 2)), (0, g (-2) (i + 1)), (2, 0)]) rfl ?_
  refine Gn_sld rfl ⟨by omega, by omega⟩ ?_
  refine Gn_pure 4 (i' := 50) (L' := LwL i) (st' := [(0, i + 5), (2, -2), (0, g (-2) (i + 4)), (0, g (-2) (i + 3)), (0, g (-2) (i + 2)), (0, g (-2) (i + 1)), (2, 0)]) rfl ?_
  refine Gn_sld rfl ⟨by omega, by omega⟩ ?_
  refine Gn_callI [(2, 0), (0, g (-2) (i + 1)), (0, g (-2) (i + 2)), (0, g (-2) (i + 3)), (0, g (-2) (i + 4)), (0, g (-2) (i + 5))] [] rfl rfl rfl rfl (ab_rvB_of rfl lw_ob0) ?_
  refine (lw_PB (by decide) (p_feed hr (by omega) R)).mono (fun x g1 r1 h => ?_)
  obtain ⟨h, e1, e2⟩ := h
  refine Gn_pure 5 (i' := 57) (L' := LwL i) (st' := [(0, i + 1), (2, -2), (2, 161), (0, x)]) rfl ?_
  refine Gn_sld rfl ⟨by omega, by rw [e2]; omega⟩ ?_
  rw [e1]
  refine Gn_pure 4 (i' := 62) (L' := LwL i) (st' := [(0, i + 2), (2, -2), (0, g (-2) (i + 1)), (2, 161), (0, x)]) rfl ?_
  refine Gn_sld rfl ⟨by omega, by rw [e2]; omega⟩ ?_
  rw [e1]
  refine Gn_pure 4 (i' := 67) (L' := LwL i) (st' := [(0, i + 3), (2, -2), (0, g (-2) (i + 2)), (0, g (-2) (i + 1)), (2, 161), (0, x)]) rfl ?_
  refine Gn_sld rfl ⟨by omega, by rw [e2]; omega⟩ ?_
  rw [e1]
  refine Gn_pure 4 (i' := 72) (L' := LwL i) (st' := [(0, i + 4), (2, -2), (0, g (-2) (i + 3)), (0, g (-2) (i + 2)), (0, g (-2) (i + 1)), (2, 161), (0, x)]) rfl ?_
  refine Gn_sld rfl ⟨by omega, by rw [e2]; omega⟩ ?_
  rw [e1]
  refine Gn_pure 4 (i' := 77) (L' := LwL i) (st' := [(0, i + 5), (2, -2), (0, g (-2) (i + 4)), (0, g (-2) (i + 3)), (0, g (-2) (i + 2)), (0, g (-2) (i + 1)), (2, 161), (0, x)]) rfl ?_
  refine Gn_sld rfl ⟨by omega, by rw [e2]; omega⟩ ?_
  rw [e1]
  refine Gn_callI [(2, 161), (0, g (-2) (i + 1)), (0, g (-2) (i + 2)), (0, g (-2) (i + 3)), (0, g (-2) (i + 4)), (0, g (-2) (i + 5))] [(0, x)] rfl rfl rfl rfl (ab_rvB_of rfl lw_ob161) ?_
  refine h.mono (fun y g2 r2 h2 => ?_)
  obtain ⟨rfl, R2, n2⟩ := h2
  refine Gn_ic rfl ?_
  rw [if_pos (show ab_cB 0 x x = true by simp [ab_cB])]
  exact Gn_done ⟨rfl, fun _ _ h => h, rfl, g2, r2, rfl, R2, n2⟩
set_option maxRecDepth 20000 in
theorem lwc_text {S : Nat} {g r : ab_H} {i : Int} (hr : SI r) (R : Rel g r) (hI : ∀ j, I32 (g (-2) j)) (hi : 0 ≤ i ∧ i + 6 < r (-2) (-1)) : ab_Gn 246 82 (LwL i) [] (187, S, g, r) (LwT i S g r) := by
  refine Gn_pure 5 (i' := 87) (L' := LwL i) (st' := [(0, i + 1), (2, -2), (2, 0)]) rfl ?_
  refine Gn_sld rfl ⟨by omega, by omega⟩ ?_
  refine Gn_callI [(2, 0), (0, g (-2) (i + 1))] [] rfl rfl rfl rfl (ab_rvB_of rfl lw_ob0) ?_
  refine (lw_PB (by decide) (p_text hr (by omega) (by omega) R (hI _))).mono (fun x g1 r1 h => ?_)
  obtain ⟨h, e1, e2⟩ := h
  refine Gn_pure 5 (i' := 94) (L' := LwL i) (st' := [(0, i + 1), (2, -2), (2, 161), (0, x)]) rfl ?_
  refine Gn_sld rfl ⟨by omega, by rw [e2]; omega⟩ ?_
  rw [e1]
  refine Gn_callI [(2, 161), (0, g (-2) (i + 1))] [(0, x)] rfl rfl rfl rfl (ab_rvB_of rfl lw_ob161) ?_
  refine h.mono (fun y g2 r2 h2 => ?_)
  obtain ⟨rfl, R2, n2⟩ := h2
  refine Gn_ic rfl ?_
  rw [if_pos (show ab_cB 0 x x = true by simp [ab_cB])]
  exact Gn_done ⟨rfl, fun _ _ h => h, rfl, g2, r2, rfl, R2, n2⟩
set_option maxRecDepth 20000 in
theorem lwc_fault {S : Nat} {g r : ab_H} {i : Int} (hr : SI r) (R : Rel g r) (hI : ∀ j, I32 (g (-2) j)) (hi : 0 ≤ i ∧ i + 6 < r (-2) (-1)) : ab_Gn 246 99 (LwL i) [] (187, S, g, r) (LwT i S g r) := by
  refine Gn_pure 5 (i' := 104) (L' := LwL i) (st' := [(0, i + 1), (2, -2), (2, 0)]) rfl ?_
  refine Gn_sld rfl ⟨by omega, by omega⟩ ?_
  refine Gn_callI [(2, 0), (0, g (-2) (i + 1))] [] rfl rfl rfl rfl (ab_rvB_of rfl lw_ob0) ?_
  refine (lw_PB (by decide) (PB_PA R (p_fault hr (by omega) R (hI _)))).mono (fun x g1 r1 h => ?_)
  obtain ⟨h, e1, e2⟩ := h
  refine Gn_pure 5 (i' := 111) (L' := LwL i) (st' := [(0, i + 1), (2, -2), (2, 161), (0, x)]) rfl ?_
  refine Gn_sld rfl ⟨by omega, by rw [e2]; omega⟩ ?_
  rw [e1]
  refine Gn_callI [(2, 161), (0, g (-2) (i + 1))] [(0, x)] rfl rfl rfl rfl (ab_rvB_of rfl lw_ob161) ?_
  refine h.mono (fun y g2 r2 h2 => ?_)
  obtain ⟨rfl, R2, n2⟩ := h2
  refine Gn_ic rfl ?_
  rw [if_pos (show ab_cB 0 x x = true by simp [ab_cB])]
  exact Gn_done ⟨rfl, fun _ _ h => h, rfl, g2, r2, rfl, R2, n2⟩
set_option maxRecDepth 20000 in
theorem lwc_named {S : Nat} {g r : ab_H} {i : Int} (hr : SI r) (R : Rel g r) (hI : ∀ j, I32 (g (-2) j)) (hi : 0 ≤ i ∧ i + 6 < r (-2) (-1)) : ab_Gn 246 116 (LwL i) [] (187, S, g, r) (LwT i S g r) := by
  refine Gn_pure 5 (i' := 121) (L' := LwL i) (st' := [(0, i + 1), (2, -2), (2, 0)]) rfl ?_
  refine Gn_sld rfl ⟨by omega, by omega⟩ ?_
  refine Gn_pure 4 (i' := 126) (L' := LwL i) (st' := [(0, i + 2), (2, -2), (0, g (-2) (i + 1)), (2, 0)]) rfl ?_
  refine Gn_sld rfl ⟨by omega, by omega⟩ ?_
  refine Gn_callI [(2, 0), (0, g (-2) (i + 1)), (0, g (-2) (i + 2))] [] rfl rfl rfl rfl (ab_rvB_of rfl lw_ob0) ?_
  refine (lw_PB (by decide) (PB_PA R (p_named hr (by omega) R (hI _) (hI _)))).mono (fun x g1 r1 h => ?_)
  obtain ⟨h, e1, e2⟩ := h
  refine Gn_pure 5 (i' := 133) (L' := LwL i) (st' := [(0, i + 1), (2, -2), (2, 161), (0, x)]) rfl ?_
  refine Gn_sld rfl ⟨by omega, by rw [e2]; omega⟩ ?_
  rw [e1]
  refine Gn_pure 4 (i' := 138) (L' := LwL i) (st' := [(0, i + 2), (2, -2), (0, g (-2) (i + 1)), (2, 161), (0, x)]) rfl ?_
  refine Gn_sld rfl ⟨by omega, by rw [e2]; omega⟩ ?_
  rw [e1]
  refine Gn_callI [(2, 161), (0, g (-2) (i + 1)), (0, g (-2) (i + 2))] [(0, x)] rfl rfl rfl rfl (ab_rvB_of rfl lw_ob161) ?_
  refine h.mono (fun y g2 r2 h2 => ?_)
  obtain ⟨rfl, R2, n2⟩ := h2
  refine Gn_ic rfl ?_
  rw [if_pos (show ab_cB 0 x x = true by simp [ab_cB])]
  exact Gn_done ⟨rfl, fun _ _ h => h, rfl, g2, r2, rfl, R2, n2⟩
set_option maxRecDepth 20000 in
theorem lwc_event {S : Nat} {g r : ab_H} {i : Int} (hr : SI r) (R : Rel g r) (hI : ∀ j, I32 (g (-2) j)) (hi : 0 ≤ i ∧ i + 6 < r (-2) (-1)) : ab_Gn 246 143 (LwL i) [] (187, S, g, r) (LwT i S g r) := by
  refine Gn_pure 5 (i' := 148) (L' := LwL i) (st' := [(0, i + 1), (2, -2), (2, 0)]) rfl ?_
  refine Gn_sld rfl ⟨by omega, by omega⟩ ?_
  refine Gn_pure 4 (i' := 153) (L' := LwL i) (st' := [(0, i + 2), (2, -2), (0, g (-2) (i + 1)), (2, 0)]) rfl ?_
  refine Gn_sld rfl ⟨by omega, by omega⟩ ?_
  refine Gn_pure 4 (i' := 158) (L' := LwL i) (st' := [(0, i + 3), (2, -2), (0, g (-2) (i + 2)), (0, g (-2) (i + 1)), (2, 0)]) rfl ?_
  refine Gn_sld rfl ⟨by omega, by omega⟩ ?_
  refine Gn_pure 4 (i' := 163) (L' := LwL i) (st' := [(0, i + 4), (2, -2), (0, g (-2) (i + 3)), (0, g (-2) (i + 2)), (0, g (-2) (i + 1)), (2, 0)]) rfl ?_
  refine Gn_sld rfl ⟨by omega, by omega⟩ ?_
  refine Gn_pure 4 (i' := 168) (L' := LwL i) (st' := [(0, i + 5), (2, -2), (0, g (-2) (i + 4)), (0, g (-2) (i + 3)), (0, g (-2) (i + 2)), (0, g (-2) (i + 1)), (2, 0)]) rfl ?_
  refine Gn_sld rfl ⟨by omega, by omega⟩ ?_
  refine Gn_pure 4 (i' := 173) (L' := LwL i) (st' := [(0, i + 6), (2, -2), (0, g (-2) (i + 5)), (0, g (-2) (i + 4)), (0, g (-2) (i + 3)), (0, g (-2) (i + 2)), (0, g (-2) (i + 1)), (2, 0)]) rfl ?_
  refine Gn_sld rfl ⟨by omega, by omega⟩ ?_
  refine Gn_callI [(2, 0), (0, g (-2) (i + 1)), (0, g (-2) (i + 2)), (0, g (-2) (i + 3)), (0, g (-2) (i + 4)), (0, g (-2) (i + 5)), (0, g (-2) (i + 6))] [] rfl rfl rfl rfl (ab_rvB_of rfl lw_ob0) ?_
  refine (lw_PB (by decide) (p_event hr (by omega) (by omega) R (hI _) (hI _) (hI _) (hI _) (hI _) (hI _))).mono (fun x g1 r1 h => ?_)
  obtain ⟨h, e1, e2⟩ := h
  refine Gn_pure 5 (i' := 180) (L' := LwL i) (st' := [(0, i + 1), (2, -2), (2, 161), (0, x)]) rfl ?_
  refine Gn_sld rfl ⟨by omega, by rw [e2]; omega⟩ ?_
  rw [e1]
  refine Gn_pure 4 (i' := 185) (L' := LwL i) (st' := [(0, i + 2), (2, -2), (0, g (-2) (i + 1)), (2, 161), (0, x)]) rfl ?_
  refine Gn_sld rfl ⟨by omega, by rw [e2]; omega⟩ ?_
  rw [e1]
  refine Gn_pure 4 (i' := 190) (L' := LwL i) (st' := [(0, i + 3), (2, -2), (0, g (-2) (i + 2)), (0, g (-2) (i + 1)), (2, 161), (0, x)]) rfl ?_
  refine Gn_sld rfl ⟨by omega, by rw [e2]; omega⟩ ?_
  rw [e1]
  refine Gn_pure 4 (i' := 195) (L' := LwL i) (st' := [(0, i + 4), (2, -2), (0, g (-2) (i + 3)), (0, g (-2) (i + 2)), (0, g (-2) (i + 1)), (2, 161), (0, x)]) rfl ?_
  refine Gn_sld rfl ⟨by omega, by rw [e2]; omega⟩ ?_
  rw [e1]
  refine Gn_pure 4 (i' := 200) (L' := LwL i) (st' := [(0, i + 5), (2, -2), (0, g (-2) (i + 4)), (0, g (-2) (i + 3)), (0, g (-2) (i + 2)), (0, g (-2) (i + 1)), (2, 161), (0, x)]) rfl ?_
  refine Gn_sld rfl ⟨by omega, by rw [e2]; omega⟩ ?_
  rw [e1]
  refine Gn_pure 4 (i' := 205) (L' := LwL i) (st' := [(0, i + 6), (2, -2), (0, g (-2) (i + 5)), (0, g (-2) (i + 4)), (0, g (-2) (i + 3)), (0, g (-2) (i + 2)), (0, g (-2) (i + 1)), (2, 161), (0, x)]) rfl ?_
  refine Gn_sld rfl ⟨by omega, by rw [e2]; omega⟩ ?_
  rw [e1]
  refine Gn_callI [(2, 161), (0, g (-2) (i + 1)), (0, g (-2) (i + 2)), (0, g (-2) (i + 3)), (0, g (-2) (i + 4)), (0, g (-2) (i + 5)), (0, g (-2) (i + 6))] [(0, x)] rfl rfl rfl rfl (ab_rvB_of rfl lw_ob161) ?_
  refine h.mono (fun y g2 r2 h2 => ?_)
  obtain ⟨rfl, R2, n2⟩ := h2
  refine Gn_ic rfl ?_
  rw [if_pos (show ab_cB 0 x x = true by simp [ab_cB])]
  exact Gn_done ⟨rfl, fun _ _ h => h, rfl, g2, r2, rfl, R2, n2⟩
set_option maxRecDepth 20000 in
theorem lwc_old {S : Nat} {g r : ab_H} {i : Int} (hr : SI r) (R : Rel g r) (hI : ∀ j, I32 (g (-2) j)) (hi : 0 ≤ i ∧ i + 6 < r (-2) (-1)) : ab_Gn 246 210 (LwL i) [] (187, S, g, r) (LwT i S g r) := by
  refine Gn_pure 5 (i' := 215) (L' := LwL i) (st' := [(0, i + 1), (2, -2), (2, 0)]) rfl ?_
  refine Gn_sld rfl ⟨by omega, by omega⟩ ?_
  refine Gn_pure 4 (i' := 220) (L' := LwL i) (st' := [(0, i + 2), (2, -2), (0, g (-2) (i + 1)), (2, 0)]) rfl ?_
  refine Gn_sld rfl ⟨by omega, by omega⟩ ?_
  refine Gn_pure 4 (i' := 225) (L' := LwL i) (st' := [(0, i + 3), (2, -2), (0, g (-2) (i + 2)), (0, g (-2) (i + 1)), (2, 0)]) rfl ?_
  refine Gn_sld rfl ⟨by omega, by omega⟩ ?_
  refine Gn_pure 4 (i' := 230) (L' := LwL i) (st' := [(0, i + 4), (2, -2), (0, g (-2) (i + 3)), (0, g (-2) (i + 2)), (0, g (-2) (i + 1)), (2, 0)]) rfl ?_
  refine Gn_sld rfl ⟨by omega, by omega⟩ ?_
  refine Gn_pure 4 (i' := 235) (L' := LwL i) (st' := [(0, i + 5), (2, -2), (0, g (-2) (i + 4)), (0, g (-2) (i + 3)), (0, g (-2) (i + 2)), (0, g (-2) (i + 1)), (2, 0)]) rfl ?_
  refine Gn_sld rfl ⟨by omega, by omega⟩ ?_
  refine Gn_callI [(2, 0), (0, g (-2) (i + 1)), (0, g (-2) (i + 2)), (0, g (-2) (i + 3)), (0, g (-2) (i + 4)), (0, g (-2) (i + 5))] [] rfl rfl rfl rfl (ab_rvB_of rfl lw_ob0) ?_
  refine (lw_PB (by decide) (p_old hr (by omega) (by omega) R (hI _) (hI _) (hI _) (hI _) (hI _))).mono (fun x g1 r1 h => ?_)
  obtain ⟨h, e1, e2⟩ := h
  refine Gn_pure 5 (i' := 242) (L' := LwL i) (st' := [(0, i + 1), (2, -2), (2, 161), (0, x)]) rfl ?_
  refine Gn_sld rfl ⟨by omega, by rw [e2]; omega⟩ ?_
  rw [e1]
  refine Gn_pure 4 (i' := 247) (L' := LwL i) (st' := [(0, i + 2), (2, -2), (0, g (-2) (i + 1)), (2, 161), (0, x)]) rfl ?_
  refine Gn_sld rfl ⟨by omega, by rw [e2]; omega⟩ ?_
  rw [e1]
  refine Gn_pure 4 (i' := 252) (L' := LwL i) (st' := [(0, i + 3), (2, -2), (0, g (-2) (i + 2)), (0, g (-2) (i + 1)), (2, 161), (0, x)]) rfl ?_
  refine Gn_sld rfl ⟨by omega, by rw [e2]; omega⟩ ?_
  rw [e1]
  refine Gn_pure 4 (i' := 257) (L' := LwL i) (st' := [(0, i + 4), (2, -2), (0, g (-2) (i + 3)), (0, g (-2) (i + 2)), (0, g (-2) (i + 1)), (2, 161), (0, x)]) rfl ?_
  refine Gn_sld rfl ⟨by omega, by rw [e2]; omega⟩ ?_
  rw [e1]
  refine Gn_pure 4 (i' := 262) (L' := LwL i) (st' := [(0, i + 5), (2, -2), (0, g (-2) (i + 4)), (0, g (-2) (i + 3)), (0, g (-2) (i + 2)), (0, g (-2) (i + 1)), (2, 161), (0, x)]) rfl ?_
  refine Gn_sld rfl ⟨by omega, by rw [e2]; omega⟩ ?_
  rw [e1]
  refine Gn_callI [(2, 161), (0, g (-2) (i + 1)), (0, g (-2) (i + 2)), (0, g (-2) (i + 3)), (0, g (-2) (i + 4)), (0, g (-2) (i + 5))] [(0, x)] rfl rfl rfl rfl (ab_rvB_of rfl lw_ob161) ?_
  refine h.mono (fun y g2 r2 h2 => ?_)
  obtain ⟨rfl, R2, n2⟩ := h2
  refine Gn_ic rfl ?_
  rw [if_pos (show ab_cB 0 x x = true by simp [ab_cB])]
  exact Gn_done ⟨rfl, fun _ _ h => h, rfl, g2, r2, rfl, R2, n2⟩
set_option maxRecDepth 20000 in
theorem lwc_revoke {S : Nat} {g r : ab_H} {i : Int} (hr : SI r) (R : Rel g r) (hI : ∀ j, I32 (g (-2) j)) (hi : 0 ≤ i ∧ i + 6 < r (-2) (-1)) : ab_Gn 246 267 (LwL i) [] (187, S, g, r) (LwT i S g r) := by
  refine Gn_pure 5 (i' := 272) (L' := LwL i) (st' := [(0, i + 1), (2, -2), (2, 0)]) rfl ?_
  refine Gn_sld rfl ⟨by omega, by omega⟩ ?_
  refine Gn_pure 4 (i' := 277) (L' := LwL i) (st' := [(0, i + 2), (2, -2), (0, g (-2) (i + 1)), (2, 0)]) rfl ?_
  refine Gn_sld rfl ⟨by omega, by omega⟩ ?_
  refine Gn_callI [(2, 0), (0, g (-2) (i + 1)), (0, g (-2) (i + 2))] [] rfl rfl rfl rfl (ab_rvB_of rfl lw_ob0) ?_
  refine (lw_PB (by decide) (p_revoke hr (by omega) (by omega) R (hI _) (hI _))).mono (fun x g1 r1 h => ?_)
  obtain ⟨h, e1, e2⟩ := h
  refine Gn_pure 5 (i' := 284) (L' := LwL i) (st' := [(0, i + 1), (2, -2), (2, 161), (0, x)]) rfl ?_
  refine Gn_sld rfl ⟨by omega, by rw [e2]; omega⟩ ?_
  rw [e1]
  refine Gn_pure 4 (i' := 289) (L' := LwL i) (st' := [(0, i + 2), (2, -2), (0, g (-2) (i + 1)), (2, 161), (0, x)]) rfl ?_
  refine Gn_sld rfl ⟨by omega, by rw [e2]; omega⟩ ?_
  rw [e1]
  refine Gn_callI [(2, 161), (0, g (-2) (i + 1)), (0, g (-2) (i + 2))] [(0, x)] rfl rfl rfl rfl (ab_rvB_of rfl lw_ob161) ?_
  refine h.mono (fun y g2 r2 h2 => ?_)
  obtain ⟨rfl, R2, n2⟩ := h2
  refine Gn_ic rfl ?_
  rw [if_pos (show ab_cB 0 x x = true by simp [ab_cB])]
  exact Gn_done ⟨rfl, fun _ _ h => h, rfl, g2, r2, rfl, R2, n2⟩
set_option maxRecDepth 20000 in
theorem lwc_field {S : Nat} {g r : ab_H} {i : Int} (hr : SI r) (R : Rel g r) (hI : ∀ j, I32 (g (-2) j)) (hi : 0 ≤ i ∧ i + 6 < r (-2) (-1)) : ab_Gn 246 339 (LwL i) [] (187, S, g, r) (LwT i S g r) := by
  by_cases hb : wr (g (-2) (i + 3)) = wr 0
  · refine Gn_pure 5 (i' := 344) (L' := LwL i) (st' := [(0, i + 1), (2, -2), (2, 0)]) rfl ?_
    refine Gn_sld rfl ⟨by omega, by omega⟩ ?_
    refine Gn_pure 4 (i' := 349) (L' := LwL i) (st' := [(0, i + 2), (2, -2), (0, g (-2) (i + 1)), (2, 0)]) rfl ?_
    refine Gn_sld rfl ⟨by omega, by omega⟩ ?_
    refine Gn_pure 4 (i' := 354) (L' := LwL i) (st' := [(0, i + 3), (2, -2), (0, g (-2) (i + 2)), (0, g (-2) (i + 1)), (2, 0)]) rfl ?_
    refine Gn_sld rfl ⟨by omega, by omega⟩ ?_
    refine Gn_if rfl ?_
    rw [if_pos (show ab_cB 0 (g (-2) (i + 3)) 0 = true by simp [ab_cB, hb])]
    refine Gn_pure 1 (i' := 359) (L' := LwL i) (st' := [(0, 0), (0, g (-2) (i + 2)), (0, g (-2) (i + 1)), (2, 0)]) rfl ?_
    refine Gn_callI [(2, 0), (0, g (-2) (i + 1)), (0, g (-2) (i + 2)), (0, 0)] [] rfl rfl rfl rfl (ab_rvB_of rfl lw_ob0) ?_
    refine (lw_PB (by decide) (PB_PA R (p_field hr (by omega) R (hI _) (hI _) (Or.inl rfl)))).mono (fun x g1 r1 h => ?_)
    obtain ⟨h, e1, e2⟩ := h
    refine Gn_pure 5 (i' := 365) (L' := LwL i) (st' := [(0, i + 1), (2, -2), (2, 161), (0, x)]) rfl ?_
    refine Gn_sld rfl ⟨by omega, by rw [e2]; omega⟩ ?_
    rw [e1]
    refine Gn_pure 4 (i' := 370) (L' := LwL i) (st' := [(0, i + 2), (2, -2), (0, g (-2) (i + 1)), (2, 161), (0, x)]) rfl ?_
    refine Gn_sld rfl ⟨by omega, by rw [e2]; omega⟩ ?_
    rw [e1]
    refine Gn_pure 4 (i' := 375) (L' := LwL i) (st' := [(0, i + 3), (2, -2), (0, g (-2) (i + 2)), (0, g (-2) (i + 1)), (2, 161), (0, x)]) rfl ?_
    refine Gn_sld rfl ⟨by omega, by rw [e2]; omega⟩ ?_
    rw [e1]
    refine Gn_if rfl ?_
    rw [if_pos (show ab_cB 0 (g (-2) (i + 3)) 0 = true by simp [ab_cB, hb])]
    refine Gn_pure 1 (i' := 380) (L' := LwL i) (st' := [(0, 0), (0, g (-2) (i + 2)), (0, g (-2) (i + 1)), (2, 161), (0, x)]) rfl ?_
    refine Gn_callI [(2, 161), (0, g (-2) (i + 1)), (0, g (-2) (i + 2)), (0, 0)] [(0, x)] rfl rfl rfl rfl (ab_rvB_of rfl lw_ob161) ?_
    refine h.mono (fun y g2 r2 h2 => ?_)
    obtain ⟨rfl, R2, n2⟩ := h2
    refine Gn_ic rfl ?_
    rw [if_pos (show ab_cB 0 x x = true by simp [ab_cB])]
    exact Gn_done ⟨rfl, fun _ _ h => h, rfl, g2, r2, rfl, R2, n2⟩
  · refine Gn_pure 5 (i' := 344) (L' := LwL i) (st' := [(0, i + 1), (2, -2), (2, 0)]) rfl ?_
    refine Gn_sld rfl ⟨by omega, by omega⟩ ?_
    refine Gn_pure 4 (i' := 349) (L' := LwL i) (st' := [(0, i + 2), (2, -2), (0, g (-2) (i + 1)), (2, 0)]) rfl ?_
    refine Gn_sld rfl ⟨by omega, by omega⟩ ?_
    refine Gn_pure 4 (i' := 354) (L' := LwL i) (st' := [(0, i + 3), (2, -2), (0, g (-2) (i + 2)), (0, g (-2) (i + 1)), (2, 0)]) rfl ?_
    refine Gn_sld rfl ⟨by omega, by omega⟩ ?_
    refine Gn_if rfl ?_
    rw [if_neg (show ¬ ab_cB 0 (g (-2) (i + 3)) 0 = true by simp [ab_cB, hb])]
    refine Gn_pure 2 (i' := 359) (L' := LwL i) (st' := [(0, 1), (0, g (-2) (i + 2)), (0, g (-2) (i + 1)), (2, 0)]) rfl ?_
    refine Gn_callI [(2, 0), (0, g (-2) (i + 1)), (0, g (-2) (i + 2)), (0, 1)] [] rfl rfl rfl rfl (ab_rvB_of rfl lw_ob0) ?_
    refine (lw_PB (by decide) (PB_PA R (p_field hr (by omega) R (hI _) (hI _) (Or.inr rfl)))).mono (fun x g1 r1 h => ?_)
    obtain ⟨h, e1, e2⟩ := h
    refine Gn_pure 5 (i' := 365) (L' := LwL i) (st' := [(0, i + 1), (2, -2), (2, 161), (0, x)]) rfl ?_
    refine Gn_sld rfl ⟨by omega, by rw [e2]; omega⟩ ?_
    rw [e1]
    refine Gn_pure 4 (i' := 370) (L' := LwL i) (st' := [(0, i + 2), (2, -2), (0, g (-2) (i + 1)), (2, 161), (0, x)]) rfl ?_
    refine Gn_sld rfl ⟨by omega, by rw [e2]; omega⟩ ?_
    rw [e1]
    refine Gn_pure 4 (i' := 375) (L' := LwL i) (st' := [(0, i + 3), (2, -2), (0, g (-2) (i + 2)), (0, g (-2) (i + 1)), (2, 161), (0, x)]) rfl ?_
    refine Gn_sld rfl ⟨by omega, by rw [e2]; omega⟩ ?_
    rw [e1]
    refine Gn_if rfl ?_
    rw [if_neg (show ¬ ab_cB 0 (g (-2) (i + 3)) 0 = true by simp [ab_cB, hb])]
    refine Gn_pure 2 (i' := 380) (L' := LwL i) (st' := [(0, 1), (0, g (-2) (i + 2)), (0, g (-2) (i + 1)), (2, 161), (0, x)]) rfl ?_
    refine Gn_callI [(2, 161), (0, g (-2) (i + 1)), (0, g (-2) (i + 2)), (0, 1)] [(0, x)] rfl rfl rfl rfl (ab_rvB_of rfl lw_ob161) ?_
    refine h.mono (fun y g2 r2 h2 => ?_)
    obtain ⟨rfl, R2, n2⟩ := h2
    refine Gn_ic rfl ?_
    rw [if_pos (show ab_cB 0 x x = true by simp [ab_cB])]
    exact Gn_done ⟨rfl, fun _ _ h => h, rfl, g2, r2, rfl, R2, n2⟩
set_option maxRecDepth 20000 in
theorem lwc_account {S : Nat} {g r : ab_H} {i : Int} (hr : SI r) (R : Rel g r) (hI : ∀ j, I32 (g (-2) j)) (hi : 0 ≤ i ∧ i + 6 < r (-2) (-1)) : ab_Gn 246 384 (LwL i) [] (187, S, g, r) (LwT i S g r) := by
  refine Gn_pure 5 (i' := 389) (L' := LwL i) (st' := [(0, i + 1), (2, -2), (2, 0)]) rfl ?_
  refine Gn_sld rfl ⟨by omega, by omega⟩ ?_
  refine Gn_pure 4 (i' := 394) (L' := LwL i) (st' := [(0, i + 2), (2, -2), (0, g (-2) (i + 1)), (2, 0)]) rfl ?_
  refine Gn_sld rfl ⟨by omega, by omega⟩ ?_
  refine Gn_callI [(2, 0), (0, g (-2) (i + 1)), (0, g (-2) (i + 2))] [] rfl rfl rfl rfl (ab_rvB_of rfl lw_ob0) ?_
  refine (lw_PB (by decide) (PB_PA R (p_account hr (by omega) R (hI _) (hI _)))).mono (fun x g1 r1 h => ?_)
  obtain ⟨h, e1, e2⟩ := h
  refine Gn_pure 5 (i' := 401) (L' := LwL i) (st' := [(0, i + 1), (2, -2), (2, 161), (0, x)]) rfl ?_
  refine Gn_sld rfl ⟨by omega, by rw [e2]; omega⟩ ?_
  rw [e1]
  refine Gn_pure 4 (i' := 406) (L' := LwL i) (st' := [(0, i + 2), (2, -2), (0, g (-2) (i + 1)), (2, 161), (0, x)]) rfl ?_
  refine Gn_sld rfl ⟨by omega, by rw [e2]; omega⟩ ?_
  rw [e1]
  refine Gn_callI [(2, 161), (0, g (-2) (i + 1)), (0, g (-2) (i + 2))] [(0, x)] rfl rfl rfl rfl (ab_rvB_of rfl lw_ob161) ?_
  refine h.mono (fun y g2 r2 h2 => ?_)
  obtain ⟨rfl, R2, n2⟩ := h2
  refine Gn_ic rfl ?_
  rw [if_pos (show ab_cB 0 x x = true by simp [ab_cB])]
  exact Gn_done ⟨rfl, fun _ _ h => h, rfl, g2, r2, rfl, R2, n2⟩
set_option maxRecDepth 20000 in
theorem lwc_at {S : Nat} {g r : ab_H} {i : Int} (hr : SI r) (R : Rel g r) (hI : ∀ j, I32 (g (-2) j)) (hi : 0 ≤ i ∧ i + 6 < r (-2) (-1)) : ab_Gn 246 411 (LwL i) [] (187, S, g, r) (LwT i S g r) := by
  refine Gn_pure 5 (i' := 416) (L' := LwL i) (st' := [(0, i + 1), (2, -2), (2, 0)]) rfl ?_
  refine Gn_sld rfl ⟨by omega, by omega⟩ ?_
  refine Gn_pure 4 (i' := 421) (L' := LwL i) (st' := [(0, i + 2), (2, -2), (0, g (-2) (i + 1)), (2, 0)]) rfl ?_
  refine Gn_sld rfl ⟨by omega, by omega⟩ ?_
  refine Gn_pure 4 (i' := 426) (L' := LwL i) (st' := [(0, i + 3), (2, -2), (0, g (-2) (i + 2)), (0, g (-2) (i + 1)), (2, 0)]) rfl ?_
  refine Gn_sld rfl ⟨by omega, by omega⟩ ?_
  refine Gn_callI [(2, 0), (0, g (-2) (i + 1)), (0, g (-2) (i + 2)), (0, g (-2) (i + 3))] [] rfl rfl rfl rfl (ab_rvB_of rfl lw_ob0) ?_
  refine (lw_PB (by decide) (PB_PA R (p_at hr (by omega) R (hI _) (hI _) (hI _)))).mono (fun x g1 r1 h => ?_)
  obtain ⟨h, e1, e2⟩ := h
  refine Gn_pure 5 (i' := 433) (L' := LwL i) (st' := [(0, i + 1), (2, -2), (2, 161), (0, x)]) rfl ?_
  refine Gn_sld rfl ⟨by omega, by rw [e2]; omega⟩ ?_
  rw [e1]
  refine Gn_pure 4 (i' := 438) (L' := LwL i) (st' := [(0, i + 2), (2, -2), (0, g (-2) (i + 1)), (2, 161), (0, x)]) rfl ?_
  refine Gn_sld rfl ⟨by omega, by rw [e2]; omega⟩ ?_
  rw [e1]
  refine Gn_pure 4 (i' := 443) (L' := LwL i) (st' := [(0, i + 3), (2, -2), (0, g (-2) (i + 2)), (0, g (-2) (i + 1)), (2, 161), (0, x)]) rfl ?_
  refine Gn_sld rfl ⟨by omega, by rw [e2]; omega⟩ ?_
  rw [e1]
  refine Gn_callI [(2, 161), (0, g (-2) (i + 1)), (0, g (-2) (i + 2)), (0, g (-2) (i + 3))] [(0, x)] rfl rfl rfl rfl (ab_rvB_of rfl lw_ob161) ?_
  refine h.mono (fun y g2 r2 h2 => ?_)
  obtain ⟨rfl, R2, n2⟩ := h2
  refine Gn_ic rfl ?_
  rw [if_pos (show ab_cB 0 x x = true by simp [ab_cB])]
  exact Gn_done ⟨rfl, fun _ _ h => h, rfl, g2, r2, rfl, R2, n2⟩
set_option maxRecDepth 20000 in
theorem lwc_known {S : Nat} {g r : ab_H} {i : Int} (hr : SI r) (R : Rel g r) (hI : ∀ j, I32 (g (-2) j)) (hi : 0 ≤ i ∧ i + 6 < r (-2) (-1)) : ab_Gn 246 448 (LwL i) [] (187, S, g, r) (LwT i S g r) := by
  refine Gn_pure 5 (i' := 453) (L' := LwL i) (st' := [(0, i + 1), (2, -2), (2, 0)]) rfl ?_
  refine Gn_sld rfl ⟨by omega, by omega⟩ ?_
  refine Gn_pure 4 (i' := 458) (L' := LwL i) (st' := [(0, i + 2), (2, -2), (0, g (-2) (i + 1)), (2, 0)]) rfl ?_
  refine Gn_sld rfl ⟨by omega, by omega⟩ ?_
  refine Gn_pure 4 (i' := 463) (L' := LwL i) (st' := [(0, i + 3), (2, -2), (0, g (-2) (i + 2)), (0, g (-2) (i + 1)), (2, 0)]) rfl ?_
  refine Gn_sld rfl ⟨by omega, by omega⟩ ?_
  refine Gn_callI [(2, 0), (0, g (-2) (i + 1)), (0, g (-2) (i + 2)), (0, g (-2) (i + 3))] [] rfl rfl rfl rfl (ab_rvB_of rfl lw_ob0) ?_
  refine (lw_PB (by decide) (PB_PA R (p_known hr (by omega) R (hI _) (hI _) (hI _)))).mono (fun x g1 r1 h => ?_)
  obtain ⟨h, e1, e2⟩ := h
  refine Gn_pure 5 (i' := 470) (L' := LwL i) (st' := [(0, i + 1), (2, -2), (2, 161), (0, x)]) rfl ?_
  refine Gn_sld rfl ⟨by omega, by rw [e2]; omega⟩ ?_
  rw [e1]
  refine Gn_pure 4 (i' := 475) (L' := LwL i) (st' := [(0, i + 2), (2, -2), (0, g (-2) (i + 1)), (2, 161), (0, x)]) rfl ?_
  refine Gn_sld rfl ⟨by omega, by rw [e2]; omega⟩ ?_
  rw [e1]
  refine Gn_pure 4 (i' := 480) (L' := LwL i) (st' := [(0, i + 3), (2, -2), (0, g (-2) (i + 2)), (0, g (-2) (i + 1)), (2, 161), (0, x)]) rfl ?_
  refine Gn_sld rfl ⟨by omega, by rw [e2]; omega⟩ ?_
  rw [e1]
  refine Gn_callI [(2, 161), (0, g (-2) (i + 1)), (0, g (-2) (i + 2)), (0, g (-2) (i + 3))] [(0, x)] rfl rfl rfl rfl (ab_rvB_of rfl lw_ob161) ?_
  refine h.mono (fun y g2 r2 h2 => ?_)
  obtain ⟨rfl, R2, n2⟩ := h2
  refine Gn_ic rfl ?_
  rw [if_pos (show ab_cB 0 x x = true by simp [ab_cB])]
  exact Gn_done ⟨rfl, fun _ _ h => h, rfl, g2, r2, rfl, R2, n2⟩
set_option maxRecDepth 20000 in
theorem lwc_cost {S : Nat} {g r : ab_H} {i : Int} (hr : SI r) (R : Rel g r) (hI : ∀ j, I32 (g (-2) j)) (hi : 0 ≤ i ∧ i + 6 < r (-2) (-1)) : ab_Gn 246 485 (LwL i) [] (187, S, g, r) (LwT i S g r) := by
  refine Gn_pure 5 (i' := 490) (L' := LwL i) (st' := [(0, i + 1), (2, -2), (2, 0)]) rfl ?_
  refine Gn_sld rfl ⟨by omega, by omega⟩ ?_
  refine Gn_callI [(2, 0), (0, g (-2) (i + 1))] [] rfl rfl rfl rfl (ab_rvB_of rfl lw_ob0) ?_
  refine (lw_PB (by decide) (PB_PA R (p_cost hr (by omega) R (hI _)))).mono (fun x g1 r1 h => ?_)
  obtain ⟨h, e1, e2⟩ := h
  refine Gn_pure 5 (i' := 497) (L' := LwL i) (st' := [(0, i + 1), (2, -2), (2, 161), (0, x)]) rfl ?_
  refine Gn_sld rfl ⟨by omega, by rw [e2]; omega⟩ ?_
  rw [e1]
  refine Gn_callI [(2, 161), (0, g (-2) (i + 1))] [(0, x)] rfl rfl rfl rfl (ab_rvB_of rfl lw_ob161) ?_
  refine h.mono (fun y g2 r2 h2 => ?_)
  obtain ⟨rfl, R2, n2⟩ := h2
  refine Gn_ic rfl ?_
  rw [if_pos (show ab_cB 0 x x = true by simp [ab_cB])]
  exact Gn_done ⟨rfl, fun _ _ h => h, rfl, g2, r2, rfl, R2, n2⟩
set_option maxRecDepth 20000 in
theorem lwc_costAt {S : Nat} {g r : ab_H} {i : Int} (hr : SI r) (R : Rel g r) (hI : ∀ j, I32 (g (-2) j)) (hi : 0 ≤ i ∧ i + 6 < r (-2) (-1)) : ab_Gn 246 502 (LwL i) [] (187, S, g, r) (LwT i S g r) := by
  refine Gn_pure 5 (i' := 507) (L' := LwL i) (st' := [(0, i + 1), (2, -2), (2, 0)]) rfl ?_
  refine Gn_sld rfl ⟨by omega, by omega⟩ ?_
  refine Gn_callI [(2, 0), (0, g (-2) (i + 1))] [] rfl rfl rfl rfl (ab_rvB_of rfl lw_ob0) ?_
  refine (lw_PB (by decide) (PB_PA R (p_costAt hr (by omega) R (hI _)))).mono (fun x g1 r1 h => ?_)
  obtain ⟨h, e1, e2⟩ := h
  refine Gn_pure 5 (i' := 514) (L' := LwL i) (st' := [(0, i + 1), (2, -2), (2, 161), (0, x)]) rfl ?_
  refine Gn_sld rfl ⟨by omega, by rw [e2]; omega⟩ ?_
  rw [e1]
  refine Gn_callI [(2, 161), (0, g (-2) (i + 1))] [(0, x)] rfl rfl rfl rfl (ab_rvB_of rfl lw_ob161) ?_
  refine h.mono (fun y g2 r2 h2 => ?_)
  obtain ⟨rfl, R2, n2⟩ := h2
  refine Gn_ic rfl ?_
  rw [if_pos (show ab_cB 0 x x = true by simp [ab_cB])]
  exact Gn_done ⟨rfl, fun _ _ h => h, rfl, g2, r2, rfl, R2, n2⟩
set_option maxRecDepth 20000 in
theorem lwc_snapshot {S : Nat} {g r : ab_H} {i : Int} (hr : SI r) (R : Rel g r) (hI : ∀ j, I32 (g (-2) j)) (hi : 0 ≤ i ∧ i + 6 < r (-2) (-1)) : ab_Gn 246 519 (LwL i) [] (187, S, g, r) (LwT i S g r) := by
  refine Gn_pure 5 (i' := 524) (L' := LwL i) (st' := [(0, i + 1), (2, -2), (2, 0)]) rfl ?_
  refine Gn_sld rfl ⟨by omega, by omega⟩ ?_
  refine Gn_callI [(2, 0), (0, g (-2) (i + 1))] [] rfl rfl rfl rfl (ab_rvB_of rfl lw_ob0) ?_
  refine (lw_PB (by decide) (PB_PA R (p_snapshot hr (by omega) R (hI _)))).mono (fun x g1 r1 h => ?_)
  obtain ⟨h, e1, e2⟩ := h
  refine Gn_pure 5 (i' := 531) (L' := LwL i) (st' := [(0, i + 1), (2, -2), (2, 161), (0, x)]) rfl ?_
  refine Gn_sld rfl ⟨by omega, by rw [e2]; omega⟩ ?_
  rw [e1]
  refine Gn_callI [(2, 161), (0, g (-2) (i + 1))] [(0, x)] rfl rfl rfl rfl (ab_rvB_of rfl lw_ob161) ?_
  refine h.mono (fun y g2 r2 h2 => ?_)
  obtain ⟨rfl, R2, n2⟩ := h2
  refine Gn_ic rfl ?_
  rw [if_pos (show ab_cB 0 x x = true by simp [ab_cB])]
  exact Gn_done ⟨rfl, fun _ _ h => h, rfl, g2, r2, rfl, R2, n2⟩
set_option maxRecDepth 20000 in
theorem lwc_inSnapshot {S : Nat} {g r : ab_H} {i : Int} (hr : SI r) (R : Rel g r) (hI : ∀ j, I32 (g (-2) j)) (hi : 0 ≤ i ∧ i + 6 < r (-2) (-1)) : ab_Gn 246 536 (LwL i) [] (187, S, g, r) (LwT i S g r) := by
  refine Gn_pure 5 (i' := 541) (L' := LwL i) (st' := [(0, i + 1), (2, -2), (2, 0)]) rfl ?_
  refine Gn_sld rfl ⟨by omega, by omega⟩ ?_
  refine Gn_pure 4 (i' := 546) (L' := LwL i) (st' := [(0, i + 2), (2, -2), (0, g (-2) (i + 1)), (2, 0)]) rfl ?_
  refine Gn_sld rfl ⟨by omega, by omega⟩ ?_
  refine Gn_pure 4 (i' := 551) (L' := LwL i) (st' := [(0, i + 3), (2, -2), (0, g (-2) (i + 2)), (0, g (-2) (i + 1)), (2, 0)]) rfl ?_
  refine Gn_sld rfl ⟨by omega, by omega⟩ ?_
  refine Gn_callI [(2, 0), (0, g (-2) (i + 1)), (0, g (-2) (i + 2)), (0, g (-2) (i + 3))] [] rfl rfl rfl rfl (ab_rvB_of rfl lw_ob0) ?_
  refine (lw_PB (by decide) (PB_PA R (p_inSnapshot hr (by omega) R (hI _) (hI _) (hI _)))).mono (fun x g1 r1 h => ?_)
  obtain ⟨h, e1, e2⟩ := h
  refine Gn_pure 5 (i' := 558) (L' := LwL i) (st' := [(0, i + 1), (2, -2), (2, 161), (0, x)]) rfl ?_
  refine Gn_sld rfl ⟨by omega, by rw [e2]; omega⟩ ?_
  rw [e1]
  refine Gn_pure 4 (i' := 563) (L' := LwL i) (st' := [(0, i + 2), (2, -2), (0, g (-2) (i + 1)), (2, 161), (0, x)]) rfl ?_
  refine Gn_sld rfl ⟨by omega, by rw [e2]; omega⟩ ?_
  rw [e1]
  refine Gn_pure 4 (i' := 568) (L' := LwL i) (st' := [(0, i + 3), (2, -2), (0, g (-2) (i + 2)), (0, g (-2) (i + 1)), (2, 161), (0, x)]) rfl ?_
  refine Gn_sld rfl ⟨by omega, by rw [e2]; omega⟩ ?_
  rw [e1]
  refine Gn_callI [(2, 161), (0, g (-2) (i + 1)), (0, g (-2) (i + 2)), (0, g (-2) (i + 3))] [(0, x)] rfl rfl rfl rfl (ab_rvB_of rfl lw_ob161) ?_
  refine h.mono (fun y g2 r2 h2 => ?_)
  obtain ⟨rfl, R2, n2⟩ := h2
  refine Gn_ic rfl ?_
  rw [if_pos (show ab_cB 0 x x = true by simp [ab_cB])]
  exact Gn_done ⟨rfl, fun _ _ h => h, rfl, g2, r2, rfl, R2, n2⟩
set_option maxRecDepth 20000 in
theorem lwc_bestPlace {S : Nat} {g r : ab_H} {i : Int} (hr : SI r) (R : Rel g r) (hI : ∀ j, I32 (g (-2) j)) (hi : 0 ≤ i ∧ i + 6 < r (-2) (-1)) : ab_Gn 246 573 (LwL i) [] (187, S, g, r) (LwT i S g r) := by
  refine Gn_pure 5 (i' := 578) (L' := LwL i) (st' := [(0, i + 1), (2, -2), (2, 0)]) rfl ?_
  refine Gn_sld rfl ⟨by omega, by omega⟩ ?_
  refine Gn_callI [(2, 0), (0, g (-2) (i + 1))] [] rfl rfl rfl rfl (ab_rvB_of rfl lw_ob0) ?_
  refine (lw_PB (by decide) (PB_PA R (p_bestPlace hr (by omega) R (hI _)))).mono (fun x g1 r1 h => ?_)
  obtain ⟨h, e1, e2⟩ := h
  refine Gn_pure 5 (i' := 585) (L' := LwL i) (st' := [(0, i + 1), (2, -2), (2, 161), (0, x)]) rfl ?_
  refine Gn_sld rfl ⟨by omega, by rw [e2]; omega⟩ ?_
  rw [e1]
  refine Gn_callI [(2, 161), (0, g (-2) (i + 1))] [(0, x)] rfl rfl rfl rfl (ab_rvB_of rfl lw_ob161) ?_
  refine h.mono (fun y g2 r2 h2 => ?_)
  obtain ⟨rfl, R2, n2⟩ := h2
  refine Gn_ic rfl ?_
  rw [if_pos (show ab_cB 0 x x = true by simp [ab_cB])]
  exact Gn_done ⟨rfl, fun _ _ h => h, rfl, g2, r2, rfl, R2, n2⟩
set_option maxRecDepth 20000 in
theorem lwc_aside {S : Nat} {g r : ab_H} {i : Int} (hr : SI r) (R : Rel g r) (hI : ∀ j, I32 (g (-2) j)) (hi : 0 ≤ i ∧ i + 6 < r (-2) (-1)) : ab_Gn 246 590 (LwL i) [] (187, S, g, r) (LwT i S g r) := by
  refine Gn_pure 5 (i' := 595) (L' := LwL i) (st' := [(0, i + 1), (2, -2), (2, 0)]) rfl ?_
  refine Gn_sld rfl ⟨by omega, by omega⟩ ?_
  refine Gn_callI [(2, 0), (0, g (-2) (i + 1))] [] rfl rfl rfl rfl (ab_rvB_of rfl lw_ob0) ?_
  refine (lw_PB (by decide) (PB_PA R (p_aside hr (by omega) R (hI _)))).mono (fun x g1 r1 h => ?_)
  obtain ⟨h, e1, e2⟩ := h
  refine Gn_pure 5 (i' := 602) (L' := LwL i) (st' := [(0, i + 1), (2, -2), (2, 161), (0, x)]) rfl ?_
  refine Gn_sld rfl ⟨by omega, by rw [e2]; omega⟩ ?_
  rw [e1]
  refine Gn_callI [(2, 161), (0, g (-2) (i + 1))] [(0, x)] rfl rfl rfl rfl (ab_rvB_of rfl lw_ob161) ?_
  refine h.mono (fun y g2 r2 h2 => ?_)
  obtain ⟨rfl, R2, n2⟩ := h2
  refine Gn_ic rfl ?_
  rw [if_pos (show ab_cB 0 x x = true by simp [ab_cB])]
  exact Gn_done ⟨rfl, fun _ _ h => h, rfl, g2, r2, rfl, R2, n2⟩
set_option maxRecDepth 20000 in
theorem lwc_blame {S : Nat} {g r : ab_H} {i : Int} (hr : SI r) (R : Rel g r) (hI : ∀ j, I32 (g (-2) j)) (hi : 0 ≤ i ∧ i + 6 < r (-2) (-1)) : ab_Gn 246 607 (LwL i) [] (187, S, g, r) (LwT i S g r) := by
  refine Gn_pure 5 (i' := 612) (L' := LwL i) (st' := [(0, i + 1), (2, -2), (2, 0)]) rfl ?_
  refine Gn_sld rfl ⟨by omega, by omega⟩ ?_
  refine Gn_callI [(2, 0), (0, g (-2) (i + 1))] [] rfl rfl rfl rfl (ab_rvB_of rfl lw_ob0) ?_
  refine (lw_PB (by decide) (PB_PA R (p_blame hr (by omega) R (hI _)))).mono (fun x g1 r1 h => ?_)
  obtain ⟨h, e1, e2⟩ := h
  refine Gn_pure 5 (i' := 619) (L' := LwL i) (st' := [(0, i + 1), (2, -2), (2, 161), (0, x)]) rfl ?_
  refine Gn_sld rfl ⟨by omega, by rw [e2]; omega⟩ ?_
  rw [e1]
  refine Gn_callI [(2, 161), (0, g (-2) (i + 1))] [(0, x)] rfl rfl rfl rfl (ab_rvB_of rfl lw_ob161) ?_
  refine h.mono (fun y g2 r2 h2 => ?_)
  obtain ⟨rfl, R2, n2⟩ := h2
  refine Gn_ic rfl ?_
  rw [if_pos (show ab_cB 0 x x = true by simp [ab_cB])]
  exact Gn_done ⟨rfl, fun _ _ h => h, rfl, g2, r2, rfl, R2, n2⟩
set_option maxRecDepth 20000 in
theorem lwc_without {S : Nat} {g r : ab_H} {i : Int} (hr : SI r) (R : Rel g r) (hI : ∀ j, I32 (g (-2) j)) (hi : 0 ≤ i ∧ i + 6 < r (-2) (-1)) : ab_Gn 246 624 (LwL i) [] (187, S, g, r) (LwT i S g r) := by
  refine Gn_pure 5 (i' := 629) (L' := LwL i) (st' := [(0, i + 1), (2, -2), (2, 0)]) rfl ?_
  refine Gn_sld rfl ⟨by omega, by omega⟩ ?_
  refine Gn_pure 4 (i' := 634) (L' := LwL i) (st' := [(0, i + 2), (2, -2), (0, g (-2) (i + 1)), (2, 0)]) rfl ?_
  refine Gn_sld rfl ⟨by omega, by omega⟩ ?_
  refine Gn_callI [(2, 0), (0, g (-2) (i + 1)), (0, g (-2) (i + 2))] [] rfl rfl rfl rfl (ab_rvB_of rfl lw_ob0) ?_
  refine (lw_PB (by decide) (PB_PA R (p_without hr (by omega) R (hI _) (hI _)))).mono (fun x g1 r1 h => ?_)
  obtain ⟨h, e1, e2⟩ := h
  refine Gn_pure 5 (i' := 641) (L' := LwL i) (st' := [(0, i + 1), (2, -2), (2, 161), (0, x)]) rfl ?_
  refine Gn_sld rfl ⟨by omega, by rw [e2]; omega⟩ ?_
  rw [e1]
  refine Gn_pure 4 (i' := 646) (L' := LwL i) (st' := [(0, i + 2), (2, -2), (0, g (-2) (i + 1)), (2, 161), (0, x)]) rfl ?_
  refine Gn_sld rfl ⟨by omega, by rw [e2]; omega⟩ ?_
  rw [e1]
  refine Gn_callI [(2, 161), (0, g (-2) (i + 1)), (0, g (-2) (i + 2))] [(0, x)] rfl rfl rfl rfl (ab_rvB_of rfl lw_ob161) ?_
  refine h.mono (fun y g2 r2 h2 => ?_)
  obtain ⟨rfl, R2, n2⟩ := h2
  refine Gn_ic rfl ?_
  rw [if_pos (show ab_cB 0 x x = true by simp [ab_cB])]
  exact Gn_done ⟨rfl, fun _ _ h => h, rfl, g2, r2, rfl, R2, n2⟩
set_option maxRecDepth 20000 in
theorem lwc_firstBelow {S : Nat} {g r : ab_H} {i : Int} (hr : SI r) (R : Rel g r) (hI : ∀ j, I32 (g (-2) j)) (hi : 0 ≤ i ∧ i + 6 < r (-2) (-1)) : ab_Gn 246 651 (LwL i) [] (187, S, g, r) (LwT i S g r) := by
  refine Gn_pure 5 (i' := 656) (L' := LwL i) (st' := [(0, i + 1), (2, -2), (2, 0)]) rfl ?_
  refine Gn_sld rfl ⟨by omega, by omega⟩ ?_
  refine Gn_callI [(2, 0), (0, g (-2) (i + 1))] [] rfl rfl rfl rfl (ab_rvB_of rfl lw_ob0) ?_
  refine (lw_PB (by decide) (PB_PA R (p_firstBelow hr (by omega) R (hI _)))).mono (fun x g1 r1 h => ?_)
  obtain ⟨h, e1, e2⟩ := h
  refine Gn_pure 5 (i' := 663) (L' := LwL i) (st' := [(0, i + 1), (2, -2), (2, 161), (0, x)]) rfl ?_
  refine Gn_sld rfl ⟨by omega, by rw [e2]; omega⟩ ?_
  rw [e1]
  refine Gn_callI [(2, 161), (0, g (-2) (i + 1))] [(0, x)] rfl rfl rfl rfl (ab_rvB_of rfl lw_ob161) ?_
  refine h.mono (fun y g2 r2 h2 => ?_)
  obtain ⟨rfl, R2, n2⟩ := h2
  refine Gn_ic rfl ?_
  rw [if_pos (show ab_cB 0 x x = true by simp [ab_cB])]
  exact Gn_done ⟨rfl, fun _ _ h => h, rfl, g2, r2, rfl, R2, n2⟩
set_option maxRecDepth 20000 in
theorem lwc_peak {S : Nat} {g r : ab_H} {i : Int} (hr : SI r) (R : Rel g r) (hI : ∀ j, I32 (g (-2) j)) (hi : 0 ≤ i ∧ i + 6 < r (-2) (-1)) : ab_Gn 246 668 (LwL i) [] (187, S, g, r) (LwT i S g r) := by
  refine Gn_pure 5 (i' := 673) (L' := LwL i) (st' := [(0, i + 1), (2, -2), (2, 0)]) rfl ?_
  refine Gn_sld rfl ⟨by omega, by omega⟩ ?_
  refine Gn_pure 4 (i' := 678) (L' := LwL i) (st' := [(0, i + 2), (2, -2), (0, g (-2) (i + 1)), (2, 0)]) rfl ?_
  refine Gn_sld rfl ⟨by omega, by omega⟩ ?_
  refine Gn_callI [(2, 0), (0, g (-2) (i + 1)), (0, g (-2) (i + 2))] [] rfl rfl rfl rfl (ab_rvB_of rfl lw_ob0) ?_
  refine (lw_PB (by decide) (PB_PA R (p_peak hr (by omega) R (hI _) (hI _)))).mono (fun x g1 r1 h => ?_)
  obtain ⟨h, e1, e2⟩ := h
  refine Gn_pure 5 (i' := 685) (L' := LwL i) (st' := [(0, i + 1), (2, -2), (2, 161), (0, x)]) rfl ?_
  refine Gn_sld rfl ⟨by omega, by rw [e2]; omega⟩ ?_
  rw [e1]
  refine Gn_pure 4 (i' := 690) (L' := LwL i) (st' := [(0, i + 2), (2, -2), (0, g (-2) (i + 1)), (2, 161), (0, x)]) rfl ?_
  refine Gn_sld rfl ⟨by omega, by rw [e2]; omega⟩ ?_
  rw [e1]
  refine Gn_callI [(2, 161), (0, g (-2) (i + 1)), (0, g (-2) (i + 2))] [(0, x)] rfl rfl rfl rfl (ab_rvB_of rfl lw_ob161) ?_
  refine h.mono (fun y g2 r2 h2 => ?_)
  obtain ⟨rfl, R2, n2⟩ := h2
  refine Gn_ic rfl ?_
  rw [if_pos (show ab_cB 0 x x = true by simp [ab_cB])]
  exact Gn_done ⟨rfl, fun _ _ h => h, rfl, g2, r2, rfl, R2, n2⟩
set_option maxRecDepth 20000 in
theorem lwc_touches {S : Nat} {g r : ab_H} {i : Int} (hr : SI r) (R : Rel g r) (hI : ∀ j, I32 (g (-2) j)) (hi : 0 ≤ i ∧ i + 6 < r (-2) (-1)) : ab_Gn 246 695 (LwL i) [] (187, S, g, r) (LwT i S g r) := by
  refine Gn_pure 5 (i' := 700) (L' := LwL i) (st' := [(0, i + 1), (2, -2), (2, 0)]) rfl ?_
  refine Gn_sld rfl ⟨by omega, by omega⟩ ?_
  refine Gn_callI [(2, 0), (0, g (-2) (i + 1))] [] rfl rfl rfl rfl (ab_rvB_of rfl lw_ob0) ?_
  refine (lw_PB (by decide) (PB_PA R (p_touches hr (by omega) R (hI _)))).mono (fun x g1 r1 h => ?_)
  obtain ⟨h, e1, e2⟩ := h
  refine Gn_pure 5 (i' := 707) (L' := LwL i) (st' := [(0, i + 1), (2, -2), (2, 161), (0, x)]) rfl ?_
  refine Gn_sld rfl ⟨by omega, by rw [e2]; omega⟩ ?_
  rw [e1]
  refine Gn_callI [(2, 161), (0, g (-2) (i + 1))] [(0, x)] rfl rfl rfl rfl (ab_rvB_of rfl lw_ob161) ?_
  refine h.mono (fun y g2 r2 h2 => ?_)
  obtain ⟨rfl, R2, n2⟩ := h2
  refine Gn_ic rfl ?_
  rw [if_pos (show ab_cB 0 x x = true by simp [ab_cB])]
  exact Gn_done ⟨rfl, fun _ _ h => h, rfl, g2, r2, rfl, R2, n2⟩
set_option maxRecDepth 20000 in
theorem lwc_ifPlain {S : Nat} {g r : ab_H} {i : Int} (hr : SI r) (R : Rel g r) (hI : ∀ j, I32 (g (-2) j)) (hi : 0 ≤ i ∧ i + 6 < r (-2) (-1)) : ab_Gn 246 712 (LwL i) [] (187, S, g, r) (LwT i S g r) := by
  refine Gn_pure 5 (i' := 717) (L' := LwL i) (st' := [(0, i + 1), (2, -2), (2, 0)]) rfl ?_
  refine Gn_sld rfl ⟨by omega, by omega⟩ ?_
  refine Gn_pure 4 (i' := 722) (L' := LwL i) (st' := [(0, i + 2), (2, -2), (0, g (-2) (i + 1)), (2, 0)]) rfl ?_
  refine Gn_sld rfl ⟨by omega, by omega⟩ ?_
  refine Gn_callI [(2, 0), (0, g (-2) (i + 1)), (0, g (-2) (i + 2))] [] rfl rfl rfl rfl (ab_rvB_of rfl lw_ob0) ?_
  refine (lw_PB (by decide) (PB_PA R (p_ifPlain hr (by omega) (by omega) R (hI _) (hI _)))).mono (fun x g1 r1 h => ?_)
  obtain ⟨h, e1, e2⟩ := h
  refine Gn_pure 5 (i' := 729) (L' := LwL i) (st' := [(0, i + 1), (2, -2), (2, 161), (0, x)]) rfl ?_
  refine Gn_sld rfl ⟨by omega, by rw [e2]; omega⟩ ?_
  rw [e1]
  refine Gn_pure 4 (i' := 734) (L' := LwL i) (st' := [(0, i + 2), (2, -2), (0, g (-2) (i + 1)), (2, 161), (0, x)]) rfl ?_
  refine Gn_sld rfl ⟨by omega, by rw [e2]; omega⟩ ?_
  rw [e1]
  refine Gn_callI [(2, 161), (0, g (-2) (i + 1)), (0, g (-2) (i + 2))] [(0, x)] rfl rfl rfl rfl (ab_rvB_of rfl lw_ob161) ?_
  refine h.mono (fun y g2 r2 h2 => ?_)
  obtain ⟨rfl, R2, n2⟩ := h2
  refine Gn_ic rfl ?_
  rw [if_pos (show ab_cB 0 x x = true by simp [ab_cB])]
  exact Gn_done ⟨rfl, fun _ _ h => h, rfl, g2, r2, rfl, R2, n2⟩
set_option maxRecDepth 20000 in
theorem lwc_resnap {S : Nat} {g r : ab_H} {i : Int} (hr : SI r) (R : Rel g r) (hI : ∀ j, I32 (g (-2) j)) (hi : 0 ≤ i ∧ i + 6 < r (-2) (-1)) : ab_Gn 246 739 (LwL i) [] (187, S, g, r) (LwT i S g r) := by
  refine Gn_pure 5 (i' := 744) (L' := LwL i) (st' := [(0, i + 1), (2, -2), (2, 0)]) rfl ?_
  refine Gn_sld rfl ⟨by omega, by omega⟩ ?_
  refine Gn_pure 4 (i' := 749) (L' := LwL i) (st' := [(0, i + 2), (2, -2), (0, g (-2) (i + 1)), (2, 0)]) rfl ?_
  refine Gn_sld rfl ⟨by omega, by omega⟩ ?_
  refine Gn_callI [(2, 0), (0, g (-2) (i + 1)), (0, g (-2) (i + 2))] [] rfl rfl rfl rfl (ab_rvB_of rfl lw_ob0) ?_
  refine (lw_PB (by decide) (p_resnap hr (by omega) (by omega) R (hI _) (hI _))).mono (fun x g1 r1 h => ?_)
  obtain ⟨h, e1, e2⟩ := h
  refine Gn_pure 5 (i' := 756) (L' := LwL i) (st' := [(0, i + 1), (2, -2), (2, 161), (0, x)]) rfl ?_
  refine Gn_sld rfl ⟨by omega, by rw [e2]; omega⟩ ?_
  rw [e1]
  refine Gn_pure 4 (i' := 761) (L' := LwL i) (st' := [(0, i + 2), (2, -2), (0, g (-2) (i + 1)), (2, 161), (0, x)]) rfl ?_
  refine Gn_sld rfl ⟨by omega, by rw [e2]; omega⟩ ?_
  rw [e1]
  refine Gn_callI [(2, 161), (0, g (-2) (i + 1)), (0, g (-2) (i + 2))] [(0, x)] rfl rfl rfl rfl (ab_rvB_of rfl lw_ob161) ?_
  refine h.mono (fun y g2 r2 h2 => ?_)
  obtain ⟨rfl, R2, n2⟩ := h2
  refine Gn_ic rfl ?_
  rw [if_pos (show ab_cB 0 x x = true by simp [ab_cB])]
  exact Gn_done ⟨rfl, fun _ _ h => h, rfl, g2, r2, rfl, R2, n2⟩
set_option maxRecDepth 20000 in
theorem lwc_see {S : Nat} {g r : ab_H} {i : Int} (hr : SI r) (R : Rel g r) (hI : ∀ j, I32 (g (-2) j)) (hi : 0 ≤ i ∧ i + 6 < r (-2) (-1)) : ab_Gn 246 766 (LwL i) [] (187, S, g, r) (LwT i S g r) := by
  refine Gn_pure 5 (i' := 771) (L' := LwL i) (st' := [(0, i + 1), (2, -2), (2, 0)]) rfl ?_
  refine Gn_sld rfl ⟨by omega, by omega⟩ ?_
  refine Gn_pure 4 (i' := 776) (L' := LwL i) (st' := [(0, i + 2), (2, -2), (0, g (-2) (i + 1)), (2, 0)]) rfl ?_
  refine Gn_sld rfl ⟨by omega, by omega⟩ ?_
  refine Gn_callI [(2, 0), (0, g (-2) (i + 1)), (0, g (-2) (i + 2))] [] rfl rfl rfl rfl (ab_rvB_of rfl lw_ob0) ?_
  refine (lw_PB (by decide) (p_see hr (by omega) (by omega) R (hI _) (hI _))).mono (fun x g1 r1 h => ?_)
  obtain ⟨h, e1, e2⟩ := h
  refine Gn_pure 5 (i' := 783) (L' := LwL i) (st' := [(0, i + 1), (2, -2), (2, 161), (0, x)]) rfl ?_
  refine Gn_sld rfl ⟨by omega, by rw [e2]; omega⟩ ?_
  rw [e1]
  refine Gn_pure 4 (i' := 788) (L' := LwL i) (st' := [(0, i + 2), (2, -2), (0, g (-2) (i + 1)), (2, 161), (0, x)]) rfl ?_
  refine Gn_sld rfl ⟨by omega, by rw [e2]; omega⟩ ?_
  rw [e1]
  refine Gn_callI [(2, 161), (0, g (-2) (i + 1)), (0, g (-2) (i + 2))] [(0, x)] rfl rfl rfl rfl (ab_rvB_of rfl lw_ob161) ?_
  refine h.mono (fun y g2 r2 h2 => ?_)
  obtain ⟨rfl, R2, n2⟩ := h2
  refine Gn_ic rfl ?_
  rw [if_pos (show ab_cB 0 x x = true by simp [ab_cB])]
  exact Gn_done ⟨rfl, fun _ _ h => h, rfl, g2, r2, rfl, R2, n2⟩
set_option maxRecDepth 20000 in
theorem lwc_rewind {S : Nat} {g r : ab_H} {i : Int} (hr : SI r) (R : Rel g r) (hI : ∀ j, I32 (g (-2) j)) (hi : 0 ≤ i ∧ i + 6 < r (-2) (-1)) : ab_Gn 246 793 (LwL i) [] (187, S, g, r) (LwT i S g r) := by
  refine Gn_pure 5 (i' := 798) (L' := LwL i) (st' := [(0, i + 1), (2, -2), (2, 0)]) rfl ?_
  refine Gn_sld rfl ⟨by omega, by omega⟩ ?_
  refine Gn_callI [(2, 0), (0, g (-2) (i + 1))] [] rfl rfl rfl rfl (ab_rvB_of rfl lw_ob0) ?_
  refine (lw_PB (by decide) (p_rewind hr (by omega) (by omega) R (hI _))).mono (fun x g1 r1 h => ?_)
  obtain ⟨h, e1, e2⟩ := h
  refine Gn_pure 5 (i' := 805) (L' := LwL i) (st' := [(0, i + 1), (2, -2), (2, 161), (0, x)]) rfl ?_
  refine Gn_sld rfl ⟨by omega, by rw [e2]; omega⟩ ?_
  rw [e1]
  refine Gn_callI [(2, 161), (0, g (-2) (i + 1))] [(0, x)] rfl rfl rfl rfl (ab_rvB_of rfl lw_ob161) ?_
  refine h.mono (fun y g2 r2 h2 => ?_)
  obtain ⟨rfl, R2, n2⟩ := h2
  refine Gn_ic rfl ?_
  rw [if_pos (show ab_cB 0 x x = true by simp [ab_cB])]
  exact Gn_done ⟨rfl, fun _ _ h => h, rfl, g2, r2, rfl, R2, n2⟩
set_option maxRecDepth 20000 in
theorem lwc_tally {S : Nat} {g r : ab_H} {i : Int} (hr : SI r) (R : Rel g r) (hI : ∀ j, I32 (g (-2) j)) (hi : 0 ≤ i ∧ i + 6 < r (-2) (-1)) : ab_Gn 246 810 (LwL i) [] (187, S, g, r) (LwT i S g r) := by
  refine Gn_pure 5 (i' := 815) (L' := LwL i) (st' := [(0, i + 1), (2, -2), (2, 0)]) rfl ?_
  refine Gn_sld rfl ⟨by omega, by omega⟩ ?_
  refine Gn_pure 4 (i' := 820) (L' := LwL i) (st' := [(0, i + 2), (2, -2), (0, g (-2) (i + 1)), (2, 0)]) rfl ?_
  refine Gn_sld rfl ⟨by omega, by omega⟩ ?_
  refine Gn_callI [(2, 0), (0, g (-2) (i + 1)), (0, g (-2) (i + 2))] [] rfl rfl rfl rfl (ab_rvB_of rfl lw_ob0) ?_
  refine (lw_PB (by decide) (PB_PA R (p_tally hr (by omega) R (hI _) (hI _)))).mono (fun x g1 r1 h => ?_)
  obtain ⟨h, e1, e2⟩ := h
  refine Gn_pure 5 (i' := 827) (L' := LwL i) (st' := [(0, i + 1), (2, -2), (2, 161), (0, x)]) rfl ?_
  refine Gn_sld rfl ⟨by omega, by rw [e2]; omega⟩ ?_
  rw [e1]
  refine Gn_pure 4 (i' := 832) (L' := LwL i) (st' := [(0, i + 2), (2, -2), (0, g (-2) (i + 1)), (2, 161), (0, x)]) rfl ?_
  refine Gn_sld rfl ⟨by omega, by rw [e2]; omega⟩ ?_
  rw [e1]
  refine Gn_callI [(2, 161), (0, g (-2) (i + 1)), (0, g (-2) (i + 2))] [(0, x)] rfl rfl rfl rfl (ab_rvB_of rfl lw_ob161) ?_
  refine h.mono (fun y g2 r2 h2 => ?_)
  obtain ⟨rfl, R2, n2⟩ := h2
  refine Gn_ic rfl ?_
  rw [if_pos (show ab_cB 0 x x = true by simp [ab_cB])]
  exact Gn_done ⟨rfl, fun _ _ h => h, rfl, g2, r2, rfl, R2, n2⟩
set_option maxRecDepth 20000 in
theorem lwc_sum {S : Nat} {g r : ab_H} {i : Int} (hr : SI r) (R : Rel g r) (hI : ∀ j, I32 (g (-2) j)) (hi : 0 ≤ i ∧ i + 6 < r (-2) (-1)) : ab_Gn 246 837 (LwL i) [] (187, S, g, r) (LwT i S g r) := by
  refine Gn_pure 5 (i' := 842) (L' := LwL i) (st' := [(0, i + 1), (2, -2), (2, 0)]) rfl ?_
  refine Gn_sld rfl ⟨by omega, by omega⟩ ?_
  refine Gn_pure 4 (i' := 847) (L' := LwL i) (st' := [(0, i + 2), (2, -2), (0, g (-2) (i + 1)), (2, 0)]) rfl ?_
  refine Gn_sld rfl ⟨by omega, by omega⟩ ?_
  refine Gn_callI [(2, 0), (0, g (-2) (i + 1)), (0, g (-2) (i + 2))] [] rfl rfl rfl rfl (ab_rvB_of rfl lw_ob0) ?_
  refine (lw_PB (by decide) (PB_PA R (p_sum hr (by omega) R (hI _) (hI _)))).mono (fun x g1 r1 h => ?_)
  obtain ⟨h, e1, e2⟩ := h
  refine Gn_pure 5 (i' := 854) (L' := LwL i) (st' := [(0, i + 1), (2, -2), (2, 161), (0, x)]) rfl ?_
  refine Gn_sld rfl ⟨by omega, by rw [e2]; omega⟩ ?_
  rw [e1]
  refine Gn_pure 4 (i' := 859) (L' := LwL i) (st' := [(0, i + 2), (2, -2), (0, g (-2) (i + 1)), (2, 161), (0, x)]) rfl ?_
  refine Gn_sld rfl ⟨by omega, by rw [e2]; omega⟩ ?_
  rw [e1]
  refine Gn_callI [(2, 161), (0, g (-2) (i + 1)), (0, g (-2) (i + 2))] [(0, x)] rfl rfl rfl rfl (ab_rvB_of rfl lw_ob161) ?_
  refine h.mono (fun y g2 r2 h2 => ?_)
  obtain ⟨rfl, R2, n2⟩ := h2
  refine Gn_ic rfl ?_
  rw [if_pos (show ab_cB 0 x x = true by simp [ab_cB])]
  exact Gn_done ⟨rfl, fun _ _ h => h, rfl, g2, r2, rfl, R2, n2⟩
set_option maxRecDepth 20000 in
theorem lwc_chance {S : Nat} {g r : ab_H} {i : Int} (hr : SI r) (R : Rel g r) (hI : ∀ j, I32 (g (-2) j)) (hi : 0 ≤ i ∧ i + 6 < r (-2) (-1)) : ab_Gn 246 864 (LwL i) [] (187, S, g, r) (LwT i S g r) := by
  refine Gn_pure 5 (i' := 869) (L' := LwL i) (st' := [(0, i + 1), (2, -2), (2, 0)]) rfl ?_
  refine Gn_sld rfl ⟨by omega, by omega⟩ ?_
  refine Gn_pure 4 (i' := 874) (L' := LwL i) (st' := [(0, i + 2), (2, -2), (0, g (-2) (i + 1)), (2, 0)]) rfl ?_
  refine Gn_sld rfl ⟨by omega, by omega⟩ ?_
  refine Gn_pure 4 (i' := 879) (L' := LwL i) (st' := [(0, i + 3), (2, -2), (0, g (-2) (i + 2)), (0, g (-2) (i + 1)), (2, 0)]) rfl ?_
  refine Gn_sld rfl ⟨by omega, by omega⟩ ?_
  refine Gn_callI [(2, 0), (0, g (-2) (i + 1)), (0, g (-2) (i + 2)), (0, g (-2) (i + 3))] [] rfl rfl rfl rfl (ab_rvB_of rfl lw_ob0) ?_
  refine (lw_PB (by decide) (PB_PA R (p_chance hr (by omega) (by omega) R (hI _) (hI _) (hI _)))).mono (fun x g1 r1 h => ?_)
  obtain ⟨h, e1, e2⟩ := h
  refine Gn_pure 5 (i' := 886) (L' := LwL i) (st' := [(0, i + 1), (2, -2), (2, 161), (0, x)]) rfl ?_
  refine Gn_sld rfl ⟨by omega, by rw [e2]; omega⟩ ?_
  rw [e1]
  refine Gn_pure 4 (i' := 891) (L' := LwL i) (st' := [(0, i + 2), (2, -2), (0, g (-2) (i + 1)), (2, 161), (0, x)]) rfl ?_
  refine Gn_sld rfl ⟨by omega, by rw [e2]; omega⟩ ?_
  rw [e1]
  refine Gn_pure 4 (i' := 896) (L' := LwL i) (st' := [(0, i + 3), (2, -2), (0, g (-2) (i + 2)), (0, g (-2) (i + 1)), (2, 161), (0, x)]) rfl ?_
  refine Gn_sld rfl ⟨by omega, by rw [e2]; omega⟩ ?_
  rw [e1]
  refine Gn_callI [(2, 161), (0, g (-2) (i + 1)), (0, g (-2) (i + 2)), (0, g (-2) (i + 3))] [(0, x)] rfl rfl rfl rfl (ab_rvB_of rfl lw_ob161) ?_
  refine h.mono (fun y g2 r2 h2 => ?_)
  obtain ⟨rfl, R2, n2⟩ := h2
  refine Gn_ic rfl ?_
  rw [if_pos (show ab_cB 0 x x = true by simp [ab_cB])]
  exact Gn_done ⟨rfl, fun _ _ h => h, rfl, g2, r2, rfl, R2, n2⟩
set_option maxRecDepth 20000 in
theorem lwc_undo {S : Nat} {g r : ab_H} {i : Int} (hr : SI r) (R : Rel g r) (hI : ∀ j, I32 (g (-2) j)) (hi : 0 ≤ i ∧ i + 6 < r (-2) (-1)) : ab_Gn 246 901 (LwL i) [] (187, S, g, r) (LwT i S g r) := by
  refine Gn_pure 1 (i' := 902) (L' := LwL i) (st' := [(2, 0)]) rfl ?_
  refine Gn_callI [(2, 0)] [] rfl rfl rfl rfl (ab_rvB_of rfl lw_ob0) ?_
  refine (lw_PB (by decide) (p_undo hr (by omega) (by omega) R)).mono (fun x g1 r1 h => ?_)
  obtain ⟨h, e1, e2⟩ := h
  refine Gn_pure 1 (i' := 904) (L' := LwL i) (st' := [(2, 161), (0, x)]) rfl ?_
  refine Gn_callI [(2, 161)] [(0, x)] rfl rfl rfl rfl (ab_rvB_of rfl lw_ob161) ?_
  refine h.mono (fun y g2 r2 h2 => ?_)
  obtain ⟨rfl, R2, n2⟩ := h2
  refine Gn_ic rfl ?_
  rw [if_pos (show ab_cB 0 x x = true by simp [ab_cB])]
  exact Gn_done ⟨rfl, fun _ _ h => h, rfl, g2, r2, rfl, R2, n2⟩
set_option maxRecDepth 20000 in
theorem lwc_keep {S : Nat} {g r : ab_H} {i : Int} (hr : SI r) (R : Rel g r) (hI : ∀ j, I32 (g (-2) j)) (hi : 0 ≤ i ∧ i + 6 < r (-2) (-1)) : ab_Gn 246 908 (LwL i) [] (187, S, g, r) (LwT i S g r) := by
  refine Gn_pure 1 (i' := 909) (L' := LwL i) (st' := [(2, 0)]) rfl ?_
  refine Gn_callI [(2, 0)] [] rfl rfl rfl rfl (ab_rvB_of rfl lw_ob0) ?_
  refine (lw_PB (by decide) (p_keep hr (by omega) (by omega) R)).mono (fun x g1 r1 h => ?_)
  obtain ⟨h, e1, e2⟩ := h
  refine Gn_pure 1 (i' := 911) (L' := LwL i) (st' := [(2, 161), (0, x)]) rfl ?_
  refine Gn_callI [(2, 161)] [(0, x)] rfl rfl rfl rfl (ab_rvB_of rfl lw_ob161) ?_
  refine h.mono (fun y g2 r2 h2 => ?_)
  obtain ⟨rfl, R2, n2⟩ := h2
  refine Gn_ic rfl ?_
  rw [if_pos (show ab_cB 0 x x = true by simp [ab_cB])]
  exact Gn_done ⟨rfl, fun _ _ h => h, rfl, g2, r2, rfl, R2, n2⟩
set_option maxRecDepth 20000 in
theorem lwc_back {S : Nat} {g r : ab_H} {i : Int} (hr : SI r) (R : Rel g r) (hI : ∀ j, I32 (g (-2) j)) (hi : 0 ≤ i ∧ i + 6 < r (-2) (-1)) : ab_Gn 246 915 (LwL i) [] (187, S, g, r) (LwT i S g r) := by
  refine Gn_pure 1 (i' := 916) (L' := LwL i) (st' := [(2, 0)]) rfl ?_
  refine Gn_callI [(2, 0)] [] rfl rfl rfl rfl (ab_rvB_of rfl lw_ob0) ?_
  refine (lw_PB (by decide) (p_back hr (by omega) (by omega) R)).mono (fun x g1 r1 h => ?_)
  obtain ⟨h, e1, e2⟩ := h
  refine Gn_pure 1 (i' := 918) (L' := LwL i) (st' := [(2, 161), (0, x)]) rfl ?_
  refine Gn_callI [(2, 161)] [(0, x)] rfl rfl rfl rfl (ab_rvB_of rfl lw_ob161) ?_
  refine h.mono (fun y g2 r2 h2 => ?_)
  obtain ⟨rfl, R2, n2⟩ := h2
  refine Gn_ic rfl ?_
  rw [if_pos (show ab_cB 0 x x = true by simp [ab_cB])]
  exact Gn_done ⟨rfl, fun _ _ h => h, rfl, g2, r2, rfl, R2, n2⟩
set_option maxRecDepth 20000 in
theorem lwc_count {S : Nat} {g r : ab_H} {i : Int} (hr : SI r) (R : Rel g r) (hI : ∀ j, I32 (g (-2) j)) (hi : 0 ≤ i ∧ i + 6 < r (-2) (-1)) : ab_Gn 246 922 (LwL i) [] (187, S, g, r) (LwT i S g r) := by
  refine Gn_pure 5 (i' := 927) (L' := LwL i) (st' := [(0, i + 1), (2, -2), (2, 0)]) rfl ?_
  refine Gn_sld rfl ⟨by omega, by omega⟩ ?_
  refine Gn_callI [(2, 0), (0, g (-2) (i + 1))] [] rfl rfl rfl rfl (ab_rvB_of rfl lw_ob0) ?_
  refine (lw_PB (by decide) (PB_PA R (p_count hr (by omega) R (hI _)))).mono (fun x g1 r1 h => ?_)
  obtain ⟨h, e1, e2⟩ := h
  refine Gn_pure 5 (i' := 934) (L' := LwL i) (st' := [(0, i + 1), (2, -2), (2, 161), (0, x)]) rfl ?_
  refine Gn_sld rfl ⟨by omega, by rw [e2]; omega⟩ ?_
  rw [e1]
  refine Gn_callI [(2, 161), (0, g (-2) (i + 1))] [(0, x)] rfl rfl rfl rfl (ab_rvB_of rfl lw_ob161) ?_
  refine h.mono (fun y g2 r2 h2 => ?_)
  obtain ⟨rfl, R2, n2⟩ := h2
  refine Gn_ic rfl ?_
  rw [if_pos (show ab_cB 0 x x = true by simp [ab_cB])]
  exact Gn_done ⟨rfl, fun _ _ h => h, rfl, g2, r2, rfl, R2, n2⟩
