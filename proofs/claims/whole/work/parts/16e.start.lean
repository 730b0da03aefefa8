/-! THE START: both constructors, the law's own long. -/
theorem ci_app (g : ab_H) : ∀ (a b : List (Int × Option Int × Int)), ci_H (a ++ b) g = ci_H a (ci_H b g) := by
  intro a
  induction a with
  | nil => intro b; rfl
  | cons e t ih => intro b; show ci_ap e (ci_H (t ++ b) g) = ci_ap e (ci_H t (ci_H b g)); rw [ih]
def ci_R : List (Int × Option Int × Int) := ci_MR ++ ci_ER
def ci_G : List (Int × Option Int × Int) := ci_MG ++ ci_EG
theorem ci_fixC : ab_fix.all (fun q => decide (q.1 ≠ 185) && decide (ci_lk ci_R q.1 q.2.1 = some q.2.2)) = true := by decide +kernel
theorem ci_SI (r : ab_H) : SI (ci_H ci_R r) := by
  intro i q h
  have h1 := List.all_eq_true.mp ci_fixC q (ab_nth_mem h)
  simp only [Bool.and_eq_true, decide_eq_true_eq] at h1
  exact ci_lk_ok r h1.2
theorem ci_SI5 (r : ab_H) : SI (ab_new (ci_H ci_R r) 185 (-1)) := by
  intro i q h
  have h1 := List.all_eq_true.mp ci_fixC q (ab_nth_mem h)
  simp only [Bool.and_eq_true, decide_eq_true_eq] at h1
  rw [ab_new_ne h1.1]
  exact ci_lk_ok r h1.2
theorem ci_mkC : (List.range 20).all (fun j => decide (ci_lk ci_R 65 j = some (81 + 4 * (j : Int)))) = true := by decide +kernel
theorem ci_mk (r : ab_H) {j : Int} (h0 : 0 ≤ j) (h1 : j < 20) : ci_H ci_R r 65 j = 81 + 4 * j := by
  have h := List.all_eq_true.mp ci_mkC j.toNat (List.mem_range.mpr (by omega))
  have h2 := ci_lk_ok r (of_decide_eq_true h)
  rw [show ((j.toNat : Nat) : Int) = j by omega] at h2
  exact h2
theorem ci_zC : (List.range 185).all (fun a => decide (a = 2 ∨ a = 5 ∨ a = 14 ∨ a = 57 ∨ a = 161) || (ci_G.all (fun e => decide (e.1 ≠ (a : Int)) || decide (e.2.2 = 0)) && ci_G.any (fun e => decide (e.1 = (a : Int)) && decide (e.2.1 = none)))) = true := by decide +kernel
theorem ci_z (g : ab_H) {c : Int} (h0 : 0 ≤ c) (h1 : c ≤ 184) (hn : c ≠ 2 ∧ c ≠ 5 ∧ c ≠ 14 ∧ c ≠ 57 ∧ c ≠ 161) (j : Int) : ci_H ci_G g c j = 0 := by
  have h := List.all_eq_true.mp ci_zC c.toNat (List.mem_range.mpr (by omega))
  rw [Bool.or_eq_true] at h
  rcases h with h | h
  · have := of_decide_eq_true h
    omega
  · rw [Bool.and_eq_true, show ((c.toNat : Nat) : Int) = c by omega] at h
    obtain ⟨h2, h3⟩ := h
    refine ci_all g (fun e he hc => ?_) ?_ j
    · have h4 := List.all_eq_true.mp h2 e he
      simp only [Bool.or_eq_true, decide_eq_true_eq] at h4
      exact h4.resolve_left (fun h => h hc)
    · obtain ⟨e, he, h4⟩ := List.any_eq_true.mp h3
      simp only [Bool.and_eq_true, decide_eq_true_eq] at h4
      exact ⟨e, he, h4.1, h4.2⟩
theorem ci_ltC : ci_G.all (fun e => decide (0 ≤ e.1)) = true ∧ ci_R.all (fun e => decide (0 ≤ e.1)) = true := by decide +kernel
theorem ci_neg (g r : ab_H) {c : Int} (hc : c < 0) : ci_H ci_G g c = g c ∧ ci_H ci_R r c = r c := by
  refine ⟨ci_off g (fun e he => ?_), ci_off r (fun e he => ?_)⟩
  · have := of_decide_eq_true (List.all_eq_true.mp ci_ltC.1 e he)
    omega
  · have := of_decide_eq_true (List.all_eq_true.mp ci_ltC.2 e he)
    omega
/-- the words at single places -/
theorem ci_ptC : ([(2, 6, 0), (2, 7, -1), (5, 1, 0), (5, 5, 0), (5, 12, 0), (57, 1, 0), (57, 2, 20), (57, 3, 3), (161, 2, 0), (161, 24, 0), (161, 25, -1), (161, 30, 0), (161, 31, 0), (161, 34, -1), (161, 35, 0)] : List (Int × Int × Int)).all (fun q => decide (ci_lk ci_G q.1 q.2.1 = some q.2.2)) = true := by decide +kernel
theorem ci_pt (g : ab_H) {a k v : Int} (h : (a, k, v) ∈ ([(2, 6, 0), (2, 7, -1), (5, 1, 0), (5, 5, 0), (5, 12, 0), (57, 1, 0), (57, 2, 20), (57, 3, 3), (161, 2, 0), (161, 24, 0), (161, 25, -1), (161, 30, 0), (161, 31, 0), (161, 34, -1), (161, 35, 0)] : List (Int × Int × Int))) : ci_H ci_G g a k = v := ci_lk_ok g (of_decide_eq_true (List.all_eq_true.mp ci_ptC _ h))
theorem ci_ptR : ci_lk ci_R 0 3 = some 5 ∧ ci_lk ci_R 0 4 = some 14 ∧ ci_lk ci_R 0 5 = some 23 ∧ ci_lk ci_R 0 6 = some 34 ∧ ci_lk ci_R 4 5 = some (-5) := by decide +kernel
theorem Rn_retV {k i nx : Nat} {b : Int} {L : ab_F} {w : ab_W} {Q : List ab_V → ab_W → Prop} (ho : ab_nth (ab_cod k) i = some (0, 0, b, nx)) (h : Q [] w) : ab_Rn k i L [] w Q := by
  refine ⟨1, [], w, ?_, h⟩
  rw [ab_run, show ab_rt k i [] = some [] by unfold ab_rt; rw [ho]; rfl]
/-- new, class and reference agree -/
theorem ci_Rel {g r g1 g2 g3 g4 : ab_H} (e1 : g1 = ci_H ci_G g) (a1 : ∀ c : Int, c ≠ 161 → c ≠ 163 → c ≠ 168 → g2 c = g1 c) (a2 : ∀ j : Int, j ≠ 14 → j ≠ 15 → g2 161 j = g1 161 j) (a3 : g2 163 6 = 0 ∧ g2 163 7 = 0 ∧ g2 163 10 = 0) (a4 : ∀ j : Int, 0 ≤ j → j < 14 → g2 168 (14 + j) = 0)
    (h3 : TkM g2 g3) (h4 : BgS g3 g4 (fun _ _ => 0) 0 20 3) : Rel (ab_new g4 185 0) (ab_new (ci_H ci_R r) 185 (-1)) := by
  obtain ⟨r03, r04, r05, r06, r45⟩ := ci_ptR
  have r03 := ci_lk_ok r r03
  have r04 := ci_lk_ok r r04
  have r05 := ci_lk_ok r r05
  have r06 := ci_lk_ok r r06
  have r45 := ci_lk_ok r r45
  have nr : ∀ c : Int, c ≠ 185 → ab_new (ci_H ci_R r) 185 (-1) c = ci_H ci_R r c := fun c hc => ab_new_ne hc
  have ng : ∀ c : Int, c ≠ 185 → ab_new g4 185 0 c = g4 c := fun c hc => ab_new_ne hc
  have lo : ∀ c : Int, c ≤ 160 → g4 c = ci_H ci_G g c := fun c hc => by
    rw [h4.1 c (by omega) (by omega), h3.1 c (by omega), a1 c (by omega) (by omega) (by omega), e1]
  have l161 : ∀ j : Int, j ≠ 14 → j ≠ 15 → j ≠ 32 → g4 161 j = ci_H ci_G g 161 j := fun j p q s => by
    rw [h4.2.1 j s, h3.1 161 (by omega), a2 j p q, e1]
  have hi : ∀ c : Int, 162 ≤ c → c ≤ 173 → g4 c = g3 c := fun c p q => h4.1 c (by omega) (by omega)
  refine Rel_new ⟨ci_SI5 r, Or.inl ?_, Or.inl ?_, fun j p q => ?_, fun i j p q s => ?_⟩ ?_ ?_ ?_ ?_ (fun c j p q s1 s2 s3 s4 => ?_) ?_ ?_ ?_ ?_ ?_ (fun j p q => ?_) ?_ (fun j p q => ?_)
  · rw [nr 0 (by omega)]; exact ⟨r03, r04⟩
  · rw [nr 0 (by omega)]; exact ⟨r05, r06⟩
  · rw [nr 65 (by omega), ci_mk r p q]
    unfold isMk
    omega
  · rw [nr 65 (by omega), ci_mk r p (by omega), ci_mk r (by omega) s]
    omega
  · rw [nr 4 (by omega), r45]; unfold isWd; omega
  · rw [nr 0 (by omega)]; exact r03
  · rw [nr 0 (by omega)]; exact r05
  · rw [nr 0 (by omega)]; exact r06
  · rw [ng c (by omega), lo c q]
    exact ci_z g p (by omega) ⟨s1, s2, s3, s4, by omega⟩ j
  · rw [ng 2 (by omega), lo 2 (by omega)]
    exact ⟨ci_pt g (by simp), ci_pt g (by simp)⟩
  · rw [ng 5 (by omega), lo 5 (by omega)]
    exact ⟨ci_pt g (by simp), ci_pt g (by simp), ci_pt g (by simp)⟩
  · rw [ng 57 (by omega), lo 57 (by omega)]
    exact ⟨ci_pt g (by simp), ci_pt g (by simp), ci_pt g (by simp)⟩
  · rw [ng 161 (by omega), l161 2 (by omega) (by omega) (by omega), l161 24 (by omega) (by omega) (by omega), l161 25 (by omega) (by omega) (by omega), l161 30 (by omega) (by omega) (by omega), l161 31 (by omega) (by omega) (by omega), l161 34 (by omega) (by omega) (by omega), l161 35 (by omega) (by omega) (by omega)]
    exact ⟨ci_pt g (by simp), ci_pt g (by simp), ci_pt g (by simp), ci_pt g (by simp), ci_pt g (by simp), ci_pt g (by simp), ci_pt g (by simp)⟩
  · rw [ng 163 (by omega), hi 163 (by omega) (by omega), h3.2.1 0 (by omega) (by omega), h3.2.1 1 (by omega) (by omega), h3.2.1 4 (by omega) (by omega)]
    exact ⟨a3.1, a3.2.1, a3.2.2⟩
  · rw [ng 168 (by omega), hi 168 (by omega) (by omega), h3.2.2.2.2.1 j p q]
    exact a4 j p q
  · rw [ng 174 (by omega)]
    exact ⟨h4.2.2.2.1, h4.2.2.2.2.1.1, h4.2.2.2.2.2.1.1, h4.2.2.2.2.2.1.2⟩
  · rw [ng 174 (by omega)]
    exact h4.2.2.2.2.2.2 j p q
/-- the reference's constructor, from its texts on -/
theorem ci_M {S : Nat} {g r : ab_H} {Q : List ab_V → ab_W → Prop} (hQ : ∀ g' : ab_H, Rel (ab_new g' 185 0) (ab_new (ci_H ci_R r) 185 (-1)) → (∀ c : Int, c < 0 → g' c = g c) → Q [] (186, S, g', ci_H ci_R r)) : ab_Rn 58 101 (ab_en 58 [(2, 161)]) [(2, 161)] (186, S, ci_H ci_G g, ci_H ci_R r) Q := by
  have hr := ci_SI r
  have hob : ab_OB 186 161 9 := ⟨by decide +kernel, by omega, by omega⟩
  refine Rn_callV (k' := m_M_freshText) [(2, 161)] [] rfl rfl rfl rfl (ab_rvB_of rfl hob) ?_
  refine v_M_freshText _ hr (by omega) (l_M_fresh2 _ hr (by omega) 6 0 _ (by omega) (by omega) (fun j p q => absurd q (by omega)) (fun ga f1 f2 f3 => ?_))
  refine l_M_fresh21 _ hr (by omega) 14 0 _ (by omega) (by omega) (fun j p q => absurd q (by omega)) (fun gb f4 f5 f6 f7 f8 => ?_)
  refine Rn_pure 1 (i' := 103) (L' := ab_en 58 [(2, 161)]) (st' := [(2, 161)]) rfl ?_
  refine Rn_callV (k' := m_M_takeText) [(2, 161)] [] rfl rfl rfl rfl (ab_rvB_of rfl hob) ?_
  refine u_takeText _ hr (by omega) (fun gc hT => ?_)
  refine Rn_pure 1 (i' := 105) (L' := ab_en 58 [(2, 161)]) (st' := [(2, 161)]) rfl ?_
  refine Rn_callV (k' := m_M_begins) [(2, 161)] [] rfl rfl rfl rfl (ab_rvB_of rfl hob) ?_
  have e163 : ∀ j : Int, gb 163 j = ga 163 j := fun j => by rw [f4 163 (by omega) (by omega)]
  refine u_begins (E := fun _ _ => 0) (n := 0) (nA := 0) (ev := 20) (kp := 3) _ hr (by omega) ⟨by omega, by omega⟩ (fun m hm => absurd hm (by omega)) (by omega) (by omega) ⟨?_, ?_, ?_⟩ (fun e f p q => absurd q (by omega)) (fun gd hB => ?_)
  · rw [hT.2.1 5 (by omega) (by omega), show (6 : Int) + 5 = 11 by omega, e163]; exact f3.2.2.2.2.2
  · rw [hT.2.1 2 (by omega) (by omega), show (6 : Int) + 2 = 8 by omega, e163]; exact f3.2.2.1
  · rw [hT.2.1 3 (by omega) (by omega), show (6 : Int) + 3 = 9 by omega, e163]; exact f3.2.2.2.1
  · refine Rn_retV rfl (hQ gd (ci_Rel (g := g) (g1 := ci_H ci_G g) (g2 := gb) (g3 := gc) (g4 := gd) rfl (fun c p q s => by rw [f4 c p s, f1 c q]) (fun j p q => by rw [f5 j p q, f1 161 (by omega)]) ⟨?_, ?_, ?_⟩ f8 hT hB) (fun c hc => ?_))
    · rw [e163]; exact f3.1
    · rw [e163]; exact f3.2.1
    · rw [e163]; exact f3.2.2.2.2.1
    · rw [hB.1 c (by omega) (by omega), hT.1 c (by omega), f4 c (by omega) (by omega), f1 c (by omega)]
      exact (ci_neg g r hc).1
theorem ci_c1 (g r : ab_H) : ci_c (1, 18, [(0, none, 0)], [(0, none, -1)]) g r = (1, 18, ab_new g 0 0, ab_new r 0 (-1)) := rfl
theorem ci_h1 (g r : ab_H) : ab_run 600 0 0 (ab_en 0 [(2, 0)]) [] (1, 18, ab_new g 0 0, ab_new r 0 (-1)) = some ([], (162, 9662, ci_H ci_EG g, ci_H ci_ER r)) := by
  have h := ci_run_ok g r 600 0 0 ci_r1
  rw [ci_c1] at h
  generalize ab_run 600 0 0 (ab_en 0 [(2, 0)]) [] (1, 18, ab_new g 0 0, ab_new r 0 (-1)) = X at h ⊢
  exact h
theorem ci_c2 (g r : ab_H) : ci_c (163, 9708, [(161, none, 0)], [(161, none, -1)]) g r = (163, 9708, ab_new g 161 0, ab_new r 161 (-1)) := rfl
theorem ci_h2 (g r : ab_H) : ab_it 5 58 101 (0, ab_en 58 [(2, 161)], [], (163, 9708, ab_new g 161 0, ab_new r 161 (-1))) = some (101, ab_en 58 [(2, 161)], [(2, 161)], (186, 48710, ci_H ci_MG g, ci_H ci_MR r)) := by
  have h := ci_it_ok g r 101 ci_r2
  dsimp only at h
  rw [ci_c2] at h
  generalize ab_it 5 58 101 (0, ab_en 58 [(2, 161)], [], (163, 9708, ab_new g 161 0, ab_new r 161 (-1))) = X at h ⊢
  exact h
set_option maxRecDepth 20000 in
/-- the law's own start -/
theorem lw_init {g r : ab_H} : ab_Gn 246 0 (ab_en 246 [(2, -2)]) [] (0, 0, g, r) (fun i' L' st' w' => i' = 13 ∧ L' = LwL 0 ∧ st' = [] ∧ ∃ g' r' : ab_H, w' = (187, 48711, g', r') ∧ Rel g' r' ∧ ∀ c : Int, c < 0 → g' c = g c ∧ r' c = r c) := by
  refine Gn_ex (q := (1, ab_en 246 [(2, -2)], [(2, 0)], (1, 18, ab_new g 0 0, ab_new r 0 (-1)))) (show ab_nth (ab_cod 246) 0 = some (52, 0, 0, 1) from rfl) (by decide) (by show (if ab_kd (ab_nm 0) = (((0 : Nat) : Int), (ab_nF 0 : Int)) ∧ (0 : Int) ≤ 0 ∧ (0 : Int) < 187 then _ else none) = _; exact if_pos ⟨by decide +kernel, by omega, by omega⟩) ?_
  show ab_Gn 246 1 (ab_en 246 [(2, -2)]) [(2, 0)] (1, 18, ab_new g 0 0, ab_new r 0 (-1)) _
  refine Gn_pure 1 (i' := 2) (L' := ab_en 246 [(2, -2)]) (st' := [(2, 0), (2, 0)]) rfl ?_
  refine Gn_call (k' := 0) [(2, 0)] [(2, 0)] rfl rfl rfl (by decide +kernel) (show ab_rvB 0 [(2, 0)] 1 = true by decide +kernel) ?_
  refine ⟨600, [], (162, 9662, ci_H ci_EG g, ci_H ci_ER r), ci_h1 g r, rfl, ?_⟩
  show ab_Gn 246 3 (ab_en 246 [(2, -2)]) [(2, 0)] (162, 9662, ci_H ci_EG g, ci_H ci_ER r) _
  refine Gn_pure 1 (i' := 4) (L' := [some (2, -2), some (2, 0), none, none, none, none, none]) (st' := []) rfl ?_
  refine Gn_ex (q := (5, [some (2, -2), some (2, 0), none, none, none, none, none], [(2, 161)], (163, 9708, ab_new (ci_H ci_EG g) 161 0, ab_new (ci_H ci_ER r) 161 (-1)))) (show ab_nth (ab_cod 246) 4 = some (52, 9, 0, 5) from rfl) (by decide) (by show (if ab_kd (ab_nm 162) = (((9 : Nat) : Int), (ab_nF 9 : Int)) ∧ (0 : Int) ≤ 162 ∧ (162 : Int) < 187 then _ else none) = _; exact if_pos ⟨by decide +kernel, by omega, by omega⟩) ?_
  show ab_Gn 246 5 [some (2, -2), some (2, 0), none, none, none, none, none] [(2, 161)] (163, 9708, ab_new (ci_H ci_EG g) 161 0, ab_new (ci_H ci_ER r) 161 (-1)) _
  refine Gn_pure 1 (i' := 6) (L' := [some (2, -2), some (2, 0), none, none, none, none, none]) (st' := [(2, 161), (2, 161)]) rfl ?_
  refine Gn_call (k' := 58) [(2, 161)] [(2, 161)] rfl rfl rfl (by decide +kernel) (show ab_rvB 58 [(2, 161)] 163 = true by decide +kernel) ?_
  refine Rn_it 101 (ci_h2 (ci_H ci_EG g) (ci_H ci_ER r)) ?_
  show ab_Rn 58 101 (ab_en 58 [(2, 161)]) [(2, 161)] (186, 48710, ci_H ci_MG (ci_H ci_EG g), ci_H ci_MR (ci_H ci_ER r)) _
  rw [← ci_app, ← ci_app]
  refine ci_M (S := 48710) (g := g) (r := r) (fun g' hR hn => ⟨rfl, ?_⟩)
  refine Gn_pure 2 (i' := 9) (L' := [some (2, -2), some (2, 0), some (2, 161), none, none, none, none]) (st' := [(0, 1)]) rfl ?_
  refine Gn_ex (q := (10, [some (2, -2), some (2, 0), some (2, 161), none, none, none, none], [(2, 185)], (187, 48711, ab_new g' 185 0, ab_new (ci_H ci_R r) 185 (-1)))) (show ab_nth (ab_cod 246) 9 = some (53, 3, 0, 10) from rfl) (by decide) (by show (if ab_kd (ab_nm 186) = (100 + ((3 : Nat) : Int), 1) ∧ (0 : Int) ≤ 186 ∧ (186 : Int) < 187 ∧ (0 : Int) ≤ 1 ∧ (1 : Int) < 100000 then _ else none) = _; exact if_pos ⟨by decide +kernel, by omega, by omega, by omega, by omega⟩) ?_
  show ab_Gn 246 10 [some (2, -2), some (2, 0), some (2, 161), none, none, none, none] [(2, 185)] (187, 48711, ab_new g' 185 0, ab_new (ci_H ci_R r) 185 (-1)) _
  refine Gn_pure 3 (i' := 13) (L' := LwL 0) (st' := []) rfl ?_
  exact Gn_done ⟨rfl, rfl, rfl, _, _, rfl, hR, fun c hc => ⟨by rw [ab_new_ne (by omega)]; exact hn c hc, by rw [ab_new_ne (by omega)]; exact (ci_neg g r hc).2⟩⟩
