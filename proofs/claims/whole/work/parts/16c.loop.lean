/-! THE LAW'S LOOP. -/
theorem Scr_185 {g r : ab_H} (R : Rel g r) (v : Int) : Scr g (ab_up g 185 0 v) r := by
  have h6 : r 0 6 ≤ 150 := by
    have h := R.1.2.2.1
    omega
  refine ⟨fun c j hc _ _ _ _ => by rw [ab_up_ne (by omega)], fun c h1 h2 => ab_up_ne (by omega), ab_up_ne (by omega), ab_up_ne (by omega), ?_, fun j _ _ _ _ _ _ _ => by rw [ab_up_ne (by omega)], ?_⟩
  · unfold ss
    rw [ab_up_ne (by omega)]
  · rw [ab_up_ne (by omega)]
    exact R.2.2.2.2.2.2.2.1
theorem lw_thr {g g' r : ab_H} (h : Scr g g' r) (e w : Int) : thr_of g' e w = thr_of g e w := by
  unfold thr_of
  rw [Scr_ss h]
theorem lw_val {g g' r : ab_H} (h : Scr g g' r) (e w : Int) : V_of g' e w = V_of g e w := by
  unfold V_of rp LL BB
  rw [Scr_ss h, Scr_tt h]
theorem lw_cmp (x : Int) : ab_cmp x x = 0 := by simp [ab_cmp]
theorem lw_L7 (i : Int) (u v : ab_V) : ∀ (j : Nat) (q : ab_V), ab_lk (LwL i) j = some q → ab_lk [some (2, -2), some (2, 0), some (2, 161), some (2, 185), some (0, i), some u, some v] j = some q := by
  intro j q h
  match j, h with
  | 0, h => exact h
  | 1, h => exact h
  | 2, h => exact h
  | 3, h => exact h
  | 4, h => exact h
  | 5, h => cases h
  | 6, h => cases h
  | n + 7, h => simp [LwL, ab_lk, ab_nth] at h
set_option maxRecDepth 20000 in
/-- behind the law's own of(): nothing thrown -/
theorem lw_of0 {S : Nat} {g r : ab_H} {i : Int} (hr : SI r) (R : Rel g r) (hI : ∀ j, I32 (g (-2) j)) (hi : 0 ≤ i ∧ i + 6 < r (-2) (-1)) (ht : thr_of g (g (-2) (i + 1)) (g (-2) (i + 2)) = 0) :
    ab_Gn 246 307 (LwL i) [(0, 0)] (187, S, ab_up g 185 0 (wr (V_of g (g (-2) (i + 1)) (g (-2) (i + 2)))), r) (LwT i S g r) := by
  have f0 := Scr_185 R (wr (V_of g (g (-2) (i + 1)) (g (-2) (i + 2))))
  have hn : (ab_up g 185 0 (wr (V_of g (g (-2) (i + 1)) (g (-2) (i + 2))))) (-2) = g (-2) := ab_up_ne (by omega)
  have ha : (ab_up g 185 0 (wr (V_of g (g (-2) (i + 1)) (g (-2) (i + 2))))) 185 0 = wr (V_of g (g (-2) (i + 1)) (g (-2) (i + 2))) := ab_up_at _ _ _ _
  have hc0 : ∀ c : Int, c < 0 → (ab_up g 185 0 (wr (V_of g (g (-2) (i + 1)) (g (-2) (i + 2))))) c = g c := fun c hc => ab_up_ne (by omega)
  generalize ab_up g 185 0 (wr (V_of g (g (-2) (i + 1)) (g (-2) (i + 2)))) = g0 at f0 hn ha hc0 ⊢
  have R0 := Rel_scr R f0
  refine Gn_pure 6 (i' := 313) (L' := [some (2, -2), some (2, 0), some (2, 161), some (2, 185), some (0, i), some (0, 0), none]) (st' := [(0, i + 1), (2, -2), (2, 161)]) rfl ?_
  refine Gn_sld rfl ⟨by omega, by omega⟩ ?_
  refine Gn_pure 4 (i' := 318) (L' := [some (2, -2), some (2, 0), some (2, 161), some (2, 185), some (0, i), some (0, 0), none]) (st' := [(0, i + 2), (2, -2), (0, g0 (-2) (i + 1)), (2, 161)]) rfl ?_
  refine Gn_sld rfl ⟨by omega, by omega⟩ ?_
  rw [hn]
  refine Gn_callI [(2, 161), (0, g (-2) (i + 1)), (0, g (-2) (i + 2))] [] rfl rfl rfl rfl (ab_rvB_of rfl lw_ob161) ?_
  refine (RI_prt (by decide) (by omega) (m_of hr (by omega) R0 (hI _) (hI _))).mono (fun y g2 r2 h => ?_)
  obtain ⟨⟨rfl, f2, h3, h4⟩, hp⟩ := h
  rw [lw_thr f0, ht] at h3 h4
  have hy := h4 rfl
  rw [lw_val f0] at hy
  subst hy
  have R2 := Rel_scr R0 f2
  refine Gn_pure 2 (i' := 322) (L' := [some (2, -2), some (2, 0), some (2, 161), some (2, 185), some (0, i), some (0, 0), some (0, V_of g (g (-2) (i + 1)) (g (-2) (i + 2)))]) (st' := [(2, 161)]) rfl ?_
  refine Gn_callI [(2, 161)] [] rfl rfl rfl rfl (ab_rvB_of rfl lw_ob161) ?_
  refine v_M_thrown _ R2.1.1 (by omega) ?_
  rw [h3]
  refine Gn_pure 1 (i' := 324) (L' := [some (2, -2), some (2, 0), some (2, 161), some (2, 185), some (0, i), some (0, 0), some (0, V_of g (g (-2) (i + 1)) (g (-2) (i + 2)))]) (st' := [(0, 0), (0, 0)]) rfl ?_
  refine Gn_ic rfl ?_
  rw [if_pos (show ab_cB 0 0 0 = true by decide)]
  refine Gn_pure 1 (i' := 328) (L' := [some (2, -2), some (2, 0), some (2, 161), some (2, 185), some (0, i), some (0, 0), some (0, V_of g (g (-2) (i + 1)) (g (-2) (i + 2)))]) (st' := [(0, 0)]) rfl ?_
  refine Gn_if rfl ?_
  rw [if_neg (show ¬ ab_cB 1 0 0 = true by decide)]
  refine Gn_pure 2 (i' := 331) (L' := [some (2, -2), some (2, 0), some (2, 161), some (2, 185), some (0, i), some (0, 0), some (0, V_of g (g (-2) (i + 1)) (g (-2) (i + 2)))]) (st' := [(0, 0), (2, 185)]) rfl ?_
  refine Gn_lald (n := 1) rfl ⟨by decide +kernel, by omega, by omega⟩ ⟨by omega, by omega⟩ ?_
  rw [(hp 185 (Or.inr rfl)).1, ha]
  refine Gn_pure 3 (i' := 335) (L' := [some (2, -2), some (2, 0), some (2, 161), some (2, 185), some (0, i), some (0, 0), some (0, V_of g (g (-2) (i + 1)) (g (-2) (i + 2)))]) (st' := [(0, ab_cmp (wr (V_of g (g (-2) (i + 1)) (g (-2) (i + 2)))) (wr (V_of g (g (-2) (i + 1)) (g (-2) (i + 2)))))]) rfl ?_
  rw [lw_cmp]
  refine Gn_if rfl ?_
  rw [if_pos (show ab_cB 0 0 0 = true by decide)]
  refine Gn_pure 1 (i' := 939) (L' := [some (2, -2), some (2, 0), some (2, 161), some (2, 185), some (0, i), some (0, 0), some (0, V_of g (g (-2) (i + 1)) (g (-2) (i + 2)))]) (st' := []) rfl ?_
  refine Gn_done ⟨rfl, lw_L7 i _ _, rfl, g2, r2, rfl, R2, fun c hc => ⟨(hp c (Or.inl hc)).1.trans (hc0 c hc), rfl⟩⟩
set_option maxRecDepth 20000 in
/-- behind the law's own of(): something thrown -/
theorem lw_of1 {S : Nat} {g r : ab_H} {i : Int} (hr : SI r) (R : Rel g r) (hI : ∀ j, I32 (g (-2) j)) (hi : 0 ≤ i ∧ i + 6 < r (-2) (-1)) (ht : ¬ thr_of g (g (-2) (i + 1)) (g (-2) (i + 2)) = 0) :
    ab_Gn 246 307 (LwL i) [(0, thr_of g (g (-2) (i + 1)) (g (-2) (i + 2)))] (187, S, g, r) (LwT i S g r) := by
  refine Gn_pure 6 (i' := 313) (L' := [some (2, -2), some (2, 0), some (2, 161), some (2, 185), some (0, i), some (0, thr_of g (g (-2) (i + 1)) (g (-2) (i + 2))), none]) (st' := [(0, i + 1), (2, -2), (2, 161)]) rfl ?_
  refine Gn_sld rfl ⟨by omega, by omega⟩ ?_
  refine Gn_pure 4 (i' := 318) (L' := [some (2, -2), some (2, 0), some (2, 161), some (2, 185), some (0, i), some (0, thr_of g (g (-2) (i + 1)) (g (-2) (i + 2))), none]) (st' := [(0, i + 2), (2, -2), (0, g (-2) (i + 1)), (2, 161)]) rfl ?_
  refine Gn_sld rfl ⟨by omega, by omega⟩ ?_
  refine Gn_callI [(2, 161), (0, g (-2) (i + 1)), (0, g (-2) (i + 2))] [] rfl rfl rfl rfl (ab_rvB_of rfl lw_ob161) ?_
  refine (RI_prt (by decide) (by omega) (m_of hr (by omega) R (hI _) (hI _))).mono (fun y g2 r2 h => ?_)
  obtain ⟨⟨rfl, f2, h3, h4⟩, hp⟩ := h
  have R2 := Rel_scr R f2
  have hw : ¬ wr (thr_of g (g (-2) (i + 1)) (g (-2) (i + 2))) = wr 0 := by
    unfold thr_of at ht ⊢
    split
    · split
      · rename_i h5 h6; rw [if_pos h5, if_pos h6] at ht; exact absurd rfl ht
      · decide
    · decide
  generalize thr_of g (g (-2) (i + 1)) (g (-2) (i + 2)) = tt0 at ht h3 h4 hw ⊢
  refine Gn_pure 2 (i' := 322) (L' := [some (2, -2), some (2, 0), some (2, 161), some (2, 185), some (0, i), some (0, tt0), some (0, y)]) (st' := [(2, 161)]) rfl ?_
  refine Gn_callI [(2, 161)] [] rfl rfl rfl rfl (ab_rvB_of rfl lw_ob161) ?_
  refine v_M_thrown _ R2.1.1 (by omega) ?_
  rw [h3]
  refine Gn_pure 1 (i' := 324) (L' := [some (2, -2), some (2, 0), some (2, 161), some (2, 185), some (0, i), some (0, tt0), some (0, y)]) (st' := [(0, tt0), (0, tt0)]) rfl ?_
  refine Gn_ic rfl ?_
  rw [if_pos (show ab_cB 0 tt0 tt0 = true by simp [ab_cB])]
  refine Gn_pure 1 (i' := 328) (L' := [some (2, -2), some (2, 0), some (2, 161), some (2, 185), some (0, i), some (0, tt0), some (0, y)]) (st' := [(0, tt0)]) rfl ?_
  refine Gn_if rfl ?_
  rw [if_pos (show ab_cB 1 tt0 0 = true by simp [ab_cB, hw])]
  refine Gn_pure 1 (i' := 939) (L' := [some (2, -2), some (2, 0), some (2, 161), some (2, 185), some (0, i), some (0, tt0), some (0, y)]) (st' := []) rfl ?_
  refine Gn_done ⟨rfl, lw_L7 i _ _, rfl, g2, r2, rfl, R2, fun c hc => ⟨(hp c (Or.inl hc)).1, rfl⟩⟩
set_option maxRecDepth 20000 in
/-- the way to the law's own of() -/
theorem lw_ofp {S : Nat} {g r : ab_H} {i : Int} (hi : 0 ≤ i ∧ i + 6 < r (-2) (-1)) : ab_Gn 246 294 (LwL i) [] (187, S, g, r) (fun i' L' st' w' => i' = 306 ∧ L' = LwL i ∧ st' = [(2, 185), (0, g (-2) (i + 2)), (0, g (-2) (i + 1)), (2, 0)] ∧ w' = (187, S, g, r)) := by
  refine Gn_pure 5 (i' := 299) (L' := LwL i) (st' := [(0, i + 1), (2, -2), (2, 0)]) rfl ?_
  refine Gn_sld rfl ⟨by omega, by omega⟩ ?_
  refine Gn_pure 4 (i' := 304) (L' := LwL i) (st' := [(0, i + 2), (2, -2), (0, g (-2) (i + 1)), (2, 0)]) rfl ?_
  refine Gn_sld rfl ⟨by omega, by omega⟩ ?_
  refine Gn_pure 1 (i' := 306) (L' := LwL i) (st' := [(2, 185), (0, g (-2) (i + 2)), (0, g (-2) (i + 1)), (2, 0)]) rfl ?_
  exact Gn_done ⟨rfl, rfl, rfl, rfl⟩
set_option maxRecDepth 20000 in
/-- the loop's head -/
theorem lw_stop {S : Nat} {g r : ab_H} {i : Int} (h0 : 0 ≤ i ∧ i < 10000) (h1 : 0 ≤ r (-2) (-1) ∧ r (-2) (-1) < 10000) (h2 : r (-2) (-1) < i + 7) : ab_Gn 246 13 (LwL i) [] (187, S, g, r) (fun i' _ st' w' => i' = 942 ∧ st' = [(0, 1)] ∧ w' = (187, S, g, r)) := by
  refine Gn_pure 2 (i' := 15) (L' := LwL i) (st' := [(2, -2), (0, i)]) rfl ?_
  refine Gn_slen rfl ?_
  refine Gn_pure 2 (i' := 18) (L' := LwL i) (st' := [(0, r (-2) (-1) - 7), (0, i)]) rfl ?_
  refine Gn_ic rfl ?_
  rw [if_pos (show ab_cB 4 i (r (-2) (-1) - 7) = true by
    show decide (wr (r (-2) (-1) - 7) < wr i) = true
    rw [wr_of (by omega) (by omega), wr_of (by omega) (by omega)]
    exact decide_eq_true (by omega))]
  refine Gn_pure 1 (i' := 942) (L' := LwL i) (st' := [(0, 1)]) rfl ?_
  exact Gn_done ⟨rfl, rfl, rfl⟩
def LwTs : List Nat := [25, 82, 99, 116, 143, 210, 267, 294, 339, 384, 411, 448, 485, 502, 519, 536, 573, 590, 607, 624, 651, 668, 695, 712, 739, 766, 793, 810, 837, 864, 901, 908, 915, 922]
theorem lw_tab : ab_nth ab_tsL 15 = some (0, 939, LwTs) := by decide +kernel
theorem lw_ts (x : Int) : ab_ts 15 x = 939 ∨ ab_ts 15 x ∈ LwTs := by
  unfold ab_ts
  rw [lw_tab]
  dsimp only
  split
  · exact Or.inl rfl
  · cases h : ab_nth LwTs (wr x - 0).toNat with
    | none => exact Or.inl rfl
    | some t => exact Or.inr (ab_nth_mem h)
set_option maxRecDepth 20000 in
theorem lw_go {S : Nat} {g r : ab_H} {i : Int} (h0 : 0 ≤ i ∧ i < 10000) (h1 : 0 ≤ r (-2) (-1) ∧ r (-2) (-1) < 10000) (h2 : i + 7 ≤ r (-2) (-1)) : ab_Gn 246 13 (LwL i) [] (187, S, g, r) (fun i' L' st' w' => (i' = 939 ∨ i' ∈ LwTs) ∧ L' = LwL i ∧ st' = [] ∧ w' = (187, S, g, r)) := by
  refine Gn_pure 2 (i' := 15) (L' := LwL i) (st' := [(2, -2), (0, i)]) rfl ?_
  refine Gn_slen rfl ?_
  refine Gn_pure 2 (i' := 18) (L' := LwL i) (st' := [(0, r (-2) (-1) - 7), (0, i)]) rfl ?_
  refine Gn_ic rfl ?_
  rw [if_neg (show ¬ ab_cB 4 i (r (-2) (-1) - 7) = true by
    show ¬ decide (wr (r (-2) (-1) - 7) < wr i) = true
    rw [wr_of (by omega) (by omega), wr_of (by omega) (by omega)]
    exact fun h => absurd (of_decide_eq_true h) (by omega))]
  refine Gn_pure 2 (i' := 21) (L' := LwL i) (st' := [(0, i), (2, -2)]) rfl ?_
  refine Gn_sld rfl ⟨by omega, by omega⟩ ?_
  refine Gn_pure 2 (i' := 24) (L' := LwL i) (st' := [(0, ab_and (g (-2) i) 63)]) rfl ?_
  refine Gn_ts rfl ?_
  exact Gn_done ⟨lw_ts _, rfl, rfl, rfl⟩
theorem lw_cases {S : Nat} {g r : ab_H} {i : Int} {t : Nat} (R : Rel g r) (hI : ∀ j, I32 (g (-2) j)) (hi : 0 ≤ i ∧ i + 6 < r (-2) (-1)) (ht : t = 939 ∨ t ∈ LwTs) (h7 : t ≠ 294) : ab_Gn 246 t (LwL i) [] (187, S, g, r) (LwT i S g r) := by
  have hr := R.1.1
  rcases ht with rfl | ht
  · exact Gn_done ⟨rfl, fun _ _ h => h, rfl, g, r, rfl, R, fun _ _ => ⟨rfl, rfl⟩⟩
  · simp only [LwTs, List.mem_cons, List.not_mem_nil, or_false] at ht
    rcases ht with rfl | rfl | rfl | rfl | rfl | rfl | rfl | rfl | rfl | rfl | rfl | rfl | rfl | rfl | rfl | rfl | rfl | rfl | rfl | rfl | rfl | rfl | rfl | rfl | rfl | rfl | rfl | rfl | rfl | rfl | rfl | rfl | rfl | rfl
    · exact lwc_feed hr R hI hi
    · exact lwc_text hr R hI hi
    · exact lwc_fault hr R hI hi
    · exact lwc_named hr R hI hi
    · exact lwc_event hr R hI hi
    · exact lwc_old hr R hI hi
    · exact lwc_revoke hr R hI hi
    · exact absurd rfl h7
    · exact lwc_field hr R hI hi
    · exact lwc_account hr R hI hi
    · exact lwc_at hr R hI hi
    · exact lwc_known hr R hI hi
    · exact lwc_cost hr R hI hi
    · exact lwc_costAt hr R hI hi
    · exact lwc_snapshot hr R hI hi
    · exact lwc_inSnapshot hr R hI hi
    · exact lwc_bestPlace hr R hI hi
    · exact lwc_aside hr R hI hi
    · exact lwc_blame hr R hI hi
    · exact lwc_without hr R hI hi
    · exact lwc_firstBelow hr R hI hi
    · exact lwc_peak hr R hI hi
    · exact lwc_touches hr R hI hi
    · exact lwc_ifPlain hr R hI hi
    · exact lwc_resnap hr R hI hi
    · exact lwc_see hr R hI hi
    · exact lwc_rewind hr R hI hi
    · exact lwc_tally hr R hI hi
    · exact lwc_sum hr R hI hi
    · exact lwc_chance hr R hI hi
    · exact lwc_undo hr R hI hi
    · exact lwc_keep hr R hI hi
    · exact lwc_back hr R hI hi
    · exact lwc_count hr R hI hi
set_option maxRecDepth 20000 in
theorem lw_next {S : Nat} {g r : ab_H} {i : Int} : ab_Gn 246 939 (LwL i) [] (187, S, g, r) (fun i' L' st' w' => i' = 13 ∧ L' = LwL (i + 7) ∧ st' = [] ∧ w' = (187, S, g, r)) :=
  Gn_pure 2 (i' := 13) (L' := LwL (i + 7)) (st' := []) rfl (Gn_done ⟨rfl, rfl, rfl, rfl⟩)
/-- the loop -/
theorem lw_loop {p : Program} {l : Launch} {e : Env} {R : Room} {s : State} {m : MethodId} {args : Array Value} {below : List Frame} {meth : Method} {c : Code} {Q : State → Prop} {D : va_G} {cA : Nat → ClassId} {bnd : Nat} {aS : Int → Nat} {SL : Nat} {xs : Nat → Int32} (hst : l.stackTraces = false) (C : ab_Cx D cA bnd aS SL xs 246 p R s m args meth c) (hxF : xc_F bnd s s.heap) (hxV : xc_V s) (hRf : 12 ≤ R.frames ∧ 484 ≤ R.locals)
    (hend : ∀ (K0 : Int) (S : Nat) (g r : ab_H) (L : ab_F), K0 ≤ 187 → (187 - K0).toNat ≤ R.cells → S ≤ R.slots → ab_WW p l e R s m args below meth c Q D cA bnd aS SL xs K0 0 246 942 L [(0, 1)] (187, S, g, r)) :
    ∀ (n : Nat) (i K0 : Int) (S : Nat) (g r : ab_H), Rel g r → (∀ j, I32 (g (-2) j)) → (0 ≤ r (-2) (-1) ∧ r (-2) (-1) < 9000) → 0 ≤ i → i < 9007 → r (-2) (-1) < i + 7 * n + 7 → K0 ≤ 187 → (187 - K0).toNat + n ≤ R.cells → S + 6 * n ≤ R.slots → ab_WW p l e R s m args below meth c Q D cA bnd aS SL xs K0 0 246 13 (LwL i) [] (187, S, g, r) := by
  intro n
  induction n with
  | zero =>
    intro i K0 S g r Rl hI hlen h0 h1 hn hk hc hs
    refine Gn_W l (lw_stop ⟨h0, by omega⟩ ⟨hlen.1, by omega⟩ (by omega)) C hk (Nat.zero_le _) (fun i' L' st' w' hT => ?_)
    obtain ⟨rfl, rfl, rfl⟩ := hT
    exact ⟨by show (187 - K0).toNat ≤ _; omega, by show S - 0 ≤ _; omega, hend _ _ _ _ _ hk (by omega) (by omega)⟩
  | succ n ih =>
    intro i K0 S g r Rl hI hlen h0 h1 hn hk hc hs
    have hnext : ∀ (K1 : Int) (S1 : Nat) (g1 r1 : ab_H), K1 ≤ 187 → (187 - K1).toNat + n ≤ R.cells → S1 + 6 * n ≤ R.slots → i + 7 ≤ r (-2) (-1) → ∀ (i' : Nat) (L' : ab_F) (st' : List ab_V) (w' : ab_W), (∀ c : Int, c < 0 → g1 c = g c ∧ r1 c = r c) → LwT i S1 g1 r1 i' L' st' w' → (w'.1 - K1).toNat ≤ R.cells ∧ w'.2.1 - 0 ≤ R.slots ∧ ab_WW p l e R s m args below meth c Q D cA bnd aS SL xs K1 0 246 i' L' st' w' := by
      intro K1 S1 g1 r1 hk1 hc1 hs1 hi7 i' L' st' w' hneg hT
      obtain ⟨rfl, hL, rfl, g2, r2, rfl, R2, hn2⟩ := hT
      refine ⟨by show (187 - K1).toNat ≤ _; omega, by show S1 - 0 ≤ _; omega, WW_weak hL ?_⟩
      refine Gn_W l lw_next C hk1 (Nat.zero_le _) (fun i' L' st' w' hT => ?_)
      obtain ⟨rfl, rfl, rfl, rfl⟩ := hT
      have e1 : g2 (-2) = g (-2) := (hn2 (-2) (by omega)).1.trans (hneg (-2) (by omega)).1
      have e2 : r2 (-2) = r (-2) := (hn2 (-2) (by omega)).2.trans (hneg (-2) (by omega)).2
      exact ⟨by show (187 - K1).toNat ≤ _; omega, by show S1 - 0 ≤ _; omega, ih (i + 7) K1 S1 g2 r2 R2 (by rw [e1]; exact hI) (by rw [e2]; exact hlen) (by omega) (by omega) (by rw [e2]; omega) hk1 hc1 hs1⟩
    by_cases h7 : i + 7 ≤ r (-2) (-1)
    · refine Gn_W l (lw_go ⟨h0, by omega⟩ ⟨hlen.1, by omega⟩ h7) C hk (Nat.zero_le _) (fun i' L' st' w' hT => ?_)
      obtain ⟨ht, rfl, rfl, rfl⟩ := hT
      refine ⟨by show (187 - K0).toNat ≤ _; omega, by show S - 0 ≤ _; omega, ?_⟩
      by_cases hof : i' = 294
      · subst hof
        refine Gn_W l (lw_ofp (S := S) (g := g) (r := r) (i := i) ⟨h0, by omega⟩) C hk (Nat.zero_le _) (fun i' L' st' w' hT => ?_)
        obtain ⟨rfl, rfl, rfl, rfl⟩ := hT
        refine ⟨by show (187 - K0).toNat ≤ _; omega, by show S - 0 ≤ _; omega, ?_⟩
        obtain ⟨n1, v, w', hrun, hQ⟩ := s_EL_of (K := 187) (S := S) (g := g) (r := r) (e := g (-2) (i + 1)) (w := g (-2) (i + 2)) (fun x g1 r1 => x = V_of g (g (-2) (i + 1)) (g (-2) (i + 2)) ∧ thr_of g (g (-2) (i + 1)) (g (-2) (i + 2)) = 0 ∧ g1 = g ∧ r1 = r) (fun cn g1 r1 => cn = thr_of g (g (-2) (i + 1)) (g (-2) (i + 2)) ∧ ¬ thr_of g (g (-2) (i + 1)) (g (-2) (i + 2)) = 0 ∧ g1 = g ∧ r1 = r) Rl.1.1 (by omega) Rl (hI _) (hI _) (fun h => ⟨rfl, h, rfl, rfl⟩) (fun h => ⟨rfl, h, rfl, rfl⟩)
        rcases hQ with ⟨x, g1, r1, rfl, rfl, rfl, ht0, rfl, rfl⟩ | ⟨cn, g1, r1, rfl, rfl, rfl, ht0, rfl, rfl⟩
        · refine ab_p73 hst C hxF hxV hRf hrun (Or.inl ⟨_, rfl⟩) hk (by omega) (by omega) (fun x hx => ?_) (fun cn hcn => by cases hcn)
          cases hx
          exact Gn_W l (lw_of0 Rl.1.1 Rl hI ⟨h0, by omega⟩ ht0) C (by show K0 - 1 ≤ 187; omega) (Nat.zero_le _) (hnext (K0 - 1) (S + 6) g1 r1 (by omega) (by omega) (by omega) h7 · · · · (fun _ _ => ⟨rfl, rfl⟩) ·)
        · refine ab_p73 hst C hxF hxV hRf hrun (Or.inr ⟨_, rfl⟩) hk (by omega) (by omega) (fun x hx => by cases hx) (fun cn hcn => ?_)
          cases hcn
          exact Gn_W l (lw_of1 Rl.1.1 Rl hI ⟨h0, by omega⟩ ht0) C (by show K0 - 1 ≤ 187; omega) (Nat.zero_le _) (hnext (K0 - 1) (S + 6) g1 r1 (by omega) (by omega) (by omega) h7 · · · · (fun _ _ => ⟨rfl, rfl⟩) ·)
      · exact Gn_W l (lw_cases Rl hI ⟨h0, by omega⟩ ht hof) C hk (Nat.zero_le _) (hnext K0 S g r hk (by omega) (by omega) h7 · · · · (fun _ _ => ⟨rfl, rfl⟩) ·)
    · refine Gn_W l (lw_stop ⟨h0, by omega⟩ ⟨hlen.1, by omega⟩ (by omega)) C hk (Nat.zero_le _) (fun i' L' st' w' hT => ?_)
      obtain ⟨rfl, rfl, rfl⟩ := hT
      exact ⟨by show (187 - K0).toNat ≤ _; omega, by show S - 0 ≤ _; omega, hend _ _ _ _ _ hk (by omega) (by omega)⟩
