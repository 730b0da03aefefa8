-- EventLedger.feed (IIIII)I
theorem v_EL_feed {K : Int} {S : Nat} {g r : ab_H} {p1 p2 p3 p4 p5 : Int} (P : Int → ab_H → ab_H → Prop) (hr : SI r) (hK : 186 ≤ K) (h : ((wr (g 0 1 + 20) ≤ wr 900 → ab_RV m_EL_putBytes [(2, 0), (0, p1)] K S g r (fun g1 r' => r' = r ∧ (ab_RV m_EL_putBytes [(2, 0), (0, p2)] K S g1 r (fun g3 r' => r' = r ∧ (ab_RV m_EL_putBytes [(2, 0), (0, p3)] K S g3 r (fun g5 r' => r' = r ∧ (ab_RV m_EL_putBytes [(2, 0), (0, p4)] K S g5 r (fun g7 r' => r' = r ∧ (ab_RV m_EL_putBytes [(2, 0), (0, p5)] K S g7 r (fun g9 r' => r' = r ∧ (P (g9 0 1) g9 r))))))))))) ∧ (wr 900 < wr (g 0 1 + 20) → P (-1) g r))) : ab_RI m_EL_feed [(2, 0), (0, p1), (0, p2), (0, p3), (0, p4), (0, p5)] K S g r P := by
  show ab_Rn m_EL_feed 0 [some (2, 0), some (0, p1), some (0, p2), some (0, p3), some (0, p4), some (0, p5)] [] (K, S, g, r) (ab_Qi K S P)
  refine Rn_pure 1 (i' := 1) (L' := [some (2, 0), some (0, p1), some (0, p2), some (0, p3), some (0, p4), some (0, p5)]) (st' := [(2, 0)]) rfl ?_
  refine Rn_getI rfl (⟨rfl, (by omega : (0 : Int) ≤ 0), (by omega : (0 : Int) + 1 < K ∧ 5 < K)⟩) ?_
  refine Rn_pure 3 (i' := 5) (L' := [some (2, 0), some (0, p1), some (0, p2), some (0, p3), some (0, p4), some (0, p5)]) (st' := [(0, 900), (0, g 0 1 + 20)]) rfl ?_
  refine Rn_icle rfl (fun hc => ?_) (fun hc => ?_)
  · have h := h.1 hc
    refine Rn_pure 2 (i' := 10) (L' := [some (2, 0), some (0, p1), some (0, p2), some (0, p3), some (0, p4), some (0, p5)]) (st' := [(0, p1), (2, 0)]) rfl ?_
    refine Rn_callV [(2, 0), (0, p1)] [] rfl rfl rfl rfl (ab_rvB_of rfl (⟨rfl, (by omega : (0 : Int) ≤ 0), (by omega : (0 : Int) + 1 < K ∧ 5 < K)⟩)) ?_
    refine h.mono (fun g1 r' h => ?_)
    obtain ⟨hx, h⟩ := h
    replace hx := hx.symm
    subst hx
    refine Rn_pure 2 (i' := 13) (L' := [some (2, 0), some (0, p1), some (0, p2), some (0, p3), some (0, p4), some (0, p5)]) (st' := [(0, p2), (2, 0)]) rfl ?_
    refine Rn_callV [(2, 0), (0, p2)] [] rfl rfl rfl rfl (ab_rvB_of rfl (⟨rfl, (by omega : (0 : Int) ≤ 0), (by omega : (0 : Int) + 1 < K ∧ 5 < K)⟩)) ?_
    refine h.mono (fun g3 r' h => ?_)
    obtain ⟨hx, h⟩ := h
    replace hx := hx.symm
    subst hx
    refine Rn_pure 2 (i' := 16) (L' := [some (2, 0), some (0, p1), some (0, p2), some (0, p3), some (0, p4), some (0, p5)]) (st' := [(0, p3), (2, 0)]) rfl ?_
    refine Rn_callV [(2, 0), (0, p3)] [] rfl rfl rfl rfl (ab_rvB_of rfl (⟨rfl, (by omega : (0 : Int) ≤ 0), (by omega : (0 : Int) + 1 < K ∧ 5 < K)⟩)) ?_
    refine h.mono (fun g5 r' h => ?_)
    obtain ⟨hx, h⟩ := h
    replace hx := hx.symm
    subst hx
    refine Rn_pure 2 (i' := 19) (L' := [some (2, 0), some (0, p1), some (0, p2), some (0, p3), some (0, p4), some (0, p5)]) (st' := [(0, p4), (2, 0)]) rfl ?_
    refine Rn_callV [(2, 0), (0, p4)] [] rfl rfl rfl rfl (ab_rvB_of rfl (⟨rfl, (by omega : (0 : Int) ≤ 0), (by omega : (0 : Int) + 1 < K ∧ 5 < K)⟩)) ?_
    refine h.mono (fun g7 r' h => ?_)
    obtain ⟨hx, h⟩ := h
    replace hx := hx.symm
    subst hx
    refine Rn_pure 2 (i' := 22) (L' := [some (2, 0), some (0, p1), some (0, p2), some (0, p3), some (0, p4), some (0, p5)]) (st' := [(0, p5), (2, 0)]) rfl ?_
    refine Rn_callV [(2, 0), (0, p5)] [] rfl rfl rfl rfl (ab_rvB_of rfl (⟨rfl, (by omega : (0 : Int) ≤ 0), (by omega : (0 : Int) + 1 < K ∧ 5 < K)⟩)) ?_
    refine h.mono (fun g9 r' h => ?_)
    obtain ⟨hx, h⟩ := h
    replace hx := hx.symm
    subst hx
    refine Rn_pure 1 (i' := 24) (L' := [some (2, 0), some (0, p1), some (0, p2), some (0, p3), some (0, p4), some (0, p5)]) (st' := [(2, 0)]) rfl ?_
    refine Rn_getI rfl (⟨rfl, (by omega : (0 : Int) ≤ 0), (by omega : (0 : Int) + 1 < K ∧ 5 < K)⟩) ?_
    exact Rn_ret1 rfl h
  · have h := h.2 hc
    refine Rn_pure 1 (i' := 7) (L' := [some (2, 0), some (0, p1), some (0, p2), some (0, p3), some (0, p4), some (0, p5)]) (st' := [(0, (-1))]) rfl ?_
    exact Rn_ret1 rfl h
-- EventLedger.text (I)I
theorem v_EL_text {K : Int} {S : Nat} {g r : ab_H} {p1 : Int} (P : Int → ab_H → ab_H → Prop) (hr : SI r) (hK : 186 ≤ K) (h : ((wr p1 < wr 0 → P (-2) g r) ∧ (wr 0 ≤ wr p1 → ((wr p1 ≤ wr (g 0 1) → ∀ g1, g1 = ab_up g 0 1 0 → (isTe (r 0 4)) ∧ (isLg (r 0 6)) ∧ ab_RI m_Pa_parse [(2, 2), (2, 1), (0, p1), (2, r 0 4), (2, r 0 6)] K S g1 r (fun x6 g4 r5 => SI r5 ∧ (((¬ wr x6 = wr (-1) → ab_RV m_EL_takeOverSpares [(2, 0)] K S g4 r5 (fun g8 r9 => SI r9 ∧ ((isTe (r9 0 3)) ∧ ∀ g13, g13 = ab_up g8 57 2 (g8 (r9 0 3) 10) → (isTe (r9 0 3)) ∧ ∀ g15, g15 = ab_up g13 57 3 (g13 (r9 0 3) 11) → ab_RV m_Ta_clear [(2, 61)] K S g15 r9 (fun g16 r' => r' = r9 ∧ (∀ g18, g18 = ab_up g16 0 14 0 → ∀ g19, g19 = ab_up g18 0 17 0 → ab_RV m_EL_rebuild [(2, 0)] K S g19 r9 (fun g20 r' => r' = r9 ∧ (P x6 g20 r9))))))) ∧ (wr x6 = wr (-1) → P (-1) g4 r5))))) ∧ (wr (g 0 1) < wr p1 → P (-2) g r))))) : ab_RI m_EL_text [(2, 0), (0, p1)] K S g r P := by
  show ab_Rn m_EL_text 0 [some (2, 0), some (0, p1), none] [] (K, S, g, r) (ab_Qi K S P)
  refine Rn_pure 1 (i' := 1) (L' := [some (2, 0), some (0, p1), none]) (st' := [(0, p1)]) rfl ?_
  refine Rn_iflt rfl (fun hc => ?_) (fun hc => ?_)
  · have h := h.1 hc
    refine Rn_pure 1 (i' := 7) (L' := [some (2, 0), some (0, p1), none]) (st' := [(0, (-2))]) rfl ?_
    exact Rn_ret1 rfl h
  · have h := h.2 hc
    refine Rn_pure 2 (i' := 4) (L' := [some (2, 0), some (0, p1), none]) (st' := [(2, 0), (0, p1)]) rfl ?_
    refine Rn_getI rfl (⟨rfl, (by omega : (0 : Int) ≤ 0), (by omega : (0 : Int) + 1 < K ∧ 5 < K)⟩) ?_
    refine Rn_icle rfl (fun hc => ?_) (fun hc => ?_)
    · have h := h.1 hc
      refine Rn_pure 2 (i' := 10) (L' := [some (2, 0), some (0, p1), none]) (st' := [(0, 0), (2, 0)]) rfl ?_
      refine Rn_putI rfl (⟨rfl, (by omega : (0 : Int) ≤ 0), (by omega : (0 : Int) + 1 < K ∧ 5 < K)⟩) (fun g1 he_g1 => ?_)
      have h := h g1 he_g1
      refine Rn_pure 1 (i' := 12) (L' := [some (2, 0), some (0, p1), none]) (st' := [(2, 0)]) rfl ?_
      refine Rn_getR rfl (⟨rfl, (by omega : (0 : Int) ≤ 0), (by omega : (0 : Int) + 1 < K ∧ 5 < K)⟩) (hr 1 _ rfl) (by decide) ?_
      refine Rn_pure 1 (i' := 14) (L' := [some (2, 0), some (0, p1), none]) (st' := [(2, 0), (2, 2)]) rfl ?_
      refine Rn_getR rfl (⟨rfl, (by omega : (0 : Int) ≤ 0), (by omega : (0 : Int) + 1 < K ∧ 5 < K)⟩) (hr 0 _ rfl) (by decide) ?_
      refine Rn_pure 2 (i' := 17) (L' := [some (2, 0), some (0, p1), none]) (st' := [(2, 0), (0, p1), (2, 1), (2, 2)]) rfl ?_
      obtain ⟨hf2, h⟩ := h
      refine Rn_getR rfl (⟨rfl, (by omega : (0 : Int) ≤ 0), (by omega : (0 : Int) + 1 < K ∧ 5 < K)⟩) rfl (nn_Te hf2) ?_
      refine Rn_pure 1 (i' := 19) (L' := [some (2, 0), some (0, p1), none]) (st' := [(2, 0), (2, r 0 4), (0, p1), (2, 1), (2, 2)]) rfl ?_
      obtain ⟨hf3, h⟩ := h
      refine Rn_getR rfl (⟨rfl, (by omega : (0 : Int) ≤ 0), (by omega : (0 : Int) + 1 < K ∧ 5 < K)⟩) rfl (nn_Lg hf3) ?_
      refine Rn_callI [(2, 2), (2, 1), (0, p1), (2, r 0 4), (2, r 0 6)] [] rfl rfl rfl rfl (ab_rvB_of rfl (⟨rfl, (by omega : (0 : Int) ≤ 2), (by omega : (2 : Int) + 1 < K ∧ 5 < K)⟩)) ?_
      refine h.mono (fun x6 g4 r5 h => ?_)
      obtain ⟨hr7, h⟩ := h
      refine Rn_pure 3 (i' := 24) (L' := [some (2, 0), some (0, p1), some (0, x6)]) (st' := [(0, (-1)), (0, x6)]) rfl ?_
      refine Rn_icne rfl (fun hc => ?_) (fun hc => ?_)
      · have h := h.1 hc
        refine Rn_pure 1 (i' := 28) (L' := [some (2, 0), some (0, p1), some (0, x6)]) (st' := [(2, 0)]) rfl ?_
        refine Rn_callV [(2, 0)] [] rfl rfl rfl rfl (ab_rvB_of rfl (⟨rfl, (by omega : (0 : Int) ≤ 0), (by omega : (0 : Int) + 1 < K ∧ 5 < K)⟩)) ?_
        refine h.mono (fun g8 r9 h => ?_)
        obtain ⟨hr11, h⟩ := h
        refine Rn_pure 1 (i' := 30) (L' := [some (2, 0), some (0, p1), some (0, x6)]) (st' := [(2, 0)]) rfl ?_
        refine Rn_getR rfl (⟨rfl, (by omega : (0 : Int) ≤ 0), (by omega : (0 : Int) + 1 < K ∧ 5 < K)⟩) (hr11 4 _ rfl) (by decide) ?_
        refine Rn_pure 1 (i' := 32) (L' := [some (2, 0), some (0, p1), some (0, x6)]) (st' := [(2, 0), (2, 57)]) rfl ?_
        obtain ⟨hf12, h⟩ := h
        refine Rn_getR rfl (⟨rfl, (by omega : (0 : Int) ≤ 0), (by omega : (0 : Int) + 1 < K ∧ 5 < K)⟩) rfl (nn_Te hf12) ?_
        refine Rn_getI rfl (ob_Te hf12 hK) ?_
        refine Rn_putI rfl (⟨rfl, (by omega : (0 : Int) ≤ 57), (by omega : (57 : Int) + 1 < K ∧ 5 < K)⟩) (fun g13 he_g13 => ?_)
        have h := h g13 he_g13
        refine Rn_pure 1 (i' := 36) (L' := [some (2, 0), some (0, p1), some (0, x6)]) (st' := [(2, 0)]) rfl ?_
        refine Rn_getR rfl (⟨rfl, (by omega : (0 : Int) ≤ 0), (by omega : (0 : Int) + 1 < K ∧ 5 < K)⟩) (hr11 4 _ rfl) (by decide) ?_
        refine Rn_pure 1 (i' := 38) (L' := [some (2, 0), some (0, p1), some (0, x6)]) (st' := [(2, 0), (2, 57)]) rfl ?_
        obtain ⟨hf14, h⟩ := h
        refine Rn_getR rfl (⟨rfl, (by omega : (0 : Int) ≤ 0), (by omega : (0 : Int) + 1 < K ∧ 5 < K)⟩) rfl (nn_Te hf14) ?_
        refine Rn_getI rfl (ob_Te hf14 hK) ?_
        refine Rn_putI rfl (⟨rfl, (by omega : (0 : Int) ≤ 57), (by omega : (57 : Int) + 1 < K ∧ 5 < K)⟩) (fun g15 he_g15 => ?_)
        have h := h g15 he_g15
        refine Rn_pure 1 (i' := 42) (L' := [some (2, 0), some (0, p1), some (0, x6)]) (st' := [(2, 0)]) rfl ?_
        refine Rn_getR rfl (⟨rfl, (by omega : (0 : Int) ≤ 0), (by omega : (0 : Int) + 1 < K ∧ 5 < K)⟩) (hr11 6 _ rfl) (by decide) ?_
        refine Rn_callV [(2, 61)] [] rfl rfl rfl rfl (ab_rvB_of rfl (⟨rfl, (by omega : (0 : Int) ≤ 61), (by omega : (61 : Int) + 1 < K ∧ 5 < K)⟩)) ?_
        refine h.mono (fun g16 r' h => ?_)
        obtain ⟨hx, h⟩ := h
        replace hx := hx.symm
        subst hx
        refine Rn_pure 2 (i' := 46) (L' := [some (2, 0), some (0, p1), some (0, x6)]) (st' := [(0, 0), (2, 0)]) rfl ?_
        refine Rn_putI rfl (⟨rfl, (by omega : (0 : Int) ≤ 0), (by omega : (0 : Int) + 1 < K ∧ 5 < K)⟩) (fun g18 he_g18 => ?_)
        have h := h g18 he_g18
        refine Rn_pure 2 (i' := 49) (L' := [some (2, 0), some (0, p1), some (0, x6)]) (st' := [(0, 0), (2, 0)]) rfl ?_
        refine Rn_putZ rfl (⟨rfl, (by omega : (0 : Int) ≤ 0), (by omega : (0 : Int) + 1 < K ∧ 5 < K)⟩) (by decide) (fun g19 he_g19 => ?_)
        have h := h g19 he_g19
        refine Rn_pure 1 (i' := 51) (L' := [some (2, 0), some (0, p1), some (0, x6)]) (st' := [(2, 0)]) rfl ?_
        refine Rn_callV [(2, 0)] [] rfl rfl rfl rfl (ab_rvB_of rfl (⟨rfl, (by omega : (0 : Int) ≤ 0), (by omega : (0 : Int) + 1 < K ∧ 5 < K)⟩)) ?_
        refine h.mono (fun g20 r' h => ?_)
        obtain ⟨hx, h⟩ := h
        replace hx := hx.symm
        subst hx
        refine Rn_pure 1 (i' := 53) (L' := [some (2, 0), some (0, p1), some (0, x6)]) (st' := [(0, x6)]) rfl ?_
        exact Rn_ret1 rfl h
      · have h := h.2 hc
        refine Rn_pure 1 (i' := 26) (L' := [some (2, 0), some (0, p1), some (0, x6)]) (st' := [(0, (-1))]) rfl ?_
        exact Rn_ret1 rfl h
    · have h := h.2 hc
      refine Rn_pure 1 (i' := 7) (L' := [some (2, 0), some (0, p1), none]) (st' := [(0, (-2))]) rfl ?_
      exact Rn_ret1 rfl h
-- EventLedger.fault (I)I
theorem v_EL_fault {K : Int} {S : Nat} {g r : ab_H} {p1 : Int} (P : Int → ab_H → ab_H → Prop) (hr : SI r) (hK : 186 ≤ K) (h : ((¬ wr p1 = wr 0 → ((¬ wr p1 = wr 1 → P (-1) g r) ∧ (wr p1 = wr 1 → P (g 2 7) g r))) ∧ (wr p1 = wr 0 → P (g 2 6) g r))) : ab_RI m_EL_fault [(2, 0), (0, p1)] K S g r P := by
  show ab_Rn m_EL_fault 0 [some (2, 0), some (0, p1)] [] (K, S, g, r) (ab_Qi K S P)
  refine Rn_pure 1 (i' := 1) (L' := [some (2, 0), some (0, p1)]) (st' := [(0, p1)]) rfl ?_
  refine Rn_ifne rfl (fun hc => ?_) (fun hc => ?_)
  · have h := h.1 hc
    refine Rn_pure 2 (i' := 8) (L' := [some (2, 0), some (0, p1)]) (st' := [(0, 1), (0, p1)]) rfl ?_
    refine Rn_icne rfl (fun hc => ?_) (fun hc => ?_)
    · have h := h.1 hc
      refine Rn_pure 1 (i' := 14) (L' := [some (2, 0), some (0, p1)]) (st' := [(0, (-1))]) rfl ?_
      exact Rn_ret1 rfl h
    · have h := h.2 hc
      refine Rn_pure 1 (i' := 10) (L' := [some (2, 0), some (0, p1)]) (st' := [(2, 0)]) rfl ?_
      refine Rn_getR rfl (⟨rfl, (by omega : (0 : Int) ≤ 0), (by omega : (0 : Int) + 1 < K ∧ 5 < K)⟩) (hr 1 _ rfl) (by decide) ?_
      refine Rn_getI rfl (⟨rfl, (by omega : (0 : Int) ≤ 2), (by omega : (2 : Int) + 1 < K ∧ 5 < K)⟩) ?_
      refine Rn_pure 1 (i' := 14) (L' := [some (2, 0), some (0, p1)]) (st' := [(0, g 2 7)]) rfl ?_
      exact Rn_ret1 rfl h
  · have h := h.2 hc
    refine Rn_pure 1 (i' := 3) (L' := [some (2, 0), some (0, p1)]) (st' := [(2, 0)]) rfl ?_
    refine Rn_getR rfl (⟨rfl, (by omega : (0 : Int) ≤ 0), (by omega : (0 : Int) + 1 < K ∧ 5 < K)⟩) (hr 1 _ rfl) (by decide) ?_
    refine Rn_getI rfl (⟨rfl, (by omega : (0 : Int) ≤ 2), (by omega : (2 : Int) + 1 < K ∧ 5 < K)⟩) ?_
    exact Rn_ret1 rfl h
-- EventLedger.named (II)I
theorem v_EL_named {K : Int} {S : Nat} {g r : ab_H} {p1 p2 : Int} (P : Int → ab_H → ab_H → Prop) (hr : SI r) (hK : 186 ≤ K) (h : ((¬ wr p1 = wr 0 → ((¬ wr p1 = wr 1 → P (-1) g r) ∧ (wr p1 = wr 1 → (isTe (r 0 3)) ∧ ab_RI m_Te_tallyNamed [(2, r 0 3), (0, p2)] K S g r (fun x2 g' r' => g' = g ∧ r' = r ∧ (P x2 g r))))) ∧ (wr p1 = wr 0 → (isTe (r 0 3)) ∧ ab_RI m_Te_accountNamed [(2, r 0 3), (0, p2)] K S g r (fun x4 g' r' => g' = g ∧ r' = r ∧ (P x4 g r))))) : ab_RI m_EL_named [(2, 0), (0, p1), (0, p2)] K S g r P := by
  show ab_Rn m_EL_named 0 [some (2, 0), some (0, p1), some (0, p2)] [] (K, S, g, r) (ab_Qi K S P)
  refine Rn_pure 1 (i' := 1) (L' := [some (2, 0), some (0, p1), some (0, p2)]) (st' := [(0, p1)]) rfl ?_
  refine Rn_ifne rfl (fun hc => ?_) (fun hc => ?_)
  · have h := h.1 hc
    refine Rn_pure 2 (i' := 9) (L' := [some (2, 0), some (0, p1), some (0, p2)]) (st' := [(0, 1), (0, p1)]) rfl ?_
    refine Rn_icne rfl (fun hc => ?_) (fun hc => ?_)
    · have h := h.1 hc
      refine Rn_pure 1 (i' := 16) (L' := [some (2, 0), some (0, p1), some (0, p2)]) (st' := [(0, (-1))]) rfl ?_
      exact Rn_ret1 rfl h
    · have h := h.2 hc
      refine Rn_pure 1 (i' := 11) (L' := [some (2, 0), some (0, p1), some (0, p2)]) (st' := [(2, 0)]) rfl ?_
      obtain ⟨hf1, h⟩ := h
      refine Rn_getR rfl (⟨rfl, (by omega : (0 : Int) ≤ 0), (by omega : (0 : Int) + 1 < K ∧ 5 < K)⟩) rfl (nn_Te hf1) ?_
      refine Rn_pure 1 (i' := 13) (L' := [some (2, 0), some (0, p1), some (0, p2)]) (st' := [(0, p2), (2, r 0 3)]) rfl ?_
      refine Rn_callI [(2, r 0 3), (0, p2)] [] rfl rfl rfl rfl (ab_rvB_of rfl (ob_Te hf1 hK)) ?_
      refine h.mono (fun x2 g' r' h => ?_)
      obtain ⟨hx, h⟩ := h
      replace hx := hx.symm
      subst hx
      obtain ⟨hx, h⟩ := h
      replace hx := hx.symm
      subst hx
      refine Rn_pure 1 (i' := 16) (L' := [some (2, 0), some (0, p1), some (0, p2)]) (st' := [(0, x2)]) rfl ?_
      exact Rn_ret1 rfl h
  · have h := h.2 hc
    refine Rn_pure 1 (i' := 3) (L' := [some (2, 0), some (0, p1), some (0, p2)]) (st' := [(2, 0)]) rfl ?_
    obtain ⟨hf3, h⟩ := h
    refine Rn_getR rfl (⟨rfl, (by omega : (0 : Int) ≤ 0), (by omega : (0 : Int) + 1 < K ∧ 5 < K)⟩) rfl (nn_Te hf3) ?_
    refine Rn_pure 1 (i' := 5) (L' := [some (2, 0), some (0, p1), some (0, p2)]) (st' := [(0, p2), (2, r 0 3)]) rfl ?_
    refine Rn_callI [(2, r 0 3), (0, p2)] [] rfl rfl rfl rfl (ab_rvB_of rfl (ob_Te hf3 hK)) ?_
    refine h.mono (fun x4 g' r' h => ?_)
    obtain ⟨hx, h⟩ := h
    replace hx := hx.symm
    subst hx
    obtain ⟨hx, h⟩ := h
    replace hx := hx.symm
    subst hx
    exact Rn_ret1 rfl h
-- EventLedger.event (IIIIII)I
theorem v_EL_event {K : Int} {S : Nat} {g r : ab_H} {p1 p2 p3 p4 p5 p6 : Int} (P : Int → ab_H → ab_H → Prop) (hr : SI r) (hK : 186 ≤ K) (h : ab_RI m_EL_canBe [(2, 0), (0, p1), (0, p2), (0, p3)] K S g r (fun x1 g' r' => g' = g ∧ r' = r ∧ (((wr x1 = wr 0 → P (-1) g r) ∧ (¬ wr x1 = wr 0 → ab_RI m_EL_isTime [(0, p4)] K S g r (fun x2 g' r' => g' = g ∧ r' = r ∧ (((wr x2 = wr 0 → P (-1) g r) ∧ (¬ wr x2 = wr 0 → ab_RI m_EL_isNumber [(0, p5)] K S g r (fun x3 g' r' => g' = g ∧ r' = r ∧ (((wr x3 = wr 0 → P (-1) g r) ∧ (¬ wr x3 = wr 0 → ab_RI m_EL_isNumber [(0, p6)] K S g r (fun x4 g' r' => g' = g ∧ r' = r ∧ (((¬ wr x4 = wr 0 → ab_RV m_EL_fillRow [(2, 0), (0, p5), (0, p6)] K S g r (fun g5 r' => r' = r ∧ (ab_RI m_EL_comes [(2, 0), (0, p1), (0, p2), (0, p3), (0, p4), (0, 3)] K S g5 r (fun x9 g7 r8 => SI r8 ∧ (P x9 g7 r8))))) ∧ (wr x4 = wr 0 → P (-1) g r))))))))))))))))) : ab_RI m_EL_event [(2, 0), (0, p1), (0, p2), (0, p3), (0, p4), (0, p5), (0, p6)] K S g r P := by
  show ab_Rn m_EL_event 0 [some (2, 0), some (0, p1), some (0, p2), some (0, p3), some (0, p4), some (0, p5), some (0, p6)] [] (K, S, g, r) (ab_Qi K S P)
  refine Rn_pure 4 (i' := 4) (L' := [some (2, 0), some (0, p1), some (0, p2), some (0, p3), some (0, p4), some (0, p5), some (0, p6)]) (st' := [(0, p3), (0, p2), (0, p1), (2, 0)]) rfl ?_
  refine Rn_callI [(2, 0), (0, p1), (0, p2), (0, p3)] [] rfl rfl rfl rfl (ab_rvB_of rfl (⟨rfl, (by omega : (0 : Int) ≤ 0), (by omega : (0 : Int) + 1 < K ∧ 5 < K)⟩)) ?_
  refine h.mono (fun x1 g' r' h => ?_)
  obtain ⟨hx, h⟩ := h
  replace hx := hx.symm
  subst hx
  obtain ⟨hx, h⟩ := h
  replace hx := hx.symm
  subst hx
  refine Rn_ifeq rfl (fun hc => ?_) (fun hc => ?_)
  · have h := h.1 hc
    refine Rn_pure 1 (i' := 16) (L' := [some (2, 0), some (0, p1), some (0, p2), some (0, p3), some (0, p4), some (0, p5), some (0, p6)]) (st' := [(0, (-1))]) rfl ?_
    exact Rn_ret1 rfl h
  · have h := h.2 hc
    refine Rn_pure 1 (i' := 7) (L' := [some (2, 0), some (0, p1), some (0, p2), some (0, p3), some (0, p4), some (0, p5), some (0, p6)]) (st' := [(0, p4)]) rfl ?_
    refine Rn_callI [(0, p4)] [] rfl rfl rfl rfl (rfl) ?_
    refine h.mono (fun x2 g' r' h => ?_)
    obtain ⟨hx, h⟩ := h
    replace hx := hx.symm
    subst hx
    obtain ⟨hx, h⟩ := h
    replace hx := hx.symm
    subst hx
    refine Rn_ifeq rfl (fun hc => ?_) (fun hc => ?_)
    · have h := h.1 hc
      refine Rn_pure 1 (i' := 16) (L' := [some (2, 0), some (0, p1), some (0, p2), some (0, p3), some (0, p4), some (0, p5), some (0, p6)]) (st' := [(0, (-1))]) rfl ?_
      exact Rn_ret1 rfl h
    · have h := h.2 hc
      refine Rn_pure 1 (i' := 10) (L' := [some (2, 0), some (0, p1), some (0, p2), some (0, p3), some (0, p4), some (0, p5), some (0, p6)]) (st' := [(0, p5)]) rfl ?_
      refine Rn_callI [(0, p5)] [] rfl rfl rfl rfl (rfl) ?_
      refine h.mono (fun x3 g' r' h => ?_)
      obtain ⟨hx, h⟩ := h
      replace hx := hx.symm
      subst hx
      obtain ⟨hx, h⟩ := h
      replace hx := hx.symm
      subst hx
      refine Rn_ifeq rfl (fun hc => ?_) (fun hc => ?_)
      · have h := h.1 hc
        refine Rn_pure 1 (i' := 16) (L' := [some (2, 0), some (0, p1), some (0, p2), some (0, p3), some (0, p4), some (0, p5), some (0, p6)]) (st' := [(0, (-1))]) rfl ?_
        exact Rn_ret1 rfl h
      · have h := h.2 hc
        refine Rn_pure 1 (i' := 13) (L' := [some (2, 0), some (0, p1), some (0, p2), some (0, p3), some (0, p4), some (0, p5), some (0, p6)]) (st' := [(0, p6)]) rfl ?_
        refine Rn_callI [(0, p6)] [] rfl rfl rfl rfl (rfl) ?_
        refine h.mono (fun x4 g' r' h => ?_)
        obtain ⟨hx, h⟩ := h
        replace hx := hx.symm
        subst hx
        obtain ⟨hx, h⟩ := h
        replace hx := hx.symm
        subst hx
        refine Rn_ifne rfl (fun hc => ?_) (fun hc => ?_)
        · have h := h.1 hc
          refine Rn_pure 3 (i' := 20) (L' := [some (2, 0), some (0, p1), some (0, p2), some (0, p3), some (0, p4), some (0, p5), some (0, p6)]) (st' := [(0, p6), (0, p5), (2, 0)]) rfl ?_
          refine Rn_callV [(2, 0), (0, p5), (0, p6)] [] rfl rfl rfl rfl (ab_rvB_of rfl (⟨rfl, (by omega : (0 : Int) ≤ 0), (by omega : (0 : Int) + 1 < K ∧ 5 < K)⟩)) ?_
          refine h.mono (fun g5 r' h => ?_)
          obtain ⟨hx, h⟩ := h
          replace hx := hx.symm
          subst hx
          refine Rn_pure 6 (i' := 27) (L' := [some (2, 0), some (0, p1), some (0, p2), some (0, p3), some (0, p4), some (0, p5), some (0, p6)]) (st' := [(0, 3), (0, p4), (0, p3), (0, p2), (0, p1), (2, 0)]) rfl ?_
          refine Rn_callI [(2, 0), (0, p1), (0, p2), (0, p3), (0, p4), (0, 3)] [] rfl rfl rfl rfl (ab_rvB_of rfl (⟨rfl, (by omega : (0 : Int) ≤ 0), (by omega : (0 : Int) + 1 < K ∧ 5 < K)⟩)) ?_
          refine h.mono (fun x9 g7 r8 h => ?_)
          obtain ⟨hr10, h⟩ := h
          exact Rn_ret1 rfl h
        · have h := h.2 hc
          refine Rn_pure 1 (i' := 16) (L' := [some (2, 0), some (0, p1), some (0, p2), some (0, p3), some (0, p4), some (0, p5), some (0, p6)]) (st' := [(0, (-1))]) rfl ?_
          exact Rn_ret1 rfl h
-- EventLedger.old (IIIII)I
theorem v_EL_old {K : Int} {S : Nat} {g r : ab_H} {p1 p2 p3 p4 p5 : Int} (P : Int → ab_H → ab_H → Prop) (hr : SI r) (hK : 186 ≤ K) (h : ab_RI m_EL_canBe [(2, 0), (0, p1), (0, p2), (0, p3)] K S g r (fun x1 g' r' => g' = g ∧ r' = r ∧ (((wr x1 = wr 0 → P (-1) g r) ∧ (¬ wr x1 = wr 0 → ab_RI m_EL_isTime [(0, p4)] K S g r (fun x2 g' r' => g' = g ∧ r' = r ∧ (((wr x2 = wr 0 → P (-1) g r) ∧ (¬ wr x2 = wr 0 → ab_RI m_EL_isNumber [(0, p5)] K S g r (fun x3 g' r' => g' = g ∧ r' = r ∧ (((¬ wr x3 = wr 0 → ab_RV m_EL_fillRow [(2, 0), (0, p5), (0, 0)] K S g r (fun g4 r' => r' = r ∧ (ab_RI m_EL_comes [(2, 0), (0, p1), (0, p2), (0, p3), (0, p4), (0, 1)] K S g4 r (fun x8 g6 r7 => SI r7 ∧ (P x8 g6 r7))))) ∧ (wr x3 = wr 0 → P (-1) g r))))))))))))) : ab_RI m_EL_old [(2, 0), (0, p1), (0, p2), (0, p3), (0, p4), (0, p5)] K S g r P := by
  show ab_Rn m_EL_old 0 [some (2, 0), some (0, p1), some (0, p2), some (0, p3), some (0, p4), some (0, p5)] [] (K, S, g, r) (ab_Qi K S P)
  refine Rn_pure 4 (i' := 4) (L' := [some (2, 0), some (0, p1), some (0, p2), some (0, p3), some (0, p4), some (0, p5)]) (st' := [(0, p3), (0, p2), (0, p1), (2, 0)]) rfl ?_
  refine Rn_callI [(2, 0), (0, p1), (0, p2), (0, p3)] [] rfl rfl rfl rfl (ab_rvB_of rfl (⟨rfl, (by omega : (0 : Int) ≤ 0), (by omega : (0 : Int) + 1 < K ∧ 5 < K)⟩)) ?_
  refine h.mono (fun x1 g' r' h => ?_)
  obtain ⟨hx, h⟩ := h
  replace hx := hx.symm
  subst hx
  obtain ⟨hx, h⟩ := h
  replace hx := hx.symm
  subst hx
  refine Rn_ifeq rfl (fun hc => ?_) (fun hc => ?_)
  · have h := h.1 hc
    refine Rn_pure 1 (i' := 13) (L' := [some (2, 0), some (0, p1), some (0, p2), some (0, p3), some (0, p4), some (0, p5)]) (st' := [(0, (-1))]) rfl ?_
    exact Rn_ret1 rfl h
  · have h := h.2 hc
    refine Rn_pure 1 (i' := 7) (L' := [some (2, 0), some (0, p1), some (0, p2), some (0, p3), some (0, p4), some (0, p5)]) (st' := [(0, p4)]) rfl ?_
    refine Rn_callI [(0, p4)] [] rfl rfl rfl rfl (rfl) ?_
    refine h.mono (fun x2 g' r' h => ?_)
    obtain ⟨hx, h⟩ := h
    replace hx := hx.symm
    subst hx
    obtain ⟨hx, h⟩ := h
    replace hx := hx.symm
    subst hx
    refine Rn_ifeq rfl (fun hc => ?_) (fun hc => ?_)
    · have h := h.1 hc
      refine Rn_pure 1 (i' := 13) (L' := [some (2, 0), some (0, p1), some (0, p2), some (0, p3), some (0, p4), some (0, p5)]) (st' := [(0, (-1))]) rfl ?_
      exact Rn_ret1 rfl h
    · have h := h.2 hc
      refine Rn_pure 1 (i' := 10) (L' := [some (2, 0), some (0, p1), some (0, p2), some (0, p3), some (0, p4), some (0, p5)]) (st' := [(0, p5)]) rfl ?_
      refine Rn_callI [(0, p5)] [] rfl rfl rfl rfl (rfl) ?_
      refine h.mono (fun x3 g' r' h => ?_)
      obtain ⟨hx, h⟩ := h
      replace hx := hx.symm
      subst hx
      obtain ⟨hx, h⟩ := h
      replace hx := hx.symm
      subst hx
      refine Rn_ifne rfl (fun hc => ?_) (fun hc => ?_)
      · have h := h.1 hc
        refine Rn_pure 3 (i' := 17) (L' := [some (2, 0), some (0, p1), some (0, p2), some (0, p3), some (0, p4), some (0, p5)]) (st' := [(0, 0), (0, p5), (2, 0)]) rfl ?_
        refine Rn_callV [(2, 0), (0, p5), (0, 0)] [] rfl rfl rfl rfl (ab_rvB_of rfl (⟨rfl, (by omega : (0 : Int) ≤ 0), (by omega : (0 : Int) + 1 < K ∧ 5 < K)⟩)) ?_
        refine h.mono (fun g4 r' h => ?_)
        obtain ⟨hx, h⟩ := h
        replace hx := hx.symm
        subst hx
        refine Rn_pure 6 (i' := 24) (L' := [some (2, 0), some (0, p1), some (0, p2), some (0, p3), some (0, p4), some (0, p5)]) (st' := [(0, 1), (0, p4), (0, p3), (0, p2), (0, p1), (2, 0)]) rfl ?_
        refine Rn_callI [(2, 0), (0, p1), (0, p2), (0, p3), (0, p4), (0, 1)] [] rfl rfl rfl rfl (ab_rvB_of rfl (⟨rfl, (by omega : (0 : Int) ≤ 0), (by omega : (0 : Int) + 1 < K ∧ 5 < K)⟩)) ?_
        refine h.mono (fun x8 g6 r7 h => ?_)
        obtain ⟨hr9, h⟩ := h
        exact Rn_ret1 rfl h
      · have h := h.2 hc
        refine Rn_pure 1 (i' := 13) (L' := [some (2, 0), some (0, p1), some (0, p2), some (0, p3), some (0, p4), some (0, p5)]) (st' := [(0, (-1))]) rfl ?_
        exact Rn_ret1 rfl h
-- EventLedger.revoke (II)I
theorem v_EL_revoke {K : Int} {S : Nat} {g r : ab_H} {p1 p2 : Int} (P : Int → ab_H → ab_H → Prop) (hr : SI r) (hK : 186 ≤ K) (h : (isLg (r 0 5)) ∧ ab_RI m_Lg_holdsPlain [(2, r 0 5), (0, p1)] K S g r (fun x2 g' r' => g' = g ∧ r' = r ∧ (((wr x2 = wr 0 → P (-1) g r) ∧ (¬ wr x2 = wr 0 → (isLg (r 0 5)) ∧ ((0 : Int) ≤ p1 ∧ (p1 : Int) < 120) ∧ ((¬ wr (g (r 0 5 + 9) p1) = wr (-1) → P (-1) g r) ∧ (wr (g (r 0 5 + 9) p1) = wr (-1) → ab_RI m_EL_isTime [(0, p2)] K S g r (fun x4 g' r' => g' = g ∧ r' = r ∧ (((¬ wr x4 = wr 0 → ab_RI m_EL_refusalAt [(2, 0), (0, p2)] K S g r (fun x5 g' r' => g' = g ∧ r' = r ∧ (((wr x5 = wr 0 → ab_RV m_EL_mark [(2, 0)] K S g r (fun g6 r7 => SI r7 ∧ ((isLg (r7 0 5)) ∧ ab_RV m_Lg_addVoid [(2, r7 0 5), (0, p1), (0, p2)] K S g6 r7 (fun g11 r' => r' = r7 ∧ (ab_RV m_EL_rebuild [(2, 0)] K S g11 r7 (fun g13 r' => r' = r7 ∧ ((isLg (r7 0 5)) ∧ P (g13 (r7 0 5) 10 - 1) g13 r7))))))) ∧ (¬ wr x5 = wr 0 → P x5 g r))))) ∧ (wr x4 = wr 0 → P (-1) g r))))))))))) : ab_RI m_EL_revoke [(2, 0), (0, p1), (0, p2)] K S g r P := by
  show ab_Rn m_EL_revoke 0 [some (2, 0), some (0, p1), some (0, p2), none] [] (K, S, g, r) (ab_Qi K S P)
  refine Rn_pure 1 (i' := 1) (L' := [some (2, 0), some (0, p1), some (0, p2), none]) (st' := [(2, 0)]) rfl ?_
  obtain ⟨hf1, h⟩ := h
  refine Rn_getR rfl (⟨rfl, (by omega : (0 : Int) ≤ 0), (by omega : (0 : Int) + 1 < K ∧ 5 < K)⟩) rfl (nn_Lg hf1) ?_
  refine Rn_pure 1 (i' := 3) (L' := [some (2, 0), some (0, p1), some (0, p2), none]) (st' := [(0, p1), (2, r 0 5)]) rfl ?_
  refine Rn_callI [(2, r 0 5), (0, p1)] [] rfl rfl rfl rfl (ab_rvB_of rfl (ob_Lg hf1 hK)) ?_
  refine h.mono (fun x2 g' r' h => ?_)
  obtain ⟨hx, h⟩ := h
  replace hx := hx.symm
  subst hx
  obtain ⟨hx, h⟩ := h
  replace hx := hx.symm
  subst hx
  refine Rn_ifeq rfl (fun hc => ?_) (fun hc => ?_)
  · have h := h.1 hc
    refine Rn_pure 1 (i' := 16) (L' := [some (2, 0), some (0, p1), some (0, p2), none]) (st' := [(0, (-1))]) rfl ?_
    exact Rn_ret1 rfl h
  · have h := h.2 hc
    refine Rn_pure 1 (i' := 6) (L' := [some (2, 0), some (0, p1), some (0, p2), none]) (st' := [(2, 0)]) rfl ?_
    obtain ⟨hf3, h⟩ := h
    refine Rn_getR rfl (⟨rfl, (by omega : (0 : Int) ≤ 0), (by omega : (0 : Int) + 1 < K ∧ 5 < K)⟩) rfl (nn_Lg hf3) ?_
    refine Rn_getR rfl (ob_Lg hf3 hK) (fx_Lg_8 hr hf3) (show (r 0 5 + 9 : Int) ≠ -1 by have := hf3; unfold isLg at this; omega) ?_
    refine Rn_pure 1 (i' := 9) (L' := [some (2, 0), some (0, p1), some (0, p2), none]) (st' := [(0, p1), (2, r 0 5 + 9)]) rfl ?_
    obtain ⟨hg, h⟩ := h
    refine Rn_iald rfl (ar_Lg_8 hf3 hK) hg ?_
    refine Rn_pure 1 (i' := 11) (L' := [some (2, 0), some (0, p1), some (0, p2), none]) (st' := [(0, (-1)), (0, g (r 0 5 + 9) p1)]) rfl ?_
    refine Rn_icne rfl (fun hc => ?_) (fun hc => ?_)
    · have h := h.1 hc
      refine Rn_pure 1 (i' := 16) (L' := [some (2, 0), some (0, p1), some (0, p2), none]) (st' := [(0, (-1))]) rfl ?_
      exact Rn_ret1 rfl h
    · have h := h.2 hc
      refine Rn_pure 1 (i' := 13) (L' := [some (2, 0), some (0, p1), some (0, p2), none]) (st' := [(0, p2)]) rfl ?_
      refine Rn_callI [(0, p2)] [] rfl rfl rfl rfl (rfl) ?_
      refine h.mono (fun x4 g' r' h => ?_)
      obtain ⟨hx, h⟩ := h
      replace hx := hx.symm
      subst hx
      obtain ⟨hx, h⟩ := h
      replace hx := hx.symm
      subst hx
      refine Rn_ifne rfl (fun hc => ?_) (fun hc => ?_)
      · have h := h.1 hc
        refine Rn_pure 2 (i' := 19) (L' := [some (2, 0), some (0, p1), some (0, p2), none]) (st' := [(0, p2), (2, 0)]) rfl ?_
        refine Rn_callI [(2, 0), (0, p2)] [] rfl rfl rfl rfl (ab_rvB_of rfl (⟨rfl, (by omega : (0 : Int) ≤ 0), (by omega : (0 : Int) + 1 < K ∧ 5 < K)⟩)) ?_
        refine h.mono (fun x5 g' r' h => ?_)
        obtain ⟨hx, h⟩ := h
        replace hx := hx.symm
        subst hx
        obtain ⟨hx, h⟩ := h
        replace hx := hx.symm
        subst hx
        refine Rn_pure 2 (i' := 22) (L' := [some (2, 0), some (0, p1), some (0, p2), some (0, x5)]) (st' := [(0, x5)]) rfl ?_
        refine Rn_ifeq rfl (fun hc => ?_) (fun hc => ?_)
        · have h := h.1 hc
          refine Rn_pure 1 (i' := 26) (L' := [some (2, 0), some (0, p1), some (0, p2), some (0, x5)]) (st' := [(2, 0)]) rfl ?_
          refine Rn_callV [(2, 0)] [] rfl rfl rfl rfl (ab_rvB_of rfl (⟨rfl, (by omega : (0 : Int) ≤ 0), (by omega : (0 : Int) + 1 < K ∧ 5 < K)⟩)) ?_
          refine h.mono (fun g6 r7 h => ?_)
          obtain ⟨hr9, h⟩ := h
          refine Rn_pure 1 (i' := 28) (L' := [some (2, 0), some (0, p1), some (0, p2), some (0, x5)]) (st' := [(2, 0)]) rfl ?_
          obtain ⟨hf10, h⟩ := h
          refine Rn_getR rfl (⟨rfl, (by omega : (0 : Int) ≤ 0), (by omega : (0 : Int) + 1 < K ∧ 5 < K)⟩) rfl (nn_Lg hf10) ?_
          refine Rn_pure 2 (i' := 31) (L' := [some (2, 0), some (0, p1), some (0, p2), some (0, x5)]) (st' := [(0, p2), (0, p1), (2, r7 0 5)]) rfl ?_
          refine Rn_callV [(2, r7 0 5), (0, p1), (0, p2)] [] rfl rfl rfl rfl (ab_rvB_of rfl (ob_Lg hf10 hK)) ?_
          refine h.mono (fun g11 r' h => ?_)
          obtain ⟨hx, h⟩ := h
          replace hx := hx.symm
          subst hx
          refine Rn_pure 1 (i' := 33) (L' := [some (2, 0), some (0, p1), some (0, p2), some (0, x5)]) (st' := [(2, 0)]) rfl ?_
          refine Rn_callV [(2, 0)] [] rfl rfl rfl rfl (ab_rvB_of rfl (⟨rfl, (by omega : (0 : Int) ≤ 0), (by omega : (0 : Int) + 1 < K ∧ 5 < K)⟩)) ?_
          refine h.mono (fun g13 r' h => ?_)
          obtain ⟨hx, h⟩ := h
          replace hx := hx.symm
          subst hx
          refine Rn_pure 1 (i' := 35) (L' := [some (2, 0), some (0, p1), some (0, p2), some (0, x5)]) (st' := [(2, 0)]) rfl ?_
          obtain ⟨hf15, h⟩ := h
          refine Rn_getR rfl (⟨rfl, (by omega : (0 : Int) ≤ 0), (by omega : (0 : Int) + 1 < K ∧ 5 < K)⟩) rfl (nn_Lg hf15) ?_
          refine Rn_getI rfl (ob_Lg hf15 hK) ?_
          refine Rn_pure 2 (i' := 39) (L' := [some (2, 0), some (0, p1), some (0, p2), some (0, x5)]) (st' := [(0, g13 (r7 0 5) 10 - 1)]) rfl ?_
          exact Rn_ret1 rfl h
        · have h := h.2 hc
          refine Rn_pure 1 (i' := 24) (L' := [some (2, 0), some (0, p1), some (0, p2), some (0, x5)]) (st' := [(0, x5)]) rfl ?_
          exact Rn_ret1 rfl h
      · have h := h.2 hc
        refine Rn_pure 1 (i' := 16) (L' := [some (2, 0), some (0, p1), some (0, p2), none]) (st' := [(0, (-1))]) rfl ?_
        exact Rn_ret1 rfl h
-- EventLedger.field (IIZ)I
theorem v_EL_field {K : Int} {S : Nat} {g r : ab_H} {p1 p2 p3 : Int} (P : Int → ab_H → ab_H → Prop) (hr : SI r) (hK : 186 ≤ K) (h : (isLg (r 0 5)) ∧ ab_RI m_Lg_holdsPlain [(2, r 0 5), (0, p1)] K S g r (fun x2 g' r' => g' = g ∧ r' = r ∧ (((wr x2 = wr 0 → P (-1) g r) ∧ (¬ wr x2 = wr 0 → ((wr p2 < wr 1 → P (-1) g r) ∧ (wr 1 ≤ wr p2 → ((wr p2 ≤ wr 3 → ((wr p3 = wr 0 → (isLg (r 0 5)) ∧ ((0 : Int) ≤ 3 * p1 + p2 - 1 ∧ (3 * p1 + p2 - 1 : Int) < 360) ∧ P (g (r 0 5 + 6) (3 * p1 + p2 - 1)) g r) ∧ (¬ wr p3 = wr 0 → (isLg (r 0 5)) ∧ ((0 : Int) ≤ 3 * p1 + p2 - 1 ∧ (3 * p1 + p2 - 1 : Int) < 360) ∧ P (g (r 0 5 + 7) (3 * p1 + p2 - 1)) g r))) ∧ (wr 3 < wr p2 → P (-1) g r))))))))) : ab_RI m_EL_field [(2, 0), (0, p1), (0, p2), (0, p3)] K S g r P := by
  show ab_Rn m_EL_field 0 [some (2, 0), some (0, p1), some (0, p2), some (0, p3), none] [] (K, S, g, r) (ab_Qi K S P)
  refine Rn_pure 1 (i' := 1) (L' := [some (2, 0), some (0, p1), some (0, p2), some (0, p3), none]) (st' := [(2, 0)]) rfl ?_
  obtain ⟨hf1, h⟩ := h
  refine Rn_getR rfl (⟨rfl, (by omega : (0 : Int) ≤ 0), (by omega : (0 : Int) + 1 < K ∧ 5 < K)⟩) rfl (nn_Lg hf1) ?_
  refine Rn_pure 1 (i' := 3) (L' := [some (2, 0), some (0, p1), some (0, p2), some (0, p3), none]) (st' := [(0, p1), (2, r 0 5)]) rfl ?_
  refine Rn_callI [(2, r 0 5), (0, p1)] [] rfl rfl rfl rfl (ab_rvB_of rfl (ob_Lg hf1 hK)) ?_
  refine h.mono (fun x2 g' r' h => ?_)
  obtain ⟨hx, h⟩ := h
  replace hx := hx.symm
  subst hx
  obtain ⟨hx, h⟩ := h
  replace hx := hx.symm
  subst hx
  refine Rn_ifeq rfl (fun hc => ?_) (fun hc => ?_)
  · have h := h.1 hc
    refine Rn_pure 1 (i' := 12) (L' := [some (2, 0), some (0, p1), some (0, p2), some (0, p3), none]) (st' := [(0, (-1))]) rfl ?_
    exact Rn_ret1 rfl h
  · have h := h.2 hc
    refine Rn_pure 2 (i' := 7) (L' := [some (2, 0), some (0, p1), some (0, p2), some (0, p3), none]) (st' := [(0, 1), (0, p2)]) rfl ?_
    refine Rn_iclt rfl (fun hc => ?_) (fun hc => ?_)
    · have h := h.1 hc
      refine Rn_pure 1 (i' := 12) (L' := [some (2, 0), some (0, p1), some (0, p2), some (0, p3), none]) (st' := [(0, (-1))]) rfl ?_
      exact Rn_ret1 rfl h
    · have h := h.2 hc
      refine Rn_pure 2 (i' := 10) (L' := [some (2, 0), some (0, p1), some (0, p2), some (0, p3), none]) (st' := [(0, 3), (0, p2)]) rfl ?_
      refine Rn_icle rfl (fun hc => ?_) (fun hc => ?_)
      · have h := h.1 hc
        refine Rn_pure 9 (i' := 22) (L' := [some (2, 0), some (0, p1), some (0, p2), some (0, p3), some (0, 3 * p1 + p2 - 1)]) (st' := [(0, p3)]) rfl ?_
        refine Rn_ifeq rfl (fun hc => ?_) (fun hc => ?_)
        · have h := h.1 hc
          refine Rn_pure 1 (i' := 30) (L' := [some (2, 0), some (0, p1), some (0, p2), some (0, p3), some (0, 3 * p1 + p2 - 1)]) (st' := [(2, 0)]) rfl ?_
          obtain ⟨hf3, h⟩ := h
          refine Rn_getR rfl (⟨rfl, (by omega : (0 : Int) ≤ 0), (by omega : (0 : Int) + 1 < K ∧ 5 < K)⟩) rfl (nn_Lg hf3) ?_
          refine Rn_getR rfl (ob_Lg hf3 hK) (fx_Lg_5 hr hf3) (show (r 0 5 + 6 : Int) ≠ -1 by have := hf3; unfold isLg at this; omega) ?_
          refine Rn_pure 1 (i' := 33) (L' := [some (2, 0), some (0, p1), some (0, p2), some (0, p3), some (0, 3 * p1 + p2 - 1)]) (st' := [(0, 3 * p1 + p2 - 1), (2, r 0 5 + 6)]) rfl ?_
          obtain ⟨hg, h⟩ := h
          refine Rn_iald rfl (ar_Lg_5 hf3 hK) hg ?_
          exact Rn_ret1 rfl h
        · have h := h.2 hc
          refine Rn_pure 1 (i' := 24) (L' := [some (2, 0), some (0, p1), some (0, p2), some (0, p3), some (0, 3 * p1 + p2 - 1)]) (st' := [(2, 0)]) rfl ?_
          obtain ⟨hf4, h⟩ := h
          refine Rn_getR rfl (⟨rfl, (by omega : (0 : Int) ≤ 0), (by omega : (0 : Int) + 1 < K ∧ 5 < K)⟩) rfl (nn_Lg hf4) ?_
          refine Rn_getR rfl (ob_Lg hf4 hK) (fx_Lg_6 hr hf4) (show (r 0 5 + 7 : Int) ≠ -1 by have := hf4; unfold isLg at this; omega) ?_
          refine Rn_pure 1 (i' := 27) (L' := [some (2, 0), some (0, p1), some (0, p2), some (0, p3), some (0, 3 * p1 + p2 - 1)]) (st' := [(0, 3 * p1 + p2 - 1), (2, r 0 5 + 7)]) rfl ?_
          obtain ⟨hg, h⟩ := h
          refine Rn_iald rfl (ar_Lg_6 hf4 hK) hg ?_
          refine Rn_pure 1 (i' := 34) (L' := [some (2, 0), some (0, p1), some (0, p2), some (0, p3), some (0, 3 * p1 + p2 - 1)]) (st' := [(0, g (r 0 5 + 7) (3 * p1 + p2 - 1))]) rfl ?_
          exact Rn_ret1 rfl h
      · have h := h.2 hc
        refine Rn_pure 1 (i' := 12) (L' := [some (2, 0), some (0, p1), some (0, p2), some (0, p3), none]) (st' := [(0, (-1))]) rfl ?_
        exact Rn_ret1 rfl h
-- EventLedger.account (II)I
theorem v_EL_account {K : Int} {S : Nat} {g r : ab_H} {p1 p2 : Int} (P : Int → ab_H → ab_H → Prop) (hr : SI r) (hK : 186 ≤ K) (h : ab_RI m_EL_isAccount [(2, 0), (0, p1)] K S g r (fun x1 g' r' => g' = g ∧ r' = r ∧ (((wr x1 = wr 0 → P (-2147483648) g r) ∧ (¬ wr x1 = wr 0 → ab_RI m_St_look [(2, 45), (0, p1), (0, p2)] K S g r (fun x2 g' r' => g' = g ∧ r' = r ∧ (P x2 g r))))))) : ab_RI m_EL_account [(2, 0), (0, p1), (0, p2)] K S g r P := by
  show ab_Rn m_EL_account 0 [some (2, 0), some (0, p1), some (0, p2)] [] (K, S, g, r) (ab_Qi K S P)
  refine Rn_pure 2 (i' := 2) (L' := [some (2, 0), some (0, p1), some (0, p2)]) (st' := [(0, p1), (2, 0)]) rfl ?_
  refine Rn_callI [(2, 0), (0, p1)] [] rfl rfl rfl rfl (ab_rvB_of rfl (⟨rfl, (by omega : (0 : Int) ≤ 0), (by omega : (0 : Int) + 1 < K ∧ 5 < K)⟩)) ?_
  refine h.mono (fun x1 g' r' h => ?_)
  obtain ⟨hx, h⟩ := h
  replace hx := hx.symm
  subst hx
  obtain ⟨hx, h⟩ := h
  replace hx := hx.symm
  subst hx
  refine Rn_ifeq rfl (fun hc => ?_) (fun hc => ?_)
  · have h := h.1 hc
    refine Rn_pure 1 (i' := 11) (L' := [some (2, 0), some (0, p1), some (0, p2)]) (st' := [(0, (-2147483648))]) rfl ?_
    exact Rn_ret1 rfl h
  · have h := h.2 hc
    refine Rn_pure 1 (i' := 5) (L' := [some (2, 0), some (0, p1), some (0, p2)]) (st' := [(2, 0)]) rfl ?_
    refine Rn_getR rfl (⟨rfl, (by omega : (0 : Int) ≤ 0), (by omega : (0 : Int) + 1 < K ∧ 5 < K)⟩) (hr 2 _ rfl) (by decide) ?_
    refine Rn_pure 2 (i' := 8) (L' := [some (2, 0), some (0, p1), some (0, p2)]) (st' := [(0, p2), (0, p1), (2, 45)]) rfl ?_
    refine Rn_callI [(2, 45), (0, p1), (0, p2)] [] rfl rfl rfl rfl (ab_rvB_of rfl (⟨rfl, (by omega : (0 : Int) ≤ 45), (by omega : (45 : Int) + 1 < K ∧ 5 < K)⟩)) ?_
    refine h.mono (fun x2 g' r' h => ?_)
    obtain ⟨hx, h⟩ := h
    replace hx := hx.symm
    subst hx
    obtain ⟨hx, h⟩ := h
    replace hx := hx.symm
    subst hx
    refine Rn_pure 1 (i' := 11) (L' := [some (2, 0), some (0, p1), some (0, p2)]) (st' := [(0, x2)]) rfl ?_
    exact Rn_ret1 rfl h
-- EventLedger.at (III)I
theorem v_EL_at {K : Int} {S : Nat} {g r : ab_H} {p1 p2 p3 : Int} (P : Int → ab_H → ab_H → Prop) (hr : SI r) (hK : 186 ≤ K) (h : ab_RI m_EL_isTime [(0, p1)] K S g r (fun x1 g' r' => g' = g ∧ r' = r ∧ (((wr x1 = wr 0 → P (-2147483648) g r) ∧ (¬ wr x1 = wr 0 → ab_RI m_EL_isAccount [(2, 0), (0, p2)] K S g r (fun x2 g' r' => g' = g ∧ r' = r ∧ (((¬ wr x2 = wr 0 → (isLg (r 0 5)) ∧ (isLg (r 0 5)) ∧ ab_RI m_Lg_placeAt [(2, r 0 5), (0, p1)] K S g r (fun x5 g' r' => g' = g ∧ r' = r ∧ ((isLg (r 0 5)) ∧ ab_RV m_St_replay [(2, 51), (2, r 0 5), (0, x5), (0, g (r 0 5) 10), (0, (-1))] K S g r (fun g7 r' => r' = r ∧ (ab_RI m_St_look [(2, 51), (0, p2), (0, p3)] K S g7 r (fun x9 g' r' => g' = g7 ∧ r' = r ∧ (P x9 g7 r))))))) ∧ (wr x2 = wr 0 → P (-2147483648) g r))))))))) : ab_RI m_EL_at [(2, 0), (0, p1), (0, p2), (0, p3)] K S g r P := by
  show ab_Rn m_EL_at 0 [some (2, 0), some (0, p1), some (0, p2), some (0, p3)] [] (K, S, g, r) (ab_Qi K S P)
  refine Rn_pure 1 (i' := 1) (L' := [some (2, 0), some (0, p1), some (0, p2), some (0, p3)]) (st' := [(0, p1)]) rfl ?_
  refine Rn_callI [(0, p1)] [] rfl rfl rfl rfl (rfl) ?_
  refine h.mono (fun x1 g' r' h => ?_)
  obtain ⟨hx, h⟩ := h
  replace hx := hx.symm
  subst hx
  obtain ⟨hx, h⟩ := h
  replace hx := hx.symm
  subst hx
  refine Rn_ifeq rfl (fun hc => ?_) (fun hc => ?_)
  · have h := h.1 hc
    refine Rn_pure 1 (i' := 8) (L' := [some (2, 0), some (0, p1), some (0, p2), some (0, p3)]) (st' := [(0, (-2147483648))]) rfl ?_
    exact Rn_ret1 rfl h
  · have h := h.2 hc
    refine Rn_pure 2 (i' := 5) (L' := [some (2, 0), some (0, p1), some (0, p2), some (0, p3)]) (st' := [(0, p2), (2, 0)]) rfl ?_
    refine Rn_callI [(2, 0), (0, p2)] [] rfl rfl rfl rfl (ab_rvB_of rfl (⟨rfl, (by omega : (0 : Int) ≤ 0), (by omega : (0 : Int) + 1 < K ∧ 5 < K)⟩)) ?_
    refine h.mono (fun x2 g' r' h => ?_)
    obtain ⟨hx, h⟩ := h
    replace hx := hx.symm
    subst hx
    obtain ⟨hx, h⟩ := h
    replace hx := hx.symm
    subst hx
    refine Rn_ifne rfl (fun hc => ?_) (fun hc => ?_)
    · have h := h.1 hc
      refine Rn_pure 1 (i' := 10) (L' := [some (2, 0), some (0, p1), some (0, p2), some (0, p3)]) (st' := [(2, 0)]) rfl ?_
      refine Rn_getR rfl (⟨rfl, (by omega : (0 : Int) ≤ 0), (by omega : (0 : Int) + 1 < K ∧ 5 < K)⟩) (hr 3 _ rfl) (by decide) ?_
      refine Rn_pure 1 (i' := 12) (L' := [some (2, 0), some (0, p1), some (0, p2), some (0, p3)]) (st' := [(2, 0), (2, 51)]) rfl ?_
      obtain ⟨hf3, h⟩ := h
      refine Rn_getR rfl (⟨rfl, (by omega : (0 : Int) ≤ 0), (by omega : (0 : Int) + 1 < K ∧ 5 < K)⟩) rfl (nn_Lg hf3) ?_
      refine Rn_pure 1 (i' := 14) (L' := [some (2, 0), some (0, p1), some (0, p2), some (0, p3)]) (st' := [(2, 0), (2, r 0 5), (2, 51)]) rfl ?_
      obtain ⟨hf4, h⟩ := h
      refine Rn_getR rfl (⟨rfl, (by omega : (0 : Int) ≤ 0), (by omega : (0 : Int) + 1 < K ∧ 5 < K)⟩) rfl (nn_Lg hf4) ?_
      refine Rn_pure 1 (i' := 16) (L' := [some (2, 0), some (0, p1), some (0, p2), some (0, p3)]) (st' := [(0, p1), (2, r 0 5), (2, r 0 5), (2, 51)]) rfl ?_
      refine Rn_callI [(2, r 0 5), (0, p1)] [(2, r 0 5), (2, 51)] rfl rfl rfl rfl (ab_rvB_of rfl (ob_Lg hf4 hK)) ?_
      refine h.mono (fun x5 g' r' h => ?_)
      obtain ⟨hx, h⟩ := h
      replace hx := hx.symm
      subst hx
      obtain ⟨hx, h⟩ := h
      replace hx := hx.symm
      subst hx
      refine Rn_pure 1 (i' := 18) (L' := [some (2, 0), some (0, p1), some (0, p2), some (0, p3)]) (st' := [(2, 0), (0, x5), (2, r 0 5), (2, 51)]) rfl ?_
      obtain ⟨hf6, h⟩ := h
      refine Rn_getR rfl (⟨rfl, (by omega : (0 : Int) ≤ 0), (by omega : (0 : Int) + 1 < K ∧ 5 < K)⟩) rfl (nn_Lg hf6) ?_
      refine Rn_getI rfl (ob_Lg hf6 hK) ?_
      refine Rn_pure 1 (i' := 21) (L' := [some (2, 0), some (0, p1), some (0, p2), some (0, p3)]) (st' := [(0, (-1)), (0, g (r 0 5) 10), (0, x5), (2, r 0 5), (2, 51)]) rfl ?_
      refine Rn_callV [(2, 51), (2, r 0 5), (0, x5), (0, g (r 0 5) 10), (0, (-1))] [] rfl rfl rfl rfl (ab_rvB_of rfl (⟨rfl, (by omega : (0 : Int) ≤ 51), (by omega : (51 : Int) + 1 < K ∧ 5 < K)⟩)) ?_
      refine h.mono (fun g7 r' h => ?_)
      obtain ⟨hx, h⟩ := h
      replace hx := hx.symm
      subst hx
      refine Rn_pure 1 (i' := 23) (L' := [some (2, 0), some (0, p1), some (0, p2), some (0, p3)]) (st' := [(2, 0)]) rfl ?_
      refine Rn_getR rfl (⟨rfl, (by omega : (0 : Int) ≤ 0), (by omega : (0 : Int) + 1 < K ∧ 5 < K)⟩) (hr 3 _ rfl) (by decide) ?_
      refine Rn_pure 2 (i' := 26) (L' := [some (2, 0), some (0, p1), some (0, p2), some (0, p3)]) (st' := [(0, p3), (0, p2), (2, 51)]) rfl ?_
      refine Rn_callI [(2, 51), (0, p2), (0, p3)] [] rfl rfl rfl rfl (ab_rvB_of rfl (⟨rfl, (by omega : (0 : Int) ≤ 51), (by omega : (51 : Int) + 1 < K ∧ 5 < K)⟩)) ?_
      refine h.mono (fun x9 g' r' h => ?_)
      obtain ⟨hx, h⟩ := h
      replace hx := hx.symm
      subst hx
      obtain ⟨hx, h⟩ := h
      replace hx := hx.symm
      subst hx
      exact Rn_ret1 rfl h
    · have h := h.2 hc
      refine Rn_pure 1 (i' := 8) (L' := [some (2, 0), some (0, p1), some (0, p2), some (0, p3)]) (st' := [(0, (-2147483648))]) rfl ?_
      exact Rn_ret1 rfl h
-- EventLedger.known (III)I
theorem v_EL_known {K : Int} {S : Nat} {g r : ab_H} {p1 p2 p3 : Int} (P : Int → ab_H → ab_H → Prop) (hr : SI r) (hK : 186 ≤ K) (h : ab_RI m_EL_isTime [(0, p1)] K S g r (fun x1 g' r' => g' = g ∧ r' = r ∧ (((wr x1 = wr 0 → P (-2147483648) g r) ∧ (¬ wr x1 = wr 0 → ab_RI m_EL_isAccount [(2, 0), (0, p2)] K S g r (fun x2 g' r' => g' = g ∧ r' = r ∧ (((¬ wr x2 = wr 0 → (isLg (r 0 5)) ∧ ab_RI m_Lg_placeAt [(2, r 0 5), (0, p1)] K S g r (fun x4 g' r' => g' = g ∧ r' = r ∧ ((isLg (r 0 5)) ∧ ab_RV m_St_replay [(2, 51), (2, r 0 5), (0, x4), (0, x4), (0, (-1))] K S g r (fun g6 r' => r' = r ∧ (ab_RI m_St_look [(2, 51), (0, p2), (0, p3)] K S g6 r (fun x8 g' r' => g' = g6 ∧ r' = r ∧ (P x8 g6 r))))))) ∧ (wr x2 = wr 0 → P (-2147483648) g r))))))))) : ab_RI m_EL_known [(2, 0), (0, p1), (0, p2), (0, p3)] K S g r P := by
  show ab_Rn m_EL_known 0 [some (2, 0), some (0, p1), some (0, p2), some (0, p3), none] [] (K, S, g, r) (ab_Qi K S P)
  refine Rn_pure 1 (i' := 1) (L' := [some (2, 0), some (0, p1), some (0, p2), some (0, p3), none]) (st' := [(0, p1)]) rfl ?_
  refine Rn_callI [(0, p1)] [] rfl rfl rfl rfl (rfl) ?_
  refine h.mono (fun x1 g' r' h => ?_)
  obtain ⟨hx, h⟩ := h
  replace hx := hx.symm
  subst hx
  obtain ⟨hx, h⟩ := h
  replace hx := hx.symm
  subst hx
  refine Rn_ifeq rfl (fun hc => ?_) (fun hc => ?_)
  · have h := h.1 hc
    refine Rn_pure 1 (i' := 8) (L' := [some (2, 0), some (0, p1), some (0, p2), some (0, p3), none]) (st' := [(0, (-2147483648))]) rfl ?_
    exact Rn_ret1 rfl h
  · have h := h.2 hc
    refine Rn_pure 2 (i' := 5) (L' := [some (2, 0), some (0, p1), some (0, p2), some (0, p3), none]) (st' := [(0, p2), (2, 0)]) rfl ?_
    refine Rn_callI [(2, 0), (0, p2)] [] rfl rfl rfl rfl (ab_rvB_of rfl (⟨rfl, (by omega : (0 : Int) ≤ 0), (by omega : (0 : Int) + 1 < K ∧ 5 < K)⟩)) ?_
    refine h.mono (fun x2 g' r' h => ?_)
    obtain ⟨hx, h⟩ := h
    replace hx := hx.symm
    subst hx
    obtain ⟨hx, h⟩ := h
    replace hx := hx.symm
    subst hx
    refine Rn_ifne rfl (fun hc => ?_) (fun hc => ?_)
    · have h := h.1 hc
      refine Rn_pure 1 (i' := 10) (L' := [some (2, 0), some (0, p1), some (0, p2), some (0, p3), none]) (st' := [(2, 0)]) rfl ?_
      obtain ⟨hf3, h⟩ := h
      refine Rn_getR rfl (⟨rfl, (by omega : (0 : Int) ≤ 0), (by omega : (0 : Int) + 1 < K ∧ 5 < K)⟩) rfl (nn_Lg hf3) ?_
      refine Rn_pure 1 (i' := 12) (L' := [some (2, 0), some (0, p1), some (0, p2), some (0, p3), none]) (st' := [(0, p1), (2, r 0 5)]) rfl ?_
      refine Rn_callI [(2, r 0 5), (0, p1)] [] rfl rfl rfl rfl (ab_rvB_of rfl (ob_Lg hf3 hK)) ?_
      refine h.mono (fun x4 g' r' h => ?_)
      obtain ⟨hx, h⟩ := h
      replace hx := hx.symm
      subst hx
      obtain ⟨hx, h⟩ := h
      replace hx := hx.symm
      subst hx
      refine Rn_pure 2 (i' := 15) (L' := [some (2, 0), some (0, p1), some (0, p2), some (0, p3), some (0, x4)]) (st' := [(2, 0)]) rfl ?_
      refine Rn_getR rfl (⟨rfl, (by omega : (0 : Int) ≤ 0), (by omega : (0 : Int) + 1 < K ∧ 5 < K)⟩) (hr 3 _ rfl) (by decide) ?_
      refine Rn_pure 1 (i' := 17) (L' := [some (2, 0), some (0, p1), some (0, p2), some (0, p3), some (0, x4)]) (st' := [(2, 0), (2, 51)]) rfl ?_
      obtain ⟨hf5, h⟩ := h
      refine Rn_getR rfl (⟨rfl, (by omega : (0 : Int) ≤ 0), (by omega : (0 : Int) + 1 < K ∧ 5 < K)⟩) rfl (nn_Lg hf5) ?_
      refine Rn_pure 3 (i' := 21) (L' := [some (2, 0), some (0, p1), some (0, p2), some (0, p3), some (0, x4)]) (st' := [(0, (-1)), (0, x4), (0, x4), (2, r 0 5), (2, 51)]) rfl ?_
      refine Rn_callV [(2, 51), (2, r 0 5), (0, x4), (0, x4), (0, (-1))] [] rfl rfl rfl rfl (ab_rvB_of rfl (⟨rfl, (by omega : (0 : Int) ≤ 51), (by omega : (51 : Int) + 1 < K ∧ 5 < K)⟩)) ?_
      refine h.mono (fun g6 r' h => ?_)
      obtain ⟨hx, h⟩ := h
      replace hx := hx.symm
      subst hx
      refine Rn_pure 1 (i' := 23) (L' := [some (2, 0), some (0, p1), some (0, p2), some (0, p3), some (0, x4)]) (st' := [(2, 0)]) rfl ?_
      refine Rn_getR rfl (⟨rfl, (by omega : (0 : Int) ≤ 0), (by omega : (0 : Int) + 1 < K ∧ 5 < K)⟩) (hr 3 _ rfl) (by decide) ?_
      refine Rn_pure 2 (i' := 26) (L' := [some (2, 0), some (0, p1), some (0, p2), some (0, p3), some (0, x4)]) (st' := [(0, p3), (0, p2), (2, 51)]) rfl ?_
      refine Rn_callI [(2, 51), (0, p2), (0, p3)] [] rfl rfl rfl rfl (ab_rvB_of rfl (⟨rfl, (by omega : (0 : Int) ≤ 51), (by omega : (51 : Int) + 1 < K ∧ 5 < K)⟩)) ?_
      refine h.mono (fun x8 g' r' h => ?_)
      obtain ⟨hx, h⟩ := h
      replace hx := hx.symm
      subst hx
      obtain ⟨hx, h⟩ := h
      replace hx := hx.symm
      subst hx
      exact Rn_ret1 rfl h
    · have h := h.2 hc
      refine Rn_pure 1 (i' := 8) (L' := [some (2, 0), some (0, p1), some (0, p2), some (0, p3), none]) (st' := [(0, (-2147483648))]) rfl ?_
      exact Rn_ret1 rfl h
-- EventLedger.cost (I)I
theorem v_EL_cost {K : Int} {S : Nat} {g r : ab_H} {p1 : Int} (P : Int → ab_H → ab_H → Prop) (hr : SI r) (hK : 186 ≤ K) (h : ((wr p1 < wr 0 → P (-1) g r) ∧ (wr 0 ≤ wr p1 → (isLg (r 0 5)) ∧ ((wr (g (r 0 5) 10) < wr p1 → P (-1) g r) ∧ (wr p1 ≤ wr (g (r 0 5) 10) → ab_RI m_EL_costOf [(2, 0), (0, p1)] K S g r (fun x2 g' r' => g' = g ∧ r' = r ∧ (P x2 g r))))))) : ab_RI m_EL_cost [(2, 0), (0, p1)] K S g r P := by
  show ab_Rn m_EL_cost 0 [some (2, 0), some (0, p1)] [] (K, S, g, r) (ab_Qi K S P)
  refine Rn_pure 1 (i' := 1) (L' := [some (2, 0), some (0, p1)]) (st' := [(0, p1)]) rfl ?_
  refine Rn_iflt rfl (fun hc => ?_) (fun hc => ?_)
  · have h := h.1 hc
    refine Rn_pure 1 (i' := 12) (L' := [some (2, 0), some (0, p1)]) (st' := [(0, (-1))]) rfl ?_
    exact Rn_ret1 rfl h
  · have h := h.2 hc
    refine Rn_pure 2 (i' := 4) (L' := [some (2, 0), some (0, p1)]) (st' := [(2, 0), (0, p1)]) rfl ?_
    obtain ⟨hf1, h⟩ := h
    refine Rn_getR rfl (⟨rfl, (by omega : (0 : Int) ≤ 0), (by omega : (0 : Int) + 1 < K ∧ 5 < K)⟩) rfl (nn_Lg hf1) ?_
    refine Rn_getI rfl (ob_Lg hf1 hK) ?_
    refine Rn_icgt rfl (fun hc => ?_) (fun hc => ?_)
    · have h := h.1 hc
      refine Rn_pure 1 (i' := 12) (L' := [some (2, 0), some (0, p1)]) (st' := [(0, (-1))]) rfl ?_
      exact Rn_ret1 rfl h
    · have h := h.2 hc
      refine Rn_pure 2 (i' := 9) (L' := [some (2, 0), some (0, p1)]) (st' := [(0, p1), (2, 0)]) rfl ?_
      refine Rn_callI [(2, 0), (0, p1)] [] rfl rfl rfl rfl (ab_rvB_of rfl (⟨rfl, (by omega : (0 : Int) ≤ 0), (by omega : (0 : Int) + 1 < K ∧ 5 < K)⟩)) ?_
      refine h.mono (fun x2 g' r' h => ?_)
      obtain ⟨hx, h⟩ := h
      replace hx := hx.symm
      subst hx
      obtain ⟨hx, h⟩ := h
      replace hx := hx.symm
      subst hx
      refine Rn_pure 1 (i' := 12) (L' := [some (2, 0), some (0, p1)]) (st' := [(0, x2)]) rfl ?_
      exact Rn_ret1 rfl h
-- EventLedger.costAt (I)I
theorem v_EL_costAt {K : Int} {S : Nat} {g r : ab_H} {p1 : Int} (P : Int → ab_H → ab_H → Prop) (hr : SI r) (hK : 186 ≤ K) (h : ab_RI m_EL_isTime [(0, p1)] K S g r (fun x1 g' r' => g' = g ∧ r' = r ∧ (((wr x1 = wr 0 → P (-1) g r) ∧ (¬ wr x1 = wr 0 → (isLg (r 0 5)) ∧ ab_RI m_Lg_placeAt [(2, r 0 5), (0, p1)] K S g r (fun x3 g' r' => g' = g ∧ r' = r ∧ (ab_RI m_EL_costOf [(2, 0), (0, x3)] K S g r (fun x4 g' r' => g' = g ∧ r' = r ∧ (P x4 g r))))))))) : ab_RI m_EL_costAt [(2, 0), (0, p1)] K S g r P := by
  show ab_Rn m_EL_costAt 0 [some (2, 0), some (0, p1)] [] (K, S, g, r) (ab_Qi K S P)
  refine Rn_pure 1 (i' := 1) (L' := [some (2, 0), some (0, p1)]) (st' := [(0, p1)]) rfl ?_
  refine Rn_callI [(0, p1)] [] rfl rfl rfl rfl (rfl) ?_
  refine h.mono (fun x1 g' r' h => ?_)
  obtain ⟨hx, h⟩ := h
  replace hx := hx.symm
  subst hx
  obtain ⟨hx, h⟩ := h
  replace hx := hx.symm
  subst hx
  refine Rn_ifeq rfl (fun hc => ?_) (fun hc => ?_)
  · have h := h.1 hc
    refine Rn_pure 1 (i' := 11) (L' := [some (2, 0), some (0, p1)]) (st' := [(0, (-1))]) rfl ?_
    exact Rn_ret1 rfl h
  · have h := h.2 hc
    refine Rn_pure 2 (i' := 5) (L' := [some (2, 0), some (0, p1)]) (st' := [(2, 0), (2, 0)]) rfl ?_
    obtain ⟨hf2, h⟩ := h
    refine Rn_getR rfl (⟨rfl, (by omega : (0 : Int) ≤ 0), (by omega : (0 : Int) + 1 < K ∧ 5 < K)⟩) rfl (nn_Lg hf2) ?_
    refine Rn_pure 1 (i' := 7) (L' := [some (2, 0), some (0, p1)]) (st' := [(0, p1), (2, r 0 5), (2, 0)]) rfl ?_
    refine Rn_callI [(2, r 0 5), (0, p1)] [(2, 0)] rfl rfl rfl rfl (ab_rvB_of rfl (ob_Lg hf2 hK)) ?_
    refine h.mono (fun x3 g' r' h => ?_)
    obtain ⟨hx, h⟩ := h
    replace hx := hx.symm
    subst hx
    obtain ⟨hx, h⟩ := h
    replace hx := hx.symm
    subst hx
    refine Rn_callI [(2, 0), (0, x3)] [] rfl rfl rfl rfl (ab_rvB_of rfl (⟨rfl, (by omega : (0 : Int) ≤ 0), (by omega : (0 : Int) + 1 < K ∧ 5 < K)⟩)) ?_
    refine h.mono (fun x4 g' r' h => ?_)
    obtain ⟨hx, h⟩ := h
    replace hx := hx.symm
    subst hx
    obtain ⟨hx, h⟩ := h
    replace hx := hx.symm
    subst hx
    refine Rn_pure 1 (i' := 11) (L' := [some (2, 0), some (0, p1)]) (st' := [(0, x4)]) rfl ?_
    exact Rn_ret1 rfl h
-- EventLedger.snapshot (I)I
theorem v_EL_snapshot {K : Int} {S : Nat} {g r : ab_H} {p1 : Int} (P : Int → ab_H → ab_H → Prop) (hr : SI r) (hK : 186 ≤ K) (h : ((wr 0 ≤ wr p1 → ((wr (g 57 1) ≤ wr p1 → P (-2) g r) ∧ (wr p1 < wr (g 57 1) → ((0 : Int) ≤ p1 ∧ (p1 : Int) < 7) ∧ P (g 58 p1) g r))) ∧ (wr p1 < wr 0 → P (-1) g r))) : ab_RI m_EL_snapshot [(2, 0), (0, p1)] K S g r P := by
  show ab_Rn m_EL_snapshot 0 [some (2, 0), some (0, p1)] [] (K, S, g, r) (ab_Qi K S P)
  refine Rn_pure 1 (i' := 1) (L' := [some (2, 0), some (0, p1)]) (st' := [(0, p1)]) rfl ?_
  refine Rn_ifge rfl (fun hc => ?_) (fun hc => ?_)
  · have h := h.1 hc
    refine Rn_pure 2 (i' := 6) (L' := [some (2, 0), some (0, p1)]) (st' := [(2, 0), (0, p1)]) rfl ?_
    refine Rn_getR rfl (⟨rfl, (by omega : (0 : Int) ≤ 0), (by omega : (0 : Int) + 1 < K ∧ 5 < K)⟩) (hr 4 _ rfl) (by decide) ?_
    refine Rn_getI rfl (⟨rfl, (by omega : (0 : Int) ≤ 57), (by omega : (57 : Int) + 1 < K ∧ 5 < K)⟩) ?_
    refine Rn_icge rfl (fun hc => ?_) (fun hc => ?_)
    · have h := h.1 hc
      refine Rn_pure 1 (i' := 16) (L' := [some (2, 0), some (0, p1)]) (st' := [(0, (-2))]) rfl ?_
      exact Rn_ret1 rfl h
    · have h := h.2 hc
      refine Rn_pure 1 (i' := 10) (L' := [some (2, 0), some (0, p1)]) (st' := [(2, 0)]) rfl ?_
      refine Rn_getR rfl (⟨rfl, (by omega : (0 : Int) ≤ 0), (by omega : (0 : Int) + 1 < K ∧ 5 < K)⟩) (hr 4 _ rfl) (by decide) ?_
      refine Rn_getR rfl (⟨rfl, (by omega : (0 : Int) ≤ 57), (by omega : (57 : Int) + 1 < K ∧ 5 < K)⟩) (hr 60 _ rfl) (by decide) ?_
      refine Rn_pure 1 (i' := 13) (L' := [some (2, 0), some (0, p1)]) (st' := [(0, p1), (2, 58)]) rfl ?_
      obtain ⟨hg, h⟩ := h
      refine Rn_iald rfl (⟨rfl, (by omega : (0 : Int) ≤ 58), (by omega : (58 : Int) + 1 < K ∧ 5 < K)⟩) hg ?_
      refine Rn_pure 1 (i' := 16) (L' := [some (2, 0), some (0, p1)]) (st' := [(0, g 58 p1)]) rfl ?_
      exact Rn_ret1 rfl h
  · have h := h.2 hc
    refine Rn_pure 1 (i' := 3) (L' := [some (2, 0), some (0, p1)]) (st' := [(0, (-1))]) rfl ?_
    exact Rn_ret1 rfl h
-- EventLedger.inSnapshot (III)I
theorem v_EL_inSnapshot {K : Int} {S : Nat} {g r : ab_H} {p1 p2 p3 : Int} (P : Int → ab_H → ab_H → Prop) (hr : SI r) (hK : 186 ≤ K) (h : ((wr p1 < wr 0 → P (-2147483648) g r) ∧ (wr 0 ≤ wr p1 → ((wr (g 57 1) ≤ wr p1 → P (-2147483648) g r) ∧ (wr p1 < wr (g 57 1) → ab_RI m_EL_isAccount [(2, 0), (0, p2)] K S g r (fun x1 g' r' => g' = g ∧ r' = r ∧ (((¬ wr x1 = wr 0 → (isLg (r 0 5)) ∧ ((0 : Int) ≤ p1 ∧ (p1 : Int) < 7) ∧ (isLg (r 0 5)) ∧ ab_RV m_St_replay [(2, 51), (2, r 0 5), (0, g 58 p1), (0, g (r 0 5) 10), (0, (-1))] K S g r (fun g4 r' => r' = r ∧ (ab_RI m_St_look [(2, 51), (0, p2), (0, p3)] K S g4 r (fun x6 g' r' => g' = g4 ∧ r' = r ∧ (P x6 g4 r))))) ∧ (wr x1 = wr 0 → P (-2147483648) g r))))))))) : ab_RI m_EL_inSnapshot [(2, 0), (0, p1), (0, p2), (0, p3)] K S g r P := by
  show ab_Rn m_EL_inSnapshot 0 [some (2, 0), some (0, p1), some (0, p2), some (0, p3)] [] (K, S, g, r) (ab_Qi K S P)
  refine Rn_pure 1 (i' := 1) (L' := [some (2, 0), some (0, p1), some (0, p2), some (0, p3)]) (st' := [(0, p1)]) rfl ?_
  refine Rn_iflt rfl (fun hc => ?_) (fun hc => ?_)
  · have h := h.1 hc
    refine Rn_pure 1 (i' := 12) (L' := [some (2, 0), some (0, p1), some (0, p2), some (0, p3)]) (st' := [(0, (-2147483648))]) rfl ?_
    exact Rn_ret1 rfl h
  · have h := h.2 hc
    refine Rn_pure 2 (i' := 4) (L' := [some (2, 0), some (0, p1), some (0, p2), some (0, p3)]) (st' := [(2, 0), (0, p1)]) rfl ?_
    refine Rn_getR rfl (⟨rfl, (by omega : (0 : Int) ≤ 0), (by omega : (0 : Int) + 1 < K ∧ 5 < K)⟩) (hr 4 _ rfl) (by decide) ?_
    refine Rn_getI rfl (⟨rfl, (by omega : (0 : Int) ≤ 57), (by omega : (57 : Int) + 1 < K ∧ 5 < K)⟩) ?_
    refine Rn_icge rfl (fun hc => ?_) (fun hc => ?_)
    · have h := h.1 hc
      refine Rn_pure 1 (i' := 12) (L' := [some (2, 0), some (0, p1), some (0, p2), some (0, p3)]) (st' := [(0, (-2147483648))]) rfl ?_
      exact Rn_ret1 rfl h
    · have h := h.2 hc
      refine Rn_pure 2 (i' := 9) (L' := [some (2, 0), some (0, p1), some (0, p2), some (0, p3)]) (st' := [(0, p2), (2, 0)]) rfl ?_
      refine Rn_callI [(2, 0), (0, p2)] [] rfl rfl rfl rfl (ab_rvB_of rfl (⟨rfl, (by omega : (0 : Int) ≤ 0), (by omega : (0 : Int) + 1 < K ∧ 5 < K)⟩)) ?_
      refine h.mono (fun x1 g' r' h => ?_)
      obtain ⟨hx, h⟩ := h
      replace hx := hx.symm
      subst hx
      obtain ⟨hx, h⟩ := h
      replace hx := hx.symm
      subst hx
      refine Rn_ifne rfl (fun hc => ?_) (fun hc => ?_)
      · have h := h.1 hc
        refine Rn_pure 1 (i' := 14) (L' := [some (2, 0), some (0, p1), some (0, p2), some (0, p3)]) (st' := [(2, 0)]) rfl ?_
        refine Rn_getR rfl (⟨rfl, (by omega : (0 : Int) ≤ 0), (by omega : (0 : Int) + 1 < K ∧ 5 < K)⟩) (hr 3 _ rfl) (by decide) ?_
        refine Rn_pure 1 (i' := 16) (L' := [some (2, 0), some (0, p1), some (0, p2), some (0, p3)]) (st' := [(2, 0), (2, 51)]) rfl ?_
        obtain ⟨hf2, h⟩ := h
        refine Rn_getR rfl (⟨rfl, (by omega : (0 : Int) ≤ 0), (by omega : (0 : Int) + 1 < K ∧ 5 < K)⟩) rfl (nn_Lg hf2) ?_
        refine Rn_pure 1 (i' := 18) (L' := [some (2, 0), some (0, p1), some (0, p2), some (0, p3)]) (st' := [(2, 0), (2, r 0 5), (2, 51)]) rfl ?_
        refine Rn_getR rfl (⟨rfl, (by omega : (0 : Int) ≤ 0), (by omega : (0 : Int) + 1 < K ∧ 5 < K)⟩) (hr 4 _ rfl) (by decide) ?_
        refine Rn_getR rfl (⟨rfl, (by omega : (0 : Int) ≤ 57), (by omega : (57 : Int) + 1 < K ∧ 5 < K)⟩) (hr 60 _ rfl) (by decide) ?_
        refine Rn_pure 1 (i' := 21) (L' := [some (2, 0), some (0, p1), some (0, p2), some (0, p3)]) (st' := [(0, p1), (2, 58), (2, r 0 5), (2, 51)]) rfl ?_
        obtain ⟨hg, h⟩ := h
        refine Rn_iald rfl (⟨rfl, (by omega : (0 : Int) ≤ 58), (by omega : (58 : Int) + 1 < K ∧ 5 < K)⟩) hg ?_
        refine Rn_pure 1 (i' := 23) (L' := [some (2, 0), some (0, p1), some (0, p2), some (0, p3)]) (st' := [(2, 0), (0, g 58 p1), (2, r 0 5), (2, 51)]) rfl ?_
        obtain ⟨hf3, h⟩ := h
        refine Rn_getR rfl (⟨rfl, (by omega : (0 : Int) ≤ 0), (by omega : (0 : Int) + 1 < K ∧ 5 < K)⟩) rfl (nn_Lg hf3) ?_
        refine Rn_getI rfl (ob_Lg hf3 hK) ?_
        refine Rn_pure 1 (i' := 26) (L' := [some (2, 0), some (0, p1), some (0, p2), some (0, p3)]) (st' := [(0, (-1)), (0, g (r 0 5) 10), (0, g 58 p1), (2, r 0 5), (2, 51)]) rfl ?_
        refine Rn_callV [(2, 51), (2, r 0 5), (0, g 58 p1), (0, g (r 0 5) 10), (0, (-1))] [] rfl rfl rfl rfl (ab_rvB_of rfl (⟨rfl, (by omega : (0 : Int) ≤ 51), (by omega : (51 : Int) + 1 < K ∧ 5 < K)⟩)) ?_
        refine h.mono (fun g4 r' h => ?_)
        obtain ⟨hx, h⟩ := h
        replace hx := hx.symm
        subst hx
        refine Rn_pure 1 (i' := 28) (L' := [some (2, 0), some (0, p1), some (0, p2), some (0, p3)]) (st' := [(2, 0)]) rfl ?_
        refine Rn_getR rfl (⟨rfl, (by omega : (0 : Int) ≤ 0), (by omega : (0 : Int) + 1 < K ∧ 5 < K)⟩) (hr 3 _ rfl) (by decide) ?_
        refine Rn_pure 2 (i' := 31) (L' := [some (2, 0), some (0, p1), some (0, p2), some (0, p3)]) (st' := [(0, p3), (0, p2), (2, 51)]) rfl ?_
        refine Rn_callI [(2, 51), (0, p2), (0, p3)] [] rfl rfl rfl rfl (ab_rvB_of rfl (⟨rfl, (by omega : (0 : Int) ≤ 51), (by omega : (51 : Int) + 1 < K ∧ 5 < K)⟩)) ?_
        refine h.mono (fun x6 g' r' h => ?_)
        obtain ⟨hx, h⟩ := h
        replace hx := hx.symm
        subst hx
        obtain ⟨hx, h⟩ := h
        replace hx := hx.symm
        subst hx
        exact Rn_ret1 rfl h
      · have h := h.2 hc
        refine Rn_pure 1 (i' := 12) (L' := [some (2, 0), some (0, p1), some (0, p2), some (0, p3)]) (st' := [(0, (-2147483648))]) rfl ?_
        exact Rn_ret1 rfl h
-- EventLedger.bestPlace (I)I
theorem v_EL_bestPlace {K : Int} {S : Nat} {g r : ab_H} {p1 : Int} (P : Int → ab_H → ab_H → Prop) (hr : SI r) (hK : 186 ≤ K) (h : ((wr p1 < wr 0 → P (-1) g r) ∧ (wr 0 ≤ wr p1 → ((wr p1 ≤ wr 1 → ab_Rn m_EL_bestPlace 15 [some (2, 0), some (0, p1), some (0, 0), some (0, 0), some (0, 0), some (0, 0), none, none] [] (K, S, g, r) (ab_Qi K S P)) ∧ (wr 1 < wr p1 → P (-1) g r))))) : ab_RI m_EL_bestPlace [(2, 0), (0, p1)] K S g r P := by
  show ab_Rn m_EL_bestPlace 0 [some (2, 0), some (0, p1), none, none, none, none, none, none] [] (K, S, g, r) (ab_Qi K S P)
  refine Rn_pure 1 (i' := 1) (L' := [some (2, 0), some (0, p1), none, none, none, none, none, none]) (st' := [(0, p1)]) rfl ?_
  refine Rn_iflt rfl (fun hc => ?_) (fun hc => ?_)
  · have h := h.1 hc
    refine Rn_pure 1 (i' := 6) (L' := [some (2, 0), some (0, p1), none, none, none, none, none, none]) (st' := [(0, (-1))]) rfl ?_
    exact Rn_ret1 rfl h
  · have h := h.2 hc
    refine Rn_pure 2 (i' := 4) (L' := [some (2, 0), some (0, p1), none, none, none, none, none, none]) (st' := [(0, 1), (0, p1)]) rfl ?_
    refine Rn_icle rfl (fun hc => ?_) (fun hc => ?_)
    · have h := h.1 hc
      refine Rn_pure 8 (i' := 15) (L' := [some (2, 0), some (0, p1), some (0, 0), some (0, 0), some (0, 0), some (0, 0), none, none]) (st' := []) rfl ?_
      exact h
    · have h := h.2 hc
      refine Rn_pure 1 (i' := 6) (L' := [some (2, 0), some (0, p1), none, none, none, none, none, none]) (st' := [(0, (-1))]) rfl ?_
      exact Rn_ret1 rfl h
theorem v_EL_bestPlace_15 {K : Int} {S : Nat} {g r : ab_H} {l1 l2 l3 l4 l5 : Int} (P : Int → ab_H → ab_H → Prop) (hr : SI r) (hK : 186 ≤ K) (h : (isLg (r 0 5)) ∧ ((wr (g (r 0 5) 10) < wr l5 → ((¬ wr l1 = wr 0 → P (l2 - l4) g r) ∧ (wr l1 = wr 0 → P l3 g r))) ∧ (wr l5 ≤ wr (g (r 0 5) 10) → ab_RI m_EL_costOf [(2, 0), (0, l5)] K S g r (fun x2 g' r' => g' = g ∧ r' = r ∧ ((isLg (r 0 5)) ∧ ab_RI m_Sh_nextBehind [(2, 57), (0, l5), (0, g (r 0 5) 10 + 1)] K S g r (fun x4 g' r' => g' = g ∧ r' = r ∧ (((wr (x2 * (x4 - l5)) ≤ wr l4 → ab_Rn m_EL_bestPlace 15 [some (2, 0), some (0, l1), some (0, l2 + x2), some (0, l3), some (0, l4), some (0, l5 + 1), none, none] [] (K, S, g, r) (ab_Qi K S P)) ∧ (wr l4 < wr (x2 * (x4 - l5)) → ab_Rn m_EL_bestPlace 15 [some (2, 0), some (0, l1), some (0, l2 + x2), some (0, l5), some (0, x2 * (x4 - l5)), some (0, l5 + 1), none, none] [] (K, S, g, r) (ab_Qi K S P)))))))))) : ab_Rn m_EL_bestPlace 15 [some (2, 0), some (0, l1), some (0, l2), some (0, l3), some (0, l4), some (0, l5), none, none] [] (K, S, g, r) (ab_Qi K S P) := by
  refine Rn_pure 2 (i' := 17) (L' := [some (2, 0), some (0, l1), some (0, l2), some (0, l3), some (0, l4), some (0, l5), none, none]) (st' := [(2, 0), (0, l5)]) rfl ?_
  obtain ⟨hf1, h⟩ := h
  refine Rn_getR rfl (⟨rfl, (by omega : (0 : Int) ≤ 0), (by omega : (0 : Int) + 1 < K ∧ 5 < K)⟩) rfl (nn_Lg hf1) ?_
  refine Rn_getI rfl (ob_Lg hf1 hK) ?_
  refine Rn_icgt rfl (fun hc => ?_) (fun hc => ?_)
  · have h := h.1 hc
    refine Rn_pure 1 (i' := 52) (L' := [some (2, 0), some (0, l1), some (0, l2), some (0, l3), some (0, l4), some (0, l5), none, none]) (st' := [(0, l1)]) rfl ?_
    refine Rn_ifne rfl (fun hc => ?_) (fun hc => ?_)
    · have h := h.1 hc
      refine Rn_pure 3 (i' := 58) (L' := [some (2, 0), some (0, l1), some (0, l2), some (0, l3), some (0, l4), some (0, l5), none, none]) (st' := [(0, l2 - l4)]) rfl ?_
      exact Rn_ret1 rfl h
    · have h := h.2 hc
      refine Rn_pure 2 (i' := 58) (L' := [some (2, 0), some (0, l1), some (0, l2), some (0, l3), some (0, l4), some (0, l5), none, none]) (st' := [(0, l3)]) rfl ?_
      exact Rn_ret1 rfl h
  · have h := h.2 hc
    refine Rn_pure 2 (i' := 22) (L' := [some (2, 0), some (0, l1), some (0, l2), some (0, l3), some (0, l4), some (0, l5), none, none]) (st' := [(0, l5), (2, 0)]) rfl ?_
    refine Rn_callI [(2, 0), (0, l5)] [] rfl rfl rfl rfl (ab_rvB_of rfl (⟨rfl, (by omega : (0 : Int) ≤ 0), (by omega : (0 : Int) + 1 < K ∧ 5 < K)⟩)) ?_
    refine h.mono (fun x2 g' r' h => ?_)
    obtain ⟨hx, h⟩ := h
    replace hx := hx.symm
    subst hx
    obtain ⟨hx, h⟩ := h
    replace hx := hx.symm
    subst hx
    refine Rn_pure 7 (i' := 30) (L' := [some (2, 0), some (0, l1), some (0, l2 + x2), some (0, l3), some (0, l4), some (0, l5), some (0, x2), none]) (st' := [(2, 0), (0, x2)]) rfl ?_
    refine Rn_getR rfl (⟨rfl, (by omega : (0 : Int) ≤ 0), (by omega : (0 : Int) + 1 < K ∧ 5 < K)⟩) (hr 4 _ rfl) (by decide) ?_
    refine Rn_pure 2 (i' := 33) (L' := [some (2, 0), some (0, l1), some (0, l2 + x2), some (0, l3), some (0, l4), some (0, l5), some (0, x2), none]) (st' := [(2, 0), (0, l5), (2, 57), (0, x2)]) rfl ?_
    obtain ⟨hf3, h⟩ := h
    refine Rn_getR rfl (⟨rfl, (by omega : (0 : Int) ≤ 0), (by omega : (0 : Int) + 1 < K ∧ 5 < K)⟩) rfl (nn_Lg hf3) ?_
    refine Rn_getI rfl (ob_Lg hf3 hK) ?_
    refine Rn_pure 2 (i' := 37) (L' := [some (2, 0), some (0, l1), some (0, l2 + x2), some (0, l3), some (0, l4), some (0, l5), some (0, x2), none]) (st' := [(0, g (r 0 5) 10 + 1), (0, l5), (2, 57), (0, x2)]) rfl ?_
    refine Rn_callI [(2, 57), (0, l5), (0, g (r 0 5) 10 + 1)] [(0, x2)] rfl rfl rfl rfl (ab_rvB_of rfl (⟨rfl, (by omega : (0 : Int) ≤ 57), (by omega : (57 : Int) + 1 < K ∧ 5 < K)⟩)) ?_
    refine h.mono (fun x4 g' r' h => ?_)
    obtain ⟨hx, h⟩ := h
    replace hx := hx.symm
    subst hx
    obtain ⟨hx, h⟩ := h
    replace hx := hx.symm
    subst hx
    refine Rn_pure 6 (i' := 44) (L' := [some (2, 0), some (0, l1), some (0, l2 + x2), some (0, l3), some (0, l4), some (0, l5), some (0, x2), some (0, x2 * (x4 - l5))]) (st' := [(0, l4), (0, x2 * (x4 - l5))]) rfl ?_
    refine Rn_icle rfl (fun hc => ?_) (fun hc => ?_)
    · have h := h.1 hc
      refine Rn_pure 2 (i' := 15) (L' := [some (2, 0), some (0, l1), some (0, l2 + x2), some (0, l3), some (0, l4), some (0, l5 + 1), some (0, x2), some (0, x2 * (x4 - l5))]) (st' := []) rfl ?_
      refine Rn_weak (L' := [some (2, 0), some (0, l1), some (0, l2 + x2), some (0, l3), some (0, l4), some (0, l5 + 1), none, none]) ⟨rfl, ⟨rfl, ⟨rfl, ⟨rfl, ⟨rfl, ⟨rfl, trivial⟩⟩⟩⟩⟩⟩ ?_
      exact h
    · have h := h.2 hc
      refine Rn_pure 6 (i' := 15) (L' := [some (2, 0), some (0, l1), some (0, l2 + x2), some (0, l5), some (0, x2 * (x4 - l5)), some (0, l5 + 1), some (0, x2), some (0, x2 * (x4 - l5))]) (st' := []) rfl ?_
      refine Rn_weak (L' := [some (2, 0), some (0, l1), some (0, l2 + x2), some (0, l5), some (0, x2 * (x4 - l5)), some (0, l5 + 1), none, none]) ⟨rfl, ⟨rfl, ⟨rfl, ⟨rfl, ⟨rfl, ⟨rfl, trivial⟩⟩⟩⟩⟩⟩ ?_
      exact h
-- EventLedger.aside (I)I
theorem v_EL_aside {K : Int} {S : Nat} {g r : ab_H} {p1 : Int} (P : Int → ab_H → ab_H → Prop) (hr : SI r) (hK : 186 ≤ K) (h : ((wr 0 ≤ wr p1 → ab_Rn m_EL_aside 8 [some (2, 0), some (0, p1), some (0, 0), some (0, 0)] [] (K, S, g, r) (ab_Qi K S P)) ∧ (wr p1 < wr 0 → P (-1) g r))) : ab_RI m_EL_aside [(2, 0), (0, p1)] K S g r P := by
  show ab_Rn m_EL_aside 0 [some (2, 0), some (0, p1), none, none] [] (K, S, g, r) (ab_Qi K S P)
  refine Rn_pure 1 (i' := 1) (L' := [some (2, 0), some (0, p1), none, none]) (st' := [(0, p1)]) rfl ?_
  refine Rn_ifge rfl (fun hc => ?_) (fun hc => ?_)
  · have h := h.1 hc
    refine Rn_pure 4 (i' := 8) (L' := [some (2, 0), some (0, p1), some (0, 0), some (0, 0)]) (st' := []) rfl ?_
    exact h
  · have h := h.2 hc
    refine Rn_pure 1 (i' := 3) (L' := [some (2, 0), some (0, p1), none, none]) (st' := [(0, (-1))]) rfl ?_
    exact Rn_ret1 rfl h
theorem v_EL_aside_8 {K : Int} {S : Nat} {g r : ab_H} {l1 l2 l3 : Int} (P : Int → ab_H → ab_H → Prop) (hr : SI r) (hK : 186 ≤ K) (h : (isLg (r 0 5)) ∧ ((wr (g (r 0 5) 10) ≤ wr l3 → P (-2) g r) ∧ (wr l3 < wr (g (r 0 5) 10) → ((0 : Int) ≤ l3 ∧ (l3 : Int) < 120) ∧ ((wr (g 50 l3) = wr 0 → ab_Rn m_EL_aside 8 [some (2, 0), some (0, l1), some (0, l2), some (0, l3 + 1)] [] (K, S, g, r) (ab_Qi K S P)) ∧ (¬ wr (g 50 l3) = wr 0 → ((¬ wr l2 = wr l1 → ab_Rn m_EL_aside 8 [some (2, 0), some (0, l1), some (0, l2 + 1), some (0, l3 + 1)] [] (K, S, g, r) (ab_Qi K S P)) ∧ (wr l2 = wr l1 → P l3 g r))))))) : ab_Rn m_EL_aside 8 [some (2, 0), some (0, l1), some (0, l2), some (0, l3)] [] (K, S, g, r) (ab_Qi K S P) := by
  refine Rn_pure 2 (i' := 10) (L' := [some (2, 0), some (0, l1), some (0, l2), some (0, l3)]) (st' := [(2, 0), (0, l3)]) rfl ?_
  obtain ⟨hf1, h⟩ := h
  refine Rn_getR rfl (⟨rfl, (by omega : (0 : Int) ≤ 0), (by omega : (0 : Int) + 1 < K ∧ 5 < K)⟩) rfl (nn_Lg hf1) ?_
  refine Rn_getI rfl (ob_Lg hf1 hK) ?_
  refine Rn_icge rfl (fun hc => ?_) (fun hc => ?_)
  · have h := h.1 hc
    refine Rn_pure 1 (i' := 28) (L' := [some (2, 0), some (0, l1), some (0, l2), some (0, l3)]) (st' := [(0, (-2))]) rfl ?_
    exact Rn_ret1 rfl h
  · have h := h.2 hc
    refine Rn_pure 1 (i' := 14) (L' := [some (2, 0), some (0, l1), some (0, l2), some (0, l3)]) (st' := [(2, 0)]) rfl ?_
    refine Rn_getR rfl (⟨rfl, (by omega : (0 : Int) ≤ 0), (by omega : (0 : Int) + 1 < K ∧ 5 < K)⟩) (hr 2 _ rfl) (by decide) ?_
    refine Rn_getR rfl (⟨rfl, (by omega : (0 : Int) ≤ 45), (by omega : (45 : Int) + 1 < K ∧ 5 < K)⟩) (hr 54 _ rfl) (by decide) ?_
    refine Rn_pure 1 (i' := 17) (L' := [some (2, 0), some (0, l1), some (0, l2), some (0, l3)]) (st' := [(0, l3), (2, 50)]) rfl ?_
    obtain ⟨hg, h⟩ := h
    refine Rn_iald rfl (⟨rfl, (by omega : (0 : Int) ≤ 50), (by omega : (50 : Int) + 1 < K ∧ 5 < K)⟩) hg ?_
    refine Rn_ifeq rfl (fun hc => ?_) (fun hc => ?_)
    · have h := h.1 hc
      refine Rn_pure 2 (i' := 8) (L' := [some (2, 0), some (0, l1), some (0, l2), some (0, l3 + 1)]) (st' := []) rfl ?_
      exact h
    · have h := h.2 hc
      refine Rn_pure 2 (i' := 21) (L' := [some (2, 0), some (0, l1), some (0, l2), some (0, l3)]) (st' := [(0, l1), (0, l2)]) rfl ?_
      refine Rn_icne rfl (fun hc => ?_) (fun hc => ?_)
      · have h := h.1 hc
        refine Rn_pure 3 (i' := 8) (L' := [some (2, 0), some (0, l1), some (0, l2 + 1), some (0, l3 + 1)]) (st' := []) rfl ?_
        exact h
      · have h := h.2 hc
        refine Rn_pure 1 (i' := 23) (L' := [some (2, 0), some (0, l1), some (0, l2), some (0, l3)]) (st' := [(0, l3)]) rfl ?_
        exact Rn_ret1 rfl h
-- EventLedger.blame (I)I
theorem v_EL_blame {K : Int} {S : Nat} {g r : ab_H} {p1 : Int} (P : Int → ab_H → ab_H → Prop) (hr : SI r) (hK : 186 ≤ K) (h : (isLg (r 0 5)) ∧ ab_RI m_Lg_holds [(2, r 0 5), (0, p1)] K S g r (fun x2 g' r' => g' = g ∧ r' = r ∧ (((wr x2 = wr 0 → P (-1) g r) ∧ (¬ wr x2 = wr 0 → ((0 : Int) ≤ p1 ∧ (p1 : Int) < 120) ∧ ((¬ wr (g 50 p1) = wr 0 → ab_Rn m_EL_blame 15 [some (2, 0), some (0, p1), some (0, 0)] [] (K, S, g, r) (ab_Qi K S P)) ∧ (wr (g 50 p1) = wr 0 → P (-1) g r))))))) : ab_RI m_EL_blame [(2, 0), (0, p1)] K S g r P := by
  show ab_Rn m_EL_blame 0 [some (2, 0), some (0, p1), none] [] (K, S, g, r) (ab_Qi K S P)
  refine Rn_pure 1 (i' := 1) (L' := [some (2, 0), some (0, p1), none]) (st' := [(2, 0)]) rfl ?_
  obtain ⟨hf1, h⟩ := h
  refine Rn_getR rfl (⟨rfl, (by omega : (0 : Int) ≤ 0), (by omega : (0 : Int) + 1 < K ∧ 5 < K)⟩) rfl (nn_Lg hf1) ?_
  refine Rn_pure 1 (i' := 3) (L' := [some (2, 0), some (0, p1), none]) (st' := [(0, p1), (2, r 0 5)]) rfl ?_
  refine Rn_callI [(2, r 0 5), (0, p1)] [] rfl rfl rfl rfl (ab_rvB_of rfl (ob_Lg hf1 hK)) ?_
  refine h.mono (fun x2 g' r' h => ?_)
  obtain ⟨hx, h⟩ := h
  replace hx := hx.symm
  subst hx
  obtain ⟨hx, h⟩ := h
  replace hx := hx.symm
  subst hx
  refine Rn_ifeq rfl (fun hc => ?_) (fun hc => ?_)
  · have h := h.1 hc
    refine Rn_pure 1 (i' := 12) (L' := [some (2, 0), some (0, p1), none]) (st' := [(0, (-1))]) rfl ?_
    exact Rn_ret1 rfl h
  · have h := h.2 hc
    refine Rn_pure 1 (i' := 6) (L' := [some (2, 0), some (0, p1), none]) (st' := [(2, 0)]) rfl ?_
    refine Rn_getR rfl (⟨rfl, (by omega : (0 : Int) ≤ 0), (by omega : (0 : Int) + 1 < K ∧ 5 < K)⟩) (hr 2 _ rfl) (by decide) ?_
    refine Rn_getR rfl (⟨rfl, (by omega : (0 : Int) ≤ 45), (by omega : (45 : Int) + 1 < K ∧ 5 < K)⟩) (hr 54 _ rfl) (by decide) ?_
    refine Rn_pure 1 (i' := 9) (L' := [some (2, 0), some (0, p1), none]) (st' := [(0, p1), (2, 50)]) rfl ?_
    obtain ⟨hg, h⟩ := h
    refine Rn_iald rfl (⟨rfl, (by omega : (0 : Int) ≤ 50), (by omega : (50 : Int) + 1 < K ∧ 5 < K)⟩) hg ?_
    refine Rn_ifne rfl (fun hc => ?_) (fun hc => ?_)
    · have h := h.1 hc
      refine Rn_pure 2 (i' := 15) (L' := [some (2, 0), some (0, p1), some (0, 0)]) (st' := []) rfl ?_
      exact h
    · have h := h.2 hc
      refine Rn_pure 1 (i' := 12) (L' := [some (2, 0), some (0, p1), none]) (st' := [(0, (-1))]) rfl ?_
      exact Rn_ret1 rfl h
theorem v_EL_blame_15 {K : Int} {S : Nat} {g r : ab_H} {l1 l2 : Int} (P : Int → ab_H → ab_H → Prop) (hr : SI r) (hK : 186 ≤ K) (h : ((wr l1 ≤ wr l2 → P (-2) g r) ∧ (wr l2 < wr l1 → (isLg (r 0 5)) ∧ ab_RI m_Lg_holdsPlain [(2, r 0 5), (0, l2)] K S g r (fun x2 g' r' => g' = g ∧ r' = r ∧ (((wr x2 = wr 0 → ab_Rn m_EL_blame 15 [some (2, 0), some (0, l1), some (0, l2 + 1)] [] (K, S, g, r) (ab_Qi K S P)) ∧ (¬ wr x2 = wr 0 → (isLg (r 0 5)) ∧ ((0 : Int) ≤ l2 ∧ (l2 : Int) < 120) ∧ ((¬ wr (g (r 0 5 + 9) l2) = wr (-1) → ab_Rn m_EL_blame 15 [some (2, 0), some (0, l1), some (0, l2 + 1)] [] (K, S, g, r) (ab_Qi K S P)) ∧ (wr (g (r 0 5 + 9) l2) = wr (-1) → (isLg (r 0 5)) ∧ (isLg (r 0 5)) ∧ ab_RV m_St_replay [(2, 51), (2, r 0 5), (0, l1 + 1), (0, g (r 0 5) 10), (0, l2)] K S g r (fun g6 r' => r' = r ∧ (((0 : Int) ≤ l1 ∧ (l1 : Int) < 120) ∧ ((¬ wr (g6 56 l1) = wr 0 → ab_Rn m_EL_blame 15 [some (2, 0), some (0, l1), some (0, l2 + 1)] [] (K, S, g6, r) (ab_Qi K S P)) ∧ (wr (g6 56 l1) = wr 0 → P l2 g6 r))))))))))))) : ab_Rn m_EL_blame 15 [some (2, 0), some (0, l1), some (0, l2)] [] (K, S, g, r) (ab_Qi K S P) := by
  refine Rn_pure 2 (i' := 17) (L' := [some (2, 0), some (0, l1), some (0, l2)]) (st' := [(0, l1), (0, l2)]) rfl ?_
  refine Rn_icge rfl (fun hc => ?_) (fun hc => ?_)
  · have h := h.1 hc
    refine Rn_pure 1 (i' := 53) (L' := [some (2, 0), some (0, l1), some (0, l2)]) (st' := [(0, (-2))]) rfl ?_
    exact Rn_ret1 rfl h
  · have h := h.2 hc
    refine Rn_pure 1 (i' := 19) (L' := [some (2, 0), some (0, l1), some (0, l2)]) (st' := [(2, 0)]) rfl ?_
    obtain ⟨hf1, h⟩ := h
    refine Rn_getR rfl (⟨rfl, (by omega : (0 : Int) ≤ 0), (by omega : (0 : Int) + 1 < K ∧ 5 < K)⟩) rfl (nn_Lg hf1) ?_
    refine Rn_pure 1 (i' := 21) (L' := [some (2, 0), some (0, l1), some (0, l2)]) (st' := [(0, l2), (2, r 0 5)]) rfl ?_
    refine Rn_callI [(2, r 0 5), (0, l2)] [] rfl rfl rfl rfl (ab_rvB_of rfl (ob_Lg hf1 hK)) ?_
    refine h.mono (fun x2 g' r' h => ?_)
    obtain ⟨hx, h⟩ := h
    replace hx := hx.symm
    subst hx
    obtain ⟨hx, h⟩ := h
    replace hx := hx.symm
    subst hx
    refine Rn_ifeq rfl (fun hc => ?_) (fun hc => ?_)
    · have h := h.1 hc
      refine Rn_pure 2 (i' := 15) (L' := [some (2, 0), some (0, l1), some (0, l2 + 1)]) (st' := []) rfl ?_
      exact h
    · have h := h.2 hc
      refine Rn_pure 1 (i' := 24) (L' := [some (2, 0), some (0, l1), some (0, l2)]) (st' := [(2, 0)]) rfl ?_
      obtain ⟨hf3, h⟩ := h
      refine Rn_getR rfl (⟨rfl, (by omega : (0 : Int) ≤ 0), (by omega : (0 : Int) + 1 < K ∧ 5 < K)⟩) rfl (nn_Lg hf3) ?_
      refine Rn_getR rfl (ob_Lg hf3 hK) (fx_Lg_8 hr hf3) (show (r 0 5 + 9 : Int) ≠ -1 by have := hf3; unfold isLg at this; omega) ?_
      refine Rn_pure 1 (i' := 27) (L' := [some (2, 0), some (0, l1), some (0, l2)]) (st' := [(0, l2), (2, r 0 5 + 9)]) rfl ?_
      obtain ⟨hg, h⟩ := h
      refine Rn_iald rfl (ar_Lg_8 hf3 hK) hg ?_
      refine Rn_pure 1 (i' := 29) (L' := [some (2, 0), some (0, l1), some (0, l2)]) (st' := [(0, (-1)), (0, g (r 0 5 + 9) l2)]) rfl ?_
      refine Rn_icne rfl (fun hc => ?_) (fun hc => ?_)
      · have h := h.1 hc
        refine Rn_pure 2 (i' := 15) (L' := [some (2, 0), some (0, l1), some (0, l2 + 1)]) (st' := []) rfl ?_
        exact h
      · have h := h.2 hc
        refine Rn_pure 1 (i' := 31) (L' := [some (2, 0), some (0, l1), some (0, l2)]) (st' := [(2, 0)]) rfl ?_
        refine Rn_getR rfl (⟨rfl, (by omega : (0 : Int) ≤ 0), (by omega : (0 : Int) + 1 < K ∧ 5 < K)⟩) (hr 3 _ rfl) (by decide) ?_
        refine Rn_pure 1 (i' := 33) (L' := [some (2, 0), some (0, l1), some (0, l2)]) (st' := [(2, 0), (2, 51)]) rfl ?_
        obtain ⟨hf4, h⟩ := h
        refine Rn_getR rfl (⟨rfl, (by omega : (0 : Int) ≤ 0), (by omega : (0 : Int) + 1 < K ∧ 5 < K)⟩) rfl (nn_Lg hf4) ?_
        refine Rn_pure 4 (i' := 38) (L' := [some (2, 0), some (0, l1), some (0, l2)]) (st' := [(2, 0), (0, l1 + 1), (2, r 0 5), (2, 51)]) rfl ?_
        obtain ⟨hf5, h⟩ := h
        refine Rn_getR rfl (⟨rfl, (by omega : (0 : Int) ≤ 0), (by omega : (0 : Int) + 1 < K ∧ 5 < K)⟩) rfl (nn_Lg hf5) ?_
        refine Rn_getI rfl (ob_Lg hf5 hK) ?_
        refine Rn_pure 1 (i' := 41) (L' := [some (2, 0), some (0, l1), some (0, l2)]) (st' := [(0, l2), (0, g (r 0 5) 10), (0, l1 + 1), (2, r 0 5), (2, 51)]) rfl ?_
        refine Rn_callV [(2, 51), (2, r 0 5), (0, l1 + 1), (0, g (r 0 5) 10), (0, l2)] [] rfl rfl rfl rfl (ab_rvB_of rfl (⟨rfl, (by omega : (0 : Int) ≤ 51), (by omega : (51 : Int) + 1 < K ∧ 5 < K)⟩)) ?_
        refine h.mono (fun g6 r' h => ?_)
        obtain ⟨hx, h⟩ := h
        replace hx := hx.symm
        subst hx
        refine Rn_pure 1 (i' := 43) (L' := [some (2, 0), some (0, l1), some (0, l2)]) (st' := [(2, 0)]) rfl ?_
        refine Rn_getR rfl (⟨rfl, (by omega : (0 : Int) ≤ 0), (by omega : (0 : Int) + 1 < K ∧ 5 < K)⟩) (hr 3 _ rfl) (by decide) ?_
        refine Rn_getR rfl (⟨rfl, (by omega : (0 : Int) ≤ 51), (by omega : (51 : Int) + 1 < K ∧ 5 < K)⟩) (hr 59 _ rfl) (by decide) ?_
        refine Rn_pure 1 (i' := 46) (L' := [some (2, 0), some (0, l1), some (0, l2)]) (st' := [(0, l1), (2, 56)]) rfl ?_
        obtain ⟨hg, h⟩ := h
        refine Rn_iald rfl (⟨rfl, (by omega : (0 : Int) ≤ 56), (by omega : (56 : Int) + 1 < K ∧ 5 < K)⟩) hg ?_
        refine Rn_ifne rfl (fun hc => ?_) (fun hc => ?_)
        · have h := h.1 hc
          refine Rn_pure 2 (i' := 15) (L' := [some (2, 0), some (0, l1), some (0, l2 + 1)]) (st' := []) rfl ?_
          exact h
        · have h := h.2 hc
          refine Rn_pure 1 (i' := 49) (L' := [some (2, 0), some (0, l1), some (0, l2)]) (st' := [(0, l2)]) rfl ?_
          exact Rn_ret1 rfl h
-- EventLedger.without (II)I
theorem v_EL_without {K : Int} {S : Nat} {g r : ab_H} {p1 p2 : Int} (P : Int → ab_H → ab_H → Prop) (hr : SI r) (hK : 186 ≤ K) (h : (isLg (r 0 5)) ∧ ab_RI m_Lg_holdsPlain [(2, r 0 5), (0, p1)] K S g r (fun x2 g' r' => g' = g ∧ r' = r ∧ (((wr x2 = wr 0 → P (-2147483648) g r) ∧ (¬ wr x2 = wr 0 → ab_RI m_EL_isAccount [(2, 0), (0, p2)] K S g r (fun x3 g' r' => g' = g ∧ r' = r ∧ (((¬ wr x3 = wr 0 → (isLg (r 0 5)) ∧ (isLg (r 0 5)) ∧ (isLg (r 0 5)) ∧ ab_RV m_St_replay [(2, 51), (2, r 0 5), (0, g (r 0 5) 10), (0, g (r 0 5) 10), (0, p1)] K S g r (fun g7 r' => r' = r ∧ (((0 : Int) ≤ p2 ∧ (p2 : Int) < 8) ∧ P (g7 52 p2) g7 r))) ∧ (wr x3 = wr 0 → P (-2147483648) g r))))))))) : ab_RI m_EL_without [(2, 0), (0, p1), (0, p2)] K S g r P := by
  show ab_Rn m_EL_without 0 [some (2, 0), some (0, p1), some (0, p2)] [] (K, S, g, r) (ab_Qi K S P)
  refine Rn_pure 1 (i' := 1) (L' := [some (2, 0), some (0, p1), some (0, p2)]) (st' := [(2, 0)]) rfl ?_
  obtain ⟨hf1, h⟩ := h
  refine Rn_getR rfl (⟨rfl, (by omega : (0 : Int) ≤ 0), (by omega : (0 : Int) + 1 < K ∧ 5 < K)⟩) rfl (nn_Lg hf1) ?_
  refine Rn_pure 1 (i' := 3) (L' := [some (2, 0), some (0, p1), some (0, p2)]) (st' := [(0, p1), (2, r 0 5)]) rfl ?_
  refine Rn_callI [(2, r 0 5), (0, p1)] [] rfl rfl rfl rfl (ab_rvB_of rfl (ob_Lg hf1 hK)) ?_
  refine h.mono (fun x2 g' r' h => ?_)
  obtain ⟨hx, h⟩ := h
  replace hx := hx.symm
  subst hx
  obtain ⟨hx, h⟩ := h
  replace hx := hx.symm
  subst hx
  refine Rn_ifeq rfl (fun hc => ?_) (fun hc => ?_)
  · have h := h.1 hc
    refine Rn_pure 1 (i' := 10) (L' := [some (2, 0), some (0, p1), some (0, p2)]) (st' := [(0, (-2147483648))]) rfl ?_
    exact Rn_ret1 rfl h
  · have h := h.2 hc
    refine Rn_pure 2 (i' := 7) (L' := [some (2, 0), some (0, p1), some (0, p2)]) (st' := [(0, p2), (2, 0)]) rfl ?_
    refine Rn_callI [(2, 0), (0, p2)] [] rfl rfl rfl rfl (ab_rvB_of rfl (⟨rfl, (by omega : (0 : Int) ≤ 0), (by omega : (0 : Int) + 1 < K ∧ 5 < K)⟩)) ?_
    refine h.mono (fun x3 g' r' h => ?_)
    obtain ⟨hx, h⟩ := h
    replace hx := hx.symm
    subst hx
    obtain ⟨hx, h⟩ := h
    replace hx := hx.symm
    subst hx
    refine Rn_ifne rfl (fun hc => ?_) (fun hc => ?_)
    · have h := h.1 hc
      refine Rn_pure 1 (i' := 12) (L' := [some (2, 0), some (0, p1), some (0, p2)]) (st' := [(2, 0)]) rfl ?_
      refine Rn_getR rfl (⟨rfl, (by omega : (0 : Int) ≤ 0), (by omega : (0 : Int) + 1 < K ∧ 5 < K)⟩) (hr 3 _ rfl) (by decide) ?_
      refine Rn_pure 1 (i' := 14) (L' := [some (2, 0), some (0, p1), some (0, p2)]) (st' := [(2, 0), (2, 51)]) rfl ?_
      obtain ⟨hf4, h⟩ := h
      refine Rn_getR rfl (⟨rfl, (by omega : (0 : Int) ≤ 0), (by omega : (0 : Int) + 1 < K ∧ 5 < K)⟩) rfl (nn_Lg hf4) ?_
      refine Rn_pure 1 (i' := 16) (L' := [some (2, 0), some (0, p1), some (0, p2)]) (st' := [(2, 0), (2, r 0 5), (2, 51)]) rfl ?_
      obtain ⟨hf5, h⟩ := h
      refine Rn_getR rfl (⟨rfl, (by omega : (0 : Int) ≤ 0), (by omega : (0 : Int) + 1 < K ∧ 5 < K)⟩) rfl (nn_Lg hf5) ?_
      refine Rn_getI rfl (ob_Lg hf5 hK) ?_
      refine Rn_pure 1 (i' := 19) (L' := [some (2, 0), some (0, p1), some (0, p2)]) (st' := [(2, 0), (0, g (r 0 5) 10), (2, r 0 5), (2, 51)]) rfl ?_
      obtain ⟨hf6, h⟩ := h
      refine Rn_getR rfl (⟨rfl, (by omega : (0 : Int) ≤ 0), (by omega : (0 : Int) + 1 < K ∧ 5 < K)⟩) rfl (nn_Lg hf6) ?_
      refine Rn_getI rfl (ob_Lg hf6 hK) ?_
      refine Rn_pure 1 (i' := 22) (L' := [some (2, 0), some (0, p1), some (0, p2)]) (st' := [(0, p1), (0, g (r 0 5) 10), (0, g (r 0 5) 10), (2, r 0 5), (2, 51)]) rfl ?_
      refine Rn_callV [(2, 51), (2, r 0 5), (0, g (r 0 5) 10), (0, g (r 0 5) 10), (0, p1)] [] rfl rfl rfl rfl (ab_rvB_of rfl (⟨rfl, (by omega : (0 : Int) ≤ 51), (by omega : (51 : Int) + 1 < K ∧ 5 < K)⟩)) ?_
      refine h.mono (fun g7 r' h => ?_)
      obtain ⟨hx, h⟩ := h
      replace hx := hx.symm
      subst hx
      refine Rn_pure 1 (i' := 24) (L' := [some (2, 0), some (0, p1), some (0, p2)]) (st' := [(2, 0)]) rfl ?_
      refine Rn_getR rfl (⟨rfl, (by omega : (0 : Int) ≤ 0), (by omega : (0 : Int) + 1 < K ∧ 5 < K)⟩) (hr 3 _ rfl) (by decide) ?_
      refine Rn_getR rfl (⟨rfl, (by omega : (0 : Int) ≤ 51), (by omega : (51 : Int) + 1 < K ∧ 5 < K)⟩) (hr 55 _ rfl) (by decide) ?_
      refine Rn_pure 1 (i' := 27) (L' := [some (2, 0), some (0, p1), some (0, p2)]) (st' := [(0, p2), (2, 52)]) rfl ?_
      obtain ⟨hg, h⟩ := h
      refine Rn_iald rfl (⟨rfl, (by omega : (0 : Int) ≤ 52), (by omega : (52 : Int) + 1 < K ∧ 5 < K)⟩) hg ?_
      exact Rn_ret1 rfl h
    · have h := h.2 hc
      refine Rn_pure 1 (i' := 10) (L' := [some (2, 0), some (0, p1), some (0, p2)]) (st' := [(0, (-2147483648))]) rfl ?_
      exact Rn_ret1 rfl h
-- EventLedger.firstBelow (I)I
theorem v_EL_firstBelow {K : Int} {S : Nat} {g r : ab_H} {p1 : Int} (P : Int → ab_H → ab_H → Prop) (hr : SI r) (hK : 186 ≤ K) (h : ab_RI m_EL_isAccount [(2, 0), (0, p1)] K S g r (fun x1 g' r' => g' = g ∧ r' = r ∧ (((¬ wr x1 = wr 0 → (isLg (r 0 5)) ∧ ab_RV m_St_begin [(2, 51), (0, g (r 0 5) 10), (0, (-1))] K S g r (fun g3 r' => r' = r ∧ (ab_Rn m_EL_firstBelow 15 [some (2, 0), some (0, p1), some (0, 0)] [] (K, S, g3, r) (ab_Qi K S P)))) ∧ (wr x1 = wr 0 → P (-1) g r))))) : ab_RI m_EL_firstBelow [(2, 0), (0, p1)] K S g r P := by
  show ab_Rn m_EL_firstBelow 0 [some (2, 0), some (0, p1), none] [] (K, S, g, r) (ab_Qi K S P)
  refine Rn_pure 2 (i' := 2) (L' := [some (2, 0), some (0, p1), none]) (st' := [(0, p1), (2, 0)]) rfl ?_
  refine Rn_callI [(2, 0), (0, p1)] [] rfl rfl rfl rfl (ab_rvB_of rfl (⟨rfl, (by omega : (0 : Int) ≤ 0), (by omega : (0 : Int) + 1 < K ∧ 5 < K)⟩)) ?_
  refine h.mono (fun x1 g' r' h => ?_)
  obtain ⟨hx, h⟩ := h
  replace hx := hx.symm
  subst hx
  obtain ⟨hx, h⟩ := h
  replace hx := hx.symm
  subst hx
  refine Rn_ifne rfl (fun hc => ?_) (fun hc => ?_)
  · have h := h.1 hc
    refine Rn_pure 1 (i' := 7) (L' := [some (2, 0), some (0, p1), none]) (st' := [(2, 0)]) rfl ?_
    refine Rn_getR rfl (⟨rfl, (by omega : (0 : Int) ≤ 0), (by omega : (0 : Int) + 1 < K ∧ 5 < K)⟩) (hr 3 _ rfl) (by decide) ?_
    refine Rn_pure 1 (i' := 9) (L' := [some (2, 0), some (0, p1), none]) (st' := [(2, 0), (2, 51)]) rfl ?_
    obtain ⟨hf2, h⟩ := h
    refine Rn_getR rfl (⟨rfl, (by omega : (0 : Int) ≤ 0), (by omega : (0 : Int) + 1 < K ∧ 5 < K)⟩) rfl (nn_Lg hf2) ?_
    refine Rn_getI rfl (ob_Lg hf2 hK) ?_
    refine Rn_pure 1 (i' := 12) (L' := [some (2, 0), some (0, p1), none]) (st' := [(0, (-1)), (0, g (r 0 5) 10), (2, 51)]) rfl ?_
    refine Rn_callV [(2, 51), (0, g (r 0 5) 10), (0, (-1))] [] rfl rfl rfl rfl (ab_rvB_of rfl (⟨rfl, (by omega : (0 : Int) ≤ 51), (by omega : (51 : Int) + 1 < K ∧ 5 < K)⟩)) ?_
    refine h.mono (fun g3 r' h => ?_)
    obtain ⟨hx, h⟩ := h
    replace hx := hx.symm
    subst hx
    refine Rn_pure 2 (i' := 15) (L' := [some (2, 0), some (0, p1), some (0, 0)]) (st' := []) rfl ?_
    exact h
  · have h := h.2 hc
    refine Rn_pure 1 (i' := 5) (L' := [some (2, 0), some (0, p1), none]) (st' := [(0, (-1))]) rfl ?_
    exact Rn_ret1 rfl h
theorem v_EL_firstBelow_15 {K : Int} {S : Nat} {g r : ab_H} {l1 l2 : Int} (P : Int → ab_H → ab_H → Prop) (hr : SI r) (hK : 186 ≤ K) (h : (isLg (r 0 5)) ∧ ((wr (g (r 0 5) 10) ≤ wr l2 → P (-2) g r) ∧ (wr l2 < wr (g (r 0 5) 10) → (isLg (r 0 5)) ∧ ab_RV m_St_step [(2, 51), (2, r 0 5), (0, l2)] K S g r (fun g3 r' => r' = r ∧ (((0 : Int) ≤ l1 ∧ (l1 : Int) < 8) ∧ ((wr 0 ≤ wr (g3 52 l1) → ab_Rn m_EL_firstBelow 15 [some (2, 0), some (0, l1), some (0, l2 + 1)] [] (K, S, g3, r) (ab_Qi K S P)) ∧ (wr (g3 52 l1) < wr 0 → P l2 g3 r))))))) : ab_Rn m_EL_firstBelow 15 [some (2, 0), some (0, l1), some (0, l2)] [] (K, S, g, r) (ab_Qi K S P) := by
  refine Rn_pure 2 (i' := 17) (L' := [some (2, 0), some (0, l1), some (0, l2)]) (st' := [(2, 0), (0, l2)]) rfl ?_
  obtain ⟨hf1, h⟩ := h
  refine Rn_getR rfl (⟨rfl, (by omega : (0 : Int) ≤ 0), (by omega : (0 : Int) + 1 < K ∧ 5 < K)⟩) rfl (nn_Lg hf1) ?_
  refine Rn_getI rfl (ob_Lg hf1 hK) ?_
  refine Rn_icge rfl (fun hc => ?_) (fun hc => ?_)
  · have h := h.1 hc
    refine Rn_pure 1 (i' := 37) (L' := [some (2, 0), some (0, l1), some (0, l2)]) (st' := [(0, (-2))]) rfl ?_
    exact Rn_ret1 rfl h
  · have h := h.2 hc
    refine Rn_pure 1 (i' := 21) (L' := [some (2, 0), some (0, l1), some (0, l2)]) (st' := [(2, 0)]) rfl ?_
    refine Rn_getR rfl (⟨rfl, (by omega : (0 : Int) ≤ 0), (by omega : (0 : Int) + 1 < K ∧ 5 < K)⟩) (hr 3 _ rfl) (by decide) ?_
    refine Rn_pure 1 (i' := 23) (L' := [some (2, 0), some (0, l1), some (0, l2)]) (st' := [(2, 0), (2, 51)]) rfl ?_
    obtain ⟨hf2, h⟩ := h
    refine Rn_getR rfl (⟨rfl, (by omega : (0 : Int) ≤ 0), (by omega : (0 : Int) + 1 < K ∧ 5 < K)⟩) rfl (nn_Lg hf2) ?_
    refine Rn_pure 1 (i' := 25) (L' := [some (2, 0), some (0, l1), some (0, l2)]) (st' := [(0, l2), (2, r 0 5), (2, 51)]) rfl ?_
    refine Rn_callV [(2, 51), (2, r 0 5), (0, l2)] [] rfl rfl rfl rfl (ab_rvB_of rfl (⟨rfl, (by omega : (0 : Int) ≤ 51), (by omega : (51 : Int) + 1 < K ∧ 5 < K)⟩)) ?_
    refine h.mono (fun g3 r' h => ?_)
    obtain ⟨hx, h⟩ := h
    replace hx := hx.symm
    subst hx
    refine Rn_pure 1 (i' := 27) (L' := [some (2, 0), some (0, l1), some (0, l2)]) (st' := [(2, 0)]) rfl ?_
    refine Rn_getR rfl (⟨rfl, (by omega : (0 : Int) ≤ 0), (by omega : (0 : Int) + 1 < K ∧ 5 < K)⟩) (hr 3 _ rfl) (by decide) ?_
    refine Rn_getR rfl (⟨rfl, (by omega : (0 : Int) ≤ 51), (by omega : (51 : Int) + 1 < K ∧ 5 < K)⟩) (hr 55 _ rfl) (by decide) ?_
    refine Rn_pure 1 (i' := 30) (L' := [some (2, 0), some (0, l1), some (0, l2)]) (st' := [(0, l1), (2, 52)]) rfl ?_
    obtain ⟨hg, h⟩ := h
    refine Rn_iald rfl (⟨rfl, (by omega : (0 : Int) ≤ 52), (by omega : (52 : Int) + 1 < K ∧ 5 < K)⟩) hg ?_
    refine Rn_ifge rfl (fun hc => ?_) (fun hc => ?_)
    · have h := h.1 hc
      refine Rn_pure 2 (i' := 15) (L' := [some (2, 0), some (0, l1), some (0, l2 + 1)]) (st' := []) rfl ?_
      exact h
    · have h := h.2 hc
      refine Rn_pure 1 (i' := 33) (L' := [some (2, 0), some (0, l1), some (0, l2)]) (st' := [(0, l2)]) rfl ?_
      exact Rn_ret1 rfl h
-- EventLedger.peak (II)I
theorem v_EL_peak {K : Int} {S : Nat} {g r : ab_H} {p1 p2 : Int} (P : Int → ab_H → ab_H → Prop) (hr : SI r) (hK : 186 ≤ K) (h : ab_RI m_EL_isAccount [(2, 0), (0, p1)] K S g r (fun x1 g' r' => g' = g ∧ r' = r ∧ (((wr x1 = wr 0 → P (-2147483648) g r) ∧ (¬ wr x1 = wr 0 → ((wr p2 < wr 0 → P (-2147483648) g r) ∧ (wr 0 ≤ wr p2 → ((wr p2 ≤ wr 1 → (isLg (r 0 5)) ∧ ab_RV m_St_begin [(2, 51), (0, g (r 0 5) 10), (0, (-1))] K S g r (fun g3 r' => r' = r ∧ (ab_Rn m_EL_peak 24 [some (2, 0), some (0, p1), some (0, p2), some (0, 0), some (0, (-2)), some (0, 0)] [] (K, S, g3, r) (ab_Qi K S P)))) ∧ (wr 1 < wr p2 → P (-2147483648) g r))))))))) : ab_RI m_EL_peak [(2, 0), (0, p1), (0, p2)] K S g r P := by
  show ab_Rn m_EL_peak 0 [some (2, 0), some (0, p1), some (0, p2), none, none, none] [] (K, S, g, r) (ab_Qi K S P)
  refine Rn_pure 2 (i' := 2) (L' := [some (2, 0), some (0, p1), some (0, p2), none, none, none]) (st' := [(0, p1), (2, 0)]) rfl ?_
  refine Rn_callI [(2, 0), (0, p1)] [] rfl rfl rfl rfl (ab_rvB_of rfl (⟨rfl, (by omega : (0 : Int) ≤ 0), (by omega : (0 : Int) + 1 < K ∧ 5 < K)⟩)) ?_
  refine h.mono (fun x1 g' r' h => ?_)
  obtain ⟨hx, h⟩ := h
  replace hx := hx.symm
  subst hx
  obtain ⟨hx, h⟩ := h
  replace hx := hx.symm
  subst hx
  refine Rn_ifeq rfl (fun hc => ?_) (fun hc => ?_)
  · have h := h.1 hc
    refine Rn_pure 1 (i' := 10) (L' := [some (2, 0), some (0, p1), some (0, p2), none, none, none]) (st' := [(0, (-2147483648))]) rfl ?_
    exact Rn_ret1 rfl h
  · have h := h.2 hc
    refine Rn_pure 1 (i' := 5) (L' := [some (2, 0), some (0, p1), some (0, p2), none, none, none]) (st' := [(0, p2)]) rfl ?_
    refine Rn_iflt rfl (fun hc => ?_) (fun hc => ?_)
    · have h := h.1 hc
      refine Rn_pure 1 (i' := 10) (L' := [some (2, 0), some (0, p1), some (0, p2), none, none, none]) (st' := [(0, (-2147483648))]) rfl ?_
      exact Rn_ret1 rfl h
    · have h := h.2 hc
      refine Rn_pure 2 (i' := 8) (L' := [some (2, 0), some (0, p1), some (0, p2), none, none, none]) (st' := [(0, 1), (0, p2)]) rfl ?_
      refine Rn_icle rfl (fun hc => ?_) (fun hc => ?_)
      · have h := h.1 hc
        refine Rn_pure 5 (i' := 16) (L' := [some (2, 0), some (0, p1), some (0, p2), some (0, 0), some (0, (-2)), none]) (st' := [(2, 0)]) rfl ?_
        refine Rn_getR rfl (⟨rfl, (by omega : (0 : Int) ≤ 0), (by omega : (0 : Int) + 1 < K ∧ 5 < K)⟩) (hr 3 _ rfl) (by decide) ?_
        refine Rn_pure 1 (i' := 18) (L' := [some (2, 0), some (0, p1), some (0, p2), some (0, 0), some (0, (-2)), none]) (st' := [(2, 0), (2, 51)]) rfl ?_
        obtain ⟨hf2, h⟩ := h
        refine Rn_getR rfl (⟨rfl, (by omega : (0 : Int) ≤ 0), (by omega : (0 : Int) + 1 < K ∧ 5 < K)⟩) rfl (nn_Lg hf2) ?_
        refine Rn_getI rfl (ob_Lg hf2 hK) ?_
        refine Rn_pure 1 (i' := 21) (L' := [some (2, 0), some (0, p1), some (0, p2), some (0, 0), some (0, (-2)), none]) (st' := [(0, (-1)), (0, g (r 0 5) 10), (2, 51)]) rfl ?_
        refine Rn_callV [(2, 51), (0, g (r 0 5) 10), (0, (-1))] [] rfl rfl rfl rfl (ab_rvB_of rfl (⟨rfl, (by omega : (0 : Int) ≤ 51), (by omega : (51 : Int) + 1 < K ∧ 5 < K)⟩)) ?_
        refine h.mono (fun g3 r' h => ?_)
        obtain ⟨hx, h⟩ := h
        replace hx := hx.symm
        subst hx
        refine Rn_pure 2 (i' := 24) (L' := [some (2, 0), some (0, p1), some (0, p2), some (0, 0), some (0, (-2)), some (0, 0)]) (st' := []) rfl ?_
        exact h
      · have h := h.2 hc
        refine Rn_pure 1 (i' := 10) (L' := [some (2, 0), some (0, p1), some (0, p2), none, none, none]) (st' := [(0, (-2147483648))]) rfl ?_
        exact Rn_ret1 rfl h
theorem v_EL_peak_24 {K : Int} {S : Nat} {g r : ab_H} {l1 l2 l3 l4 l5 : Int} (P : Int → ab_H → ab_H → Prop) (hr : SI r) (hK : 186 ≤ K) (h : (isLg (r 0 5)) ∧ ((wr (g (r 0 5) 10) ≤ wr l5 → ((¬ wr l2 = wr 0 → P l4 g r) ∧ (wr l2 = wr 0 → P l3 g r))) ∧ (wr l5 < wr (g (r 0 5) 10) → (isLg (r 0 5)) ∧ ab_RV m_St_step [(2, 51), (2, r 0 5), (0, l5)] K S g r (fun g3 r' => r' = r ∧ (((0 : Int) ≤ l1 ∧ (l1 : Int) < 8) ∧ ((wr (g3 52 l1) ≤ wr l3 → ab_Rn m_EL_peak 24 [some (2, 0), some (0, l1), some (0, l2), some (0, l3), some (0, l4), some (0, l5 + 1)] [] (K, S, g3, r) (ab_Qi K S P)) ∧ (wr l3 < wr (g3 52 l1) → ((0 : Int) ≤ l1 ∧ (l1 : Int) < 8) ∧ ab_Rn m_EL_peak 24 [some (2, 0), some (0, l1), some (0, l2), some (0, g3 52 l1), some (0, l5), some (0, l5 + 1)] [] (K, S, g3, r) (ab_Qi K S P)))))))) : ab_Rn m_EL_peak 24 [some (2, 0), some (0, l1), some (0, l2), some (0, l3), some (0, l4), some (0, l5)] [] (K, S, g, r) (ab_Qi K S P) := by
  refine Rn_pure 2 (i' := 26) (L' := [some (2, 0), some (0, l1), some (0, l2), some (0, l3), some (0, l4), some (0, l5)]) (st' := [(2, 0), (0, l5)]) rfl ?_
  obtain ⟨hf1, h⟩ := h
  refine Rn_getR rfl (⟨rfl, (by omega : (0 : Int) ≤ 0), (by omega : (0 : Int) + 1 < K ∧ 5 < K)⟩) rfl (nn_Lg hf1) ?_
  refine Rn_getI rfl (ob_Lg hf1 hK) ?_
  refine Rn_icge rfl (fun hc => ?_) (fun hc => ?_)
  · have h := h.1 hc
    refine Rn_pure 1 (i' := 53) (L' := [some (2, 0), some (0, l1), some (0, l2), some (0, l3), some (0, l4), some (0, l5)]) (st' := [(0, l2)]) rfl ?_
    refine Rn_ifne rfl (fun hc => ?_) (fun hc => ?_)
    · have h := h.1 hc
      refine Rn_pure 1 (i' := 57) (L' := [some (2, 0), some (0, l1), some (0, l2), some (0, l3), some (0, l4), some (0, l5)]) (st' := [(0, l4)]) rfl ?_
      exact Rn_ret1 rfl h
    · have h := h.2 hc
      refine Rn_pure 2 (i' := 57) (L' := [some (2, 0), some (0, l1), some (0, l2), some (0, l3), some (0, l4), some (0, l5)]) (st' := [(0, l3)]) rfl ?_
      exact Rn_ret1 rfl h
  · have h := h.2 hc
    refine Rn_pure 1 (i' := 30) (L' := [some (2, 0), some (0, l1), some (0, l2), some (0, l3), some (0, l4), some (0, l5)]) (st' := [(2, 0)]) rfl ?_
    refine Rn_getR rfl (⟨rfl, (by omega : (0 : Int) ≤ 0), (by omega : (0 : Int) + 1 < K ∧ 5 < K)⟩) (hr 3 _ rfl) (by decide) ?_
    refine Rn_pure 1 (i' := 32) (L' := [some (2, 0), some (0, l1), some (0, l2), some (0, l3), some (0, l4), some (0, l5)]) (st' := [(2, 0), (2, 51)]) rfl ?_
    obtain ⟨hf2, h⟩ := h
    refine Rn_getR rfl (⟨rfl, (by omega : (0 : Int) ≤ 0), (by omega : (0 : Int) + 1 < K ∧ 5 < K)⟩) rfl (nn_Lg hf2) ?_
    refine Rn_pure 1 (i' := 34) (L' := [some (2, 0), some (0, l1), some (0, l2), some (0, l3), some (0, l4), some (0, l5)]) (st' := [(0, l5), (2, r 0 5), (2, 51)]) rfl ?_
    refine Rn_callV [(2, 51), (2, r 0 5), (0, l5)] [] rfl rfl rfl rfl (ab_rvB_of rfl (⟨rfl, (by omega : (0 : Int) ≤ 51), (by omega : (51 : Int) + 1 < K ∧ 5 < K)⟩)) ?_
    refine h.mono (fun g3 r' h => ?_)
    obtain ⟨hx, h⟩ := h
    replace hx := hx.symm
    subst hx
    refine Rn_pure 1 (i' := 36) (L' := [some (2, 0), some (0, l1), some (0, l2), some (0, l3), some (0, l4), some (0, l5)]) (st' := [(2, 0)]) rfl ?_
    refine Rn_getR rfl (⟨rfl, (by omega : (0 : Int) ≤ 0), (by omega : (0 : Int) + 1 < K ∧ 5 < K)⟩) (hr 3 _ rfl) (by decide) ?_
    refine Rn_getR rfl (⟨rfl, (by omega : (0 : Int) ≤ 51), (by omega : (51 : Int) + 1 < K ∧ 5 < K)⟩) (hr 55 _ rfl) (by decide) ?_
    refine Rn_pure 1 (i' := 39) (L' := [some (2, 0), some (0, l1), some (0, l2), some (0, l3), some (0, l4), some (0, l5)]) (st' := [(0, l1), (2, 52)]) rfl ?_
    obtain ⟨hg, h⟩ := h
    refine Rn_iald rfl (⟨rfl, (by omega : (0 : Int) ≤ 52), (by omega : (52 : Int) + 1 < K ∧ 5 < K)⟩) hg ?_
    refine Rn_pure 1 (i' := 41) (L' := [some (2, 0), some (0, l1), some (0, l2), some (0, l3), some (0, l4), some (0, l5)]) (st' := [(0, l3), (0, g3 52 l1)]) rfl ?_
    refine Rn_icle rfl (fun hc => ?_) (fun hc => ?_)
    · have h := h.1 hc
      refine Rn_pure 2 (i' := 24) (L' := [some (2, 0), some (0, l1), some (0, l2), some (0, l3), some (0, l4), some (0, l5 + 1)]) (st' := []) rfl ?_
      exact h
    · have h := h.2 hc
      refine Rn_pure 1 (i' := 43) (L' := [some (2, 0), some (0, l1), some (0, l2), some (0, l3), some (0, l4), some (0, l5)]) (st' := [(2, 0)]) rfl ?_
      refine Rn_getR rfl (⟨rfl, (by omega : (0 : Int) ≤ 0), (by omega : (0 : Int) + 1 < K ∧ 5 < K)⟩) (hr 3 _ rfl) (by decide) ?_
      refine Rn_getR rfl (⟨rfl, (by omega : (0 : Int) ≤ 51), (by omega : (51 : Int) + 1 < K ∧ 5 < K)⟩) (hr 55 _ rfl) (by decide) ?_
      refine Rn_pure 1 (i' := 46) (L' := [some (2, 0), some (0, l1), some (0, l2), some (0, l3), some (0, l4), some (0, l5)]) (st' := [(0, l1), (2, 52)]) rfl ?_
      obtain ⟨hg, h⟩ := h
      refine Rn_iald rfl (⟨rfl, (by omega : (0 : Int) ≤ 52), (by omega : (52 : Int) + 1 < K ∧ 5 < K)⟩) hg ?_
      refine Rn_pure 5 (i' := 24) (L' := [some (2, 0), some (0, l1), some (0, l2), some (0, g3 52 l1), some (0, l5), some (0, l5 + 1)]) (st' := []) rfl ?_
      exact h
-- EventLedger.touches (I)I
theorem v_EL_touches {K : Int} {S : Nat} {g r : ab_H} {p1 : Int} (P : Int → ab_H → ab_H → Prop) (hr : SI r) (hK : 186 ≤ K) (h : (isLg (r 0 5)) ∧ ab_RI m_Lg_holdsPlain [(2, r 0 5), (0, p1)] K S g r (fun x2 g' r' => g' = g ∧ r' = r ∧ (((¬ wr x2 = wr 0 → (isLg (r 0 5)) ∧ (isLg (r 0 5)) ∧ (isLg (r 0 5)) ∧ ab_RV m_St_replay [(2, 51), (2, r 0 5), (0, g (r 0 5) 10), (0, g (r 0 5) 10), (0, p1)] K S g r (fun g6 r' => r' = r ∧ (ab_Rn m_EL_touches 23 [some (2, 0), some (0, p1), some (0, 0), some (0, 0)] [] (K, S, g6, r) (ab_Qi K S P)))) ∧ (wr x2 = wr 0 → P (-1) g r))))) : ab_RI m_EL_touches [(2, 0), (0, p1)] K S g r P := by
  show ab_Rn m_EL_touches 0 [some (2, 0), some (0, p1), none, none] [] (K, S, g, r) (ab_Qi K S P)
  refine Rn_pure 1 (i' := 1) (L' := [some (2, 0), some (0, p1), none, none]) (st' := [(2, 0)]) rfl ?_
  obtain ⟨hf1, h⟩ := h
  refine Rn_getR rfl (⟨rfl, (by omega : (0 : Int) ≤ 0), (by omega : (0 : Int) + 1 < K ∧ 5 < K)⟩) rfl (nn_Lg hf1) ?_
  refine Rn_pure 1 (i' := 3) (L' := [some (2, 0), some (0, p1), none, none]) (st' := [(0, p1), (2, r 0 5)]) rfl ?_
  refine Rn_callI [(2, r 0 5), (0, p1)] [] rfl rfl rfl rfl (ab_rvB_of rfl (ob_Lg hf1 hK)) ?_
  refine h.mono (fun x2 g' r' h => ?_)
  obtain ⟨hx, h⟩ := h
  replace hx := hx.symm
  subst hx
  obtain ⟨hx, h⟩ := h
  replace hx := hx.symm
  subst hx
  refine Rn_ifne rfl (fun hc => ?_) (fun hc => ?_)
  · have h := h.1 hc
    refine Rn_pure 1 (i' := 8) (L' := [some (2, 0), some (0, p1), none, none]) (st' := [(2, 0)]) rfl ?_
    refine Rn_getR rfl (⟨rfl, (by omega : (0 : Int) ≤ 0), (by omega : (0 : Int) + 1 < K ∧ 5 < K)⟩) (hr 3 _ rfl) (by decide) ?_
    refine Rn_pure 1 (i' := 10) (L' := [some (2, 0), some (0, p1), none, none]) (st' := [(2, 0), (2, 51)]) rfl ?_
    obtain ⟨hf3, h⟩ := h
    refine Rn_getR rfl (⟨rfl, (by omega : (0 : Int) ≤ 0), (by omega : (0 : Int) + 1 < K ∧ 5 < K)⟩) rfl (nn_Lg hf3) ?_
    refine Rn_pure 1 (i' := 12) (L' := [some (2, 0), some (0, p1), none, none]) (st' := [(2, 0), (2, r 0 5), (2, 51)]) rfl ?_
    obtain ⟨hf4, h⟩ := h
    refine Rn_getR rfl (⟨rfl, (by omega : (0 : Int) ≤ 0), (by omega : (0 : Int) + 1 < K ∧ 5 < K)⟩) rfl (nn_Lg hf4) ?_
    refine Rn_getI rfl (ob_Lg hf4 hK) ?_
    refine Rn_pure 1 (i' := 15) (L' := [some (2, 0), some (0, p1), none, none]) (st' := [(2, 0), (0, g (r 0 5) 10), (2, r 0 5), (2, 51)]) rfl ?_
    obtain ⟨hf5, h⟩ := h
    refine Rn_getR rfl (⟨rfl, (by omega : (0 : Int) ≤ 0), (by omega : (0 : Int) + 1 < K ∧ 5 < K)⟩) rfl (nn_Lg hf5) ?_
    refine Rn_getI rfl (ob_Lg hf5 hK) ?_
    refine Rn_pure 1 (i' := 18) (L' := [some (2, 0), some (0, p1), none, none]) (st' := [(0, p1), (0, g (r 0 5) 10), (0, g (r 0 5) 10), (2, r 0 5), (2, 51)]) rfl ?_
    refine Rn_callV [(2, 51), (2, r 0 5), (0, g (r 0 5) 10), (0, g (r 0 5) 10), (0, p1)] [] rfl rfl rfl rfl (ab_rvB_of rfl (⟨rfl, (by omega : (0 : Int) ≤ 51), (by omega : (51 : Int) + 1 < K ∧ 5 < K)⟩)) ?_
    refine h.mono (fun g6 r' h => ?_)
    obtain ⟨hx, h⟩ := h
    replace hx := hx.symm
    subst hx
    refine Rn_pure 4 (i' := 23) (L' := [some (2, 0), some (0, p1), some (0, 0), some (0, 0)]) (st' := []) rfl ?_
    exact h
  · have h := h.2 hc
    refine Rn_pure 1 (i' := 6) (L' := [some (2, 0), some (0, p1), none, none]) (st' := [(0, (-1))]) rfl ?_
    exact Rn_ret1 rfl h
theorem v_EL_touches_23 {K : Int} {S : Nat} {g r : ab_H} {l1 l2 l3 : Int} (P : Int → ab_H → ab_H → Prop) (hr : SI r) (hK : 186 ≤ K) (h : (isLg (r 0 5)) ∧ ((wr (g (r 0 5) 10) ≤ wr l3 → P l2 g r) ∧ (wr l3 < wr (g (r 0 5) 10) → ((wr l3 = wr l1 → ab_Rn m_EL_touches 23 [some (2, 0), some (0, l1), some (0, l2), some (0, l3 + 1)] [] (K, S, g, r) (ab_Qi K S P)) ∧ (¬ wr l3 = wr l1 → ((0 : Int) ≤ l3 ∧ (l3 : Int) < 120) ∧ ((0 : Int) ≤ l3 ∧ (l3 : Int) < 120) ∧ ((wr (g 56 l3) = wr (g 50 l3) → ab_Rn m_EL_touches 23 [some (2, 0), some (0, l1), some (0, l2), some (0, l3 + 1)] [] (K, S, g, r) (ab_Qi K S P)) ∧ (¬ wr (g 56 l3) = wr (g 50 l3) → ab_Rn m_EL_touches 23 [some (2, 0), some (0, l1), some (0, l2 + 1), some (0, l3 + 1)] [] (K, S, g, r) (ab_Qi K S P)))))))) : ab_Rn m_EL_touches 23 [some (2, 0), some (0, l1), some (0, l2), some (0, l3)] [] (K, S, g, r) (ab_Qi K S P) := by
  refine Rn_pure 2 (i' := 25) (L' := [some (2, 0), some (0, l1), some (0, l2), some (0, l3)]) (st' := [(2, 0), (0, l3)]) rfl ?_
  obtain ⟨hf1, h⟩ := h
  refine Rn_getR rfl (⟨rfl, (by omega : (0 : Int) ≤ 0), (by omega : (0 : Int) + 1 < K ∧ 5 < K)⟩) rfl (nn_Lg hf1) ?_
  refine Rn_getI rfl (ob_Lg hf1 hK) ?_
  refine Rn_icge rfl (fun hc => ?_) (fun hc => ?_)
  · have h := h.1 hc
    refine Rn_pure 1 (i' := 46) (L' := [some (2, 0), some (0, l1), some (0, l2), some (0, l3)]) (st' := [(0, l2)]) rfl ?_
    exact Rn_ret1 rfl h
  · have h := h.2 hc
    refine Rn_pure 2 (i' := 30) (L' := [some (2, 0), some (0, l1), some (0, l2), some (0, l3)]) (st' := [(0, l1), (0, l3)]) rfl ?_
    refine Rn_iceq rfl (fun hc => ?_) (fun hc => ?_)
    · have h := h.1 hc
      refine Rn_pure 2 (i' := 23) (L' := [some (2, 0), some (0, l1), some (0, l2), some (0, l3 + 1)]) (st' := []) rfl ?_
      exact h
    · have h := h.2 hc
      refine Rn_pure 1 (i' := 32) (L' := [some (2, 0), some (0, l1), some (0, l2), some (0, l3)]) (st' := [(2, 0)]) rfl ?_
      refine Rn_getR rfl (⟨rfl, (by omega : (0 : Int) ≤ 0), (by omega : (0 : Int) + 1 < K ∧ 5 < K)⟩) (hr 3 _ rfl) (by decide) ?_
      refine Rn_getR rfl (⟨rfl, (by omega : (0 : Int) ≤ 51), (by omega : (51 : Int) + 1 < K ∧ 5 < K)⟩) (hr 59 _ rfl) (by decide) ?_
      refine Rn_pure 1 (i' := 35) (L' := [some (2, 0), some (0, l1), some (0, l2), some (0, l3)]) (st' := [(0, l3), (2, 56)]) rfl ?_
      obtain ⟨hg, h⟩ := h
      refine Rn_iald rfl (⟨rfl, (by omega : (0 : Int) ≤ 56), (by omega : (56 : Int) + 1 < K ∧ 5 < K)⟩) hg ?_
      refine Rn_pure 1 (i' := 37) (L' := [some (2, 0), some (0, l1), some (0, l2), some (0, l3)]) (st' := [(2, 0), (0, g 56 l3)]) rfl ?_
      refine Rn_getR rfl (⟨rfl, (by omega : (0 : Int) ≤ 0), (by omega : (0 : Int) + 1 < K ∧ 5 < K)⟩) (hr 2 _ rfl) (by decide) ?_
      refine Rn_getR rfl (⟨rfl, (by omega : (0 : Int) ≤ 45), (by omega : (45 : Int) + 1 < K ∧ 5 < K)⟩) (hr 54 _ rfl) (by decide) ?_
      refine Rn_pure 1 (i' := 40) (L' := [some (2, 0), some (0, l1), some (0, l2), some (0, l3)]) (st' := [(0, l3), (2, 50), (0, g 56 l3)]) rfl ?_
      obtain ⟨hg, h⟩ := h
      refine Rn_iald rfl (⟨rfl, (by omega : (0 : Int) ≤ 50), (by omega : (50 : Int) + 1 < K ∧ 5 < K)⟩) hg ?_
      refine Rn_iceq rfl (fun hc => ?_) (fun hc => ?_)
      · have h := h.1 hc
        refine Rn_pure 2 (i' := 23) (L' := [some (2, 0), some (0, l1), some (0, l2), some (0, l3 + 1)]) (st' := []) rfl ?_
        exact h
      · have h := h.2 hc
        refine Rn_pure 3 (i' := 23) (L' := [some (2, 0), some (0, l1), some (0, l2 + 1), some (0, l3 + 1)]) (st' := []) rfl ?_
        exact h
-- EventLedger.ifPlain (II)I
theorem v_EL_ifPlain {K : Int} {S : Nat} {g r : ab_H} {p1 p2 : Int} (P : Int → ab_H → ab_H → Prop) (hr : SI r) (hK : 186 ≤ K) (h : ((wr p1 < wr 0 → P (-1) g r) ∧ (wr 0 ≤ wr p1 → ((wr 7 ≤ wr p1 → P (-1) g r) ∧ (wr p1 < wr 7 → ((wr p2 < wr 1 → P (-1) g r) ∧ (wr 1 ≤ wr p2 → ((wr p2 < wr 3 → (isLg (r 0 6)) ∧ (isLg (r 0 5)) ∧ ab_RV m_Lg_copyFrom [(2, r 0 6), (2, r 0 5)] K S g r (fun g3 r' => r' = r ∧ (ab_Rn m_EL_ifPlain 20 [some (2, 0), some (0, p1), some (0, p2), some (0, 0)] [] (K, S, g3, r) (ab_Qi K S P)))) ∧ (wr 3 ≤ wr p2 → P (-1) g r))))))))) : ab_RI m_EL_ifPlain [(2, 0), (0, p1), (0, p2)] K S g r P := by
  show ab_Rn m_EL_ifPlain 0 [some (2, 0), some (0, p1), some (0, p2), none] [] (K, S, g, r) (ab_Qi K S P)
  refine Rn_pure 1 (i' := 1) (L' := [some (2, 0), some (0, p1), some (0, p2), none]) (st' := [(0, p1)]) rfl ?_
  refine Rn_iflt rfl (fun hc => ?_) (fun hc => ?_)
  · have h := h.1 hc
    refine Rn_pure 1 (i' := 12) (L' := [some (2, 0), some (0, p1), some (0, p2), none]) (st' := [(0, (-1))]) rfl ?_
    exact Rn_ret1 rfl h
  · have h := h.2 hc
    refine Rn_pure 2 (i' := 4) (L' := [some (2, 0), some (0, p1), some (0, p2), none]) (st' := [(0, 7), (0, p1)]) rfl ?_
    refine Rn_icge rfl (fun hc => ?_) (fun hc => ?_)
    · have h := h.1 hc
      refine Rn_pure 1 (i' := 12) (L' := [some (2, 0), some (0, p1), some (0, p2), none]) (st' := [(0, (-1))]) rfl ?_
      exact Rn_ret1 rfl h
    · have h := h.2 hc
      refine Rn_pure 2 (i' := 7) (L' := [some (2, 0), some (0, p1), some (0, p2), none]) (st' := [(0, 1), (0, p2)]) rfl ?_
      refine Rn_iclt rfl (fun hc => ?_) (fun hc => ?_)
      · have h := h.1 hc
        refine Rn_pure 1 (i' := 12) (L' := [some (2, 0), some (0, p1), some (0, p2), none]) (st' := [(0, (-1))]) rfl ?_
        exact Rn_ret1 rfl h
      · have h := h.2 hc
        refine Rn_pure 2 (i' := 10) (L' := [some (2, 0), some (0, p1), some (0, p2), none]) (st' := [(0, 3), (0, p2)]) rfl ?_
        refine Rn_iclt rfl (fun hc => ?_) (fun hc => ?_)
        · have h := h.1 hc
          refine Rn_pure 1 (i' := 14) (L' := [some (2, 0), some (0, p1), some (0, p2), none]) (st' := [(2, 0)]) rfl ?_
          obtain ⟨hf1, h⟩ := h
          refine Rn_getR rfl (⟨rfl, (by omega : (0 : Int) ≤ 0), (by omega : (0 : Int) + 1 < K ∧ 5 < K)⟩) rfl (nn_Lg hf1) ?_
          refine Rn_pure 1 (i' := 16) (L' := [some (2, 0), some (0, p1), some (0, p2), none]) (st' := [(2, 0), (2, r 0 6)]) rfl ?_
          obtain ⟨hf2, h⟩ := h
          refine Rn_getR rfl (⟨rfl, (by omega : (0 : Int) ≤ 0), (by omega : (0 : Int) + 1 < K ∧ 5 < K)⟩) rfl (nn_Lg hf2) ?_
          refine Rn_callV [(2, r 0 6), (2, r 0 5)] [] rfl rfl rfl rfl (ab_rvB_of rfl (ob_Lg hf1 hK)) ?_
          refine h.mono (fun g3 r' h => ?_)
          obtain ⟨hx, h⟩ := h
          replace hx := hx.symm
          subst hx
          refine Rn_pure 2 (i' := 20) (L' := [some (2, 0), some (0, p1), some (0, p2), some (0, 0)]) (st' := []) rfl ?_
          exact h
        · have h := h.2 hc
          refine Rn_pure 1 (i' := 12) (L' := [some (2, 0), some (0, p1), some (0, p2), none]) (st' := [(0, (-1))]) rfl ?_
          exact Rn_ret1 rfl h
theorem v_EL_ifPlain_20 {K : Int} {S : Nat} {g r : ab_H} {l1 l2 l3 : Int} (P : Int → ab_H → ab_H → Prop) (hr : SI r) (hK : 186 ≤ K) (h : (isLg (r 0 6)) ∧ ((wr (g (r 0 6) 10) ≤ wr l3 → (isLg (r 0 6)) ∧ (isLg (r 0 6)) ∧ (isLg (r 0 6)) ∧ ab_RV m_St_replay [(2, 51), (2, r 0 6), (0, g (r 0 6) 10), (0, g (r 0 6) 10), (0, (-1))] K S g r (fun g5 r' => r' = r ∧ ((isLg (r 0 6)) ∧ ab_RI m_St_countAside [(2, 51), (0, 0), (0, g5 (r 0 6) 10)] K S g5 r (fun x8 g' r' => g' = g5 ∧ r' = r ∧ (P x8 g5 r))))) ∧ (wr l3 < wr (g (r 0 6) 10) → (isTe (r 0 3)) ∧ (isLg (r 0 6)) ∧ ab_RV m_Te_lift [(2, r 0 3), (2, r 0 6), (0, l3), (0, l1), (0, l2)] K S g r (fun g11 r' => r' = r ∧ (ab_Rn m_EL_ifPlain 20 [some (2, 0), some (0, l1), some (0, l2), some (0, l3 + 1)] [] (K, S, g11, r) (ab_Qi K S P)))))) : ab_Rn m_EL_ifPlain 20 [some (2, 0), some (0, l1), some (0, l2), some (0, l3)] [] (K, S, g, r) (ab_Qi K S P) := by
  refine Rn_pure 2 (i' := 22) (L' := [some (2, 0), some (0, l1), some (0, l2), some (0, l3)]) (st' := [(2, 0), (0, l3)]) rfl ?_
  obtain ⟨hf1, h⟩ := h
  refine Rn_getR rfl (⟨rfl, (by omega : (0 : Int) ≤ 0), (by omega : (0 : Int) + 1 < K ∧ 5 < K)⟩) rfl (nn_Lg hf1) ?_
  refine Rn_getI rfl (ob_Lg hf1 hK) ?_
  refine Rn_icge rfl (fun hc => ?_) (fun hc => ?_)
  · have h := h.1 hc
    refine Rn_pure 1 (i' := 36) (L' := [some (2, 0), some (0, l1), some (0, l2), some (0, l3)]) (st' := [(2, 0)]) rfl ?_
    refine Rn_getR rfl (⟨rfl, (by omega : (0 : Int) ≤ 0), (by omega : (0 : Int) + 1 < K ∧ 5 < K)⟩) (hr 3 _ rfl) (by decide) ?_
    refine Rn_pure 1 (i' := 38) (L' := [some (2, 0), some (0, l1), some (0, l2), some (0, l3)]) (st' := [(2, 0), (2, 51)]) rfl ?_
    obtain ⟨hf2, h⟩ := h
    refine Rn_getR rfl (⟨rfl, (by omega : (0 : Int) ≤ 0), (by omega : (0 : Int) + 1 < K ∧ 5 < K)⟩) rfl (nn_Lg hf2) ?_
    refine Rn_pure 1 (i' := 40) (L' := [some (2, 0), some (0, l1), some (0, l2), some (0, l3)]) (st' := [(2, 0), (2, r 0 6), (2, 51)]) rfl ?_
    obtain ⟨hf3, h⟩ := h
    refine Rn_getR rfl (⟨rfl, (by omega : (0 : Int) ≤ 0), (by omega : (0 : Int) + 1 < K ∧ 5 < K)⟩) rfl (nn_Lg hf3) ?_
    refine Rn_getI rfl (ob_Lg hf3 hK) ?_
    refine Rn_pure 1 (i' := 43) (L' := [some (2, 0), some (0, l1), some (0, l2), some (0, l3)]) (st' := [(2, 0), (0, g (r 0 6) 10), (2, r 0 6), (2, 51)]) rfl ?_
    obtain ⟨hf4, h⟩ := h
    refine Rn_getR rfl (⟨rfl, (by omega : (0 : Int) ≤ 0), (by omega : (0 : Int) + 1 < K ∧ 5 < K)⟩) rfl (nn_Lg hf4) ?_
    refine Rn_getI rfl (ob_Lg hf4 hK) ?_
    refine Rn_pure 1 (i' := 46) (L' := [some (2, 0), some (0, l1), some (0, l2), some (0, l3)]) (st' := [(0, (-1)), (0, g (r 0 6) 10), (0, g (r 0 6) 10), (2, r 0 6), (2, 51)]) rfl ?_
    refine Rn_callV [(2, 51), (2, r 0 6), (0, g (r 0 6) 10), (0, g (r 0 6) 10), (0, (-1))] [] rfl rfl rfl rfl (ab_rvB_of rfl (⟨rfl, (by omega : (0 : Int) ≤ 51), (by omega : (51 : Int) + 1 < K ∧ 5 < K)⟩)) ?_
    refine h.mono (fun g5 r' h => ?_)
    obtain ⟨hx, h⟩ := h
    replace hx := hx.symm
    subst hx
    refine Rn_pure 1 (i' := 48) (L' := [some (2, 0), some (0, l1), some (0, l2), some (0, l3)]) (st' := [(2, 0)]) rfl ?_
    refine Rn_getR rfl (⟨rfl, (by omega : (0 : Int) ≤ 0), (by omega : (0 : Int) + 1 < K ∧ 5 < K)⟩) (hr 3 _ rfl) (by decide) ?_
    refine Rn_pure 2 (i' := 51) (L' := [some (2, 0), some (0, l1), some (0, l2), some (0, l3)]) (st' := [(2, 0), (0, 0), (2, 51)]) rfl ?_
    obtain ⟨hf7, h⟩ := h
    refine Rn_getR rfl (⟨rfl, (by omega : (0 : Int) ≤ 0), (by omega : (0 : Int) + 1 < K ∧ 5 < K)⟩) rfl (nn_Lg hf7) ?_
    refine Rn_getI rfl (ob_Lg hf7 hK) ?_
    refine Rn_callI [(2, 51), (0, 0), (0, g5 (r 0 6) 10)] [] rfl rfl rfl rfl (ab_rvB_of rfl (⟨rfl, (by omega : (0 : Int) ≤ 51), (by omega : (51 : Int) + 1 < K ∧ 5 < K)⟩)) ?_
    refine h.mono (fun x8 g' r' h => ?_)
    obtain ⟨hx, h⟩ := h
    replace hx := hx.symm
    subst hx
    obtain ⟨hx, h⟩ := h
    replace hx := hx.symm
    subst hx
    exact Rn_ret1 rfl h
  · have h := h.2 hc
    refine Rn_pure 1 (i' := 26) (L' := [some (2, 0), some (0, l1), some (0, l2), some (0, l3)]) (st' := [(2, 0)]) rfl ?_
    obtain ⟨hf9, h⟩ := h
    refine Rn_getR rfl (⟨rfl, (by omega : (0 : Int) ≤ 0), (by omega : (0 : Int) + 1 < K ∧ 5 < K)⟩) rfl (nn_Te hf9) ?_
    refine Rn_pure 1 (i' := 28) (L' := [some (2, 0), some (0, l1), some (0, l2), some (0, l3)]) (st' := [(2, 0), (2, r 0 3)]) rfl ?_
    obtain ⟨hf10, h⟩ := h
    refine Rn_getR rfl (⟨rfl, (by omega : (0 : Int) ≤ 0), (by omega : (0 : Int) + 1 < K ∧ 5 < K)⟩) rfl (nn_Lg hf10) ?_
    refine Rn_pure 3 (i' := 32) (L' := [some (2, 0), some (0, l1), some (0, l2), some (0, l3)]) (st' := [(0, l2), (0, l1), (0, l3), (2, r 0 6), (2, r 0 3)]) rfl ?_
    refine Rn_callV [(2, r 0 3), (2, r 0 6), (0, l3), (0, l1), (0, l2)] [] rfl rfl rfl rfl (ab_rvB_of rfl (ob_Te hf9 hK)) ?_
    refine h.mono (fun g11 r' h => ?_)
    obtain ⟨hx, h⟩ := h
    replace hx := hx.symm
    subst hx
    refine Rn_pure 2 (i' := 20) (L' := [some (2, 0), some (0, l1), some (0, l2), some (0, l3 + 1)]) (st' := []) rfl ?_
    exact h
-- EventLedger.resnap (II)I
theorem v_EL_resnap {K : Int} {S : Nat} {g r : ab_H} {p1 p2 : Int} (P : Int → ab_H → ab_H → Prop) (hr : SI r) (hK : 186 ≤ K) (h : ((wr p1 < wr 1 → P (-1) g r) ∧ (wr 1 ≤ wr p1 → ((wr 999 < wr p1 → P (-1) g r) ∧ (wr p1 ≤ wr 999 → ((wr p2 < wr 0 → P (-1) g r) ∧ (wr 0 ≤ wr p2 → ((wr p2 ≤ wr 6 → ab_RV m_EL_mark [(2, 0)] K S g r (fun g1 r2 => SI r2 ∧ (∀ g5, g5 = ab_up g1 57 2 p1 → ∀ g6, g6 = ab_up g5 57 3 p2 → ab_RV m_EL_rebuild [(2, 0)] K S g6 r2 (fun g7 r' => r' = r2 ∧ (P (g7 57 1) g7 r2))))) ∧ (wr 6 < wr p2 → P (-1) g r))))))))) : ab_RI m_EL_resnap [(2, 0), (0, p1), (0, p2)] K S g r P := by
  show ab_Rn m_EL_resnap 0 [some (2, 0), some (0, p1), some (0, p2)] [] (K, S, g, r) (ab_Qi K S P)
  refine Rn_pure 2 (i' := 2) (L' := [some (2, 0), some (0, p1), some (0, p2)]) (st' := [(0, 1), (0, p1)]) rfl ?_
  refine Rn_iclt rfl (fun hc => ?_) (fun hc => ?_)
  · have h := h.1 hc
    refine Rn_pure 1 (i' := 12) (L' := [some (2, 0), some (0, p1), some (0, p2)]) (st' := [(0, (-1))]) rfl ?_
    exact Rn_ret1 rfl h
  · have h := h.2 hc
    refine Rn_pure 2 (i' := 5) (L' := [some (2, 0), some (0, p1), some (0, p2)]) (st' := [(0, 999), (0, p1)]) rfl ?_
    refine Rn_icgt rfl (fun hc => ?_) (fun hc => ?_)
    · have h := h.1 hc
      refine Rn_pure 1 (i' := 12) (L' := [some (2, 0), some (0, p1), some (0, p2)]) (st' := [(0, (-1))]) rfl ?_
      exact Rn_ret1 rfl h
    · have h := h.2 hc
      refine Rn_pure 1 (i' := 7) (L' := [some (2, 0), some (0, p1), some (0, p2)]) (st' := [(0, p2)]) rfl ?_
      refine Rn_iflt rfl (fun hc => ?_) (fun hc => ?_)
      · have h := h.1 hc
        refine Rn_pure 1 (i' := 12) (L' := [some (2, 0), some (0, p1), some (0, p2)]) (st' := [(0, (-1))]) rfl ?_
        exact Rn_ret1 rfl h
      · have h := h.2 hc
        refine Rn_pure 2 (i' := 10) (L' := [some (2, 0), some (0, p1), some (0, p2)]) (st' := [(0, 6), (0, p2)]) rfl ?_
        refine Rn_icle rfl (fun hc => ?_) (fun hc => ?_)
        · have h := h.1 hc
          refine Rn_pure 1 (i' := 14) (L' := [some (2, 0), some (0, p1), some (0, p2)]) (st' := [(2, 0)]) rfl ?_
          refine Rn_callV [(2, 0)] [] rfl rfl rfl rfl (ab_rvB_of rfl (⟨rfl, (by omega : (0 : Int) ≤ 0), (by omega : (0 : Int) + 1 < K ∧ 5 < K)⟩)) ?_
          refine h.mono (fun g1 r2 h => ?_)
          obtain ⟨hr4, h⟩ := h
          refine Rn_pure 1 (i' := 16) (L' := [some (2, 0), some (0, p1), some (0, p2)]) (st' := [(2, 0)]) rfl ?_
          refine Rn_getR rfl (⟨rfl, (by omega : (0 : Int) ≤ 0), (by omega : (0 : Int) + 1 < K ∧ 5 < K)⟩) (hr4 4 _ rfl) (by decide) ?_
          refine Rn_pure 1 (i' := 18) (L' := [some (2, 0), some (0, p1), some (0, p2)]) (st' := [(0, p1), (2, 57)]) rfl ?_
          refine Rn_putI rfl (⟨rfl, (by omega : (0 : Int) ≤ 57), (by omega : (57 : Int) + 1 < K ∧ 5 < K)⟩) (fun g5 he_g5 => ?_)
          have h := h g5 he_g5
          refine Rn_pure 1 (i' := 20) (L' := [some (2, 0), some (0, p1), some (0, p2)]) (st' := [(2, 0)]) rfl ?_
          refine Rn_getR rfl (⟨rfl, (by omega : (0 : Int) ≤ 0), (by omega : (0 : Int) + 1 < K ∧ 5 < K)⟩) (hr4 4 _ rfl) (by decide) ?_
          refine Rn_pure 1 (i' := 22) (L' := [some (2, 0), some (0, p1), some (0, p2)]) (st' := [(0, p2), (2, 57)]) rfl ?_
          refine Rn_putI rfl (⟨rfl, (by omega : (0 : Int) ≤ 57), (by omega : (57 : Int) + 1 < K ∧ 5 < K)⟩) (fun g6 he_g6 => ?_)
          have h := h g6 he_g6
          refine Rn_pure 1 (i' := 24) (L' := [some (2, 0), some (0, p1), some (0, p2)]) (st' := [(2, 0)]) rfl ?_
          refine Rn_callV [(2, 0)] [] rfl rfl rfl rfl (ab_rvB_of rfl (⟨rfl, (by omega : (0 : Int) ≤ 0), (by omega : (0 : Int) + 1 < K ∧ 5 < K)⟩)) ?_
          refine h.mono (fun g7 r' h => ?_)
          obtain ⟨hx, h⟩ := h
          replace hx := hx.symm
          subst hx
          refine Rn_pure 1 (i' := 26) (L' := [some (2, 0), some (0, p1), some (0, p2)]) (st' := [(2, 0)]) rfl ?_
          refine Rn_getR rfl (⟨rfl, (by omega : (0 : Int) ≤ 0), (by omega : (0 : Int) + 1 < K ∧ 5 < K)⟩) (hr4 4 _ rfl) (by decide) ?_
          refine Rn_getI rfl (⟨rfl, (by omega : (0 : Int) ≤ 57), (by omega : (57 : Int) + 1 < K ∧ 5 < K)⟩) ?_
          exact Rn_ret1 rfl h
        · have h := h.2 hc
          refine Rn_pure 1 (i' := 12) (L' := [some (2, 0), some (0, p1), some (0, p2)]) (st' := [(0, (-1))]) rfl ?_
          exact Rn_ret1 rfl h
-- EventLedger.see (II)I
theorem v_EL_see {K : Int} {S : Nat} {g r : ab_H} {p1 p2 : Int} (P : Int → ab_H → ab_H → Prop) (hr : SI r) (hK : 186 ≤ K) (h : ab_RI m_EL_isTally [(2, 0), (0, p1)] K S g r (fun x1 g' r' => g' = g ∧ r' = r ∧ (((wr x1 = wr 0 → P (-1) g r) ∧ (¬ wr x1 = wr 0 → ((wr p2 < wr 1 → P (-1) g r) ∧ (wr 1 ≤ wr p2 → ((wr p2 ≤ wr 120 → (isLg (r 0 5)) ∧ ((0 : Int) ≤ p1 ∧ (p1 : Int) < 4) ∧ ((wr 0 < wr (g (r 0 5) 10 - (g 62 p1)) → ab_RV m_EL_mark [(2, 0)] K S g r (fun g3 r4 => SI r4 ∧ (ab_Rn m_EL_see 34 [some (2, 0), some (0, p1), none, none, some (0, ab_min p2 (g (r 0 5) 10 - (g 62 p1))), some (0, 0)] [] (K, S, g3, r4) (ab_Qi K S P)))) ∧ (wr (g (r 0 5) 10 - (g 62 p1)) ≤ wr 0 → P (-2) g r))) ∧ (wr 120 < wr p2 → P (-1) g r))))))))) : ab_RI m_EL_see [(2, 0), (0, p1), (0, p2)] K S g r P := by
  show ab_Rn m_EL_see 0 [some (2, 0), some (0, p1), some (0, p2), none, none, none] [] (K, S, g, r) (ab_Qi K S P)
  refine Rn_pure 2 (i' := 2) (L' := [some (2, 0), some (0, p1), some (0, p2), none, none, none]) (st' := [(0, p1), (2, 0)]) rfl ?_
  refine Rn_callI [(2, 0), (0, p1)] [] rfl rfl rfl rfl (ab_rvB_of rfl (⟨rfl, (by omega : (0 : Int) ≤ 0), (by omega : (0 : Int) + 1 < K ∧ 5 < K)⟩)) ?_
  refine h.mono (fun x1 g' r' h => ?_)
  obtain ⟨hx, h⟩ := h
  replace hx := hx.symm
  subst hx
  obtain ⟨hx, h⟩ := h
  replace hx := hx.symm
  subst hx
  refine Rn_ifeq rfl (fun hc => ?_) (fun hc => ?_)
  · have h := h.1 hc
    refine Rn_pure 1 (i' := 11) (L' := [some (2, 0), some (0, p1), some (0, p2), none, none, none]) (st' := [(0, (-1))]) rfl ?_
    exact Rn_ret1 rfl h
  · have h := h.2 hc
    refine Rn_pure 2 (i' := 6) (L' := [some (2, 0), some (0, p1), some (0, p2), none, none, none]) (st' := [(0, 1), (0, p2)]) rfl ?_
    refine Rn_iclt rfl (fun hc => ?_) (fun hc => ?_)
    · have h := h.1 hc
      refine Rn_pure 1 (i' := 11) (L' := [some (2, 0), some (0, p1), some (0, p2), none, none, none]) (st' := [(0, (-1))]) rfl ?_
      exact Rn_ret1 rfl h
    · have h := h.2 hc
      refine Rn_pure 2 (i' := 9) (L' := [some (2, 0), some (0, p1), some (0, p2), none, none, none]) (st' := [(0, 120), (0, p2)]) rfl ?_
      refine Rn_icle rfl (fun hc => ?_) (fun hc => ?_)
      · have h := h.1 hc
        refine Rn_pure 1 (i' := 13) (L' := [some (2, 0), some (0, p1), some (0, p2), none, none, none]) (st' := [(2, 0)]) rfl ?_
        obtain ⟨hf2, h⟩ := h
        refine Rn_getR rfl (⟨rfl, (by omega : (0 : Int) ≤ 0), (by omega : (0 : Int) + 1 < K ∧ 5 < K)⟩) rfl (nn_Lg hf2) ?_
        refine Rn_getI rfl (ob_Lg hf2 hK) ?_
        refine Rn_pure 1 (i' := 16) (L' := [some (2, 0), some (0, p1), some (0, p2), none, none, none]) (st' := [(2, 0), (0, g (r 0 5) 10)]) rfl ?_
        refine Rn_getR rfl (⟨rfl, (by omega : (0 : Int) ≤ 0), (by omega : (0 : Int) + 1 < K ∧ 5 < K)⟩) (hr 6 _ rfl) (by decide) ?_
        refine Rn_getR rfl (⟨rfl, (by omega : (0 : Int) ≤ 61), (by omega : (61 : Int) + 1 < K ∧ 5 < K)⟩) (hr 62 _ rfl) (by decide) ?_
        refine Rn_pure 1 (i' := 19) (L' := [some (2, 0), some (0, p1), some (0, p2), none, none, none]) (st' := [(0, p1), (2, 62), (0, g (r 0 5) 10)]) rfl ?_
        obtain ⟨hg, h⟩ := h
        refine Rn_iald rfl (⟨rfl, (by omega : (0 : Int) ≤ 62), (by omega : (62 : Int) + 1 < K ∧ 5 < K)⟩) hg ?_
        refine Rn_pure 3 (i' := 23) (L' := [some (2, 0), some (0, p1), some (0, p2), some (0, g (r 0 5) 10 - (g 62 p1)), none, none]) (st' := [(0, g (r 0 5) 10 - (g 62 p1))]) rfl ?_
        refine Rn_ifgt rfl (fun hc => ?_) (fun hc => ?_)
        · have h := h.1 hc
          refine Rn_pure 1 (i' := 27) (L' := [some (2, 0), some (0, p1), some (0, p2), some (0, g (r 0 5) 10 - (g 62 p1)), none, none]) (st' := [(2, 0)]) rfl ?_
          refine Rn_callV [(2, 0)] [] rfl rfl rfl rfl (ab_rvB_of rfl (⟨rfl, (by omega : (0 : Int) ≤ 0), (by omega : (0 : Int) + 1 < K ∧ 5 < K)⟩)) ?_
          refine h.mono (fun g3 r4 h => ?_)
          obtain ⟨hr6, h⟩ := h
          refine Rn_pure 2 (i' := 30) (L' := [some (2, 0), some (0, p1), some (0, p2), some (0, g (r 0 5) 10 - (g 62 p1)), none, none]) (st' := [(0, g (r 0 5) 10 - (g 62 p1)), (0, p2)]) rfl ?_
          refine Rn_min rfl (by decide) ?_
          refine Rn_pure 3 (i' := 34) (L' := [some (2, 0), some (0, p1), some (0, p2), some (0, g (r 0 5) 10 - (g 62 p1)), some (0, ab_min p2 (g (r 0 5) 10 - (g 62 p1))), some (0, 0)]) (st' := []) rfl ?_
          refine Rn_weak (L' := [some (2, 0), some (0, p1), none, none, some (0, ab_min p2 (g (r 0 5) 10 - (g 62 p1))), some (0, 0)]) ⟨rfl, ⟨rfl, ⟨rfl, ⟨rfl, trivial⟩⟩⟩⟩ ?_
          exact h
        · have h := h.2 hc
          refine Rn_pure 1 (i' := 25) (L' := [some (2, 0), some (0, p1), some (0, p2), some (0, g (r 0 5) 10 - (g 62 p1)), none, none]) (st' := [(0, (-2))]) rfl ?_
          exact Rn_ret1 rfl h
      · have h := h.2 hc
        refine Rn_pure 1 (i' := 11) (L' := [some (2, 0), some (0, p1), some (0, p2), none, none, none]) (st' := [(0, (-1))]) rfl ?_
        exact Rn_ret1 rfl h
theorem v_EL_see_34 {K : Int} {S : Nat} {g r : ab_H} {l1 l4 l5 : Int} (P : Int → ab_H → ab_H → Prop) (hr : SI r) (hK : 186 ≤ K) (h : ((wr l4 ≤ wr l5 → P l4 g r) ∧ (wr l5 < wr l4 → ab_RV m_EL_seeNext [(2, 0), (0, l1)] K S g r (fun g1 r' => r' = r ∧ (ab_Rn m_EL_see 34 [some (2, 0), some (0, l1), none, none, some (0, l4), some (0, l5 + 1)] [] (K, S, g1, r) (ab_Qi K S P)))))) : ab_Rn m_EL_see 34 [some (2, 0), some (0, l1), none, none, some (0, l4), some (0, l5)] [] (K, S, g, r) (ab_Qi K S P) := by
  refine Rn_pure 2 (i' := 36) (L' := [some (2, 0), some (0, l1), none, none, some (0, l4), some (0, l5)]) (st' := [(0, l4), (0, l5)]) rfl ?_
  refine Rn_icge rfl (fun hc => ?_) (fun hc => ?_)
  · have h := h.1 hc
    refine Rn_pure 1 (i' := 43) (L' := [some (2, 0), some (0, l1), none, none, some (0, l4), some (0, l5)]) (st' := [(0, l4)]) rfl ?_
    exact Rn_ret1 rfl h
  · have h := h.2 hc
    refine Rn_pure 2 (i' := 39) (L' := [some (2, 0), some (0, l1), none, none, some (0, l4), some (0, l5)]) (st' := [(0, l1), (2, 0)]) rfl ?_
    refine Rn_callV [(2, 0), (0, l1)] [] rfl rfl rfl rfl (ab_rvB_of rfl (⟨rfl, (by omega : (0 : Int) ≤ 0), (by omega : (0 : Int) + 1 < K ∧ 5 < K)⟩)) ?_
    refine h.mono (fun g1 r' h => ?_)
    obtain ⟨hx, h⟩ := h
    replace hx := hx.symm
    subst hx
    refine Rn_pure 2 (i' := 34) (L' := [some (2, 0), some (0, l1), none, none, some (0, l4), some (0, l5 + 1)]) (st' := []) rfl ?_
    exact h
-- EventLedger.rewind (I)I
theorem v_EL_rewind {K : Int} {S : Nat} {g r : ab_H} {p1 : Int} (P : Int → ab_H → ab_H → Prop) (hr : SI r) (hK : 186 ≤ K) (h : ab_RI m_EL_isTally [(2, 0), (0, p1)] K S g r (fun x1 g' r' => g' = g ∧ r' = r ∧ (((¬ wr x1 = wr 0 → ab_RV m_EL_mark [(2, 0)] K S g r (fun g2 r3 => SI r3 ∧ (((0 : Int) ≤ p1 ∧ (p1 : Int) < 4) ∧ ab_RV m_Ta_restart [(2, 61), (0, p1)] K S g2 r3 (fun g6 r' => r' = r3 ∧ (P (g2 62 p1) g6 r3))))) ∧ (wr x1 = wr 0 → P (-1) g r))))) : ab_RI m_EL_rewind [(2, 0), (0, p1)] K S g r P := by
  show ab_Rn m_EL_rewind 0 [some (2, 0), some (0, p1), none] [] (K, S, g, r) (ab_Qi K S P)
  refine Rn_pure 2 (i' := 2) (L' := [some (2, 0), some (0, p1), none]) (st' := [(0, p1), (2, 0)]) rfl ?_
  refine Rn_callI [(2, 0), (0, p1)] [] rfl rfl rfl rfl (ab_rvB_of rfl (⟨rfl, (by omega : (0 : Int) ≤ 0), (by omega : (0 : Int) + 1 < K ∧ 5 < K)⟩)) ?_
  refine h.mono (fun x1 g' r' h => ?_)
  obtain ⟨hx, h⟩ := h
  replace hx := hx.symm
  subst hx
  obtain ⟨hx, h⟩ := h
  replace hx := hx.symm
  subst hx
  refine Rn_ifne rfl (fun hc => ?_) (fun hc => ?_)
  · have h := h.1 hc
    refine Rn_pure 1 (i' := 7) (L' := [some (2, 0), some (0, p1), none]) (st' := [(2, 0)]) rfl ?_
    refine Rn_callV [(2, 0)] [] rfl rfl rfl rfl (ab_rvB_of rfl (⟨rfl, (by omega : (0 : Int) ≤ 0), (by omega : (0 : Int) + 1 < K ∧ 5 < K)⟩)) ?_
    refine h.mono (fun g2 r3 h => ?_)
    obtain ⟨hr5, h⟩ := h
    refine Rn_pure 1 (i' := 9) (L' := [some (2, 0), some (0, p1), none]) (st' := [(2, 0)]) rfl ?_
    refine Rn_getR rfl (⟨rfl, (by omega : (0 : Int) ≤ 0), (by omega : (0 : Int) + 1 < K ∧ 5 < K)⟩) (hr5 6 _ rfl) (by decide) ?_
    refine Rn_getR rfl (⟨rfl, (by omega : (0 : Int) ≤ 61), (by omega : (61 : Int) + 1 < K ∧ 5 < K)⟩) (hr5 62 _ rfl) (by decide) ?_
    refine Rn_pure 1 (i' := 12) (L' := [some (2, 0), some (0, p1), none]) (st' := [(0, p1), (2, 62)]) rfl ?_
    obtain ⟨hg, h⟩ := h
    refine Rn_iald rfl (⟨rfl, (by omega : (0 : Int) ≤ 62), (by omega : (62 : Int) + 1 < K ∧ 5 < K)⟩) hg ?_
    refine Rn_pure 2 (i' := 15) (L' := [some (2, 0), some (0, p1), some (0, g2 62 p1)]) (st' := [(2, 0)]) rfl ?_
    refine Rn_getR rfl (⟨rfl, (by omega : (0 : Int) ≤ 0), (by omega : (0 : Int) + 1 < K ∧ 5 < K)⟩) (hr5 6 _ rfl) (by decide) ?_
    refine Rn_pure 1 (i' := 17) (L' := [some (2, 0), some (0, p1), some (0, g2 62 p1)]) (st' := [(0, p1), (2, 61)]) rfl ?_
    refine Rn_callV [(2, 61), (0, p1)] [] rfl rfl rfl rfl (ab_rvB_of rfl (⟨rfl, (by omega : (0 : Int) ≤ 61), (by omega : (61 : Int) + 1 < K ∧ 5 < K)⟩)) ?_
    refine h.mono (fun g6 r' h => ?_)
    obtain ⟨hx, h⟩ := h
    replace hx := hx.symm
    subst hx
    refine Rn_pure 1 (i' := 19) (L' := [some (2, 0), some (0, p1), some (0, g2 62 p1)]) (st' := [(0, g2 62 p1)]) rfl ?_
    exact Rn_ret1 rfl h
  · have h := h.2 hc
    refine Rn_pure 1 (i' := 5) (L' := [some (2, 0), some (0, p1), none]) (st' := [(0, (-1))]) rfl ?_
    exact Rn_ret1 rfl h
-- EventLedger.tally (II)I
theorem v_EL_tally {K : Int} {S : Nat} {g r : ab_H} {p1 p2 : Int} (P : Int → ab_H → ab_H → Prop) (hr : SI r) (hK : 186 ≤ K) (h : ab_RI m_EL_isTally [(2, 0), (0, p1)] K S g r (fun x1 g' r' => g' = g ∧ r' = r ∧ (((¬ wr x1 = wr 0 → ((wr p2 = 0 → ((0 : Int) ≤ p1 ∧ (p1 : Int) < 4) ∧ P (g 62 p1) g r) ∧ (wr p2 = 1 → (isLg (r 0 5)) ∧ ((0 : Int) ≤ p1 ∧ (p1 : Int) < 4) ∧ P (g (r 0 5) 10 - (g 62 p1)) g r) ∧ (wr p2 = 2 → ab_RI m_Ta_countCounted [(2, 61), (0, p1)] K S g r (fun x3 g' r' => g' = g ∧ r' = r ∧ (P x3 g r))) ∧ (wr p2 = 3 → (isTe (r 0 3)) ∧ ((0 : Int) ≤ p1 ∧ (p1 : Int) < 4) ∧ P (g (r 0 3 + 3) p1) g r) ∧ (wr p2 = 4 → (isTe (r 0 3)) ∧ ((0 : Int) ≤ p1 ∧ (p1 : Int) < 4) ∧ P (g (r 0 3 + 4) p1) g r) ∧ (wr p2 = 5 → ab_RI m_EL_sumCounted [(2, 0), (0, p1), (0, (-1))] K S g r (fun x6 g' r' => g' = g ∧ r' = r ∧ (P x6 g r))) ∧ (wr p2 = 6 → ab_RI m_EL_sumAnew [(2, 0), (0, p1)] K S g r (fun x7 g' r' => g' = g ∧ r' = r ∧ (ab_RI m_EL_sumCounted [(2, 0), (0, p1), (0, (-1))] K S g r (fun x8 g' r' => g' = g ∧ r' = r ∧ (P (x7 - x8) g r))))) ∧ (wr p2 < 0 ∨ 7 ≤ wr p2 → P (-2147483648) g r))) ∧ (wr x1 = wr 0 → P (-2147483648) g r))))) : ab_RI m_EL_tally [(2, 0), (0, p1), (0, p2)] K S g r P := by
  show ab_Rn m_EL_tally 0 [some (2, 0), some (0, p1), some (0, p2)] [] (K, S, g, r) (ab_Qi K S P)
  refine Rn_pure 2 (i' := 2) (L' := [some (2, 0), some (0, p1), some (0, p2)]) (st' := [(0, p1), (2, 0)]) rfl ?_
  refine Rn_callI [(2, 0), (0, p1)] [] rfl rfl rfl rfl (ab_rvB_of rfl (⟨rfl, (by omega : (0 : Int) ≤ 0), (by omega : (0 : Int) + 1 < K ∧ 5 < K)⟩)) ?_
  refine h.mono (fun x1 g' r' h => ?_)
  obtain ⟨hx, h⟩ := h
  replace hx := hx.symm
  subst hx
  obtain ⟨hx, h⟩ := h
  replace hx := hx.symm
  subst hx
  refine Rn_ifne rfl (fun hc => ?_) (fun hc => ?_)
  · have h := h.1 hc
    refine Rn_pure 1 (i' := 7) (L' := [some (2, 0), some (0, p1), some (0, p2)]) (st' := [(0, p2)]) rfl ?_
    refine Rn_ts rfl ?_
    have ht8 : (wr p2 = 0) → ab_Rn m_EL_tally 8 [some (2, 0), some (0, p1), some (0, p2)] [] (K, S, g, r) (ab_Qi K S P) := by
      intro hc
      have h := h.1 hc
      refine Rn_pure 1 (i' := 9) (L' := [some (2, 0), some (0, p1), some (0, p2)]) (st' := [(2, 0)]) rfl ?_
      refine Rn_getR rfl (⟨rfl, (by omega : (0 : Int) ≤ 0), (by omega : (0 : Int) + 1 < K ∧ 5 < K)⟩) (hr 6 _ rfl) (by decide) ?_
      refine Rn_getR rfl (⟨rfl, (by omega : (0 : Int) ≤ 61), (by omega : (61 : Int) + 1 < K ∧ 5 < K)⟩) (hr 62 _ rfl) (by decide) ?_
      refine Rn_pure 1 (i' := 12) (L' := [some (2, 0), some (0, p1), some (0, p2)]) (st' := [(0, p1), (2, 62)]) rfl ?_
      obtain ⟨hg, h⟩ := h
      refine Rn_iald rfl (⟨rfl, (by omega : (0 : Int) ≤ 62), (by omega : (62 : Int) + 1 < K ∧ 5 < K)⟩) hg ?_
      exact Rn_ret1 rfl h
    have ht14 : (wr p2 = 1) → ab_Rn m_EL_tally 14 [some (2, 0), some (0, p1), some (0, p2)] [] (K, S, g, r) (ab_Qi K S P) := by
      intro hc
      have h := h.2.1 hc
      refine Rn_pure 1 (i' := 15) (L' := [some (2, 0), some (0, p1), some (0, p2)]) (st' := [(2, 0)]) rfl ?_
      obtain ⟨hf2, h⟩ := h
      refine Rn_getR rfl (⟨rfl, (by omega : (0 : Int) ≤ 0), (by omega : (0 : Int) + 1 < K ∧ 5 < K)⟩) rfl (nn_Lg hf2) ?_
      refine Rn_getI rfl (ob_Lg hf2 hK) ?_
      refine Rn_pure 1 (i' := 18) (L' := [some (2, 0), some (0, p1), some (0, p2)]) (st' := [(2, 0), (0, g (r 0 5) 10)]) rfl ?_
      refine Rn_getR rfl (⟨rfl, (by omega : (0 : Int) ≤ 0), (by omega : (0 : Int) + 1 < K ∧ 5 < K)⟩) (hr 6 _ rfl) (by decide) ?_
      refine Rn_getR rfl (⟨rfl, (by omega : (0 : Int) ≤ 61), (by omega : (61 : Int) + 1 < K ∧ 5 < K)⟩) (hr 62 _ rfl) (by decide) ?_
      refine Rn_pure 1 (i' := 21) (L' := [some (2, 0), some (0, p1), some (0, p2)]) (st' := [(0, p1), (2, 62), (0, g (r 0 5) 10)]) rfl ?_
      obtain ⟨hg, h⟩ := h
      refine Rn_iald rfl (⟨rfl, (by omega : (0 : Int) ≤ 62), (by omega : (62 : Int) + 1 < K ∧ 5 < K)⟩) hg ?_
      refine Rn_pure 1 (i' := 23) (L' := [some (2, 0), some (0, p1), some (0, p2)]) (st' := [(0, g (r 0 5) 10 - (g 62 p1))]) rfl ?_
      exact Rn_ret1 rfl h
    have ht24 : (wr p2 = 2) → ab_Rn m_EL_tally 24 [some (2, 0), some (0, p1), some (0, p2)] [] (K, S, g, r) (ab_Qi K S P) := by
      intro hc
      have h := h.2.2.1 hc
      refine Rn_pure 1 (i' := 25) (L' := [some (2, 0), some (0, p1), some (0, p2)]) (st' := [(2, 0)]) rfl ?_
      refine Rn_getR rfl (⟨rfl, (by omega : (0 : Int) ≤ 0), (by omega : (0 : Int) + 1 < K ∧ 5 < K)⟩) (hr 6 _ rfl) (by decide) ?_
      refine Rn_pure 1 (i' := 27) (L' := [some (2, 0), some (0, p1), some (0, p2)]) (st' := [(0, p1), (2, 61)]) rfl ?_
      refine Rn_callI [(2, 61), (0, p1)] [] rfl rfl rfl rfl (ab_rvB_of rfl (⟨rfl, (by omega : (0 : Int) ≤ 61), (by omega : (61 : Int) + 1 < K ∧ 5 < K)⟩)) ?_
      refine h.mono (fun x3 g' r' h => ?_)
      obtain ⟨hx, h⟩ := h
      replace hx := hx.symm
      subst hx
      obtain ⟨hx, h⟩ := h
      replace hx := hx.symm
      subst hx
      exact Rn_ret1 rfl h
    have ht29 : (wr p2 = 3) → ab_Rn m_EL_tally 29 [some (2, 0), some (0, p1), some (0, p2)] [] (K, S, g, r) (ab_Qi K S P) := by
      intro hc
      have h := h.2.2.2.1 hc
      refine Rn_pure 1 (i' := 30) (L' := [some (2, 0), some (0, p1), some (0, p2)]) (st' := [(2, 0)]) rfl ?_
      obtain ⟨hf4, h⟩ := h
      refine Rn_getR rfl (⟨rfl, (by omega : (0 : Int) ≤ 0), (by omega : (0 : Int) + 1 < K ∧ 5 < K)⟩) rfl (nn_Te hf4) ?_
      refine Rn_getR rfl (ob_Te hf4 hK) (fx_Te_3 hr hf4) (show (r 0 3 + 3 : Int) ≠ -1 by have := hf4; unfold isTe at this; omega) ?_
      refine Rn_pure 1 (i' := 33) (L' := [some (2, 0), some (0, p1), some (0, p2)]) (st' := [(0, p1), (2, r 0 3 + 3)]) rfl ?_
      obtain ⟨hg, h⟩ := h
      refine Rn_iald rfl (ar_Te_3 hf4 hK) hg ?_
      exact Rn_ret1 rfl h
    have ht35 : (wr p2 = 4) → ab_Rn m_EL_tally 35 [some (2, 0), some (0, p1), some (0, p2)] [] (K, S, g, r) (ab_Qi K S P) := by
      intro hc
      have h := h.2.2.2.2.1 hc
      refine Rn_pure 1 (i' := 36) (L' := [some (2, 0), some (0, p1), some (0, p2)]) (st' := [(2, 0)]) rfl ?_
      obtain ⟨hf5, h⟩ := h
      refine Rn_getR rfl (⟨rfl, (by omega : (0 : Int) ≤ 0), (by omega : (0 : Int) + 1 < K ∧ 5 < K)⟩) rfl (nn_Te hf5) ?_
      refine Rn_getR rfl (ob_Te hf5 hK) (fx_Te_4 hr hf5) (show (r 0 3 + 4 : Int) ≠ -1 by have := hf5; unfold isTe at this; omega) ?_
      refine Rn_pure 1 (i' := 39) (L' := [some (2, 0), some (0, p1), some (0, p2)]) (st' := [(0, p1), (2, r 0 3 + 4)]) rfl ?_
      obtain ⟨hg, h⟩ := h
      refine Rn_iald rfl (ar_Te_4 hf5 hK) hg ?_
      exact Rn_ret1 rfl h
    have ht41 : (wr p2 = 5) → ab_Rn m_EL_tally 41 [some (2, 0), some (0, p1), some (0, p2)] [] (K, S, g, r) (ab_Qi K S P) := by
      intro hc
      have h := h.2.2.2.2.2.1 hc
      refine Rn_pure 3 (i' := 44) (L' := [some (2, 0), some (0, p1), some (0, p2)]) (st' := [(0, (-1)), (0, p1), (2, 0)]) rfl ?_
      refine Rn_callI [(2, 0), (0, p1), (0, (-1))] [] rfl rfl rfl rfl (ab_rvB_of rfl (⟨rfl, (by omega : (0 : Int) ≤ 0), (by omega : (0 : Int) + 1 < K ∧ 5 < K)⟩)) ?_
      refine h.mono (fun x6 g' r' h => ?_)
      obtain ⟨hx, h⟩ := h
      replace hx := hx.symm
      subst hx
      obtain ⟨hx, h⟩ := h
      replace hx := hx.symm
      subst hx
      exact Rn_ret1 rfl h
    have ht46 : (wr p2 = 6) → ab_Rn m_EL_tally 46 [some (2, 0), some (0, p1), some (0, p2)] [] (K, S, g, r) (ab_Qi K S P) := by
      intro hc
      have h := h.2.2.2.2.2.2.1 hc
      refine Rn_pure 2 (i' := 48) (L' := [some (2, 0), some (0, p1), some (0, p2)]) (st' := [(0, p1), (2, 0)]) rfl ?_
      refine Rn_callI [(2, 0), (0, p1)] [] rfl rfl rfl rfl (ab_rvB_of rfl (⟨rfl, (by omega : (0 : Int) ≤ 0), (by omega : (0 : Int) + 1 < K ∧ 5 < K)⟩)) ?_
      refine h.mono (fun x7 g' r' h => ?_)
      obtain ⟨hx, h⟩ := h
      replace hx := hx.symm
      subst hx
      obtain ⟨hx, h⟩ := h
      replace hx := hx.symm
      subst hx
      refine Rn_pure 3 (i' := 52) (L' := [some (2, 0), some (0, p1), some (0, p2)]) (st' := [(0, (-1)), (0, p1), (2, 0), (0, x7)]) rfl ?_
      refine Rn_callI [(2, 0), (0, p1), (0, (-1))] [(0, x7)] rfl rfl rfl rfl (ab_rvB_of rfl (⟨rfl, (by omega : (0 : Int) ≤ 0), (by omega : (0 : Int) + 1 < K ∧ 5 < K)⟩)) ?_
      refine h.mono (fun x8 g' r' h => ?_)
      obtain ⟨hx, h⟩ := h
      replace hx := hx.symm
      subst hx
      obtain ⟨hx, h⟩ := h
      replace hx := hx.symm
      subst hx
      refine Rn_pure 1 (i' := 54) (L' := [some (2, 0), some (0, p1), some (0, p2)]) (st' := [(0, x7 - x8)]) rfl ?_
      exact Rn_ret1 rfl h
    have htd : (wr p2 < 0 ∨ 7 ≤ wr p2) → ab_Rn m_EL_tally 55 [some (2, 0), some (0, p1), some (0, p2)] [] (K, S, g, r) (ab_Qi K S P) := by
      intro hc
      have h := h.2.2.2.2.2.2.2 hc
      refine Rn_pure 1 (i' := 56) (L' := [some (2, 0), some (0, p1), some (0, p2)]) (st' := [(0, (-2147483648))]) rfl ?_
      exact Rn_ret1 rfl h
    have hsp : wr p2 < 0 ∨ 7 ≤ wr p2 ∨ wr p2 = 0 ∨ wr p2 = 1 ∨ wr p2 = 2 ∨ wr p2 = 3 ∨ wr p2 = 4 ∨ wr p2 = 5 ∨ wr p2 = 6 := by omega
    rcases hsp with hc | hc | hc | hc | hc | hc | hc | hc | hc
    · rw [ab_ts_out (hT := (rfl : ab_nth ab_tsL 1 = some (0, 55, [8, 14, 24, 29, 35, 41, 46]))) rfl (Or.inl hc)]; exact htd (by simp only [hc, true_or, or_true])
    · rw [ab_ts_out (hT := (rfl : ab_nth ab_tsL 1 = some (0, 55, [8, 14, 24, 29, 35, 41, 46]))) rfl (Or.inr hc)]; exact htd (by simp only [hc, true_or, or_true])
    · rw [ab_ts_in (j := 0) (hT := (rfl : ab_nth ab_tsL 1 = some (0, 55, [8, 14, 24, 29, 35, 41, 46]))) (by rw [hc]; rfl) rfl]; exact ht8 (by simp only [hc, true_or, or_true])
    · rw [ab_ts_in (j := 1) (hT := (rfl : ab_nth ab_tsL 1 = some (0, 55, [8, 14, 24, 29, 35, 41, 46]))) (by rw [hc]; rfl) rfl]; exact ht14 (by simp only [hc, true_or, or_true])
    · rw [ab_ts_in (j := 2) (hT := (rfl : ab_nth ab_tsL 1 = some (0, 55, [8, 14, 24, 29, 35, 41, 46]))) (by rw [hc]; rfl) rfl]; exact ht24 (by simp only [hc, true_or, or_true])
    · rw [ab_ts_in (j := 3) (hT := (rfl : ab_nth ab_tsL 1 = some (0, 55, [8, 14, 24, 29, 35, 41, 46]))) (by rw [hc]; rfl) rfl]; exact ht29 (by simp only [hc, true_or, or_true])
    · rw [ab_ts_in (j := 4) (hT := (rfl : ab_nth ab_tsL 1 = some (0, 55, [8, 14, 24, 29, 35, 41, 46]))) (by rw [hc]; rfl) rfl]; exact ht35 (by simp only [hc, true_or, or_true])
    · rw [ab_ts_in (j := 5) (hT := (rfl : ab_nth ab_tsL 1 = some (0, 55, [8, 14, 24, 29, 35, 41, 46]))) (by rw [hc]; rfl) rfl]; exact ht41 (by simp only [hc, true_or, or_true])
    · rw [ab_ts_in (j := 6) (hT := (rfl : ab_nth ab_tsL 1 = some (0, 55, [8, 14, 24, 29, 35, 41, 46]))) (by rw [hc]; rfl) rfl]; exact ht46 (by simp only [hc, true_or, or_true])
  · have h := h.2 hc
    refine Rn_pure 1 (i' := 5) (L' := [some (2, 0), some (0, p1), some (0, p2)]) (st' := [(0, (-2147483648))]) rfl ?_
    exact Rn_ret1 rfl h
-- EventLedger.sum (II)I
theorem v_EL_sum {K : Int} {S : Nat} {g r : ab_H} {p1 p2 : Int} (P : Int → ab_H → ab_H → Prop) (hr : SI r) (hK : 186 ≤ K) (h : ab_RI m_EL_isTally [(2, 0), (0, p1)] K S g r (fun x1 g' r' => g' = g ∧ r' = r ∧ (((wr x1 = wr 0 → P (-2147483648) g r) ∧ (¬ wr x1 = wr 0 → ab_RI m_EL_isAccount [(2, 0), (0, p2)] K S g r (fun x2 g' r' => g' = g ∧ r' = r ∧ (((wr x2 = wr 0 → P (-2147483648) g r) ∧ (¬ wr x2 = wr 0 → ab_RI m_EL_sumCounted [(2, 0), (0, p1), (0, p2)] K S g r (fun x3 g' r' => g' = g ∧ r' = r ∧ (P x3 g r))))))))))) : ab_RI m_EL_sum [(2, 0), (0, p1), (0, p2)] K S g r P := by
  show ab_Rn m_EL_sum 0 [some (2, 0), some (0, p1), some (0, p2)] [] (K, S, g, r) (ab_Qi K S P)
  refine Rn_pure 2 (i' := 2) (L' := [some (2, 0), some (0, p1), some (0, p2)]) (st' := [(0, p1), (2, 0)]) rfl ?_
  refine Rn_callI [(2, 0), (0, p1)] [] rfl rfl rfl rfl (ab_rvB_of rfl (⟨rfl, (by omega : (0 : Int) ≤ 0), (by omega : (0 : Int) + 1 < K ∧ 5 < K)⟩)) ?_
  refine h.mono (fun x1 g' r' h => ?_)
  obtain ⟨hx, h⟩ := h
  replace hx := hx.symm
  subst hx
  obtain ⟨hx, h⟩ := h
  replace hx := hx.symm
  subst hx
  refine Rn_ifeq rfl (fun hc => ?_) (fun hc => ?_)
  · have h := h.1 hc
    refine Rn_pure 1 (i' := 14) (L' := [some (2, 0), some (0, p1), some (0, p2)]) (st' := [(0, (-2147483648))]) rfl ?_
    exact Rn_ret1 rfl h
  · have h := h.2 hc
    refine Rn_pure 2 (i' := 6) (L' := [some (2, 0), some (0, p1), some (0, p2)]) (st' := [(0, p2), (2, 0)]) rfl ?_
    refine Rn_callI [(2, 0), (0, p2)] [] rfl rfl rfl rfl (ab_rvB_of rfl (⟨rfl, (by omega : (0 : Int) ≤ 0), (by omega : (0 : Int) + 1 < K ∧ 5 < K)⟩)) ?_
    refine h.mono (fun x2 g' r' h => ?_)
    obtain ⟨hx, h⟩ := h
    replace hx := hx.symm
    subst hx
    obtain ⟨hx, h⟩ := h
    replace hx := hx.symm
    subst hx
    refine Rn_ifeq rfl (fun hc => ?_) (fun hc => ?_)
    · have h := h.1 hc
      refine Rn_pure 1 (i' := 14) (L' := [some (2, 0), some (0, p1), some (0, p2)]) (st' := [(0, (-2147483648))]) rfl ?_
      exact Rn_ret1 rfl h
    · have h := h.2 hc
      refine Rn_pure 3 (i' := 11) (L' := [some (2, 0), some (0, p1), some (0, p2)]) (st' := [(0, p2), (0, p1), (2, 0)]) rfl ?_
      refine Rn_callI [(2, 0), (0, p1), (0, p2)] [] rfl rfl rfl rfl (ab_rvB_of rfl (⟨rfl, (by omega : (0 : Int) ≤ 0), (by omega : (0 : Int) + 1 < K ∧ 5 < K)⟩)) ?_
      refine h.mono (fun x3 g' r' h => ?_)
      obtain ⟨hx, h⟩ := h
      replace hx := hx.symm
      subst hx
      obtain ⟨hx, h⟩ := h
      replace hx := hx.symm
      subst hx
      refine Rn_pure 1 (i' := 14) (L' := [some (2, 0), some (0, p1), some (0, p2)]) (st' := [(0, x3)]) rfl ?_
      exact Rn_ret1 rfl h
-- EventLedger.chance (III)I
theorem v_EL_chance {K : Int} {S : Nat} {g r : ab_H} {p1 p2 p3 : Int} (P : Int → ab_H → ab_H → Prop) (hr : SI r) (hK : 186 ≤ K) (h : ((¬ wr p3 = wr 1 → ((wr p1 < wr (-1) → ab_Rn m_EL_chance 21 [none, none, none, none, some (0, (-1))] [] (K, S, g, r) (ab_Qi K S P)) ∧ (wr (-1) ≤ wr p1 → ((wr p2 < wr 1 → ab_Rn m_EL_chance 21 [none, none, none, none, some (0, (-1))] [] (K, S, g, r) (ab_Qi K S P)) ∧ (wr 1 ≤ wr p2 → ((wr 60 < wr p2 → ab_Rn m_EL_chance 21 [none, none, none, none, some (0, (-1))] [] (K, S, g, r) (ab_Qi K S P)) ∧ (wr p2 ≤ wr 60 → ((wr p3 < wr 0 → ab_Rn m_EL_chance 21 [none, none, none, none, some (0, (-1))] [] (K, S, g, r) (ab_Qi K S P)) ∧ (wr 0 ≤ wr p3 → ((wr p3 ≤ wr 2 → (isTe (r 0 3)) ∧ ((wr (g (r 0 3) 1) = wr 0 → ab_Rn m_EL_chance 34 [none, none, none, none, some (0, (-1))] [] (K, S, g, r) (ab_Qi K S P)) ∧ (¬ wr (g (r 0 3) 1) = wr 0 → (isLg (r 0 5)) ∧ ((wr (g (r 0 5) 10 + p2) ≤ wr 120 → (isLg (r 0 6)) ∧ (isLg (r 0 5)) ∧ ab_RV m_Lg_copyFrom [(2, r 0 6), (2, r 0 5)] K S g r (fun g5 r' => r' = r ∧ (((¬ wr p1 = wr (-1) → ab_RV m_EL_addByChance [(2, 0), (0, p1), (0, p2)] K S g5 r (fun g7 r' => r' = r ∧ (((¬ wr p3 = wr 2 → (isLg (r 0 6)) ∧ (isLg (r 0 6)) ∧ (isLg (r 0 6)) ∧ ab_RV m_St_replay [(2, 51), (2, r 0 6), (0, g7 (r 0 6) 10), (0, g7 (r 0 6) 10), (0, (-1))] K S g7 r (fun g12 r' => r' = r ∧ (((¬ wr p3 = wr 0 → ab_RI m_St_sumBalances [(2, 51)] K S g12 r (fun x14 g' r' => g' = g12 ∧ r' = r ∧ (P x14 g12 r))) ∧ (wr p3 = wr 0 → (isLg (r 0 5)) ∧ (isLg (r 0 6)) ∧ ab_RI m_St_countAside [(2, 51), (0, g12 (r 0 5) 10), (0, g12 (r 0 6) 10)] K S g12 r (fun x17 g' r' => g' = g12 ∧ r' = r ∧ (P x17 g12 r))))))) ∧ (wr p3 = wr 2 → ∀ g18, g18 = ab_up g7 59 2 (g7 57 2) → ∀ g19, g19 = ab_up g18 59 3 (g18 57 3) → (isLg (r 0 6)) ∧ (isLg (r 0 5)) ∧ ab_RI m_Sh_retake [(2, 59), (2, r 0 6), (0, g19 (r 0 5) 10)] K S g19 r (fun x23 g22 r' => r' = r ∧ (P x23 g22 r))))))) ∧ (wr p1 = wr (-1) → (isTe (r 0 3)) ∧ ab_RV m_EL_addByChance [(2, 0), (0, g5 (r 0 3) 12), (0, p2)] K S g5 r (fun g25 r' => r' = r ∧ (((¬ wr p3 = wr 2 → (isLg (r 0 6)) ∧ (isLg (r 0 6)) ∧ (isLg (r 0 6)) ∧ ab_RV m_St_replay [(2, 51), (2, r 0 6), (0, g25 (r 0 6) 10), (0, g25 (r 0 6) 10), (0, (-1))] K S g25 r (fun g30 r' => r' = r ∧ (((¬ wr p3 = wr 0 → ab_RI m_St_sumBalances [(2, 51)] K S g30 r (fun x32 g' r' => g' = g30 ∧ r' = r ∧ (P x32 g30 r))) ∧ (wr p3 = wr 0 → (isLg (r 0 5)) ∧ (isLg (r 0 6)) ∧ ab_RI m_St_countAside [(2, 51), (0, g30 (r 0 5) 10), (0, g30 (r 0 6) 10)] K S g30 r (fun x35 g' r' => g' = g30 ∧ r' = r ∧ (P x35 g30 r))))))) ∧ (wr p3 = wr 2 → ∀ g36, g36 = ab_up g25 59 2 (g25 57 2) → ∀ g37, g37 = ab_up g36 59 3 (g36 57 3) → (isLg (r 0 6)) ∧ (isLg (r 0 5)) ∧ ab_RI m_Sh_retake [(2, 59), (2, r 0 6), (0, g37 (r 0 5) 10)] K S g37 r (fun x41 g40 r' => r' = r ∧ (P x41 g40 r))))))))))) ∧ (wr 120 < wr (g (r 0 5) 10 + p2) → ab_Rn m_EL_chance 34 [none, none, none, none, some (0, (-1))] [] (K, S, g, r) (ab_Qi K S P)))))) ∧ (wr 2 < wr p3 → ab_Rn m_EL_chance 21 [none, none, none, none, some (0, (-1))] [] (K, S, g, r) (ab_Qi K S P)))))))))))) ∧ (wr p3 = wr 1 → ((wr p1 < wr (-1) → ab_Rn m_EL_chance 21 [none, none, none, none, some (0, (-2147483648))] [] (K, S, g, r) (ab_Qi K S P)) ∧ (wr (-1) ≤ wr p1 → ((wr p2 < wr 1 → ab_Rn m_EL_chance 21 [none, none, none, none, some (0, (-2147483648))] [] (K, S, g, r) (ab_Qi K S P)) ∧ (wr 1 ≤ wr p2 → ((wr 60 < wr p2 → ab_Rn m_EL_chance 21 [none, none, none, none, some (0, (-2147483648))] [] (K, S, g, r) (ab_Qi K S P)) ∧ (wr p2 ≤ wr 60 → ((wr p3 < wr 0 → ab_Rn m_EL_chance 21 [none, none, none, none, some (0, (-2147483648))] [] (K, S, g, r) (ab_Qi K S P)) ∧ (wr 0 ≤ wr p3 → ((wr p3 ≤ wr 2 → (isTe (r 0 3)) ∧ ((wr (g (r 0 3) 1) = wr 0 → ab_Rn m_EL_chance 34 [none, none, none, none, some (0, (-2147483648))] [] (K, S, g, r) (ab_Qi K S P)) ∧ (¬ wr (g (r 0 3) 1) = wr 0 → (isLg (r 0 5)) ∧ ((wr (g (r 0 5) 10 + p2) ≤ wr 120 → (isLg (r 0 6)) ∧ (isLg (r 0 5)) ∧ ab_RV m_Lg_copyFrom [(2, r 0 6), (2, r 0 5)] K S g r (fun g46 r' => r' = r ∧ (((¬ wr p1 = wr (-1) → ab_RV m_EL_addByChance [(2, 0), (0, p1), (0, p2)] K S g46 r (fun g48 r' => r' = r ∧ (((¬ wr p3 = wr 2 → (isLg (r 0 6)) ∧ (isLg (r 0 6)) ∧ (isLg (r 0 6)) ∧ ab_RV m_St_replay [(2, 51), (2, r 0 6), (0, g48 (r 0 6) 10), (0, g48 (r 0 6) 10), (0, (-1))] K S g48 r (fun g53 r' => r' = r ∧ (((¬ wr p3 = wr 0 → ab_RI m_St_sumBalances [(2, 51)] K S g53 r (fun x55 g' r' => g' = g53 ∧ r' = r ∧ (P x55 g53 r))) ∧ (wr p3 = wr 0 → (isLg (r 0 5)) ∧ (isLg (r 0 6)) ∧ ab_RI m_St_countAside [(2, 51), (0, g53 (r 0 5) 10), (0, g53 (r 0 6) 10)] K S g53 r (fun x58 g' r' => g' = g53 ∧ r' = r ∧ (P x58 g53 r))))))) ∧ (wr p3 = wr 2 → ∀ g59, g59 = ab_up g48 59 2 (g48 57 2) → ∀ g60, g60 = ab_up g59 59 3 (g59 57 3) → (isLg (r 0 6)) ∧ (isLg (r 0 5)) ∧ ab_RI m_Sh_retake [(2, 59), (2, r 0 6), (0, g60 (r 0 5) 10)] K S g60 r (fun x64 g63 r' => r' = r ∧ (P x64 g63 r))))))) ∧ (wr p1 = wr (-1) → (isTe (r 0 3)) ∧ ab_RV m_EL_addByChance [(2, 0), (0, g46 (r 0 3) 12), (0, p2)] K S g46 r (fun g66 r' => r' = r ∧ (((¬ wr p3 = wr 2 → (isLg (r 0 6)) ∧ (isLg (r 0 6)) ∧ (isLg (r 0 6)) ∧ ab_RV m_St_replay [(2, 51), (2, r 0 6), (0, g66 (r 0 6) 10), (0, g66 (r 0 6) 10), (0, (-1))] K S g66 r (fun g71 r' => r' = r ∧ (((¬ wr p3 = wr 0 → ab_RI m_St_sumBalances [(2, 51)] K S g71 r (fun x73 g' r' => g' = g71 ∧ r' = r ∧ (P x73 g71 r))) ∧ (wr p3 = wr 0 → (isLg (r 0 5)) ∧ (isLg (r 0 6)) ∧ ab_RI m_St_countAside [(2, 51), (0, g71 (r 0 5) 10), (0, g71 (r 0 6) 10)] K S g71 r (fun x76 g' r' => g' = g71 ∧ r' = r ∧ (P x76 g71 r))))))) ∧ (wr p3 = wr 2 → ∀ g77, g77 = ab_up g66 59 2 (g66 57 2) → ∀ g78, g78 = ab_up g77 59 3 (g77 57 3) → (isLg (r 0 6)) ∧ (isLg (r 0 5)) ∧ ab_RI m_Sh_retake [(2, 59), (2, r 0 6), (0, g78 (r 0 5) 10)] K S g78 r (fun x82 g81 r' => r' = r ∧ (P x82 g81 r))))))))))) ∧ (wr 120 < wr (g (r 0 5) 10 + p2) → ab_Rn m_EL_chance 34 [none, none, none, none, some (0, (-2147483648))] [] (K, S, g, r) (ab_Qi K S P)))))) ∧ (wr 2 < wr p3 → ab_Rn m_EL_chance 21 [none, none, none, none, some (0, (-2147483648))] [] (K, S, g, r) (ab_Qi K S P)))))))))))))) : ab_RI m_EL_chance [(2, 0), (0, p1), (0, p2), (0, p3)] K S g r P := by
  show ab_Rn m_EL_chance 0 [some (2, 0), some (0, p1), some (0, p2), some (0, p3), none] [] (K, S, g, r) (ab_Qi K S P)
  refine Rn_pure 2 (i' := 2) (L' := [some (2, 0), some (0, p1), some (0, p2), some (0, p3), none]) (st' := [(0, 1), (0, p3)]) rfl ?_
  refine Rn_icne rfl (fun hc => ?_) (fun hc => ?_)
  · have h := h.1 hc
    refine Rn_pure 4 (i' := 9) (L' := [some (2, 0), some (0, p1), some (0, p2), some (0, p3), some (0, (-1))]) (st' := [(0, (-1)), (0, p1)]) rfl ?_
    refine Rn_iclt rfl (fun hc => ?_) (fun hc => ?_)
    · have h := h.1 hc
      refine Rn_weak (L' := [none, none, none, none, some (0, (-1))]) ⟨rfl, trivial⟩ ?_
      exact h
    · have h := h.2 hc
      refine Rn_pure 2 (i' := 12) (L' := [some (2, 0), some (0, p1), some (0, p2), some (0, p3), some (0, (-1))]) (st' := [(0, 1), (0, p2)]) rfl ?_
      refine Rn_iclt rfl (fun hc => ?_) (fun hc => ?_)
      · have h := h.1 hc
        refine Rn_weak (L' := [none, none, none, none, some (0, (-1))]) ⟨rfl, trivial⟩ ?_
        exact h
      · have h := h.2 hc
        refine Rn_pure 2 (i' := 15) (L' := [some (2, 0), some (0, p1), some (0, p2), some (0, p3), some (0, (-1))]) (st' := [(0, 60), (0, p2)]) rfl ?_
        refine Rn_icgt rfl (fun hc => ?_) (fun hc => ?_)
        · have h := h.1 hc
          refine Rn_weak (L' := [none, none, none, none, some (0, (-1))]) ⟨rfl, trivial⟩ ?_
          exact h
        · have h := h.2 hc
          refine Rn_pure 1 (i' := 17) (L' := [some (2, 0), some (0, p1), some (0, p2), some (0, p3), some (0, (-1))]) (st' := [(0, p3)]) rfl ?_
          refine Rn_iflt rfl (fun hc => ?_) (fun hc => ?_)
          · have h := h.1 hc
            refine Rn_weak (L' := [none, none, none, none, some (0, (-1))]) ⟨rfl, trivial⟩ ?_
            exact h
          · have h := h.2 hc
            refine Rn_pure 2 (i' := 20) (L' := [some (2, 0), some (0, p1), some (0, p2), some (0, p3), some (0, (-1))]) (st' := [(0, 2), (0, p3)]) rfl ?_
            refine Rn_icle rfl (fun hc => ?_) (fun hc => ?_)
            · have h := h.1 hc
              refine Rn_pure 1 (i' := 24) (L' := [some (2, 0), some (0, p1), some (0, p2), some (0, p3), some (0, (-1))]) (st' := [(2, 0)]) rfl ?_
              obtain ⟨hf1, h⟩ := h
              refine Rn_getR rfl (⟨rfl, (by omega : (0 : Int) ≤ 0), (by omega : (0 : Int) + 1 < K ∧ 5 < K)⟩) rfl (nn_Te hf1) ?_
              refine Rn_getI rfl (ob_Te hf1 hK) ?_
              refine Rn_ifeq rfl (fun hc => ?_) (fun hc => ?_)
              · have h := h.1 hc
                refine Rn_weak (L' := [none, none, none, none, some (0, (-1))]) ⟨rfl, trivial⟩ ?_
                exact h
              · have h := h.2 hc
                refine Rn_pure 1 (i' := 28) (L' := [some (2, 0), some (0, p1), some (0, p2), some (0, p3), some (0, (-1))]) (st' := [(2, 0)]) rfl ?_
                obtain ⟨hf2, h⟩ := h
                refine Rn_getR rfl (⟨rfl, (by omega : (0 : Int) ≤ 0), (by omega : (0 : Int) + 1 < K ∧ 5 < K)⟩) rfl (nn_Lg hf2) ?_
                refine Rn_getI rfl (ob_Lg hf2 hK) ?_
                refine Rn_pure 3 (i' := 33) (L' := [some (2, 0), some (0, p1), some (0, p2), some (0, p3), some (0, (-1))]) (st' := [(0, 120), (0, g (r 0 5) 10 + p2)]) rfl ?_
                refine Rn_icle rfl (fun hc => ?_) (fun hc => ?_)
                · have h := h.1 hc
                  refine Rn_pure 1 (i' := 37) (L' := [some (2, 0), some (0, p1), some (0, p2), some (0, p3), some (0, (-1))]) (st' := [(2, 0)]) rfl ?_
                  obtain ⟨hf3, h⟩ := h
                  refine Rn_getR rfl (⟨rfl, (by omega : (0 : Int) ≤ 0), (by omega : (0 : Int) + 1 < K ∧ 5 < K)⟩) rfl (nn_Lg hf3) ?_
                  refine Rn_pure 1 (i' := 39) (L' := [some (2, 0), some (0, p1), some (0, p2), some (0, p3), some (0, (-1))]) (st' := [(2, 0), (2, r 0 6)]) rfl ?_
                  obtain ⟨hf4, h⟩ := h
                  refine Rn_getR rfl (⟨rfl, (by omega : (0 : Int) ≤ 0), (by omega : (0 : Int) + 1 < K ∧ 5 < K)⟩) rfl (nn_Lg hf4) ?_
                  refine Rn_callV [(2, r 0 6), (2, r 0 5)] [] rfl rfl rfl rfl (ab_rvB_of rfl (ob_Lg hf3 hK)) ?_
                  refine h.mono (fun g5 r' h => ?_)
                  obtain ⟨hx, h⟩ := h
                  replace hx := hx.symm
                  subst hx
                  refine Rn_pure 3 (i' := 44) (L' := [some (2, 0), some (0, p1), some (0, p2), some (0, p3), some (0, (-1))]) (st' := [(0, (-1)), (0, p1), (2, 0)]) rfl ?_
                  refine Rn_icne rfl (fun hc => ?_) (fun hc => ?_)
                  · have h := h.1 hc
                    refine Rn_pure 2 (i' := 51) (L' := [some (2, 0), some (0, p1), some (0, p2), some (0, p3), some (0, (-1))]) (st' := [(0, p2), (0, p1), (2, 0)]) rfl ?_
                    refine Rn_callV [(2, 0), (0, p1), (0, p2)] [] rfl rfl rfl rfl (ab_rvB_of rfl (⟨rfl, (by omega : (0 : Int) ≤ 0), (by omega : (0 : Int) + 1 < K ∧ 5 < K)⟩)) ?_
                    refine h.mono (fun g7 r' h => ?_)
                    obtain ⟨hx, h⟩ := h
                    replace hx := hx.symm
                    subst hx
                    refine Rn_pure 2 (i' := 54) (L' := [some (2, 0), some (0, p1), some (0, p2), some (0, p3), some (0, (-1))]) (st' := [(0, 2), (0, p3)]) rfl ?_
                    refine Rn_icne rfl (fun hc => ?_) (fun hc => ?_)
                    · have h := h.1 hc
                      refine Rn_pure 1 (i' := 77) (L' := [some (2, 0), some (0, p1), some (0, p2), some (0, p3), some (0, (-1))]) (st' := [(2, 0)]) rfl ?_
                      refine Rn_getR rfl (⟨rfl, (by omega : (0 : Int) ≤ 0), (by omega : (0 : Int) + 1 < K ∧ 5 < K)⟩) (hr 3 _ rfl) (by decide) ?_
                      refine Rn_pure 1 (i' := 79) (L' := [some (2, 0), some (0, p1), some (0, p2), some (0, p3), some (0, (-1))]) (st' := [(2, 0), (2, 51)]) rfl ?_
                      obtain ⟨hf9, h⟩ := h
                      refine Rn_getR rfl (⟨rfl, (by omega : (0 : Int) ≤ 0), (by omega : (0 : Int) + 1 < K ∧ 5 < K)⟩) rfl (nn_Lg hf9) ?_
                      refine Rn_pure 1 (i' := 81) (L' := [some (2, 0), some (0, p1), some (0, p2), some (0, p3), some (0, (-1))]) (st' := [(2, 0), (2, r 0 6), (2, 51)]) rfl ?_
                      obtain ⟨hf10, h⟩ := h
                      refine Rn_getR rfl (⟨rfl, (by omega : (0 : Int) ≤ 0), (by omega : (0 : Int) + 1 < K ∧ 5 < K)⟩) rfl (nn_Lg hf10) ?_
                      refine Rn_getI rfl (ob_Lg hf10 hK) ?_
                      refine Rn_pure 1 (i' := 84) (L' := [some (2, 0), some (0, p1), some (0, p2), some (0, p3), some (0, (-1))]) (st' := [(2, 0), (0, g7 (r 0 6) 10), (2, r 0 6), (2, 51)]) rfl ?_
                      obtain ⟨hf11, h⟩ := h
                      refine Rn_getR rfl (⟨rfl, (by omega : (0 : Int) ≤ 0), (by omega : (0 : Int) + 1 < K ∧ 5 < K)⟩) rfl (nn_Lg hf11) ?_
                      refine Rn_getI rfl (ob_Lg hf11 hK) ?_
                      refine Rn_pure 1 (i' := 87) (L' := [some (2, 0), some (0, p1), some (0, p2), some (0, p3), some (0, (-1))]) (st' := [(0, (-1)), (0, g7 (r 0 6) 10), (0, g7 (r 0 6) 10), (2, r 0 6), (2, 51)]) rfl ?_
                      refine Rn_callV [(2, 51), (2, r 0 6), (0, g7 (r 0 6) 10), (0, g7 (r 0 6) 10), (0, (-1))] [] rfl rfl rfl rfl (ab_rvB_of rfl (⟨rfl, (by omega : (0 : Int) ≤ 51), (by omega : (51 : Int) + 1 < K ∧ 5 < K)⟩)) ?_
                      refine h.mono (fun g12 r' h => ?_)
                      obtain ⟨hx, h⟩ := h
                      replace hx := hx.symm
                      subst hx
                      refine Rn_pure 1 (i' := 89) (L' := [some (2, 0), some (0, p1), some (0, p2), some (0, p3), some (0, (-1))]) (st' := [(0, p3)]) rfl ?_
                      refine Rn_ifne rfl (fun hc => ?_) (fun hc => ?_)
                      · have h := h.1 hc
                        refine Rn_pure 1 (i' := 101) (L' := [some (2, 0), some (0, p1), some (0, p2), some (0, p3), some (0, (-1))]) (st' := [(2, 0)]) rfl ?_
                        refine Rn_getR rfl (⟨rfl, (by omega : (0 : Int) ≤ 0), (by omega : (0 : Int) + 1 < K ∧ 5 < K)⟩) (hr 3 _ rfl) (by decide) ?_
                        refine Rn_callI [(2, 51)] [] rfl rfl rfl rfl (ab_rvB_of rfl (⟨rfl, (by omega : (0 : Int) ≤ 51), (by omega : (51 : Int) + 1 < K ∧ 5 < K)⟩)) ?_
                        refine h.mono (fun x14 g' r' h => ?_)
                        obtain ⟨hx, h⟩ := h
                        replace hx := hx.symm
                        subst hx
                        obtain ⟨hx, h⟩ := h
                        replace hx := hx.symm
                        subst hx
                        exact Rn_ret1 rfl h
                      · have h := h.2 hc
                        refine Rn_pure 1 (i' := 91) (L' := [some (2, 0), some (0, p1), some (0, p2), some (0, p3), some (0, (-1))]) (st' := [(2, 0)]) rfl ?_
                        refine Rn_getR rfl (⟨rfl, (by omega : (0 : Int) ≤ 0), (by omega : (0 : Int) + 1 < K ∧ 5 < K)⟩) (hr 3 _ rfl) (by decide) ?_
                        refine Rn_pure 1 (i' := 93) (L' := [some (2, 0), some (0, p1), some (0, p2), some (0, p3), some (0, (-1))]) (st' := [(2, 0), (2, 51)]) rfl ?_
                        obtain ⟨hf15, h⟩ := h
                        refine Rn_getR rfl (⟨rfl, (by omega : (0 : Int) ≤ 0), (by omega : (0 : Int) + 1 < K ∧ 5 < K)⟩) rfl (nn_Lg hf15) ?_
                        refine Rn_getI rfl (ob_Lg hf15 hK) ?_
                        refine Rn_pure 1 (i' := 96) (L' := [some (2, 0), some (0, p1), some (0, p2), some (0, p3), some (0, (-1))]) (st' := [(2, 0), (0, g12 (r 0 5) 10), (2, 51)]) rfl ?_
                        obtain ⟨hf16, h⟩ := h
                        refine Rn_getR rfl (⟨rfl, (by omega : (0 : Int) ≤ 0), (by omega : (0 : Int) + 1 < K ∧ 5 < K)⟩) rfl (nn_Lg hf16) ?_
                        refine Rn_getI rfl (ob_Lg hf16 hK) ?_
                        refine Rn_callI [(2, 51), (0, g12 (r 0 5) 10), (0, g12 (r 0 6) 10)] [] rfl rfl rfl rfl (ab_rvB_of rfl (⟨rfl, (by omega : (0 : Int) ≤ 51), (by omega : (51 : Int) + 1 < K ∧ 5 < K)⟩)) ?_
                        refine h.mono (fun x17 g' r' h => ?_)
                        obtain ⟨hx, h⟩ := h
                        replace hx := hx.symm
                        subst hx
                        obtain ⟨hx, h⟩ := h
                        replace hx := hx.symm
                        subst hx
                        refine Rn_pure 1 (i' := 103) (L' := [some (2, 0), some (0, p1), some (0, p2), some (0, p3), some (0, (-1))]) (st' := [(0, x17)]) rfl ?_
                        exact Rn_ret1 rfl h
                    · have h := h.2 hc
                      refine Rn_pure 1 (i' := 56) (L' := [some (2, 0), some (0, p1), some (0, p2), some (0, p3), some (0, (-1))]) (st' := [(2, 0)]) rfl ?_
                      refine Rn_getR rfl (⟨rfl, (by omega : (0 : Int) ≤ 0), (by omega : (0 : Int) + 1 < K ∧ 5 < K)⟩) (hr 5 _ rfl) (by decide) ?_
                      refine Rn_pure 1 (i' := 58) (L' := [some (2, 0), some (0, p1), some (0, p2), some (0, p3), some (0, (-1))]) (st' := [(2, 0), (2, 59)]) rfl ?_
                      refine Rn_getR rfl (⟨rfl, (by omega : (0 : Int) ≤ 0), (by omega : (0 : Int) + 1 < K ∧ 5 < K)⟩) (hr 4 _ rfl) (by decide) ?_
                      refine Rn_getI rfl (⟨rfl, (by omega : (0 : Int) ≤ 57), (by omega : (57 : Int) + 1 < K ∧ 5 < K)⟩) ?_
                      refine Rn_putI rfl (⟨rfl, (by omega : (0 : Int) ≤ 59), (by omega : (59 : Int) + 1 < K ∧ 5 < K)⟩) (fun g18 he_g18 => ?_)
                      have h := h g18 he_g18
                      refine Rn_pure 1 (i' := 62) (L' := [some (2, 0), some (0, p1), some (0, p2), some (0, p3), some (0, (-1))]) (st' := [(2, 0)]) rfl ?_
                      refine Rn_getR rfl (⟨rfl, (by omega : (0 : Int) ≤ 0), (by omega : (0 : Int) + 1 < K ∧ 5 < K)⟩) (hr 5 _ rfl) (by decide) ?_
                      refine Rn_pure 1 (i' := 64) (L' := [some (2, 0), some (0, p1), some (0, p2), some (0, p3), some (0, (-1))]) (st' := [(2, 0), (2, 59)]) rfl ?_
                      refine Rn_getR rfl (⟨rfl, (by omega : (0 : Int) ≤ 0), (by omega : (0 : Int) + 1 < K ∧ 5 < K)⟩) (hr 4 _ rfl) (by decide) ?_
                      refine Rn_getI rfl (⟨rfl, (by omega : (0 : Int) ≤ 57), (by omega : (57 : Int) + 1 < K ∧ 5 < K)⟩) ?_
                      refine Rn_putI rfl (⟨rfl, (by omega : (0 : Int) ≤ 59), (by omega : (59 : Int) + 1 < K ∧ 5 < K)⟩) (fun g19 he_g19 => ?_)
                      have h := h g19 he_g19
                      refine Rn_pure 1 (i' := 68) (L' := [some (2, 0), some (0, p1), some (0, p2), some (0, p3), some (0, (-1))]) (st' := [(2, 0)]) rfl ?_
                      refine Rn_getR rfl (⟨rfl, (by omega : (0 : Int) ≤ 0), (by omega : (0 : Int) + 1 < K ∧ 5 < K)⟩) (hr 5 _ rfl) (by decide) ?_
                      refine Rn_pure 1 (i' := 70) (L' := [some (2, 0), some (0, p1), some (0, p2), some (0, p3), some (0, (-1))]) (st' := [(2, 0), (2, 59)]) rfl ?_
                      obtain ⟨hf20, h⟩ := h
                      refine Rn_getR rfl (⟨rfl, (by omega : (0 : Int) ≤ 0), (by omega : (0 : Int) + 1 < K ∧ 5 < K)⟩) rfl (nn_Lg hf20) ?_
                      refine Rn_pure 1 (i' := 72) (L' := [some (2, 0), some (0, p1), some (0, p2), some (0, p3), some (0, (-1))]) (st' := [(2, 0), (2, r 0 6), (2, 59)]) rfl ?_
                      obtain ⟨hf21, h⟩ := h
                      refine Rn_getR rfl (⟨rfl, (by omega : (0 : Int) ≤ 0), (by omega : (0 : Int) + 1 < K ∧ 5 < K)⟩) rfl (nn_Lg hf21) ?_
                      refine Rn_getI rfl (ob_Lg hf21 hK) ?_
                      refine Rn_callI [(2, 59), (2, r 0 6), (0, g19 (r 0 5) 10)] [] rfl rfl rfl rfl (ab_rvB_of rfl (⟨rfl, (by omega : (0 : Int) ≤ 59), (by omega : (59 : Int) + 1 < K ∧ 5 < K)⟩)) ?_
                      refine h.mono (fun x23 g22 r' h => ?_)
                      obtain ⟨hx, h⟩ := h
                      replace hx := hx.symm
                      subst hx
                      exact Rn_ret1 rfl h
                  · have h := h.2 hc
                    refine Rn_pure 1 (i' := 46) (L' := [some (2, 0), some (0, p1), some (0, p2), some (0, p3), some (0, (-1))]) (st' := [(2, 0), (2, 0)]) rfl ?_
                    obtain ⟨hf24, h⟩ := h
                    refine Rn_getR rfl (⟨rfl, (by omega : (0 : Int) ≤ 0), (by omega : (0 : Int) + 1 < K ∧ 5 < K)⟩) rfl (nn_Te hf24) ?_
                    refine Rn_getI rfl (ob_Te hf24 hK) ?_
                    refine Rn_pure 2 (i' := 51) (L' := [some (2, 0), some (0, p1), some (0, p2), some (0, p3), some (0, (-1))]) (st' := [(0, p2), (0, g5 (r 0 3) 12), (2, 0)]) rfl ?_
                    refine Rn_callV [(2, 0), (0, g5 (r 0 3) 12), (0, p2)] [] rfl rfl rfl rfl (ab_rvB_of rfl (⟨rfl, (by omega : (0 : Int) ≤ 0), (by omega : (0 : Int) + 1 < K ∧ 5 < K)⟩)) ?_
                    refine h.mono (fun g25 r' h => ?_)
                    obtain ⟨hx, h⟩ := h
                    replace hx := hx.symm
                    subst hx
                    refine Rn_pure 2 (i' := 54) (L' := [some (2, 0), some (0, p1), some (0, p2), some (0, p3), some (0, (-1))]) (st' := [(0, 2), (0, p3)]) rfl ?_
                    refine Rn_icne rfl (fun hc => ?_) (fun hc => ?_)
                    · have h := h.1 hc
                      refine Rn_pure 1 (i' := 77) (L' := [some (2, 0), some (0, p1), some (0, p2), some (0, p3), some (0, (-1))]) (st' := [(2, 0)]) rfl ?_
                      refine Rn_getR rfl (⟨rfl, (by omega : (0 : Int) ≤ 0), (by omega : (0 : Int) + 1 < K ∧ 5 < K)⟩) (hr 3 _ rfl) (by decide) ?_
                      refine Rn_pure 1 (i' := 79) (L' := [some (2, 0), some (0, p1), some (0, p2), some (0, p3), some (0, (-1))]) (st' := [(2, 0), (2, 51)]) rfl ?_
                      obtain ⟨hf27, h⟩ := h
                      refine Rn_getR rfl (⟨rfl, (by omega : (0 : Int) ≤ 0), (by omega : (0 : Int) + 1 < K ∧ 5 < K)⟩) rfl (nn_Lg hf27) ?_
                      refine Rn_pure 1 (i' := 81) (L' := [some (2, 0), some (0, p1), some (0, p2), some (0, p3), some (0, (-1))]) (st' := [(2, 0), (2, r 0 6), (2, 51)]) rfl ?_
                      obtain ⟨hf28, h⟩ := h
                      refine Rn_getR rfl (⟨rfl, (by omega : (0 : Int) ≤ 0), (by omega : (0 : Int) + 1 < K ∧ 5 < K)⟩) rfl (nn_Lg hf28) ?_
                      refine Rn_getI rfl (ob_Lg hf28 hK) ?_
                      refine Rn_pure 1 (i' := 84) (L' := [some (2, 0), some (0, p1), some (0, p2), some (0, p3), some (0, (-1))]) (st' := [(2, 0), (0, g25 (r 0 6) 10), (2, r 0 6), (2, 51)]) rfl ?_
                      obtain ⟨hf29, h⟩ := h
                      refine Rn_getR rfl (⟨rfl, (by omega : (0 : Int) ≤ 0), (by omega : (0 : Int) + 1 < K ∧ 5 < K)⟩) rfl (nn_Lg hf29) ?_
                      refine Rn_getI rfl (ob_Lg hf29 hK) ?_
                      refine Rn_pure 1 (i' := 87) (L' := [some (2, 0), some (0, p1), some (0, p2), some (0, p3), some (0, (-1))]) (st' := [(0, (-1)), (0, g25 (r 0 6) 10), (0, g25 (r 0 6) 10), (2, r 0 6), (2, 51)]) rfl ?_
                      refine Rn_callV [(2, 51), (2, r 0 6), (0, g25 (r 0 6) 10), (0, g25 (r 0 6) 10), (0, (-1))] [] rfl rfl rfl rfl (ab_rvB_of rfl (⟨rfl, (by omega : (0 : Int) ≤ 51), (by omega : (51 : Int) + 1 < K ∧ 5 < K)⟩)) ?_
                      refine h.mono (fun g30 r' h => ?_)
                      obtain ⟨hx, h⟩ := h
                      replace hx := hx.symm
                      subst hx
                      refine Rn_pure 1 (i' := 89) (L' := [some (2, 0), some (0, p1), some (0, p2), some (0, p3), some (0, (-1))]) (st' := [(0, p3)]) rfl ?_
                      refine Rn_ifne rfl (fun hc => ?_) (fun hc => ?_)
                      · have h := h.1 hc
                        refine Rn_pure 1 (i' := 101) (L' := [some (2, 0), some (0, p1), some (0, p2), some (0, p3), some (0, (-1))]) (st' := [(2, 0)]) rfl ?_
                        refine Rn_getR rfl (⟨rfl, (by omega : (0 : Int) ≤ 0), (by omega : (0 : Int) + 1 < K ∧ 5 < K)⟩) (hr 3 _ rfl) (by decide) ?_
                        refine Rn_callI [(2, 51)] [] rfl rfl rfl rfl (ab_rvB_of rfl (⟨rfl, (by omega : (0 : Int) ≤ 51), (by omega : (51 : Int) + 1 < K ∧ 5 < K)⟩)) ?_
                        refine h.mono (fun x32 g' r' h => ?_)
                        obtain ⟨hx, h⟩ := h
                        replace hx := hx.symm
                        subst hx
                        obtain ⟨hx, h⟩ := h
                        replace hx := hx.symm
                        subst hx
                        exact Rn_ret1 rfl h
                      · have h := h.2 hc
                        refine Rn_pure 1 (i' := 91) (L' := [some (2, 0), some (0, p1), some (0, p2), some (0, p3), some (0, (-1))]) (st' := [(2, 0)]) rfl ?_
                        refine Rn_getR rfl (⟨rfl, (by omega : (0 : Int) ≤ 0), (by omega : (0 : Int) + 1 < K ∧ 5 < K)⟩) (hr 3 _ rfl) (by decide) ?_
                        refine Rn_pure 1 (i' := 93) (L' := [some (2, 0), some (0, p1), some (0, p2), some (0, p3), some (0, (-1))]) (st' := [(2, 0), (2, 51)]) rfl ?_
                        obtain ⟨hf33, h⟩ := h
                        refine Rn_getR rfl (⟨rfl, (by omega : (0 : Int) ≤ 0), (by omega : (0 : Int) + 1 < K ∧ 5 < K)⟩) rfl (nn_Lg hf33) ?_
                        refine Rn_getI rfl (ob_Lg hf33 hK) ?_
                        refine Rn_pure 1 (i' := 96) (L' := [some (2, 0), some (0, p1), some (0, p2), some (0, p3), some (0, (-1))]) (st' := [(2, 0), (0, g30 (r 0 5) 10), (2, 51)]) rfl ?_
                        obtain ⟨hf34, h⟩ := h
                        refine Rn_getR rfl (⟨rfl, (by omega : (0 : Int) ≤ 0), (by omega : (0 : Int) + 1 < K ∧ 5 < K)⟩) rfl (nn_Lg hf34) ?_
                        refine Rn_getI rfl (ob_Lg hf34 hK) ?_
                        refine Rn_callI [(2, 51), (0, g30 (r 0 5) 10), (0, g30 (r 0 6) 10)] [] rfl rfl rfl rfl (ab_rvB_of rfl (⟨rfl, (by omega : (0 : Int) ≤ 51), (by omega : (51 : Int) + 1 < K ∧ 5 < K)⟩)) ?_
                        refine h.mono (fun x35 g' r' h => ?_)
                        obtain ⟨hx, h⟩ := h
                        replace hx := hx.symm
                        subst hx
                        obtain ⟨hx, h⟩ := h
                        replace hx := hx.symm
                        subst hx
                        refine Rn_pure 1 (i' := 103) (L' := [some (2, 0), some (0, p1), some (0, p2), some (0, p3), some (0, (-1))]) (st' := [(0, x35)]) rfl ?_
                        exact Rn_ret1 rfl h
                    · have h := h.2 hc
                      refine Rn_pure 1 (i' := 56) (L' := [some (2, 0), some (0, p1), some (0, p2), some (0, p3), some (0, (-1))]) (st' := [(2, 0)]) rfl ?_
                      refine Rn_getR rfl (⟨rfl, (by omega : (0 : Int) ≤ 0), (by omega : (0 : Int) + 1 < K ∧ 5 < K)⟩) (hr 5 _ rfl) (by decide) ?_
                      refine Rn_pure 1 (i' := 58) (L' := [some (2, 0), some (0, p1), some (0, p2), some (0, p3), some (0, (-1))]) (st' := [(2, 0), (2, 59)]) rfl ?_
                      refine Rn_getR rfl (⟨rfl, (by omega : (0 : Int) ≤ 0), (by omega : (0 : Int) + 1 < K ∧ 5 < K)⟩) (hr 4 _ rfl) (by decide) ?_
                      refine Rn_getI rfl (⟨rfl, (by omega : (0 : Int) ≤ 57), (by omega : (57 : Int) + 1 < K ∧ 5 < K)⟩) ?_
                      refine Rn_putI rfl (⟨rfl, (by omega : (0 : Int) ≤ 59), (by omega : (59 : Int) + 1 < K ∧ 5 < K)⟩) (fun g36 he_g36 => ?_)
                      have h := h g36 he_g36
                      refine Rn_pure 1 (i' := 62) (L' := [some (2, 0), some (0, p1), some (0, p2), some (0, p3), some (0, (-1))]) (st' := [(2, 0)]) rfl ?_
                      refine Rn_getR rfl (⟨rfl, (by omega : (0 : Int) ≤ 0), (by omega : (0 : Int) + 1 < K ∧ 5 < K)⟩) (hr 5 _ rfl) (by decide) ?_
                      refine Rn_pure 1 (i' := 64) (L' := [some (2, 0), some (0, p1), some (0, p2), some (0, p3), some (0, (-1))]) (st' := [(2, 0), (2, 59)]) rfl ?_
                      refine Rn_getR rfl (⟨rfl, (by omega : (0 : Int) ≤ 0), (by omega : (0 : Int) + 1 < K ∧ 5 < K)⟩) (hr 4 _ rfl) (by decide) ?_
                      refine Rn_getI rfl (⟨rfl, (by omega : (0 : Int) ≤ 57), (by omega : (57 : Int) + 1 < K ∧ 5 < K)⟩) ?_
                      refine Rn_putI rfl (⟨rfl, (by omega : (0 : Int) ≤ 59), (by omega : (59 : Int) + 1 < K ∧ 5 < K)⟩) (fun g37 he_g37 => ?_)
                      have h := h g37 he_g37
                      refine Rn_pure 1 (i' := 68) (L' := [some (2, 0), some (0, p1), some (0, p2), some (0, p3), some (0, (-1))]) (st' := [(2, 0)]) rfl ?_
                      refine Rn_getR rfl (⟨rfl, (by omega : (0 : Int) ≤ 0), (by omega : (0 : Int) + 1 < K ∧ 5 < K)⟩) (hr 5 _ rfl) (by decide) ?_
                      refine Rn_pure 1 (i' := 70) (L' := [some (2, 0), some (0, p1), some (0, p2), some (0, p3), some (0, (-1))]) (st' := [(2, 0), (2, 59)]) rfl ?_
                      obtain ⟨hf38, h⟩ := h
                      refine Rn_getR rfl (⟨rfl, (by omega : (0 : Int) ≤ 0), (by omega : (0 : Int) + 1 < K ∧ 5 < K)⟩) rfl (nn_Lg hf38) ?_
                      refine Rn_pure 1 (i' := 72) (L' := [some (2, 0), some (0, p1), some (0, p2), some (0, p3), some (0, (-1))]) (st' := [(2, 0), (2, r 0 6), (2, 59)]) rfl ?_
                      obtain ⟨hf39, h⟩ := h
                      refine Rn_getR rfl (⟨rfl, (by omega : (0 : Int) ≤ 0), (by omega : (0 : Int) + 1 < K ∧ 5 < K)⟩) rfl (nn_Lg hf39) ?_
                      refine Rn_getI rfl (ob_Lg hf39 hK) ?_
                      refine Rn_callI [(2, 59), (2, r 0 6), (0, g37 (r 0 5) 10)] [] rfl rfl rfl rfl (ab_rvB_of rfl (⟨rfl, (by omega : (0 : Int) ≤ 59), (by omega : (59 : Int) + 1 < K ∧ 5 < K)⟩)) ?_
                      refine h.mono (fun x41 g40 r' h => ?_)
                      obtain ⟨hx, h⟩ := h
                      replace hx := hx.symm
                      subst hx
                      exact Rn_ret1 rfl h
                · have h := h.2 hc
                  refine Rn_weak (L' := [none, none, none, none, some (0, (-1))]) ⟨rfl, trivial⟩ ?_
                  exact h
            · have h := h.2 hc
              refine Rn_weak (L' := [none, none, none, none, some (0, (-1))]) ⟨rfl, trivial⟩ ?_
              exact h
  · have h := h.2 hc
    refine Rn_pure 5 (i' := 9) (L' := [some (2, 0), some (0, p1), some (0, p2), some (0, p3), some (0, (-2147483648))]) (st' := [(0, (-1)), (0, p1)]) rfl ?_
    refine Rn_iclt rfl (fun hc => ?_) (fun hc => ?_)
    · have h := h.1 hc
      refine Rn_weak (L' := [none, none, none, none, some (0, (-2147483648))]) ⟨rfl, trivial⟩ ?_
      exact h
    · have h := h.2 hc
      refine Rn_pure 2 (i' := 12) (L' := [some (2, 0), some (0, p1), some (0, p2), some (0, p3), some (0, (-2147483648))]) (st' := [(0, 1), (0, p2)]) rfl ?_
      refine Rn_iclt rfl (fun hc => ?_) (fun hc => ?_)
      · have h := h.1 hc
        refine Rn_weak (L' := [none, none, none, none, some (0, (-2147483648))]) ⟨rfl, trivial⟩ ?_
        exact h
      · have h := h.2 hc
        refine Rn_pure 2 (i' := 15) (L' := [some (2, 0), some (0, p1), some (0, p2), some (0, p3), some (0, (-2147483648))]) (st' := [(0, 60), (0, p2)]) rfl ?_
        refine Rn_icgt rfl (fun hc => ?_) (fun hc => ?_)
        · have h := h.1 hc
          refine Rn_weak (L' := [none, none, none, none, some (0, (-2147483648))]) ⟨rfl, trivial⟩ ?_
          exact h
        · have h := h.2 hc
          refine Rn_pure 1 (i' := 17) (L' := [some (2, 0), some (0, p1), some (0, p2), some (0, p3), some (0, (-2147483648))]) (st' := [(0, p3)]) rfl ?_
          refine Rn_iflt rfl (fun hc => ?_) (fun hc => ?_)
          · have h := h.1 hc
            refine Rn_weak (L' := [none, none, none, none, some (0, (-2147483648))]) ⟨rfl, trivial⟩ ?_
            exact h
          · have h := h.2 hc
            refine Rn_pure 2 (i' := 20) (L' := [some (2, 0), some (0, p1), some (0, p2), some (0, p3), some (0, (-2147483648))]) (st' := [(0, 2), (0, p3)]) rfl ?_
            refine Rn_icle rfl (fun hc => ?_) (fun hc => ?_)
            · have h := h.1 hc
              refine Rn_pure 1 (i' := 24) (L' := [some (2, 0), some (0, p1), some (0, p2), some (0, p3), some (0, (-2147483648))]) (st' := [(2, 0)]) rfl ?_
              obtain ⟨hf42, h⟩ := h
              refine Rn_getR rfl (⟨rfl, (by omega : (0 : Int) ≤ 0), (by omega : (0 : Int) + 1 < K ∧ 5 < K)⟩) rfl (nn_Te hf42) ?_
              refine Rn_getI rfl (ob_Te hf42 hK) ?_
              refine Rn_ifeq rfl (fun hc => ?_) (fun hc => ?_)
              · have h := h.1 hc
                refine Rn_weak (L' := [none, none, none, none, some (0, (-2147483648))]) ⟨rfl, trivial⟩ ?_
                exact h
              · have h := h.2 hc
                refine Rn_pure 1 (i' := 28) (L' := [some (2, 0), some (0, p1), some (0, p2), some (0, p3), some (0, (-2147483648))]) (st' := [(2, 0)]) rfl ?_
                obtain ⟨hf43, h⟩ := h
                refine Rn_getR rfl (⟨rfl, (by omega : (0 : Int) ≤ 0), (by omega : (0 : Int) + 1 < K ∧ 5 < K)⟩) rfl (nn_Lg hf43) ?_
                refine Rn_getI rfl (ob_Lg hf43 hK) ?_
                refine Rn_pure 3 (i' := 33) (L' := [some (2, 0), some (0, p1), some (0, p2), some (0, p3), some (0, (-2147483648))]) (st' := [(0, 120), (0, g (r 0 5) 10 + p2)]) rfl ?_
                refine Rn_icle rfl (fun hc => ?_) (fun hc => ?_)
                · have h := h.1 hc
                  refine Rn_pure 1 (i' := 37) (L' := [some (2, 0), some (0, p1), some (0, p2), some (0, p3), some (0, (-2147483648))]) (st' := [(2, 0)]) rfl ?_
                  obtain ⟨hf44, h⟩ := h
                  refine Rn_getR rfl (⟨rfl, (by omega : (0 : Int) ≤ 0), (by omega : (0 : Int) + 1 < K ∧ 5 < K)⟩) rfl (nn_Lg hf44) ?_
                  refine Rn_pure 1 (i' := 39) (L' := [some (2, 0), some (0, p1), some (0, p2), some (0, p3), some (0, (-2147483648))]) (st' := [(2, 0), (2, r 0 6)]) rfl ?_
                  obtain ⟨hf45, h⟩ := h
                  refine Rn_getR rfl (⟨rfl, (by omega : (0 : Int) ≤ 0), (by omega : (0 : Int) + 1 < K ∧ 5 < K)⟩) rfl (nn_Lg hf45) ?_
                  refine Rn_callV [(2, r 0 6), (2, r 0 5)] [] rfl rfl rfl rfl (ab_rvB_of rfl (ob_Lg hf44 hK)) ?_
                  refine h.mono (fun g46 r' h => ?_)
                  obtain ⟨hx, h⟩ := h
                  replace hx := hx.symm
                  subst hx
                  refine Rn_pure 3 (i' := 44) (L' := [some (2, 0), some (0, p1), some (0, p2), some (0, p3), some (0, (-2147483648))]) (st' := [(0, (-1)), (0, p1), (2, 0)]) rfl ?_
                  refine Rn_icne rfl (fun hc => ?_) (fun hc => ?_)
                  · have h := h.1 hc
                    refine Rn_pure 2 (i' := 51) (L' := [some (2, 0), some (0, p1), some (0, p2), some (0, p3), some (0, (-2147483648))]) (st' := [(0, p2), (0, p1), (2, 0)]) rfl ?_
                    refine Rn_callV [(2, 0), (0, p1), (0, p2)] [] rfl rfl rfl rfl (ab_rvB_of rfl (⟨rfl, (by omega : (0 : Int) ≤ 0), (by omega : (0 : Int) + 1 < K ∧ 5 < K)⟩)) ?_
                    refine h.mono (fun g48 r' h => ?_)
                    obtain ⟨hx, h⟩ := h
                    replace hx := hx.symm
                    subst hx
                    refine Rn_pure 2 (i' := 54) (L' := [some (2, 0), some (0, p1), some (0, p2), some (0, p3), some (0, (-2147483648))]) (st' := [(0, 2), (0, p3)]) rfl ?_
                    refine Rn_icne rfl (fun hc => ?_) (fun hc => ?_)
                    · have h := h.1 hc
                      refine Rn_pure 1 (i' := 77) (L' := [some (2, 0), some (0, p1), some (0, p2), some (0, p3), some (0, (-2147483648))]) (st' := [(2, 0)]) rfl ?_
                      refine Rn_getR rfl (⟨rfl, (by omega : (0 : Int) ≤ 0), (by omega : (0 : Int) + 1 < K ∧ 5 < K)⟩) (hr 3 _ rfl) (by decide) ?_
                      refine Rn_pure 1 (i' := 79) (L' := [some (2, 0), some (0, p1), some (0, p2), some (0, p3), some (0, (-2147483648))]) (st' := [(2, 0), (2, 51)]) rfl ?_
                      obtain ⟨hf50, h⟩ := h
                      refine Rn_getR rfl (⟨rfl, (by omega : (0 : Int) ≤ 0), (by omega : (0 : Int) + 1 < K ∧ 5 < K)⟩) rfl (nn_Lg hf50) ?_
                      refine Rn_pure 1 (i' := 81) (L' := [some (2, 0), some (0, p1), some (0, p2), some (0, p3), some (0, (-2147483648))]) (st' := [(2, 0), (2, r 0 6), (2, 51)]) rfl ?_
                      obtain ⟨hf51, h⟩ := h
                      refine Rn_getR rfl (⟨rfl, (by omega : (0 : Int) ≤ 0), (by omega : (0 : Int) + 1 < K ∧ 5 < K)⟩) rfl (nn_Lg hf51) ?_
                      refine Rn_getI rfl (ob_Lg hf51 hK) ?_
                      refine Rn_pure 1 (i' := 84) (L' := [some (2, 0), some (0, p1), some (0, p2), some (0, p3), some (0, (-2147483648))]) (st' := [(2, 0), (0, g48 (r 0 6) 10), (2, r 0 6), (2, 51)]) rfl ?_
                      obtain ⟨hf52, h⟩ := h
                      refine Rn_getR rfl (⟨rfl, (by omega : (0 : Int) ≤ 0), (by omega : (0 : Int) + 1 < K ∧ 5 < K)⟩) rfl (nn_Lg hf52) ?_
                      refine Rn_getI rfl (ob_Lg hf52 hK) ?_
                      refine Rn_pure 1 (i' := 87) (L' := [some (2, 0), some (0, p1), some (0, p2), some (0, p3), some (0, (-2147483648))]) (st' := [(0, (-1)), (0, g48 (r 0 6) 10), (0, g48 (r 0 6) 10), (2, r 0 6), (2, 51)]) rfl ?_
                      refine Rn_callV [(2, 51), (2, r 0 6), (0, g48 (r 0 6) 10), (0, g48 (r 0 6) 10), (0, (-1))] [] rfl rfl rfl rfl (ab_rvB_of rfl (⟨rfl, (by omega : (0 : Int) ≤ 51), (by omega : (51 : Int) + 1 < K ∧ 5 < K)⟩)) ?_
                      refine h.mono (fun g53 r' h => ?_)
                      obtain ⟨hx, h⟩ := h
                      replace hx := hx.symm
                      subst hx
                      refine Rn_pure 1 (i' := 89) (L' := [some (2, 0), some (0, p1), some (0, p2), some (0, p3), some (0, (-2147483648))]) (st' := [(0, p3)]) rfl ?_
                      refine Rn_ifne rfl (fun hc => ?_) (fun hc => ?_)
                      · have h := h.1 hc
                        refine Rn_pure 1 (i' := 101) (L' := [some (2, 0), some (0, p1), some (0, p2), some (0, p3), some (0, (-2147483648))]) (st' := [(2, 0)]) rfl ?_
                        refine Rn_getR rfl (⟨rfl, (by omega : (0 : Int) ≤ 0), (by omega : (0 : Int) + 1 < K ∧ 5 < K)⟩) (hr 3 _ rfl) (by decide) ?_
                        refine Rn_callI [(2, 51)] [] rfl rfl rfl rfl (ab_rvB_of rfl (⟨rfl, (by omega : (0 : Int) ≤ 51), (by omega : (51 : Int) + 1 < K ∧ 5 < K)⟩)) ?_
                        refine h.mono (fun x55 g' r' h => ?_)
                        obtain ⟨hx, h⟩ := h
                        replace hx := hx.symm
                        subst hx
                        obtain ⟨hx, h⟩ := h
                        replace hx := hx.symm
                        subst hx
                        exact Rn_ret1 rfl h
                      · have h := h.2 hc
                        refine Rn_pure 1 (i' := 91) (L' := [some (2, 0), some (0, p1), some (0, p2), some (0, p3), some (0, (-2147483648))]) (st' := [(2, 0)]) rfl ?_
                        refine Rn_getR rfl (⟨rfl, (by omega : (0 : Int) ≤ 0), (by omega : (0 : Int) + 1 < K ∧ 5 < K)⟩) (hr 3 _ rfl) (by decide) ?_
                        refine Rn_pure 1 (i' := 93) (L' := [some (2, 0), some (0, p1), some (0, p2), some (0, p3), some (0, (-2147483648))]) (st' := [(2, 0), (2, 51)]) rfl ?_
                        obtain ⟨hf56, h⟩ := h
                        refine Rn_getR rfl (⟨rfl, (by omega : (0 : Int) ≤ 0), (by omega : (0 : Int) + 1 < K ∧ 5 < K)⟩) rfl (nn_Lg hf56) ?_
                        refine Rn_getI rfl (ob_Lg hf56 hK) ?_
                        refine Rn_pure 1 (i' := 96) (L' := [some (2, 0), some (0, p1), some (0, p2), some (0, p3), some (0, (-2147483648))]) (st' := [(2, 0), (0, g53 (r 0 5) 10), (2, 51)]) rfl ?_
                        obtain ⟨hf57, h⟩ := h
                        refine Rn_getR rfl (⟨rfl, (by omega : (0 : Int) ≤ 0), (by omega : (0 : Int) + 1 < K ∧ 5 < K)⟩) rfl (nn_Lg hf57) ?_
                        refine Rn_getI rfl (ob_Lg hf57 hK) ?_
                        refine Rn_callI [(2, 51), (0, g53 (r 0 5) 10), (0, g53 (r 0 6) 10)] [] rfl rfl rfl rfl (ab_rvB_of rfl (⟨rfl, (by omega : (0 : Int) ≤ 51), (by omega : (51 : Int) + 1 < K ∧ 5 < K)⟩)) ?_
                        refine h.mono (fun x58 g' r' h => ?_)
                        obtain ⟨hx, h⟩ := h
                        replace hx := hx.symm
                        subst hx
                        obtain ⟨hx, h⟩ := h
                        replace hx := hx.symm
                        subst hx
                        refine Rn_pure 1 (i' := 103) (L' := [some (2, 0), some (0, p1), some (0, p2), some (0, p3), some (0, (-2147483648))]) (st' := [(0, x58)]) rfl ?_
                        exact Rn_ret1 rfl h
                    · have h := h.2 hc
                      refine Rn_pure 1 (i' := 56) (L' := [some (2, 0), some (0, p1), some (0, p2), some (0, p3), some (0, (-2147483648))]) (st' := [(2, 0)]) rfl ?_
                      refine Rn_getR rfl (⟨rfl, (by omega : (0 : Int) ≤ 0), (by omega : (0 : Int) + 1 < K ∧ 5 < K)⟩) (hr 5 _ rfl) (by decide) ?_
                      refine Rn_pure 1 (i' := 58) (L' := [some (2, 0), some (0, p1), some (0, p2), some (0, p3), some (0, (-2147483648))]) (st' := [(2, 0), (2, 59)]) rfl ?_
                      refine Rn_getR rfl (⟨rfl, (by omega : (0 : Int) ≤ 0), (by omega : (0 : Int) + 1 < K ∧ 5 < K)⟩) (hr 4 _ rfl) (by decide) ?_
                      refine Rn_getI rfl (⟨rfl, (by omega : (0 : Int) ≤ 57), (by omega : (57 : Int) + 1 < K ∧ 5 < K)⟩) ?_
                      refine Rn_putI rfl (⟨rfl, (by omega : (0 : Int) ≤ 59), (by omega : (59 : Int) + 1 < K ∧ 5 < K)⟩) (fun g59 he_g59 => ?_)
                      have h := h g59 he_g59
                      refine Rn_pure 1 (i' := 62) (L' := [some (2, 0), some (0, p1), some (0, p2), some (0, p3), some (0, (-2147483648))]) (st' := [(2, 0)]) rfl ?_
                      refine Rn_getR rfl (⟨rfl, (by omega : (0 : Int) ≤ 0), (by omega : (0 : Int) + 1 < K ∧ 5 < K)⟩) (hr 5 _ rfl) (by decide) ?_
                      refine Rn_pure 1 (i' := 64) (L' := [some (2, 0), some (0, p1), some (0, p2), some (0, p3), some (0, (-2147483648))]) (st' := [(2, 0), (2, 59)]) rfl ?_
                      refine Rn_getR rfl (⟨rfl, (by omega : (0 : Int) ≤ 0), (by omega : (0 : Int) + 1 < K ∧ 5 < K)⟩) (hr 4 _ rfl) (by decide) ?_
                      refine Rn_getI rfl (⟨rfl, (by omega : (0 : Int) ≤ 57), (by omega : (57 : Int) + 1 < K ∧ 5 < K)⟩) ?_
                      refine Rn_putI rfl (⟨rfl, (by omega : (0 : Int) ≤ 59), (by omega : (59 : Int) + 1 < K ∧ 5 < K)⟩) (fun g60 he_g60 => ?_)
                      have h := h g60 he_g60
                      refine Rn_pure 1 (i' := 68) (L' := [some (2, 0), some (0, p1), some (0, p2), some (0, p3), some (0, (-2147483648))]) (st' := [(2, 0)]) rfl ?_
                      refine Rn_getR rfl (⟨rfl, (by omega : (0 : Int) ≤ 0), (by omega : (0 : Int) + 1 < K ∧ 5 < K)⟩) (hr 5 _ rfl) (by decide) ?_
                      refine Rn_pure 1 (i' := 70) (L' := [some (2, 0), some (0, p1), some (0, p2), some (0, p3), some (0, (-2147483648))]) (st' := [(2, 0), (2, 59)]) rfl ?_
                      obtain ⟨hf61, h⟩ := h
                      refine Rn_getR rfl (⟨rfl, (by omega : (0 : Int) ≤ 0), (by omega : (0 : Int) + 1 < K ∧ 5 < K)⟩) rfl (nn_Lg hf61) ?_
                      refine Rn_pure 1 (i' := 72) (L' := [some (2, 0), some (0, p1), some (0, p2), some (0, p3), some (0, (-2147483648))]) (st' := [(2, 0), (2, r 0 6), (2, 59)]) rfl ?_
                      obtain ⟨hf62, h⟩ := h
                      refine Rn_getR rfl (⟨rfl, (by omega : (0 : Int) ≤ 0), (by omega : (0 : Int) + 1 < K ∧ 5 < K)⟩) rfl (nn_Lg hf62) ?_
                      refine Rn_getI rfl (ob_Lg hf62 hK) ?_
                      refine Rn_callI [(2, 59), (2, r 0 6), (0, g60 (r 0 5) 10)] [] rfl rfl rfl rfl (ab_rvB_of rfl (⟨rfl, (by omega : (0 : Int) ≤ 59), (by omega : (59 : Int) + 1 < K ∧ 5 < K)⟩)) ?_
                      refine h.mono (fun x64 g63 r' h => ?_)
                      obtain ⟨hx, h⟩ := h
                      replace hx := hx.symm
                      subst hx
                      exact Rn_ret1 rfl h
                  · have h := h.2 hc
                    refine Rn_pure 1 (i' := 46) (L' := [some (2, 0), some (0, p1), some (0, p2), some (0, p3), some (0, (-2147483648))]) (st' := [(2, 0), (2, 0)]) rfl ?_
                    obtain ⟨hf65, h⟩ := h
                    refine Rn_getR rfl (⟨rfl, (by omega : (0 : Int) ≤ 0), (by omega : (0 : Int) + 1 < K ∧ 5 < K)⟩) rfl (nn_Te hf65) ?_
                    refine Rn_getI rfl (ob_Te hf65 hK) ?_
                    refine Rn_pure 2 (i' := 51) (L' := [some (2, 0), some (0, p1), some (0, p2), some (0, p3), some (0, (-2147483648))]) (st' := [(0, p2), (0, g46 (r 0 3) 12), (2, 0)]) rfl ?_
                    refine Rn_callV [(2, 0), (0, g46 (r 0 3) 12), (0, p2)] [] rfl rfl rfl rfl (ab_rvB_of rfl (⟨rfl, (by omega : (0 : Int) ≤ 0), (by omega : (0 : Int) + 1 < K ∧ 5 < K)⟩)) ?_
                    refine h.mono (fun g66 r' h => ?_)
                    obtain ⟨hx, h⟩ := h
                    replace hx := hx.symm
                    subst hx
                    refine Rn_pure 2 (i' := 54) (L' := [some (2, 0), some (0, p1), some (0, p2), some (0, p3), some (0, (-2147483648))]) (st' := [(0, 2), (0, p3)]) rfl ?_
                    refine Rn_icne rfl (fun hc => ?_) (fun hc => ?_)
                    · have h := h.1 hc
                      refine Rn_pure 1 (i' := 77) (L' := [some (2, 0), some (0, p1), some (0, p2), some (0, p3), some (0, (-2147483648))]) (st' := [(2, 0)]) rfl ?_
                      refine Rn_getR rfl (⟨rfl, (by omega : (0 : Int) ≤ 0), (by omega : (0 : Int) + 1 < K ∧ 5 < K)⟩) (hr 3 _ rfl) (by decide) ?_
                      refine Rn_pure 1 (i' := 79) (L' := [some (2, 0), some (0, p1), some (0, p2), some (0, p3), some (0, (-2147483648))]) (st' := [(2, 0), (2, 51)]) rfl ?_
                      obtain ⟨hf68, h⟩ := h
                      refine Rn_getR rfl (⟨rfl, (by omega : (0 : Int) ≤ 0), (by omega : (0 : Int) + 1 < K ∧ 5 < K)⟩) rfl (nn_Lg hf68) ?_
                      refine Rn_pure 1 (i' := 81) (L' := [some (2, 0), some (0, p1), some (0, p2), some (0, p3), some (0, (-2147483648))]) (st' := [(2, 0), (2, r 0 6), (2, 51)]) rfl ?_
                      obtain ⟨hf69, h⟩ := h
                      refine Rn_getR rfl (⟨rfl, (by omega : (0 : Int) ≤ 0), (by omega : (0 : Int) + 1 < K ∧ 5 < K)⟩) rfl (nn_Lg hf69) ?_
                      refine Rn_getI rfl (ob_Lg hf69 hK) ?_
                      refine Rn_pure 1 (i' := 84) (L' := [some (2, 0), some (0, p1), some (0, p2), some (0, p3), some (0, (-2147483648))]) (st' := [(2, 0), (0, g66 (r 0 6) 10), (2, r 0 6), (2, 51)]) rfl ?_
                      obtain ⟨hf70, h⟩ := h
                      refine Rn_getR rfl (⟨rfl, (by omega : (0 : Int) ≤ 0), (by omega : (0 : Int) + 1 < K ∧ 5 < K)⟩) rfl (nn_Lg hf70) ?_
                      refine Rn_getI rfl (ob_Lg hf70 hK) ?_
                      refine Rn_pure 1 (i' := 87) (L' := [some (2, 0), some (0, p1), some (0, p2), some (0, p3), some (0, (-2147483648))]) (st' := [(0, (-1)), (0, g66 (r 0 6) 10), (0, g66 (r 0 6) 10), (2, r 0 6), (2, 51)]) rfl ?_
                      refine Rn_callV [(2, 51), (2, r 0 6), (0, g66 (r 0 6) 10), (0, g66 (r 0 6) 10), (0, (-1))] [] rfl rfl rfl rfl (ab_rvB_of rfl (⟨rfl, (by omega : (0 : Int) ≤ 51), (by omega : (51 : Int) + 1 < K ∧ 5 < K)⟩)) ?_
                      refine h.mono (fun g71 r' h => ?_)
                      obtain ⟨hx, h⟩ := h
                      replace hx := hx.symm
                      subst hx
                      refine Rn_pure 1 (i' := 89) (L' := [some (2, 0), some (0, p1), some (0, p2), some (0, p3), some (0, (-2147483648))]) (st' := [(0, p3)]) rfl ?_
                      refine Rn_ifne rfl (fun hc => ?_) (fun hc => ?_)
                      · have h := h.1 hc
                        refine Rn_pure 1 (i' := 101) (L' := [some (2, 0), some (0, p1), some (0, p2), some (0, p3), some (0, (-2147483648))]) (st' := [(2, 0)]) rfl ?_
                        refine Rn_getR rfl (⟨rfl, (by omega : (0 : Int) ≤ 0), (by omega : (0 : Int) + 1 < K ∧ 5 < K)⟩) (hr 3 _ rfl) (by decide) ?_
                        refine Rn_callI [(2, 51)] [] rfl rfl rfl rfl (ab_rvB_of rfl (⟨rfl, (by omega : (0 : Int) ≤ 51), (by omega : (51 : Int) + 1 < K ∧ 5 < K)⟩)) ?_
                        refine h.mono (fun x73 g' r' h => ?_)
                        obtain ⟨hx, h⟩ := h
                        replace hx := hx.symm
                        subst hx
                        obtain ⟨hx, h⟩ := h
                        replace hx := hx.symm
                        subst hx
                        exact Rn_ret1 rfl h
                      · have h := h.2 hc
                        refine Rn_pure 1 (i' := 91) (L' := [some (2, 0), some (0, p1), some (0, p2), some (0, p3), some (0, (-2147483648))]) (st' := [(2, 0)]) rfl ?_
                        refine Rn_getR rfl (⟨rfl, (by omega : (0 : Int) ≤ 0), (by omega : (0 : Int) + 1 < K ∧ 5 < K)⟩) (hr 3 _ rfl) (by decide) ?_
                        refine Rn_pure 1 (i' := 93) (L' := [some (2, 0), some (0, p1), some (0, p2), some (0, p3), some (0, (-2147483648))]) (st' := [(2, 0), (2, 51)]) rfl ?_
                        obtain ⟨hf74, h⟩ := h
                        refine Rn_getR rfl (⟨rfl, (by omega : (0 : Int) ≤ 0), (by omega : (0 : Int) + 1 < K ∧ 5 < K)⟩) rfl (nn_Lg hf74) ?_
                        refine Rn_getI rfl (ob_Lg hf74 hK) ?_
                        refine Rn_pure 1 (i' := 96) (L' := [some (2, 0), some (0, p1), some (0, p2), some (0, p3), some (0, (-2147483648))]) (st' := [(2, 0), (0, g71 (r 0 5) 10), (2, 51)]) rfl ?_
                        obtain ⟨hf75, h⟩ := h
                        refine Rn_getR rfl (⟨rfl, (by omega : (0 : Int) ≤ 0), (by omega : (0 : Int) + 1 < K ∧ 5 < K)⟩) rfl (nn_Lg hf75) ?_
                        refine Rn_getI rfl (ob_Lg hf75 hK) ?_
                        refine Rn_callI [(2, 51), (0, g71 (r 0 5) 10), (0, g71 (r 0 6) 10)] [] rfl rfl rfl rfl (ab_rvB_of rfl (⟨rfl, (by omega : (0 : Int) ≤ 51), (by omega : (51 : Int) + 1 < K ∧ 5 < K)⟩)) ?_
                        refine h.mono (fun x76 g' r' h => ?_)
                        obtain ⟨hx, h⟩ := h
                        replace hx := hx.symm
                        subst hx
                        obtain ⟨hx, h⟩ := h
                        replace hx := hx.symm
                        subst hx
                        refine Rn_pure 1 (i' := 103) (L' := [some (2, 0), some (0, p1), some (0, p2), some (0, p3), some (0, (-2147483648))]) (st' := [(0, x76)]) rfl ?_
                        exact Rn_ret1 rfl h
                    · have h := h.2 hc
                      refine Rn_pure 1 (i' := 56) (L' := [some (2, 0), some (0, p1), some (0, p2), some (0, p3), some (0, (-2147483648))]) (st' := [(2, 0)]) rfl ?_
                      refine Rn_getR rfl (⟨rfl, (by omega : (0 : Int) ≤ 0), (by omega : (0 : Int) + 1 < K ∧ 5 < K)⟩) (hr 5 _ rfl) (by decide) ?_
                      refine Rn_pure 1 (i' := 58) (L' := [some (2, 0), some (0, p1), some (0, p2), some (0, p3), some (0, (-2147483648))]) (st' := [(2, 0), (2, 59)]) rfl ?_
                      refine Rn_getR rfl (⟨rfl, (by omega : (0 : Int) ≤ 0), (by omega : (0 : Int) + 1 < K ∧ 5 < K)⟩) (hr 4 _ rfl) (by decide) ?_
                      refine Rn_getI rfl (⟨rfl, (by omega : (0 : Int) ≤ 57), (by omega : (57 : Int) + 1 < K ∧ 5 < K)⟩) ?_
                      refine Rn_putI rfl (⟨rfl, (by omega : (0 : Int) ≤ 59), (by omega : (59 : Int) + 1 < K ∧ 5 < K)⟩) (fun g77 he_g77 => ?_)
                      have h := h g77 he_g77
                      refine Rn_pure 1 (i' := 62) (L' := [some (2, 0), some (0, p1), some (0, p2), some (0, p3), some (0, (-2147483648))]) (st' := [(2, 0)]) rfl ?_
                      refine Rn_getR rfl (⟨rfl, (by omega : (0 : Int) ≤ 0), (by omega : (0 : Int) + 1 < K ∧ 5 < K)⟩) (hr 5 _ rfl) (by decide) ?_
                      refine Rn_pure 1 (i' := 64) (L' := [some (2, 0), some (0, p1), some (0, p2), some (0, p3), some (0, (-2147483648))]) (st' := [(2, 0), (2, 59)]) rfl ?_
                      refine Rn_getR rfl (⟨rfl, (by omega : (0 : Int) ≤ 0), (by omega : (0 : Int) + 1 < K ∧ 5 < K)⟩) (hr 4 _ rfl) (by decide) ?_
                      refine Rn_getI rfl (⟨rfl, (by omega : (0 : Int) ≤ 57), (by omega : (57 : Int) + 1 < K ∧ 5 < K)⟩) ?_
                      refine Rn_putI rfl (⟨rfl, (by omega : (0 : Int) ≤ 59), (by omega : (59 : Int) + 1 < K ∧ 5 < K)⟩) (fun g78 he_g78 => ?_)
                      have h := h g78 he_g78
                      refine Rn_pure 1 (i' := 68) (L' := [some (2, 0), some (0, p1), some (0, p2), some (0, p3), some (0, (-2147483648))]) (st' := [(2, 0)]) rfl ?_
                      refine Rn_getR rfl (⟨rfl, (by omega : (0 : Int) ≤ 0), (by omega : (0 : Int) + 1 < K ∧ 5 < K)⟩) (hr 5 _ rfl) (by decide) ?_
                      refine Rn_pure 1 (i' := 70) (L' := [some (2, 0), some (0, p1), some (0, p2), some (0, p3), some (0, (-2147483648))]) (st' := [(2, 0), (2, 59)]) rfl ?_
                      obtain ⟨hf79, h⟩ := h
                      refine Rn_getR rfl (⟨rfl, (by omega : (0 : Int) ≤ 0), (by omega : (0 : Int) + 1 < K ∧ 5 < K)⟩) rfl (nn_Lg hf79) ?_
                      refine Rn_pure 1 (i' := 72) (L' := [some (2, 0), some (0, p1), some (0, p2), some (0, p3), some (0, (-2147483648))]) (st' := [(2, 0), (2, r 0 6), (2, 59)]) rfl ?_
                      obtain ⟨hf80, h⟩ := h
                      refine Rn_getR rfl (⟨rfl, (by omega : (0 : Int) ≤ 0), (by omega : (0 : Int) + 1 < K ∧ 5 < K)⟩) rfl (nn_Lg hf80) ?_
                      refine Rn_getI rfl (ob_Lg hf80 hK) ?_
                      refine Rn_callI [(2, 59), (2, r 0 6), (0, g78 (r 0 5) 10)] [] rfl rfl rfl rfl (ab_rvB_of rfl (⟨rfl, (by omega : (0 : Int) ≤ 59), (by omega : (59 : Int) + 1 < K ∧ 5 < K)⟩)) ?_
                      refine h.mono (fun x82 g81 r' h => ?_)
                      obtain ⟨hx, h⟩ := h
                      replace hx := hx.symm
                      subst hx
                      exact Rn_ret1 rfl h
                · have h := h.2 hc
                  refine Rn_weak (L' := [none, none, none, none, some (0, (-2147483648))]) ⟨rfl, trivial⟩ ?_
                  exact h
            · have h := h.2 hc
              refine Rn_weak (L' := [none, none, none, none, some (0, (-2147483648))]) ⟨rfl, trivial⟩ ?_
              exact h
theorem v_EL_chance_21 {K : Int} {S : Nat} {g r : ab_H} {l4 : Int} (P : Int → ab_H → ab_H → Prop) (hr : SI r) (hK : 186 ≤ K) (h : P l4 g r) : ab_Rn m_EL_chance 21 [none, none, none, none, some (0, l4)] [] (K, S, g, r) (ab_Qi K S P) := by
  refine Rn_pure 1 (i' := 22) (L' := [none, none, none, none, some (0, l4)]) (st' := [(0, l4)]) rfl ?_
  exact Rn_ret1 rfl h
theorem v_EL_chance_34 {K : Int} {S : Nat} {g r : ab_H} {l4 : Int} (P : Int → ab_H → ab_H → Prop) (hr : SI r) (hK : 186 ≤ K) (h : P l4 g r) : ab_Rn m_EL_chance 34 [none, none, none, none, some (0, l4)] [] (K, S, g, r) (ab_Qi K S P) := by
  refine Rn_pure 1 (i' := 35) (L' := [none, none, none, none, some (0, l4)]) (st' := [(0, l4)]) rfl ?_
  exact Rn_ret1 rfl h
-- EventLedger.undo ()I
theorem v_EL_undo {K : Int} {S : Nat} {g r : ab_H} (P : Int → ab_H → ab_H → Prop) (hr : SI r) (hK : 186 ≤ K) (h : ((wr 0 < wr (g 0 14) → ∀ g1, g1 = ab_up g 0 14 (g 0 14 - 1) → ((0 : Int) ≤ g1 0 14 ∧ (g1 0 14 : Int) < 20) ∧ (isMk (r 65 (g1 0 14))) ∧ (isLg (r 0 5)) ∧ ab_RV m_Lg_cutTo [(2, r 0 5), (0, g1 (r 65 (g1 0 14)) 0)] K S g1 r (fun g4 r' => r' = r ∧ (ab_RV m_EL_restore [(2, 0), (2, r 65 (g1 0 14))] K S g4 r (fun g6 r' => r' = r ∧ (P (g6 0 14) g6 r))))) ∧ (wr (g 0 14) ≤ wr 0 → P (-1) g r))) : ab_RI m_EL_undo [(2, 0)] K S g r P := by
  show ab_Rn m_EL_undo 0 [some (2, 0), none] [] (K, S, g, r) (ab_Qi K S P)
  refine Rn_pure 1 (i' := 1) (L' := [some (2, 0), none]) (st' := [(2, 0)]) rfl ?_
  refine Rn_getI rfl (⟨rfl, (by omega : (0 : Int) ≤ 0), (by omega : (0 : Int) + 1 < K ∧ 5 < K)⟩) ?_
  refine Rn_ifgt rfl (fun hc => ?_) (fun hc => ?_)
  · have h := h.1 hc
    refine Rn_pure 2 (i' := 7) (L' := [some (2, 0), none]) (st' := [(2, 0), (2, 0)]) rfl ?_
    refine Rn_getI rfl (⟨rfl, (by omega : (0 : Int) ≤ 0), (by omega : (0 : Int) + 1 < K ∧ 5 < K)⟩) ?_
    refine Rn_pure 2 (i' := 10) (L' := [some (2, 0), none]) (st' := [(0, g 0 14 - 1), (2, 0)]) rfl ?_
    refine Rn_putI rfl (⟨rfl, (by omega : (0 : Int) ≤ 0), (by omega : (0 : Int) + 1 < K ∧ 5 < K)⟩) (fun g1 he_g1 => ?_)
    have h := h g1 he_g1
    refine Rn_pure 1 (i' := 12) (L' := [some (2, 0), none]) (st' := [(2, 0)]) rfl ?_
    refine Rn_getR rfl (⟨rfl, (by omega : (0 : Int) ≤ 0), (by omega : (0 : Int) + 1 < K ∧ 5 < K)⟩) (hr 8 _ rfl) (by decide) ?_
    refine Rn_pure 1 (i' := 14) (L' := [some (2, 0), none]) (st' := [(2, 0), (2, 65)]) rfl ?_
    refine Rn_getI rfl (⟨rfl, (by omega : (0 : Int) ≤ 0), (by omega : (0 : Int) + 1 < K ∧ 5 < K)⟩) ?_
    obtain ⟨hg, h⟩ := h
    obtain ⟨hf2, h⟩ := h
    refine Rn_aald rfl (⟨rfl, (by omega : (0 : Int) ≤ 65), (by omega : (65 : Int) + 1 < K ∧ 5 < K)⟩) hg rfl (nn_Mk hf2) ?_
    refine Rn_pure 2 (i' := 18) (L' := [some (2, 0), some (2, r 65 (g1 0 14))]) (st' := [(2, 0)]) rfl ?_
    obtain ⟨hf3, h⟩ := h
    refine Rn_getR rfl (⟨rfl, (by omega : (0 : Int) ≤ 0), (by omega : (0 : Int) + 1 < K ∧ 5 < K)⟩) rfl (nn_Lg hf3) ?_
    refine Rn_pure 1 (i' := 20) (L' := [some (2, 0), some (2, r 65 (g1 0 14))]) (st' := [(2, r 65 (g1 0 14)), (2, r 0 5)]) rfl ?_
    refine Rn_getI rfl (ob_Mk hf2 hK) ?_
    refine Rn_callV [(2, r 0 5), (0, g1 (r 65 (g1 0 14)) 0)] [] rfl rfl rfl rfl (ab_rvB_of rfl (ob_Lg hf3 hK)) ?_
    refine h.mono (fun g4 r' h => ?_)
    obtain ⟨hx, h⟩ := h
    replace hx := hx.symm
    subst hx
    refine Rn_pure 2 (i' := 24) (L' := [some (2, 0), some (2, r 65 (g1 0 14))]) (st' := [(2, r 65 (g1 0 14)), (2, 0)]) rfl ?_
    refine Rn_callV [(2, 0), (2, r 65 (g1 0 14))] [] rfl rfl rfl rfl (ab_rvB_of rfl (⟨rfl, (by omega : (0 : Int) ≤ 0), (by omega : (0 : Int) + 1 < K ∧ 5 < K)⟩)) ?_
    refine h.mono (fun g6 r' h => ?_)
    obtain ⟨hx, h⟩ := h
    replace hx := hx.symm
    subst hx
    refine Rn_pure 1 (i' := 26) (L' := [some (2, 0), some (2, r 65 (g1 0 14))]) (st' := [(2, 0)]) rfl ?_
    refine Rn_getI rfl (⟨rfl, (by omega : (0 : Int) ≤ 0), (by omega : (0 : Int) + 1 < K ∧ 5 < K)⟩) ?_
    exact Rn_ret1 rfl h
  · have h := h.2 hc
    refine Rn_pure 1 (i' := 4) (L' := [some (2, 0), none]) (st' := [(0, (-1))]) rfl ?_
    exact Rn_ret1 rfl h
-- EventLedger.keep ()I
theorem v_EL_keep {K : Int} {S : Nat} {g r : ab_H} (P : Int → ab_H → ab_H → Prop) (hr : SI r) (hK : 186 ≤ K) (h : (isLg (r 0 5)) ∧ ab_RV m_Lg_copyFrom [(2, 66), (2, r 0 5)] K S g r (fun g2 r' => r' = r ∧ (ab_RV m_EL_fillMark [(2, 0), (2, 77)] K S g2 r (fun g4 r' => r' = r ∧ (∀ g6, g6 = ab_up g4 0 17 1 → (isLg (r 0 5)) ∧ P (g6 (r 0 5) 10) g6 r))))) : ab_RI m_EL_keep [(2, 0)] K S g r P := by
  show ab_Rn m_EL_keep 0 [some (2, 0)] [] (K, S, g, r) (ab_Qi K S P)
  refine Rn_pure 1 (i' := 1) (L' := [some (2, 0)]) (st' := [(2, 0)]) rfl ?_
  refine Rn_getR rfl (⟨rfl, (by omega : (0 : Int) ≤ 0), (by omega : (0 : Int) + 1 < K ∧ 5 < K)⟩) (hr 9 _ rfl) (by decide) ?_
  refine Rn_pure 1 (i' := 3) (L' := [some (2, 0)]) (st' := [(2, 0), (2, 66)]) rfl ?_
  obtain ⟨hf1, h⟩ := h
  refine Rn_getR rfl (⟨rfl, (by omega : (0 : Int) ≤ 0), (by omega : (0 : Int) + 1 < K ∧ 5 < K)⟩) rfl (nn_Lg hf1) ?_
  refine Rn_callV [(2, 66), (2, r 0 5)] [] rfl rfl rfl rfl (ab_rvB_of rfl (⟨rfl, (by omega : (0 : Int) ≤ 66), (by omega : (66 : Int) + 1 < K ∧ 5 < K)⟩)) ?_
  refine h.mono (fun g2 r' h => ?_)
  obtain ⟨hx, h⟩ := h
  replace hx := hx.symm
  subst hx
  refine Rn_pure 2 (i' := 7) (L' := [some (2, 0)]) (st' := [(2, 0), (2, 0)]) rfl ?_
  refine Rn_getR rfl (⟨rfl, (by omega : (0 : Int) ≤ 0), (by omega : (0 : Int) + 1 < K ∧ 5 < K)⟩) (hr 10 _ rfl) (by decide) ?_
  refine Rn_callV [(2, 0), (2, 77)] [] rfl rfl rfl rfl (ab_rvB_of rfl (⟨rfl, (by omega : (0 : Int) ≤ 0), (by omega : (0 : Int) + 1 < K ∧ 5 < K)⟩)) ?_
  refine h.mono (fun g4 r' h => ?_)
  obtain ⟨hx, h⟩ := h
  replace hx := hx.symm
  subst hx
  refine Rn_pure 2 (i' := 11) (L' := [some (2, 0)]) (st' := [(0, 1), (2, 0)]) rfl ?_
  refine Rn_putZ rfl (⟨rfl, (by omega : (0 : Int) ≤ 0), (by omega : (0 : Int) + 1 < K ∧ 5 < K)⟩) (by decide) (fun g6 he_g6 => ?_)
  have h := h g6 he_g6
  refine Rn_pure 1 (i' := 13) (L' := [some (2, 0)]) (st' := [(2, 0)]) rfl ?_
  obtain ⟨hf7, h⟩ := h
  refine Rn_getR rfl (⟨rfl, (by omega : (0 : Int) ≤ 0), (by omega : (0 : Int) + 1 < K ∧ 5 < K)⟩) rfl (nn_Lg hf7) ?_
  refine Rn_getI rfl (ob_Lg hf7 hK) ?_
  exact Rn_ret1 rfl h
-- EventLedger.back ()I
theorem v_EL_back {K : Int} {S : Nat} {g r : ab_H} (P : Int → ab_H → ab_H → Prop) (hr : SI r) (hK : 186 ≤ K) (h : ((¬ wr (g 0 17) = wr 0 → (isLg (r 0 5)) ∧ ab_RV m_Lg_copyFrom [(2, r 0 5), (2, 66)] K S g r (fun g2 r' => r' = r ∧ (ab_RV m_EL_restore [(2, 0), (2, 77)] K S g2 r (fun g4 r' => r' = r ∧ (∀ g6, g6 = ab_up g4 0 14 0 → (isLg (r 0 5)) ∧ P (g6 (r 0 5) 10) g6 r))))) ∧ (wr (g 0 17) = wr 0 → P (-1) g r))) : ab_RI m_EL_back [(2, 0)] K S g r P := by
  show ab_Rn m_EL_back 0 [some (2, 0)] [] (K, S, g, r) (ab_Qi K S P)
  refine Rn_pure 1 (i' := 1) (L' := [some (2, 0)]) (st' := [(2, 0)]) rfl ?_
  refine Rn_getI rfl (⟨rfl, (by omega : (0 : Int) ≤ 0), (by omega : (0 : Int) + 1 < K ∧ 5 < K)⟩) ?_
  refine Rn_ifne rfl (fun hc => ?_) (fun hc => ?_)
  · have h := h.1 hc
    refine Rn_pure 1 (i' := 6) (L' := [some (2, 0)]) (st' := [(2, 0)]) rfl ?_
    obtain ⟨hf1, h⟩ := h
    refine Rn_getR rfl (⟨rfl, (by omega : (0 : Int) ≤ 0), (by omega : (0 : Int) + 1 < K ∧ 5 < K)⟩) rfl (nn_Lg hf1) ?_
    refine Rn_pure 1 (i' := 8) (L' := [some (2, 0)]) (st' := [(2, 0), (2, r 0 5)]) rfl ?_
    refine Rn_getR rfl (⟨rfl, (by omega : (0 : Int) ≤ 0), (by omega : (0 : Int) + 1 < K ∧ 5 < K)⟩) (hr 9 _ rfl) (by decide) ?_
    refine Rn_callV [(2, r 0 5), (2, 66)] [] rfl rfl rfl rfl (ab_rvB_of rfl (ob_Lg hf1 hK)) ?_
    refine h.mono (fun g2 r' h => ?_)
    obtain ⟨hx, h⟩ := h
    replace hx := hx.symm
    subst hx
    refine Rn_pure 2 (i' := 12) (L' := [some (2, 0)]) (st' := [(2, 0), (2, 0)]) rfl ?_
    refine Rn_getR rfl (⟨rfl, (by omega : (0 : Int) ≤ 0), (by omega : (0 : Int) + 1 < K ∧ 5 < K)⟩) (hr 10 _ rfl) (by decide) ?_
    refine Rn_callV [(2, 0), (2, 77)] [] rfl rfl rfl rfl (ab_rvB_of rfl (⟨rfl, (by omega : (0 : Int) ≤ 0), (by omega : (0 : Int) + 1 < K ∧ 5 < K)⟩)) ?_
    refine h.mono (fun g4 r' h => ?_)
    obtain ⟨hx, h⟩ := h
    replace hx := hx.symm
    subst hx
    refine Rn_pure 2 (i' := 16) (L' := [some (2, 0)]) (st' := [(0, 0), (2, 0)]) rfl ?_
    refine Rn_putI rfl (⟨rfl, (by omega : (0 : Int) ≤ 0), (by omega : (0 : Int) + 1 < K ∧ 5 < K)⟩) (fun g6 he_g6 => ?_)
    have h := h g6 he_g6
    refine Rn_pure 1 (i' := 18) (L' := [some (2, 0)]) (st' := [(2, 0)]) rfl ?_
    obtain ⟨hf7, h⟩ := h
    refine Rn_getR rfl (⟨rfl, (by omega : (0 : Int) ≤ 0), (by omega : (0 : Int) + 1 < K ∧ 5 < K)⟩) rfl (nn_Lg hf7) ?_
    refine Rn_getI rfl (ob_Lg hf7 hK) ?_
    exact Rn_ret1 rfl h
  · have h := h.2 hc
    refine Rn_pure 1 (i' := 4) (L' := [some (2, 0)]) (st' := [(0, (-1))]) rfl ?_
    exact Rn_ret1 rfl h
-- EventLedger.count (I)I
theorem v_EL_count {K : Int} {S : Nat} {g r : ab_H} {p1 : Int} (P : Int → ab_H → ab_H → Prop) (hr : SI r) (hK : 186 ≤ K) (h : ((wr p1 = 0 → (isTe (r 0 3)) ∧ P (g (r 0 3) 1) g r) ∧ (wr p1 = 1 → (isLg (r 0 5)) ∧ P (g (r 0 5) 10) g r) ∧ (wr p1 = 2 → (isTe (r 0 3)) ∧ P (g (r 0 3) 5) g r) ∧ (wr p1 = 3 → P (g 57 1) g r) ∧ (wr p1 = 4 → (isLg (r 0 5)) ∧ ab_RI m_St_countAside [(2, 45), (0, 0), (0, g (r 0 5) 10)] K S g r (fun x5 g' r' => g' = g ∧ r' = r ∧ (P x5 g r))) ∧ (wr p1 = 5 → (isLg (r 0 5)) ∧ ab_RI m_Lg_countVoided [(2, r 0 5)] K S g r (fun x7 g' r' => g' = g ∧ r' = r ∧ (P x7 g r))) ∧ (wr p1 = 6 → (isLg (r 0 5)) ∧ ab_RI m_Lg_latestTime [(2, r 0 5)] K S g r (fun x9 g' r' => g' = g ∧ r' = r ∧ (P x9 g r))) ∧ (wr p1 = 7 → ab_RI m_St_countOpen [(2, 45)] K S g r (fun x10 g' r' => g' = g ∧ r' = r ∧ (P x10 g r))) ∧ (wr p1 = 8 → (isLg (r 0 5)) ∧ (isLg (r 0 5)) ∧ ab_RI m_Lg_weights [(2, r 0 5), (0, 0), (0, g (r 0 5) 10)] K S g r (fun x13 g' r' => g' = g ∧ r' = r ∧ (P x13 g r))) ∧ (wr p1 = 9 → P (g 0 14) g r) ∧ (wr p1 = 10 → P (g 0 1) g r) ∧ (wr p1 = 11 → P (g 57 2) g r) ∧ (wr p1 = 12 → P (g 57 3) g r) ∧ (wr p1 < 0 ∨ 13 ≤ wr p1 → P (-1) g r))) : ab_RI m_EL_count [(2, 0), (0, p1)] K S g r P := by
  show ab_Rn m_EL_count 0 [some (2, 0), some (0, p1)] [] (K, S, g, r) (ab_Qi K S P)
  refine Rn_pure 1 (i' := 1) (L' := [some (2, 0), some (0, p1)]) (st' := [(0, p1)]) rfl ?_
  refine Rn_ts rfl ?_
  have ht2 : (wr p1 = 0) → ab_Rn m_EL_count 2 [some (2, 0), some (0, p1)] [] (K, S, g, r) (ab_Qi K S P) := by
    intro hc
    have h := h.1 hc
    refine Rn_pure 1 (i' := 3) (L' := [some (2, 0), some (0, p1)]) (st' := [(2, 0)]) rfl ?_
    obtain ⟨hf1, h⟩ := h
    refine Rn_getR rfl (⟨rfl, (by omega : (0 : Int) ≤ 0), (by omega : (0 : Int) + 1 < K ∧ 5 < K)⟩) rfl (nn_Te hf1) ?_
    refine Rn_getI rfl (ob_Te hf1 hK) ?_
    exact Rn_ret1 rfl h
  have ht6 : (wr p1 = 1) → ab_Rn m_EL_count 6 [some (2, 0), some (0, p1)] [] (K, S, g, r) (ab_Qi K S P) := by
    intro hc
    have h := h.2.1 hc
    refine Rn_pure 1 (i' := 7) (L' := [some (2, 0), some (0, p1)]) (st' := [(2, 0)]) rfl ?_
    obtain ⟨hf2, h⟩ := h
    refine Rn_getR rfl (⟨rfl, (by omega : (0 : Int) ≤ 0), (by omega : (0 : Int) + 1 < K ∧ 5 < K)⟩) rfl (nn_Lg hf2) ?_
    refine Rn_getI rfl (ob_Lg hf2 hK) ?_
    exact Rn_ret1 rfl h
  have ht10 : (wr p1 = 2) → ab_Rn m_EL_count 10 [some (2, 0), some (0, p1)] [] (K, S, g, r) (ab_Qi K S P) := by
    intro hc
    have h := h.2.2.1 hc
    refine Rn_pure 1 (i' := 11) (L' := [some (2, 0), some (0, p1)]) (st' := [(2, 0)]) rfl ?_
    obtain ⟨hf3, h⟩ := h
    refine Rn_getR rfl (⟨rfl, (by omega : (0 : Int) ≤ 0), (by omega : (0 : Int) + 1 < K ∧ 5 < K)⟩) rfl (nn_Te hf3) ?_
    refine Rn_getI rfl (ob_Te hf3 hK) ?_
    exact Rn_ret1 rfl h
  have ht14 : (wr p1 = 3) → ab_Rn m_EL_count 14 [some (2, 0), some (0, p1)] [] (K, S, g, r) (ab_Qi K S P) := by
    intro hc
    have h := h.2.2.2.1 hc
    refine Rn_pure 1 (i' := 15) (L' := [some (2, 0), some (0, p1)]) (st' := [(2, 0)]) rfl ?_
    refine Rn_getR rfl (⟨rfl, (by omega : (0 : Int) ≤ 0), (by omega : (0 : Int) + 1 < K ∧ 5 < K)⟩) (hr 4 _ rfl) (by decide) ?_
    refine Rn_getI rfl (⟨rfl, (by omega : (0 : Int) ≤ 57), (by omega : (57 : Int) + 1 < K ∧ 5 < K)⟩) ?_
    exact Rn_ret1 rfl h
  have ht18 : (wr p1 = 4) → ab_Rn m_EL_count 18 [some (2, 0), some (0, p1)] [] (K, S, g, r) (ab_Qi K S P) := by
    intro hc
    have h := h.2.2.2.2.1 hc
    refine Rn_pure 1 (i' := 19) (L' := [some (2, 0), some (0, p1)]) (st' := [(2, 0)]) rfl ?_
    refine Rn_getR rfl (⟨rfl, (by omega : (0 : Int) ≤ 0), (by omega : (0 : Int) + 1 < K ∧ 5 < K)⟩) (hr 2 _ rfl) (by decide) ?_
    refine Rn_pure 2 (i' := 22) (L' := [some (2, 0), some (0, p1)]) (st' := [(2, 0), (0, 0), (2, 45)]) rfl ?_
    obtain ⟨hf4, h⟩ := h
    refine Rn_getR rfl (⟨rfl, (by omega : (0 : Int) ≤ 0), (by omega : (0 : Int) + 1 < K ∧ 5 < K)⟩) rfl (nn_Lg hf4) ?_
    refine Rn_getI rfl (ob_Lg hf4 hK) ?_
    refine Rn_callI [(2, 45), (0, 0), (0, g (r 0 5) 10)] [] rfl rfl rfl rfl (ab_rvB_of rfl (⟨rfl, (by omega : (0 : Int) ≤ 45), (by omega : (45 : Int) + 1 < K ∧ 5 < K)⟩)) ?_
    refine h.mono (fun x5 g' r' h => ?_)
    obtain ⟨hx, h⟩ := h
    replace hx := hx.symm
    subst hx
    obtain ⟨hx, h⟩ := h
    replace hx := hx.symm
    subst hx
    exact Rn_ret1 rfl h
  have ht26 : (wr p1 = 5) → ab_Rn m_EL_count 26 [some (2, 0), some (0, p1)] [] (K, S, g, r) (ab_Qi K S P) := by
    intro hc
    have h := h.2.2.2.2.2.1 hc
    refine Rn_pure 1 (i' := 27) (L' := [some (2, 0), some (0, p1)]) (st' := [(2, 0)]) rfl ?_
    obtain ⟨hf6, h⟩ := h
    refine Rn_getR rfl (⟨rfl, (by omega : (0 : Int) ≤ 0), (by omega : (0 : Int) + 1 < K ∧ 5 < K)⟩) rfl (nn_Lg hf6) ?_
    refine Rn_callI [(2, r 0 5)] [] rfl rfl rfl rfl (ab_rvB_of rfl (ob_Lg hf6 hK)) ?_
    refine h.mono (fun x7 g' r' h => ?_)
    obtain ⟨hx, h⟩ := h
    replace hx := hx.symm
    subst hx
    obtain ⟨hx, h⟩ := h
    replace hx := hx.symm
    subst hx
    exact Rn_ret1 rfl h
  have ht30 : (wr p1 = 6) → ab_Rn m_EL_count 30 [some (2, 0), some (0, p1)] [] (K, S, g, r) (ab_Qi K S P) := by
    intro hc
    have h := h.2.2.2.2.2.2.1 hc
    refine Rn_pure 1 (i' := 31) (L' := [some (2, 0), some (0, p1)]) (st' := [(2, 0)]) rfl ?_
    obtain ⟨hf8, h⟩ := h
    refine Rn_getR rfl (⟨rfl, (by omega : (0 : Int) ≤ 0), (by omega : (0 : Int) + 1 < K ∧ 5 < K)⟩) rfl (nn_Lg hf8) ?_
    refine Rn_callI [(2, r 0 5)] [] rfl rfl rfl rfl (ab_rvB_of rfl (ob_Lg hf8 hK)) ?_
    refine h.mono (fun x9 g' r' h => ?_)
    obtain ⟨hx, h⟩ := h
    replace hx := hx.symm
    subst hx
    obtain ⟨hx, h⟩ := h
    replace hx := hx.symm
    subst hx
    exact Rn_ret1 rfl h
  have ht34 : (wr p1 = 7) → ab_Rn m_EL_count 34 [some (2, 0), some (0, p1)] [] (K, S, g, r) (ab_Qi K S P) := by
    intro hc
    have h := h.2.2.2.2.2.2.2.1 hc
    refine Rn_pure 1 (i' := 35) (L' := [some (2, 0), some (0, p1)]) (st' := [(2, 0)]) rfl ?_
    refine Rn_getR rfl (⟨rfl, (by omega : (0 : Int) ≤ 0), (by omega : (0 : Int) + 1 < K ∧ 5 < K)⟩) (hr 2 _ rfl) (by decide) ?_
    refine Rn_callI [(2, 45)] [] rfl rfl rfl rfl (ab_rvB_of rfl (⟨rfl, (by omega : (0 : Int) ≤ 45), (by omega : (45 : Int) + 1 < K ∧ 5 < K)⟩)) ?_
    refine h.mono (fun x10 g' r' h => ?_)
    obtain ⟨hx, h⟩ := h
    replace hx := hx.symm
    subst hx
    obtain ⟨hx, h⟩ := h
    replace hx := hx.symm
    subst hx
    exact Rn_ret1 rfl h
  have ht38 : (wr p1 = 8) → ab_Rn m_EL_count 38 [some (2, 0), some (0, p1)] [] (K, S, g, r) (ab_Qi K S P) := by
    intro hc
    have h := h.2.2.2.2.2.2.2.2.1 hc
    refine Rn_pure 1 (i' := 39) (L' := [some (2, 0), some (0, p1)]) (st' := [(2, 0)]) rfl ?_
    obtain ⟨hf11, h⟩ := h
    refine Rn_getR rfl (⟨rfl, (by omega : (0 : Int) ≤ 0), (by omega : (0 : Int) + 1 < K ∧ 5 < K)⟩) rfl (nn_Lg hf11) ?_
    refine Rn_pure 2 (i' := 42) (L' := [some (2, 0), some (0, p1)]) (st' := [(2, 0), (0, 0), (2, r 0 5)]) rfl ?_
    obtain ⟨hf12, h⟩ := h
    refine Rn_getR rfl (⟨rfl, (by omega : (0 : Int) ≤ 0), (by omega : (0 : Int) + 1 < K ∧ 5 < K)⟩) rfl (nn_Lg hf12) ?_
    refine Rn_getI rfl (ob_Lg hf12 hK) ?_
    refine Rn_callI [(2, r 0 5), (0, 0), (0, g (r 0 5) 10)] [] rfl rfl rfl rfl (ab_rvB_of rfl (ob_Lg hf11 hK)) ?_
    refine h.mono (fun x13 g' r' h => ?_)
    obtain ⟨hx, h⟩ := h
    replace hx := hx.symm
    subst hx
    obtain ⟨hx, h⟩ := h
    replace hx := hx.symm
    subst hx
    exact Rn_ret1 rfl h
  have ht46 : (wr p1 = 9) → ab_Rn m_EL_count 46 [some (2, 0), some (0, p1)] [] (K, S, g, r) (ab_Qi K S P) := by
    intro hc
    have h := h.2.2.2.2.2.2.2.2.2.1 hc
    refine Rn_pure 1 (i' := 47) (L' := [some (2, 0), some (0, p1)]) (st' := [(2, 0)]) rfl ?_
    refine Rn_getI rfl (⟨rfl, (by omega : (0 : Int) ≤ 0), (by omega : (0 : Int) + 1 < K ∧ 5 < K)⟩) ?_
    exact Rn_ret1 rfl h
  have ht49 : (wr p1 = 10) → ab_Rn m_EL_count 49 [some (2, 0), some (0, p1)] [] (K, S, g, r) (ab_Qi K S P) := by
    intro hc
    have h := h.2.2.2.2.2.2.2.2.2.2.1 hc
    refine Rn_pure 1 (i' := 50) (L' := [some (2, 0), some (0, p1)]) (st' := [(2, 0)]) rfl ?_
    refine Rn_getI rfl (⟨rfl, (by omega : (0 : Int) ≤ 0), (by omega : (0 : Int) + 1 < K ∧ 5 < K)⟩) ?_
    exact Rn_ret1 rfl h
  have ht52 : (wr p1 = 11) → ab_Rn m_EL_count 52 [some (2, 0), some (0, p1)] [] (K, S, g, r) (ab_Qi K S P) := by
    intro hc
    have h := h.2.2.2.2.2.2.2.2.2.2.2.1 hc
    refine Rn_pure 1 (i' := 53) (L' := [some (2, 0), some (0, p1)]) (st' := [(2, 0)]) rfl ?_
    refine Rn_getR rfl (⟨rfl, (by omega : (0 : Int) ≤ 0), (by omega : (0 : Int) + 1 < K ∧ 5 < K)⟩) (hr 4 _ rfl) (by decide) ?_
    refine Rn_getI rfl (⟨rfl, (by omega : (0 : Int) ≤ 57), (by omega : (57 : Int) + 1 < K ∧ 5 < K)⟩) ?_
    exact Rn_ret1 rfl h
  have ht56 : (wr p1 = 12) → ab_Rn m_EL_count 56 [some (2, 0), some (0, p1)] [] (K, S, g, r) (ab_Qi K S P) := by
    intro hc
    have h := h.2.2.2.2.2.2.2.2.2.2.2.2.1 hc
    refine Rn_pure 1 (i' := 57) (L' := [some (2, 0), some (0, p1)]) (st' := [(2, 0)]) rfl ?_
    refine Rn_getR rfl (⟨rfl, (by omega : (0 : Int) ≤ 0), (by omega : (0 : Int) + 1 < K ∧ 5 < K)⟩) (hr 4 _ rfl) (by decide) ?_
    refine Rn_getI rfl (⟨rfl, (by omega : (0 : Int) ≤ 57), (by omega : (57 : Int) + 1 < K ∧ 5 < K)⟩) ?_
    exact Rn_ret1 rfl h
  have htd : (wr p1 < 0 ∨ 13 ≤ wr p1) → ab_Rn m_EL_count 60 [some (2, 0), some (0, p1)] [] (K, S, g, r) (ab_Qi K S P) := by
    intro hc
    have h := h.2.2.2.2.2.2.2.2.2.2.2.2.2 hc
    refine Rn_pure 1 (i' := 61) (L' := [some (2, 0), some (0, p1)]) (st' := [(0, (-1))]) rfl ?_
    exact Rn_ret1 rfl h
  have hsp : wr p1 < 0 ∨ 13 ≤ wr p1 ∨ wr p1 = 0 ∨ wr p1 = 1 ∨ wr p1 = 2 ∨ wr p1 = 3 ∨ wr p1 = 4 ∨ wr p1 = 5 ∨ wr p1 = 6 ∨ wr p1 = 7 ∨ wr p1 = 8 ∨ wr p1 = 9 ∨ wr p1 = 10 ∨ wr p1 = 11 ∨ wr p1 = 12 := by omega
  rcases hsp with hc | hc | hc | hc | hc | hc | hc | hc | hc | hc | hc | hc | hc | hc | hc
  · rw [ab_ts_out (hT := (rfl : ab_nth ab_tsL 2 = some (0, 60, [2, 6, 10, 14, 18, 26, 30, 34, 38, 46, 49, 52, 56]))) rfl (Or.inl hc)]; exact htd (by simp only [hc, true_or, or_true])
  · rw [ab_ts_out (hT := (rfl : ab_nth ab_tsL 2 = some (0, 60, [2, 6, 10, 14, 18, 26, 30, 34, 38, 46, 49, 52, 56]))) rfl (Or.inr hc)]; exact htd (by simp only [hc, true_or, or_true])
  · rw [ab_ts_in (j := 0) (hT := (rfl : ab_nth ab_tsL 2 = some (0, 60, [2, 6, 10, 14, 18, 26, 30, 34, 38, 46, 49, 52, 56]))) (by rw [hc]; rfl) rfl]; exact ht2 (by simp only [hc, true_or, or_true])
  · rw [ab_ts_in (j := 1) (hT := (rfl : ab_nth ab_tsL 2 = some (0, 60, [2, 6, 10, 14, 18, 26, 30, 34, 38, 46, 49, 52, 56]))) (by rw [hc]; rfl) rfl]; exact ht6 (by simp only [hc, true_or, or_true])
  · rw [ab_ts_in (j := 2) (hT := (rfl : ab_nth ab_tsL 2 = some (0, 60, [2, 6, 10, 14, 18, 26, 30, 34, 38, 46, 49, 52, 56]))) (by rw [hc]; rfl) rfl]; exact ht10 (by simp only [hc, true_or, or_true])
  · rw [ab_ts_in (j := 3) (hT := (rfl : ab_nth ab_tsL 2 = some (0, 60, [2, 6, 10, 14, 18, 26, 30, 34, 38, 46, 49, 52, 56]))) (by rw [hc]; rfl) rfl]; exact ht14 (by simp only [hc, true_or, or_true])
  · rw [ab_ts_in (j := 4) (hT := (rfl : ab_nth ab_tsL 2 = some (0, 60, [2, 6, 10, 14, 18, 26, 30, 34, 38, 46, 49, 52, 56]))) (by rw [hc]; rfl) rfl]; exact ht18 (by simp only [hc, true_or, or_true])
  · rw [ab_ts_in (j := 5) (hT := (rfl : ab_nth ab_tsL 2 = some (0, 60, [2, 6, 10, 14, 18, 26, 30, 34, 38, 46, 49, 52, 56]))) (by rw [hc]; rfl) rfl]; exact ht26 (by simp only [hc, true_or, or_true])
  · rw [ab_ts_in (j := 6) (hT := (rfl : ab_nth ab_tsL 2 = some (0, 60, [2, 6, 10, 14, 18, 26, 30, 34, 38, 46, 49, 52, 56]))) (by rw [hc]; rfl) rfl]; exact ht30 (by simp only [hc, true_or, or_true])
  · rw [ab_ts_in (j := 7) (hT := (rfl : ab_nth ab_tsL 2 = some (0, 60, [2, 6, 10, 14, 18, 26, 30, 34, 38, 46, 49, 52, 56]))) (by rw [hc]; rfl) rfl]; exact ht34 (by simp only [hc, true_or, or_true])
  · rw [ab_ts_in (j := 8) (hT := (rfl : ab_nth ab_tsL 2 = some (0, 60, [2, 6, 10, 14, 18, 26, 30, 34, 38, 46, 49, 52, 56]))) (by rw [hc]; rfl) rfl]; exact ht38 (by simp only [hc, true_or, or_true])
  · rw [ab_ts_in (j := 9) (hT := (rfl : ab_nth ab_tsL 2 = some (0, 60, [2, 6, 10, 14, 18, 26, 30, 34, 38, 46, 49, 52, 56]))) (by rw [hc]; rfl) rfl]; exact ht46 (by simp only [hc, true_or, or_true])
  · rw [ab_ts_in (j := 10) (hT := (rfl : ab_nth ab_tsL 2 = some (0, 60, [2, 6, 10, 14, 18, 26, 30, 34, 38, 46, 49, 52, 56]))) (by rw [hc]; rfl) rfl]; exact ht49 (by simp only [hc, true_or, or_true])
  · rw [ab_ts_in (j := 11) (hT := (rfl : ab_nth ab_tsL 2 = some (0, 60, [2, 6, 10, 14, 18, 26, 30, 34, 38, 46, 49, 52, 56]))) (by rw [hc]; rfl) rfl]; exact ht52 (by simp only [hc, true_or, or_true])
  · rw [ab_ts_in (j := 12) (hT := (rfl : ab_nth ab_tsL 2 = some (0, 60, [2, 6, 10, 14, 18, 26, 30, 34, 38, 46, 49, 52, 56]))) (by rw [hc]; rfl) rfl]; exact ht56 (by simp only [hc, true_or, or_true])
-- EventLedger.putBytes (I)V
theorem v_EL_putBytes {K : Int} {S : Nat} {g r : ab_H} {p1 : Int} (P : ab_H → ab_H → Prop) (hr : SI r) (hK : 186 ≤ K) (h : ab_Rn m_EL_putBytes 2 [some (2, 0), some (0, p1), some (0, 24)] [] (K, S, g, r) (ab_Qv K S P)) : ab_RV m_EL_putBytes [(2, 0), (0, p1)] K S g r P := by
  show ab_Rn m_EL_putBytes 0 [some (2, 0), some (0, p1), none] [] (K, S, g, r) (ab_Qv K S P)
  refine Rn_pure 2 (i' := 2) (L' := [some (2, 0), some (0, p1), some (0, 24)]) (st' := []) rfl ?_
  exact h
theorem v_EL_putBytes_2 {K : Int} {S : Nat} {g r : ab_H} {l1 l2 : Int} (P : ab_H → ab_H → Prop) (hr : SI r) (hK : 186 ≤ K) (h : ((wr l2 < wr 0 → P g r) ∧ (wr 0 ≤ wr l2 → ((wr 900 ≤ wr (g 0 1) → P g r) ∧ (wr (g 0 1) < wr 900 → ((0 : Int) ≤ g 0 1 ∧ (g 0 1 : Int) < 900) ∧ ∀ g1, g1 = ab_up g 1 (g 0 1) (ab_i2b (ab_i2b (ab_ush l1 l2))) → ∀ g2, g2 = ab_up g1 0 1 (g1 0 1 + 1) → ab_Rn m_EL_putBytes 2 [some (2, 0), some (0, l1), some (0, l2 + (-8))] [] (K, S, g2, r) (ab_Qv K S P)))))) : ab_Rn m_EL_putBytes 2 [some (2, 0), some (0, l1), some (0, l2)] [] (K, S, g, r) (ab_Qv K S P) := by
  refine Rn_pure 1 (i' := 3) (L' := [some (2, 0), some (0, l1), some (0, l2)]) (st' := [(0, l2)]) rfl ?_
  refine Rn_iflt rfl (fun hc => ?_) (fun hc => ?_)
  · have h := h.1 hc
    exact Rn_ret0 rfl h
  · have h := h.2 hc
    refine Rn_pure 1 (i' := 5) (L' := [some (2, 0), some (0, l1), some (0, l2)]) (st' := [(2, 0)]) rfl ?_
    refine Rn_getI rfl (⟨rfl, (by omega : (0 : Int) ≤ 0), (by omega : (0 : Int) + 1 < K ∧ 5 < K)⟩) ?_
    refine Rn_pure 1 (i' := 7) (L' := [some (2, 0), some (0, l1), some (0, l2)]) (st' := [(0, 900), (0, g 0 1)]) rfl ?_
    refine Rn_icge rfl (fun hc => ?_) (fun hc => ?_)
    · have h := h.1 hc
      exact Rn_ret0 rfl h
    · have h := h.2 hc
      refine Rn_pure 1 (i' := 9) (L' := [some (2, 0), some (0, l1), some (0, l2)]) (st' := [(2, 0)]) rfl ?_
      refine Rn_getR rfl (⟨rfl, (by omega : (0 : Int) ≤ 0), (by omega : (0 : Int) + 1 < K ∧ 5 < K)⟩) (hr 0 _ rfl) (by decide) ?_
      refine Rn_pure 1 (i' := 11) (L' := [some (2, 0), some (0, l1), some (0, l2)]) (st' := [(2, 0), (2, 1)]) rfl ?_
      refine Rn_getI rfl (⟨rfl, (by omega : (0 : Int) ≤ 0), (by omega : (0 : Int) + 1 < K ∧ 5 < K)⟩) ?_
      refine Rn_pure 4 (i' := 16) (L' := [some (2, 0), some (0, l1), some (0, l2)]) (st' := [(0, ab_i2b (ab_ush l1 l2)), (0, g 0 1), (2, 1)]) rfl ?_
      obtain ⟨hg, h⟩ := h
      refine Rn_bast rfl (⟨rfl, (by omega : (0 : Int) ≤ 1), (by omega : (1 : Int) + 1 < K ∧ 5 < K)⟩) hg (fun g1 he_g1 => ?_)
      have h := h g1 he_g1
      refine Rn_pure 2 (i' := 19) (L' := [some (2, 0), some (0, l1), some (0, l2)]) (st' := [(2, 0), (2, 0)]) rfl ?_
      refine Rn_getI rfl (⟨rfl, (by omega : (0 : Int) ≤ 0), (by omega : (0 : Int) + 1 < K ∧ 5 < K)⟩) ?_
      refine Rn_pure 2 (i' := 22) (L' := [some (2, 0), some (0, l1), some (0, l2)]) (st' := [(0, g1 0 1 + 1), (2, 0)]) rfl ?_
      refine Rn_putI rfl (⟨rfl, (by omega : (0 : Int) ≤ 0), (by omega : (0 : Int) + 1 < K ∧ 5 < K)⟩) (fun g2 he_g2 => ?_)
      have h := h g2 he_g2
      refine Rn_pure 2 (i' := 2) (L' := [some (2, 0), some (0, l1), some (0, l2 + (-8))]) (st' := []) rfl ?_
      exact h
-- EventLedger.takeOverSpares ()V
theorem v_EL_takeOverSpares {K : Int} {S : Nat} {g r : ab_H} (P : ab_H → ab_H → Prop) (hr : SI r) (hK : 186 ≤ K) (h : (isTe (r 0 4)) ∧ (isTe (r 0 3)) ∧ ∀ r3, r3 = ab_up r 0 4 (r 0 3) → ∀ r5, r5 = ab_up r3 0 3 (r 0 4) → (isLg (r5 0 6)) ∧ (isLg (r5 0 5)) ∧ ∀ r9, r9 = ab_up r5 0 6 (r5 0 5) → ∀ r11, r11 = ab_up r9 0 5 (r5 0 6) → ab_Rn m_EL_takeOverSpares 22 [some (2, 0), none, none, some (0, 0)] [] (K, S, g, r11) (ab_Qv K S P)) : ab_RV m_EL_takeOverSpares [(2, 0)] K S g r P := by
  show ab_Rn m_EL_takeOverSpares 0 [some (2, 0), none, none, none] [] (K, S, g, r) (ab_Qv K S P)
  refine Rn_pure 1 (i' := 1) (L' := [some (2, 0), none, none, none]) (st' := [(2, 0)]) rfl ?_
  obtain ⟨hf1, h⟩ := h
  refine Rn_getR rfl (⟨rfl, (by omega : (0 : Int) ≤ 0), (by omega : (0 : Int) + 1 < K ∧ 5 < K)⟩) rfl (nn_Te hf1) ?_
  refine Rn_pure 3 (i' := 5) (L' := [some (2, 0), some (2, r 0 4), none, none]) (st' := [(2, 0), (2, 0)]) rfl ?_
  obtain ⟨hf2, h⟩ := h
  refine Rn_getR rfl (⟨rfl, (by omega : (0 : Int) ≤ 0), (by omega : (0 : Int) + 1 < K ∧ 5 < K)⟩) rfl (nn_Te hf2) ?_
  refine Rn_putR rfl (⟨rfl, (by omega : (0 : Int) ≤ 0), (by omega : (0 : Int) + 1 < K ∧ 5 < K)⟩) (nn_Te hf2) (fun r3 he_r3 => ?_)
  have h := h r3 he_r3
  have hr4 : SI r3 := by rw [he_r3]; exact SI_up hr (by decide)
  refine Rn_pure 2 (i' := 9) (L' := [some (2, 0), some (2, r 0 4), none, none]) (st' := [(2, r 0 4), (2, 0)]) rfl ?_
  refine Rn_putR rfl (⟨rfl, (by omega : (0 : Int) ≤ 0), (by omega : (0 : Int) + 1 < K ∧ 5 < K)⟩) (nn_Te hf1) (fun r5 he_r5 => ?_)
  have h := h r5 he_r5
  have hr6 : SI r5 := by rw [he_r5]; exact SI_up hr4 (by decide)
  refine Rn_pure 1 (i' := 11) (L' := [some (2, 0), some (2, r 0 4), none, none]) (st' := [(2, 0)]) rfl ?_
  obtain ⟨hf7, h⟩ := h
  refine Rn_getR rfl (⟨rfl, (by omega : (0 : Int) ≤ 0), (by omega : (0 : Int) + 1 < K ∧ 5 < K)⟩) rfl (nn_Lg hf7) ?_
  refine Rn_pure 3 (i' := 15) (L' := [some (2, 0), some (2, r 0 4), some (2, r5 0 6), none]) (st' := [(2, 0), (2, 0)]) rfl ?_
  obtain ⟨hf8, h⟩ := h
  refine Rn_getR rfl (⟨rfl, (by omega : (0 : Int) ≤ 0), (by omega : (0 : Int) + 1 < K ∧ 5 < K)⟩) rfl (nn_Lg hf8) ?_
  refine Rn_putR rfl (⟨rfl, (by omega : (0 : Int) ≤ 0), (by omega : (0 : Int) + 1 < K ∧ 5 < K)⟩) (nn_Lg hf8) (fun r9 he_r9 => ?_)
  have h := h r9 he_r9
  have hr10 : SI r9 := by rw [he_r9]; exact SI_up hr6 (by decide)
  refine Rn_pure 2 (i' := 19) (L' := [some (2, 0), some (2, r 0 4), some (2, r5 0 6), none]) (st' := [(2, r5 0 6), (2, 0)]) rfl ?_
  refine Rn_putR rfl (⟨rfl, (by omega : (0 : Int) ≤ 0), (by omega : (0 : Int) + 1 < K ∧ 5 < K)⟩) (nn_Lg hf7) (fun r11 he_r11 => ?_)
  have h := h r11 he_r11
  have hr12 : SI r11 := by rw [he_r11]; exact SI_up hr10 (by decide)
  refine Rn_pure 2 (i' := 22) (L' := [some (2, 0), some (2, r 0 4), some (2, r5 0 6), some (0, 0)]) (st' := []) rfl ?_
  refine Rn_weak (L' := [some (2, 0), none, none, some (0, 0)]) ⟨rfl, ⟨rfl, trivial⟩⟩ ?_
  exact h
theorem v_EL_takeOverSpares_22 {K : Int} {S : Nat} {g r : ab_H} {l3 : Int} (P : ab_H → ab_H → Prop) (hr : SI r) (hK : 186 ≤ K) (h : (isLg (r 0 5)) ∧ ((wr (g (r 0 5) 10) ≤ wr l3 → P g r) ∧ (wr l3 < wr (g (r 0 5) 10) → (isTe (r 0 3)) ∧ (isLg (r 0 5)) ∧ ab_RV m_Te_lift [(2, r 0 3), (2, r 0 5), (0, l3), (0, (-1)), (0, (-1))] K S g r (fun g4 r' => r' = r ∧ (ab_Rn m_EL_takeOverSpares 22 [some (2, 0), none, none, some (0, l3 + 1)] [] (K, S, g4, r) (ab_Qv K S P)))))) : ab_Rn m_EL_takeOverSpares 22 [some (2, 0), none, none, some (0, l3)] [] (K, S, g, r) (ab_Qv K S P) := by
  refine Rn_pure 2 (i' := 24) (L' := [some (2, 0), none, none, some (0, l3)]) (st' := [(2, 0), (0, l3)]) rfl ?_
  obtain ⟨hf1, h⟩ := h
  refine Rn_getR rfl (⟨rfl, (by omega : (0 : Int) ≤ 0), (by omega : (0 : Int) + 1 < K ∧ 5 < K)⟩) rfl (nn_Lg hf1) ?_
  refine Rn_getI rfl (ob_Lg hf1 hK) ?_
  refine Rn_icge rfl (fun hc => ?_) (fun hc => ?_)
  · have h := h.1 hc
    exact Rn_ret0 rfl h
  · have h := h.2 hc
    refine Rn_pure 1 (i' := 28) (L' := [some (2, 0), none, none, some (0, l3)]) (st' := [(2, 0)]) rfl ?_
    obtain ⟨hf2, h⟩ := h
    refine Rn_getR rfl (⟨rfl, (by omega : (0 : Int) ≤ 0), (by omega : (0 : Int) + 1 < K ∧ 5 < K)⟩) rfl (nn_Te hf2) ?_
    refine Rn_pure 1 (i' := 30) (L' := [some (2, 0), none, none, some (0, l3)]) (st' := [(2, 0), (2, r 0 3)]) rfl ?_
    obtain ⟨hf3, h⟩ := h
    refine Rn_getR rfl (⟨rfl, (by omega : (0 : Int) ≤ 0), (by omega : (0 : Int) + 1 < K ∧ 5 < K)⟩) rfl (nn_Lg hf3) ?_
    refine Rn_pure 3 (i' := 34) (L' := [some (2, 0), none, none, some (0, l3)]) (st' := [(0, (-1)), (0, (-1)), (0, l3), (2, r 0 5), (2, r 0 3)]) rfl ?_
    refine Rn_callV [(2, r 0 3), (2, r 0 5), (0, l3), (0, (-1)), (0, (-1))] [] rfl rfl rfl rfl (ab_rvB_of rfl (ob_Te hf2 hK)) ?_
    refine h.mono (fun g4 r' h => ?_)
    obtain ⟨hx, h⟩ := h
    replace hx := hx.symm
    subst hx
    refine Rn_pure 2 (i' := 22) (L' := [some (2, 0), none, none, some (0, l3 + 1)]) (st' := []) rfl ?_
    exact h
-- EventLedger.isAccount (I)Z
theorem v_EL_isAccount {K : Int} {S : Nat} {g r : ab_H} {p1 : Int} (P : Int → ab_H → ab_H → Prop) (hr : SI r) (hK : 186 ≤ K) (h : ((wr p1 < wr 0 → P 0 g r) ∧ (wr 0 ≤ wr p1 → (isTe (r 0 3)) ∧ ((wr (g (r 0 3) 1) ≤ wr p1 → P 0 g r) ∧ (wr p1 < wr (g (r 0 3) 1) → P 1 g r))))) : ab_RI m_EL_isAccount [(2, 0), (0, p1)] K S g r P := by
  show ab_Rn m_EL_isAccount 0 [some (2, 0), some (0, p1)] [] (K, S, g, r) (ab_Qi K S P)
  refine Rn_pure 1 (i' := 1) (L' := [some (2, 0), some (0, p1)]) (st' := [(0, p1)]) rfl ?_
  refine Rn_iflt rfl (fun hc => ?_) (fun hc => ?_)
  · have h := h.1 hc
    refine Rn_pure 1 (i' := 10) (L' := [some (2, 0), some (0, p1)]) (st' := [(0, 0)]) rfl ?_
    exact Rn_ret2 rfl (by decide) h
  · have h := h.2 hc
    refine Rn_pure 2 (i' := 4) (L' := [some (2, 0), some (0, p1)]) (st' := [(2, 0), (0, p1)]) rfl ?_
    obtain ⟨hf1, h⟩ := h
    refine Rn_getR rfl (⟨rfl, (by omega : (0 : Int) ≤ 0), (by omega : (0 : Int) + 1 < K ∧ 5 < K)⟩) rfl (nn_Te hf1) ?_
    refine Rn_getI rfl (ob_Te hf1 hK) ?_
    refine Rn_icge rfl (fun hc => ?_) (fun hc => ?_)
    · have h := h.1 hc
      refine Rn_pure 1 (i' := 10) (L' := [some (2, 0), some (0, p1)]) (st' := [(0, 0)]) rfl ?_
      exact Rn_ret2 rfl (by decide) h
    · have h := h.2 hc
      refine Rn_pure 2 (i' := 10) (L' := [some (2, 0), some (0, p1)]) (st' := [(0, 1)]) rfl ?_
      exact Rn_ret2 rfl (by decide) h
-- EventLedger.isTally (I)Z
theorem v_EL_isTally {K : Int} {S : Nat} {g r : ab_H} {p1 : Int} (P : Int → ab_H → ab_H → Prop) (hr : SI r) (hK : 186 ≤ K) (h : ((wr p1 < wr 0 → P 0 g r) ∧ (wr 0 ≤ wr p1 → (isTe (r 0 3)) ∧ ((wr (g (r 0 3) 5) ≤ wr p1 → P 0 g r) ∧ (wr p1 < wr (g (r 0 3) 5) → P 1 g r))))) : ab_RI m_EL_isTally [(2, 0), (0, p1)] K S g r P := by
  show ab_Rn m_EL_isTally 0 [some (2, 0), some (0, p1)] [] (K, S, g, r) (ab_Qi K S P)
  refine Rn_pure 1 (i' := 1) (L' := [some (2, 0), some (0, p1)]) (st' := [(0, p1)]) rfl ?_
  refine Rn_iflt rfl (fun hc => ?_) (fun hc => ?_)
  · have h := h.1 hc
    refine Rn_pure 1 (i' := 10) (L' := [some (2, 0), some (0, p1)]) (st' := [(0, 0)]) rfl ?_
    exact Rn_ret2 rfl (by decide) h
  · have h := h.2 hc
    refine Rn_pure 2 (i' := 4) (L' := [some (2, 0), some (0, p1)]) (st' := [(2, 0), (0, p1)]) rfl ?_
    obtain ⟨hf1, h⟩ := h
    refine Rn_getR rfl (⟨rfl, (by omega : (0 : Int) ≤ 0), (by omega : (0 : Int) + 1 < K ∧ 5 < K)⟩) rfl (nn_Te hf1) ?_
    refine Rn_getI rfl (ob_Te hf1 hK) ?_
    refine Rn_icge rfl (fun hc => ?_) (fun hc => ?_)
    · have h := h.1 hc
      refine Rn_pure 1 (i' := 10) (L' := [some (2, 0), some (0, p1)]) (st' := [(0, 0)]) rfl ?_
      exact Rn_ret2 rfl (by decide) h
    · have h := h.2 hc
      refine Rn_pure 2 (i' := 10) (L' := [some (2, 0), some (0, p1)]) (st' := [(0, 1)]) rfl ?_
      exact Rn_ret2 rfl (by decide) h
-- EventLedger.isTime (I)Z
theorem v_EL_isTime {K : Int} {S : Nat} {g r : ab_H} {p0 : Int} (P : Int → ab_H → ab_H → Prop) (hr : SI r) (hK : 186 ≤ K) (h : ((wr p0 < wr 0 → P 0 g r) ∧ (wr 0 ≤ wr p0 → ((wr 9999 < wr p0 → P 0 g r) ∧ (wr p0 ≤ wr 9999 → P 1 g r))))) : ab_RI m_EL_isTime [(0, p0)] K S g r P := by
  show ab_Rn m_EL_isTime 0 [some (0, p0)] [] (K, S, g, r) (ab_Qi K S P)
  refine Rn_pure 1 (i' := 1) (L' := [some (0, p0)]) (st' := [(0, p0)]) rfl ?_
  refine Rn_iflt rfl (fun hc => ?_) (fun hc => ?_)
  · have h := h.1 hc
    refine Rn_pure 1 (i' := 8) (L' := [some (0, p0)]) (st' := [(0, 0)]) rfl ?_
    exact Rn_ret2 rfl (by decide) h
  · have h := h.2 hc
    refine Rn_pure 2 (i' := 4) (L' := [some (0, p0)]) (st' := [(0, 9999), (0, p0)]) rfl ?_
    refine Rn_icgt rfl (fun hc => ?_) (fun hc => ?_)
    · have h := h.1 hc
      refine Rn_pure 1 (i' := 8) (L' := [some (0, p0)]) (st' := [(0, 0)]) rfl ?_
      exact Rn_ret2 rfl (by decide) h
    · have h := h.2 hc
      refine Rn_pure 2 (i' := 8) (L' := [some (0, p0)]) (st' := [(0, 1)]) rfl ?_
      exact Rn_ret2 rfl (by decide) h
-- EventLedger.isNumber (I)Z
theorem v_EL_isNumber {K : Int} {S : Nat} {g r : ab_H} {p0 : Int} (P : Int → ab_H → ab_H → Prop) (hr : SI r) (hK : 186 ≤ K) (h : ((wr p0 < wr 0 → P 0 g r) ∧ (wr 0 ≤ wr p0 → ((wr 99999 < wr p0 → P 0 g r) ∧ (wr p0 ≤ wr 99999 → P 1 g r))))) : ab_RI m_EL_isNumber [(0, p0)] K S g r P := by
  show ab_Rn m_EL_isNumber 0 [some (0, p0)] [] (K, S, g, r) (ab_Qi K S P)
  refine Rn_pure 1 (i' := 1) (L' := [some (0, p0)]) (st' := [(0, p0)]) rfl ?_
  refine Rn_iflt rfl (fun hc => ?_) (fun hc => ?_)
  · have h := h.1 hc
    refine Rn_pure 1 (i' := 8) (L' := [some (0, p0)]) (st' := [(0, 0)]) rfl ?_
    exact Rn_ret2 rfl (by decide) h
  · have h := h.2 hc
    refine Rn_pure 2 (i' := 4) (L' := [some (0, p0)]) (st' := [(0, 99999), (0, p0)]) rfl ?_
    refine Rn_icgt rfl (fun hc => ?_) (fun hc => ?_)
    · have h := h.1 hc
      refine Rn_pure 1 (i' := 8) (L' := [some (0, p0)]) (st' := [(0, 0)]) rfl ?_
      exact Rn_ret2 rfl (by decide) h
    · have h := h.2 hc
      refine Rn_pure 2 (i' := 8) (L' := [some (0, p0)]) (st' := [(0, 1)]) rfl ?_
      exact Rn_ret2 rfl (by decide) h
-- EventLedger.canBe (III)Z
theorem v_EL_canBe {K : Int} {S : Nat} {g r : ab_H} {p1 p2 p3 : Int} (P : Int → ab_H → ab_H → Prop) (hr : SI r) (hK : 186 ≤ K) (h : ((wr p1 < wr 0 → P 0 g r) ∧ (wr 0 ≤ wr p1 → ((wr 7 ≤ wr p1 → P 0 g r) ∧ (wr p1 < wr 7 → ab_RI m_EL_isAccount [(2, 0), (0, p2)] K S g r (fun x1 g' r' => g' = g ∧ r' = r ∧ (((¬ wr x1 = wr 0 → ((¬ wr p1 = wr 6 → P 1 g r) ∧ (wr p1 = wr 6 → ab_RI m_EL_isAccount [(2, 0), (0, p3)] K S g r (fun x2 g' r' => g' = g ∧ r' = r ∧ (((wr x2 = wr 0 → P 0 g r) ∧ (¬ wr x2 = wr 0 → ((wr p3 = wr p2 → P 0 g r) ∧ (¬ wr p3 = wr p2 → P 1 g r))))))))) ∧ (wr x1 = wr 0 → P 0 g r))))))))) : ab_RI m_EL_canBe [(2, 0), (0, p1), (0, p2), (0, p3)] K S g r P := by
  show ab_Rn m_EL_canBe 0 [some (2, 0), some (0, p1), some (0, p2), some (0, p3)] [] (K, S, g, r) (ab_Qi K S P)
  refine Rn_pure 1 (i' := 1) (L' := [some (2, 0), some (0, p1), some (0, p2), some (0, p3)]) (st' := [(0, p1)]) rfl ?_
  refine Rn_iflt rfl (fun hc => ?_) (fun hc => ?_)
  · have h := h.1 hc
    refine Rn_pure 1 (i' := 10) (L' := [some (2, 0), some (0, p1), some (0, p2), some (0, p3)]) (st' := [(0, 0)]) rfl ?_
    exact Rn_ret2 rfl (by decide) h
  · have h := h.2 hc
    refine Rn_pure 2 (i' := 4) (L' := [some (2, 0), some (0, p1), some (0, p2), some (0, p3)]) (st' := [(0, 7), (0, p1)]) rfl ?_
    refine Rn_icge rfl (fun hc => ?_) (fun hc => ?_)
    · have h := h.1 hc
      refine Rn_pure 1 (i' := 10) (L' := [some (2, 0), some (0, p1), some (0, p2), some (0, p3)]) (st' := [(0, 0)]) rfl ?_
      exact Rn_ret2 rfl (by decide) h
    · have h := h.2 hc
      refine Rn_pure 2 (i' := 7) (L' := [some (2, 0), some (0, p1), some (0, p2), some (0, p3)]) (st' := [(0, p2), (2, 0)]) rfl ?_
      refine Rn_callI [(2, 0), (0, p2)] [] rfl rfl rfl rfl (ab_rvB_of rfl (⟨rfl, (by omega : (0 : Int) ≤ 0), (by omega : (0 : Int) + 1 < K ∧ 5 < K)⟩)) ?_
      refine h.mono (fun x1 g' r' h => ?_)
      obtain ⟨hx, h⟩ := h
      replace hx := hx.symm
      subst hx
      obtain ⟨hx, h⟩ := h
      replace hx := hx.symm
      subst hx
      refine Rn_ifne rfl (fun hc => ?_) (fun hc => ?_)
      · have h := h.1 hc
        refine Rn_pure 2 (i' := 13) (L' := [some (2, 0), some (0, p1), some (0, p2), some (0, p3)]) (st' := [(0, 6), (0, p1)]) rfl ?_
        refine Rn_icne rfl (fun hc => ?_) (fun hc => ?_)
        · have h := h.1 hc
          refine Rn_pure 2 (i' := 24) (L' := [some (2, 0), some (0, p1), some (0, p2), some (0, p3)]) (st' := [(0, 1)]) rfl ?_
          exact Rn_ret2 rfl (by decide) h
        · have h := h.2 hc
          refine Rn_pure 2 (i' := 16) (L' := [some (2, 0), some (0, p1), some (0, p2), some (0, p3)]) (st' := [(0, p3), (2, 0)]) rfl ?_
          refine Rn_callI [(2, 0), (0, p3)] [] rfl rfl rfl rfl (ab_rvB_of rfl (⟨rfl, (by omega : (0 : Int) ≤ 0), (by omega : (0 : Int) + 1 < K ∧ 5 < K)⟩)) ?_
          refine h.mono (fun x2 g' r' h => ?_)
          obtain ⟨hx, h⟩ := h
          replace hx := hx.symm
          subst hx
          obtain ⟨hx, h⟩ := h
          replace hx := hx.symm
          subst hx
          refine Rn_ifeq rfl (fun hc => ?_) (fun hc => ?_)
          · have h := h.1 hc
            refine Rn_pure 1 (i' := 24) (L' := [some (2, 0), some (0, p1), some (0, p2), some (0, p3)]) (st' := [(0, 0)]) rfl ?_
            exact Rn_ret2 rfl (by decide) h
          · have h := h.2 hc
            refine Rn_pure 2 (i' := 20) (L' := [some (2, 0), some (0, p1), some (0, p2), some (0, p3)]) (st' := [(0, p2), (0, p3)]) rfl ?_
            refine Rn_iceq rfl (fun hc => ?_) (fun hc => ?_)
            · have h := h.1 hc
              refine Rn_pure 1 (i' := 24) (L' := [some (2, 0), some (0, p1), some (0, p2), some (0, p3)]) (st' := [(0, 0)]) rfl ?_
              exact Rn_ret2 rfl (by decide) h
            · have h := h.2 hc
              refine Rn_pure 2 (i' := 24) (L' := [some (2, 0), some (0, p1), some (0, p2), some (0, p3)]) (st' := [(0, 1)]) rfl ?_
              exact Rn_ret2 rfl (by decide) h
      · have h := h.2 hc
        refine Rn_pure 1 (i' := 10) (L' := [some (2, 0), some (0, p1), some (0, p2), some (0, p3)]) (st' := [(0, 0)]) rfl ?_
        exact Rn_ret2 rfl (by decide) h
-- EventLedger.fillRow (II)V
theorem v_EL_fillRow {K : Int} {S : Nat} {g r : ab_H} {p1 p2 : Int} (P : ab_H → ab_H → Prop) (hr : SI r) (hK : 186 ≤ K) (h : ((0 : Int) ≤ 0 ∧ (0 : Int) < 3) ∧ ∀ g1, g1 = ab_up g 64 0 p1 → ((0 : Int) ≤ 1 ∧ (1 : Int) < 3) ∧ ∀ g2, g2 = ab_up g1 64 1 p2 → ((0 : Int) ≤ 2 ∧ (2 : Int) < 3) ∧ ∀ g3, g3 = ab_up g2 64 2 0 → P g3 r) : ab_RV m_EL_fillRow [(2, 0), (0, p1), (0, p2)] K S g r P := by
  show ab_Rn m_EL_fillRow 0 [some (2, 0), some (0, p1), some (0, p2)] [] (K, S, g, r) (ab_Qv K S P)
  refine Rn_pure 1 (i' := 1) (L' := [some (2, 0), some (0, p1), some (0, p2)]) (st' := [(2, 0)]) rfl ?_
  refine Rn_getR rfl (⟨rfl, (by omega : (0 : Int) ≤ 0), (by omega : (0 : Int) + 1 < K ∧ 5 < K)⟩) (hr 7 _ rfl) (by decide) ?_
  refine Rn_pure 2 (i' := 4) (L' := [some (2, 0), some (0, p1), some (0, p2)]) (st' := [(0, p1), (0, 0), (2, 64)]) rfl ?_
  obtain ⟨hg, h⟩ := h
  refine Rn_iast rfl (⟨rfl, (by omega : (0 : Int) ≤ 64), (by omega : (64 : Int) + 1 < K ∧ 5 < K)⟩) hg (fun g1 he_g1 => ?_)
  have h := h g1 he_g1
  refine Rn_pure 1 (i' := 6) (L' := [some (2, 0), some (0, p1), some (0, p2)]) (st' := [(2, 0)]) rfl ?_
  refine Rn_getR rfl (⟨rfl, (by omega : (0 : Int) ≤ 0), (by omega : (0 : Int) + 1 < K ∧ 5 < K)⟩) (hr 7 _ rfl) (by decide) ?_
  refine Rn_pure 2 (i' := 9) (L' := [some (2, 0), some (0, p1), some (0, p2)]) (st' := [(0, p2), (0, 1), (2, 64)]) rfl ?_
  obtain ⟨hg, h⟩ := h
  refine Rn_iast rfl (⟨rfl, (by omega : (0 : Int) ≤ 64), (by omega : (64 : Int) + 1 < K ∧ 5 < K)⟩) hg (fun g2 he_g2 => ?_)
  have h := h g2 he_g2
  refine Rn_pure 1 (i' := 11) (L' := [some (2, 0), some (0, p1), some (0, p2)]) (st' := [(2, 0)]) rfl ?_
  refine Rn_getR rfl (⟨rfl, (by omega : (0 : Int) ≤ 0), (by omega : (0 : Int) + 1 < K ∧ 5 < K)⟩) (hr 7 _ rfl) (by decide) ?_
  refine Rn_pure 2 (i' := 14) (L' := [some (2, 0), some (0, p1), some (0, p2)]) (st' := [(0, 0), (0, 2), (2, 64)]) rfl ?_
  obtain ⟨hg, h⟩ := h
  refine Rn_iast rfl (⟨rfl, (by omega : (0 : Int) ≤ 64), (by omega : (64 : Int) + 1 < K ∧ 5 < K)⟩) hg (fun g3 he_g3 => ?_)
  have h := h g3 he_g3
  exact Rn_ret0 rfl h
-- EventLedger.refusalAt (I)I
theorem v_EL_refusalAt {K : Int} {S : Nat} {g r : ab_H} {p1 : Int} (P : Int → ab_H → ab_H → Prop) (hr : SI r) (hK : 186 ≤ K) (h : (isLg (r 0 5)) ∧ ab_RI m_Lg_latestTime [(2, r 0 5)] K S g r (fun x2 g' r' => g' = g ∧ r' = r ∧ (((wr x2 ≤ wr p1 → (isLg (r 0 5)) ∧ ((wr (g (r 0 5) 10) < wr 120 → P 0 g r) ∧ (wr 120 ≤ wr (g (r 0 5) 10) → P (-3) g r))) ∧ (wr p1 < wr x2 → P (-2) g r))))) : ab_RI m_EL_refusalAt [(2, 0), (0, p1)] K S g r P := by
  show ab_Rn m_EL_refusalAt 0 [some (2, 0), some (0, p1)] [] (K, S, g, r) (ab_Qi K S P)
  refine Rn_pure 2 (i' := 2) (L' := [some (2, 0), some (0, p1)]) (st' := [(2, 0), (0, p1)]) rfl ?_
  obtain ⟨hf1, h⟩ := h
  refine Rn_getR rfl (⟨rfl, (by omega : (0 : Int) ≤ 0), (by omega : (0 : Int) + 1 < K ∧ 5 < K)⟩) rfl (nn_Lg hf1) ?_
  refine Rn_callI [(2, r 0 5)] [(0, p1)] rfl rfl rfl rfl (ab_rvB_of rfl (ob_Lg hf1 hK)) ?_
  refine h.mono (fun x2 g' r' h => ?_)
  obtain ⟨hx, h⟩ := h
  replace hx := hx.symm
  subst hx
  obtain ⟨hx, h⟩ := h
  replace hx := hx.symm
  subst hx
  refine Rn_icge rfl (fun hc => ?_) (fun hc => ?_)
  · have h := h.1 hc
    refine Rn_pure 1 (i' := 8) (L' := [some (2, 0), some (0, p1)]) (st' := [(2, 0)]) rfl ?_
    obtain ⟨hf3, h⟩ := h
    refine Rn_getR rfl (⟨rfl, (by omega : (0 : Int) ≤ 0), (by omega : (0 : Int) + 1 < K ∧ 5 < K)⟩) rfl (nn_Lg hf3) ?_
    refine Rn_getI rfl (ob_Lg hf3 hK) ?_
    refine Rn_pure 1 (i' := 11) (L' := [some (2, 0), some (0, p1)]) (st' := [(0, 120), (0, g (r 0 5) 10)]) rfl ?_
    refine Rn_iclt rfl (fun hc => ?_) (fun hc => ?_)
    · have h := h.1 hc
      refine Rn_pure 1 (i' := 15) (L' := [some (2, 0), some (0, p1)]) (st' := [(0, 0)]) rfl ?_
      exact Rn_ret1 rfl h
    · have h := h.2 hc
      refine Rn_pure 2 (i' := 15) (L' := [some (2, 0), some (0, p1)]) (st' := [(0, (-3))]) rfl ?_
      exact Rn_ret1 rfl h
  · have h := h.2 hc
    refine Rn_pure 1 (i' := 6) (L' := [some (2, 0), some (0, p1)]) (st' := [(0, (-2))]) rfl ?_
    exact Rn_ret1 rfl h
-- EventLedger.comes (IIIII)I
theorem v_EL_comes {K : Int} {S : Nat} {g r : ab_H} {p1 p2 p3 p4 p5 : Int} (P : Int → ab_H → ab_H → Prop) (hr : SI r) (hK : 186 ≤ K) (h : ab_RI m_EL_refusalAt [(2, 0), (0, p4)] K S g r (fun x1 g' r' => g' = g ∧ r' = r ∧ (((wr x1 = wr 0 → ab_RV m_EL_mark [(2, 0)] K S g r (fun g2 r3 => SI r3 ∧ ((isLg (r3 0 5)) ∧ (isLg (r3 0 5)) ∧ ab_RV m_Lg_add [(2, r3 0 5), (0, p1), (0, p2), (0, p3), (0, p4), (0, p5), (2, 64)] K S g2 r3 (fun g8 r' => r' = r3 ∧ ((isTe (r3 0 3)) ∧ (isLg (r3 0 5)) ∧ ab_RV m_Te_lift [(2, r3 0 3), (2, r3 0 5), (0, g2 (r3 0 5) 10), (0, (-1)), (0, (-1))] K S g8 r3 (fun g12 r' => r' = r3 ∧ (ab_RV m_EL_rebuild [(2, 0)] K S g12 r3 (fun g14 r' => r' = r3 ∧ (P (g2 (r3 0 5) 10) g14 r3))))))))) ∧ (¬ wr x1 = wr 0 → P x1 g r))))) : ab_RI m_EL_comes [(2, 0), (0, p1), (0, p2), (0, p3), (0, p4), (0, p5)] K S g r P := by
  show ab_Rn m_EL_comes 0 [some (2, 0), some (0, p1), some (0, p2), some (0, p3), some (0, p4), some (0, p5), none, none] [] (K, S, g, r) (ab_Qi K S P)
  refine Rn_pure 2 (i' := 2) (L' := [some (2, 0), some (0, p1), some (0, p2), some (0, p3), some (0, p4), some (0, p5), none, none]) (st' := [(0, p4), (2, 0)]) rfl ?_
  refine Rn_callI [(2, 0), (0, p4)] [] rfl rfl rfl rfl (ab_rvB_of rfl (⟨rfl, (by omega : (0 : Int) ≤ 0), (by omega : (0 : Int) + 1 < K ∧ 5 < K)⟩)) ?_
  refine h.mono (fun x1 g' r' h => ?_)
  obtain ⟨hx, h⟩ := h
  replace hx := hx.symm
  subst hx
  obtain ⟨hx, h⟩ := h
  replace hx := hx.symm
  subst hx
  refine Rn_pure 2 (i' := 5) (L' := [some (2, 0), some (0, p1), some (0, p2), some (0, p3), some (0, p4), some (0, p5), some (0, x1), none]) (st' := [(0, x1)]) rfl ?_
  refine Rn_ifeq rfl (fun hc => ?_) (fun hc => ?_)
  · have h := h.1 hc
    refine Rn_pure 1 (i' := 9) (L' := [some (2, 0), some (0, p1), some (0, p2), some (0, p3), some (0, p4), some (0, p5), some (0, x1), none]) (st' := [(2, 0)]) rfl ?_
    refine Rn_callV [(2, 0)] [] rfl rfl rfl rfl (ab_rvB_of rfl (⟨rfl, (by omega : (0 : Int) ≤ 0), (by omega : (0 : Int) + 1 < K ∧ 5 < K)⟩)) ?_
    refine h.mono (fun g2 r3 h => ?_)
    obtain ⟨hr5, h⟩ := h
    refine Rn_pure 1 (i' := 11) (L' := [some (2, 0), some (0, p1), some (0, p2), some (0, p3), some (0, p4), some (0, p5), some (0, x1), none]) (st' := [(2, 0)]) rfl ?_
    obtain ⟨hf6, h⟩ := h
    refine Rn_getR rfl (⟨rfl, (by omega : (0 : Int) ≤ 0), (by omega : (0 : Int) + 1 < K ∧ 5 < K)⟩) rfl (nn_Lg hf6) ?_
    refine Rn_getI rfl (ob_Lg hf6 hK) ?_
    refine Rn_pure 2 (i' := 15) (L' := [some (2, 0), some (0, p1), some (0, p2), some (0, p3), some (0, p4), some (0, p5), some (0, x1), some (0, g2 (r3 0 5) 10)]) (st' := [(2, 0)]) rfl ?_
    obtain ⟨hf7, h⟩ := h
    refine Rn_getR rfl (⟨rfl, (by omega : (0 : Int) ≤ 0), (by omega : (0 : Int) + 1 < K ∧ 5 < K)⟩) rfl (nn_Lg hf7) ?_
    refine Rn_pure 6 (i' := 22) (L' := [some (2, 0), some (0, p1), some (0, p2), some (0, p3), some (0, p4), some (0, p5), some (0, x1), some (0, g2 (r3 0 5) 10)]) (st' := [(2, 0), (0, p5), (0, p4), (0, p3), (0, p2), (0, p1), (2, r3 0 5)]) rfl ?_
    refine Rn_getR rfl (⟨rfl, (by omega : (0 : Int) ≤ 0), (by omega : (0 : Int) + 1 < K ∧ 5 < K)⟩) (hr5 7 _ rfl) (by decide) ?_
    refine Rn_callV [(2, r3 0 5), (0, p1), (0, p2), (0, p3), (0, p4), (0, p5), (2, 64)] [] rfl rfl rfl rfl (ab_rvB_of rfl (ob_Lg hf7 hK)) ?_
    refine h.mono (fun g8 r' h => ?_)
    obtain ⟨hx, h⟩ := h
    replace hx := hx.symm
    subst hx
    refine Rn_pure 1 (i' := 25) (L' := [some (2, 0), some (0, p1), some (0, p2), some (0, p3), some (0, p4), some (0, p5), some (0, x1), some (0, g2 (r3 0 5) 10)]) (st' := [(2, 0)]) rfl ?_
    obtain ⟨hf10, h⟩ := h
    refine Rn_getR rfl (⟨rfl, (by omega : (0 : Int) ≤ 0), (by omega : (0 : Int) + 1 < K ∧ 5 < K)⟩) rfl (nn_Te hf10) ?_
    refine Rn_pure 1 (i' := 27) (L' := [some (2, 0), some (0, p1), some (0, p2), some (0, p3), some (0, p4), some (0, p5), some (0, x1), some (0, g2 (r3 0 5) 10)]) (st' := [(2, 0), (2, r3 0 3)]) rfl ?_
    obtain ⟨hf11, h⟩ := h
    refine Rn_getR rfl (⟨rfl, (by omega : (0 : Int) ≤ 0), (by omega : (0 : Int) + 1 < K ∧ 5 < K)⟩) rfl (nn_Lg hf11) ?_
    refine Rn_pure 3 (i' := 31) (L' := [some (2, 0), some (0, p1), some (0, p2), some (0, p3), some (0, p4), some (0, p5), some (0, x1), some (0, g2 (r3 0 5) 10)]) (st' := [(0, (-1)), (0, (-1)), (0, g2 (r3 0 5) 10), (2, r3 0 5), (2, r3 0 3)]) rfl ?_
    refine Rn_callV [(2, r3 0 3), (2, r3 0 5), (0, g2 (r3 0 5) 10), (0, (-1)), (0, (-1))] [] rfl rfl rfl rfl (ab_rvB_of rfl (ob_Te hf10 hK)) ?_
    refine h.mono (fun g12 r' h => ?_)
    obtain ⟨hx, h⟩ := h
    replace hx := hx.symm
    subst hx
    refine Rn_pure 1 (i' := 33) (L' := [some (2, 0), some (0, p1), some (0, p2), some (0, p3), some (0, p4), some (0, p5), some (0, x1), some (0, g2 (r3 0 5) 10)]) (st' := [(2, 0)]) rfl ?_
    refine Rn_callV [(2, 0)] [] rfl rfl rfl rfl (ab_rvB_of rfl (⟨rfl, (by omega : (0 : Int) ≤ 0), (by omega : (0 : Int) + 1 < K ∧ 5 < K)⟩)) ?_
    refine h.mono (fun g14 r' h => ?_)
    obtain ⟨hx, h⟩ := h
    replace hx := hx.symm
    subst hx
    refine Rn_pure 1 (i' := 35) (L' := [some (2, 0), some (0, p1), some (0, p2), some (0, p3), some (0, p4), some (0, p5), some (0, x1), some (0, g2 (r3 0 5) 10)]) (st' := [(0, g2 (r3 0 5) 10)]) rfl ?_
    exact Rn_ret1 rfl h
  · have h := h.2 hc
    refine Rn_pure 1 (i' := 7) (L' := [some (2, 0), some (0, p1), some (0, p2), some (0, p3), some (0, p4), some (0, p5), some (0, x1), none]) (st' := [(0, x1)]) rfl ?_
    exact Rn_ret1 rfl h
-- EventLedger.rebuild ()V
theorem v_EL_rebuild {K : Int} {S : Nat} {g r : ab_H} (P : ab_H → ab_H → Prop) (hr : SI r) (hK : 186 ≤ K) (h : (isLg (r 0 5)) ∧ ab_RI m_Sh_retake [(2, 57), (2, r 0 5), (0, 0)] K S g r (fun x3 g2 r' => r' = r ∧ ((isLg (r 0 5)) ∧ (isLg (r 0 5)) ∧ (isLg (r 0 5)) ∧ ab_RV m_St_replay [(2, 45), (2, r 0 5), (0, g2 (r 0 5) 10), (0, g2 (r 0 5) 10), (0, (-1))] K S g2 r (fun g7 r' => r' = r ∧ (P g7 r))))) : ab_RV m_EL_rebuild [(2, 0)] K S g r P := by
  show ab_Rn m_EL_rebuild 0 [some (2, 0)] [] (K, S, g, r) (ab_Qv K S P)
  refine Rn_pure 1 (i' := 1) (L' := [some (2, 0)]) (st' := [(2, 0)]) rfl ?_
  refine Rn_getR rfl (⟨rfl, (by omega : (0 : Int) ≤ 0), (by omega : (0 : Int) + 1 < K ∧ 5 < K)⟩) (hr 4 _ rfl) (by decide) ?_
  refine Rn_pure 1 (i' := 3) (L' := [some (2, 0)]) (st' := [(2, 0), (2, 57)]) rfl ?_
  obtain ⟨hf1, h⟩ := h
  refine Rn_getR rfl (⟨rfl, (by omega : (0 : Int) ≤ 0), (by omega : (0 : Int) + 1 < K ∧ 5 < K)⟩) rfl (nn_Lg hf1) ?_
  refine Rn_pure 1 (i' := 5) (L' := [some (2, 0)]) (st' := [(0, 0), (2, r 0 5), (2, 57)]) rfl ?_
  refine Rn_callI [(2, 57), (2, r 0 5), (0, 0)] [] rfl rfl rfl rfl (ab_rvB_of rfl (⟨rfl, (by omega : (0 : Int) ≤ 57), (by omega : (57 : Int) + 1 < K ∧ 5 < K)⟩)) ?_
  refine h.mono (fun x3 g2 r' h => ?_)
  obtain ⟨hx, h⟩ := h
  replace hx := hx.symm
  subst hx
  refine Rn_pure 2 (i' := 8) (L' := [some (2, 0)]) (st' := [(2, 0)]) rfl ?_
  refine Rn_getR rfl (⟨rfl, (by omega : (0 : Int) ≤ 0), (by omega : (0 : Int) + 1 < K ∧ 5 < K)⟩) (hr 2 _ rfl) (by decide) ?_
  refine Rn_pure 1 (i' := 10) (L' := [some (2, 0)]) (st' := [(2, 0), (2, 45)]) rfl ?_
  obtain ⟨hf4, h⟩ := h
  refine Rn_getR rfl (⟨rfl, (by omega : (0 : Int) ≤ 0), (by omega : (0 : Int) + 1 < K ∧ 5 < K)⟩) rfl (nn_Lg hf4) ?_
  refine Rn_pure 1 (i' := 12) (L' := [some (2, 0)]) (st' := [(2, 0), (2, r 0 5), (2, 45)]) rfl ?_
  obtain ⟨hf5, h⟩ := h
  refine Rn_getR rfl (⟨rfl, (by omega : (0 : Int) ≤ 0), (by omega : (0 : Int) + 1 < K ∧ 5 < K)⟩) rfl (nn_Lg hf5) ?_
  refine Rn_getI rfl (ob_Lg hf5 hK) ?_
  refine Rn_pure 1 (i' := 15) (L' := [some (2, 0)]) (st' := [(2, 0), (0, g2 (r 0 5) 10), (2, r 0 5), (2, 45)]) rfl ?_
  obtain ⟨hf6, h⟩ := h
  refine Rn_getR rfl (⟨rfl, (by omega : (0 : Int) ≤ 0), (by omega : (0 : Int) + 1 < K ∧ 5 < K)⟩) rfl (nn_Lg hf6) ?_
  refine Rn_getI rfl (ob_Lg hf6 hK) ?_
  refine Rn_pure 1 (i' := 18) (L' := [some (2, 0)]) (st' := [(0, (-1)), (0, g2 (r 0 5) 10), (0, g2 (r 0 5) 10), (2, r 0 5), (2, 45)]) rfl ?_
  refine Rn_callV [(2, 45), (2, r 0 5), (0, g2 (r 0 5) 10), (0, g2 (r 0 5) 10), (0, (-1))] [] rfl rfl rfl rfl (ab_rvB_of rfl (⟨rfl, (by omega : (0 : Int) ≤ 45), (by omega : (45 : Int) + 1 < K ∧ 5 < K)⟩)) ?_
  refine h.mono (fun g7 r' h => ?_)
  obtain ⟨hx, h⟩ := h
  replace hx := hx.symm
  subst hx
  exact Rn_ret0 rfl h
-- EventLedger.costOf (I)I
theorem v_EL_costOf {K : Int} {S : Nat} {g r : ab_H} {p1 : Int} (P : Int → ab_H → ab_H → Prop) (hr : SI r) (hK : 186 ≤ K) (h : (isLg (r 0 5)) ∧ ab_RI m_Sh_latestUpTo [(2, 57), (0, p1)] K S g r (fun x2 g' r' => g' = g ∧ r' = r ∧ (ab_RI m_Lg_weights [(2, r 0 5), (0, x2), (0, p1)] K S g r (fun x3 g' r' => g' = g ∧ r' = r ∧ (P x3 g r))))) : ab_RI m_EL_costOf [(2, 0), (0, p1)] K S g r P := by
  show ab_Rn m_EL_costOf 0 [some (2, 0), some (0, p1)] [] (K, S, g, r) (ab_Qi K S P)
  refine Rn_pure 1 (i' := 1) (L' := [some (2, 0), some (0, p1)]) (st' := [(2, 0)]) rfl ?_
  obtain ⟨hf1, h⟩ := h
  refine Rn_getR rfl (⟨rfl, (by omega : (0 : Int) ≤ 0), (by omega : (0 : Int) + 1 < K ∧ 5 < K)⟩) rfl (nn_Lg hf1) ?_
  refine Rn_pure 1 (i' := 3) (L' := [some (2, 0), some (0, p1)]) (st' := [(2, 0), (2, r 0 5)]) rfl ?_
  refine Rn_getR rfl (⟨rfl, (by omega : (0 : Int) ≤ 0), (by omega : (0 : Int) + 1 < K ∧ 5 < K)⟩) (hr 4 _ rfl) (by decide) ?_
  refine Rn_pure 1 (i' := 5) (L' := [some (2, 0), some (0, p1)]) (st' := [(0, p1), (2, 57), (2, r 0 5)]) rfl ?_
  refine Rn_callI [(2, 57), (0, p1)] [(2, r 0 5)] rfl rfl rfl rfl (ab_rvB_of rfl (⟨rfl, (by omega : (0 : Int) ≤ 57), (by omega : (57 : Int) + 1 < K ∧ 5 < K)⟩)) ?_
  refine h.mono (fun x2 g' r' h => ?_)
  obtain ⟨hx, h⟩ := h
  replace hx := hx.symm
  subst hx
  obtain ⟨hx, h⟩ := h
  replace hx := hx.symm
  subst hx
  refine Rn_pure 1 (i' := 7) (L' := [some (2, 0), some (0, p1)]) (st' := [(0, p1), (0, x2), (2, r 0 5)]) rfl ?_
  refine Rn_callI [(2, r 0 5), (0, x2), (0, p1)] [] rfl rfl rfl rfl (ab_rvB_of rfl (ob_Lg hf1 hK)) ?_
  refine h.mono (fun x3 g' r' h => ?_)
  obtain ⟨hx, h⟩ := h
  replace hx := hx.symm
  subst hx
  obtain ⟨hx, h⟩ := h
  replace hx := hx.symm
  subst hx
  exact Rn_ret1 rfl h
-- EventLedger.seeNext (I)V
theorem v_EL_seeNext {K : Int} {S : Nat} {g r : ab_H} {p1 : Int} (P : ab_H → ab_H → Prop) (hr : SI r) (hK : 186 ≤ K) (h : ((0 : Int) ≤ p1 ∧ (p1 : Int) < 4) ∧ (isLg (r 0 5)) ∧ ab_RI m_Lg_holds [(2, r 0 5), (0, g 62 p1)] K S g r (fun x2 g' r' => g' = g ∧ r' = r ∧ (((¬ wr x2 = wr 0 → (isLg (r 0 5)) ∧ ((0 : Int) ≤ g 62 p1 ∧ (g 62 p1 : Int) < 120) ∧ ((¬ wr (g (r 0 5 + 1) (g 62 p1)) = wr 7 → ab_RI m_EL_countsNow [(2, 0), (0, p1), (0, g 62 p1)] K S g r (fun x4 g' r' => g' = g ∧ r' = r ∧ (((wr x4 = wr 0 → ((0 : Int) ≤ p1 ∧ (p1 : Int) < 4) ∧ ∀ g5, g5 = ab_up g 62 p1 (g 62 p1 + 1) → P g5 r) ∧ (¬ wr x4 = wr 0 → ab_RV m_Ta_putOn [(2, 61), (0, p1), (0, g 62 p1)] K S g r (fun g6 r' => r' = r ∧ (((0 : Int) ≤ p1 ∧ (p1 : Int) < 4) ∧ ∀ g8, g8 = ab_up g6 62 p1 (g 62 p1 + 1) → P g8 r))))))) ∧ (wr (g (r 0 5 + 1) (g 62 p1)) = wr 7 → (isLg (r 0 5)) ∧ ((0 : Int) ≤ g 62 p1 ∧ (g 62 p1 : Int) < 120) ∧ ab_RV m_Ta_takeOff [(2, 61), (0, p1), (0, g (r 0 5 + 3) (g 62 p1))] K S g r (fun g10 r' => r' = r ∧ (((0 : Int) ≤ p1 ∧ (p1 : Int) < 4) ∧ ∀ g12, g12 = ab_up g10 62 p1 (g 62 p1 + 1) → P g12 r))))) ∧ (wr x2 = wr 0 → P g r))))) : ab_RV m_EL_seeNext [(2, 0), (0, p1)] K S g r P := by
  show ab_Rn m_EL_seeNext 0 [some (2, 0), some (0, p1), none] [] (K, S, g, r) (ab_Qv K S P)
  refine Rn_pure 1 (i' := 1) (L' := [some (2, 0), some (0, p1), none]) (st' := [(2, 0)]) rfl ?_
  refine Rn_getR rfl (⟨rfl, (by omega : (0 : Int) ≤ 0), (by omega : (0 : Int) + 1 < K ∧ 5 < K)⟩) (hr 6 _ rfl) (by decide) ?_
  refine Rn_getR rfl (⟨rfl, (by omega : (0 : Int) ≤ 61), (by omega : (61 : Int) + 1 < K ∧ 5 < K)⟩) (hr 62 _ rfl) (by decide) ?_
  refine Rn_pure 1 (i' := 4) (L' := [some (2, 0), some (0, p1), none]) (st' := [(0, p1), (2, 62)]) rfl ?_
  obtain ⟨hg, h⟩ := h
  refine Rn_iald rfl (⟨rfl, (by omega : (0 : Int) ≤ 62), (by omega : (62 : Int) + 1 < K ∧ 5 < K)⟩) hg ?_
  refine Rn_pure 2 (i' := 7) (L' := [some (2, 0), some (0, p1), some (0, g 62 p1)]) (st' := [(2, 0)]) rfl ?_
  obtain ⟨hf1, h⟩ := h
  refine Rn_getR rfl (⟨rfl, (by omega : (0 : Int) ≤ 0), (by omega : (0 : Int) + 1 < K ∧ 5 < K)⟩) rfl (nn_Lg hf1) ?_
  refine Rn_pure 1 (i' := 9) (L' := [some (2, 0), some (0, p1), some (0, g 62 p1)]) (st' := [(0, g 62 p1), (2, r 0 5)]) rfl ?_
  refine Rn_callI [(2, r 0 5), (0, g 62 p1)] [] rfl rfl rfl rfl (ab_rvB_of rfl (ob_Lg hf1 hK)) ?_
  refine h.mono (fun x2 g' r' h => ?_)
  obtain ⟨hx, h⟩ := h
  replace hx := hx.symm
  subst hx
  obtain ⟨hx, h⟩ := h
  replace hx := hx.symm
  subst hx
  refine Rn_ifne rfl (fun hc => ?_) (fun hc => ?_)
  · have h := h.1 hc
    refine Rn_pure 1 (i' := 13) (L' := [some (2, 0), some (0, p1), some (0, g 62 p1)]) (st' := [(2, 0)]) rfl ?_
    obtain ⟨hf3, h⟩ := h
    refine Rn_getR rfl (⟨rfl, (by omega : (0 : Int) ≤ 0), (by omega : (0 : Int) + 1 < K ∧ 5 < K)⟩) rfl (nn_Lg hf3) ?_
    refine Rn_getR rfl (ob_Lg hf3 hK) (fx_Lg_0 hr hf3) (show (r 0 5 + 1 : Int) ≠ -1 by have := hf3; unfold isLg at this; omega) ?_
    refine Rn_pure 1 (i' := 16) (L' := [some (2, 0), some (0, p1), some (0, g 62 p1)]) (st' := [(0, g 62 p1), (2, r 0 5 + 1)]) rfl ?_
    obtain ⟨hg, h⟩ := h
    refine Rn_iald rfl (ar_Lg_0 hf3 hK) hg ?_
    refine Rn_pure 1 (i' := 18) (L' := [some (2, 0), some (0, p1), some (0, g 62 p1)]) (st' := [(0, 7), (0, g (r 0 5 + 1) (g 62 p1))]) rfl ?_
    refine Rn_icne rfl (fun hc => ?_) (fun hc => ?_)
    · have h := h.1 hc
      refine Rn_pure 3 (i' := 32) (L' := [some (2, 0), some (0, p1), some (0, g 62 p1)]) (st' := [(0, g 62 p1), (0, p1), (2, 0)]) rfl ?_
      refine Rn_callI [(2, 0), (0, p1), (0, g 62 p1)] [] rfl rfl rfl rfl (ab_rvB_of rfl (⟨rfl, (by omega : (0 : Int) ≤ 0), (by omega : (0 : Int) + 1 < K ∧ 5 < K)⟩)) ?_
      refine h.mono (fun x4 g' r' h => ?_)
      obtain ⟨hx, h⟩ := h
      replace hx := hx.symm
      subst hx
      obtain ⟨hx, h⟩ := h
      replace hx := hx.symm
      subst hx
      refine Rn_ifeq rfl (fun hc => ?_) (fun hc => ?_)
      · have h := h.1 hc
        refine Rn_pure 1 (i' := 40) (L' := [some (2, 0), some (0, p1), some (0, g 62 p1)]) (st' := [(2, 0)]) rfl ?_
        refine Rn_getR rfl (⟨rfl, (by omega : (0 : Int) ≤ 0), (by omega : (0 : Int) + 1 < K ∧ 5 < K)⟩) (hr 6 _ rfl) (by decide) ?_
        refine Rn_getR rfl (⟨rfl, (by omega : (0 : Int) ≤ 61), (by omega : (61 : Int) + 1 < K ∧ 5 < K)⟩) (hr 62 _ rfl) (by decide) ?_
        refine Rn_pure 4 (i' := 46) (L' := [some (2, 0), some (0, p1), some (0, g 62 p1)]) (st' := [(0, g 62 p1 + 1), (0, p1), (2, 62)]) rfl ?_
        obtain ⟨hg, h⟩ := h
        refine Rn_iast rfl (⟨rfl, (by omega : (0 : Int) ≤ 62), (by omega : (62 : Int) + 1 < K ∧ 5 < K)⟩) hg (fun g5 he_g5 => ?_)
        have h := h g5 he_g5
        exact Rn_ret0 rfl h
      · have h := h.2 hc
        refine Rn_pure 1 (i' := 35) (L' := [some (2, 0), some (0, p1), some (0, g 62 p1)]) (st' := [(2, 0)]) rfl ?_
        refine Rn_getR rfl (⟨rfl, (by omega : (0 : Int) ≤ 0), (by omega : (0 : Int) + 1 < K ∧ 5 < K)⟩) (hr 6 _ rfl) (by decide) ?_
        refine Rn_pure 2 (i' := 38) (L' := [some (2, 0), some (0, p1), some (0, g 62 p1)]) (st' := [(0, g 62 p1), (0, p1), (2, 61)]) rfl ?_
        refine Rn_callV [(2, 61), (0, p1), (0, g 62 p1)] [] rfl rfl rfl rfl (ab_rvB_of rfl (⟨rfl, (by omega : (0 : Int) ≤ 61), (by omega : (61 : Int) + 1 < K ∧ 5 < K)⟩)) ?_
        refine h.mono (fun g6 r' h => ?_)
        obtain ⟨hx, h⟩ := h
        replace hx := hx.symm
        subst hx
        refine Rn_pure 1 (i' := 40) (L' := [some (2, 0), some (0, p1), some (0, g 62 p1)]) (st' := [(2, 0)]) rfl ?_
        refine Rn_getR rfl (⟨rfl, (by omega : (0 : Int) ≤ 0), (by omega : (0 : Int) + 1 < K ∧ 5 < K)⟩) (hr 6 _ rfl) (by decide) ?_
        refine Rn_getR rfl (⟨rfl, (by omega : (0 : Int) ≤ 61), (by omega : (61 : Int) + 1 < K ∧ 5 < K)⟩) (hr 62 _ rfl) (by decide) ?_
        refine Rn_pure 4 (i' := 46) (L' := [some (2, 0), some (0, p1), some (0, g 62 p1)]) (st' := [(0, g 62 p1 + 1), (0, p1), (2, 62)]) rfl ?_
        obtain ⟨hg, h⟩ := h
        refine Rn_iast rfl (⟨rfl, (by omega : (0 : Int) ≤ 62), (by omega : (62 : Int) + 1 < K ∧ 5 < K)⟩) hg (fun g8 he_g8 => ?_)
        have h := h g8 he_g8
        exact Rn_ret0 rfl h
    · have h := h.2 hc
      refine Rn_pure 1 (i' := 20) (L' := [some (2, 0), some (0, p1), some (0, g 62 p1)]) (st' := [(2, 0)]) rfl ?_
      refine Rn_getR rfl (⟨rfl, (by omega : (0 : Int) ≤ 0), (by omega : (0 : Int) + 1 < K ∧ 5 < K)⟩) (hr 6 _ rfl) (by decide) ?_
      refine Rn_pure 2 (i' := 23) (L' := [some (2, 0), some (0, p1), some (0, g 62 p1)]) (st' := [(2, 0), (0, p1), (2, 61)]) rfl ?_
      obtain ⟨hf9, h⟩ := h
      refine Rn_getR rfl (⟨rfl, (by omega : (0 : Int) ≤ 0), (by omega : (0 : Int) + 1 < K ∧ 5 < K)⟩) rfl (nn_Lg hf9) ?_
      refine Rn_getR rfl (ob_Lg hf9 hK) (fx_Lg_2 hr hf9) (show (r 0 5 + 3 : Int) ≠ -1 by have := hf9; unfold isLg at this; omega) ?_
      refine Rn_pure 1 (i' := 26) (L' := [some (2, 0), some (0, p1), some (0, g 62 p1)]) (st' := [(0, g 62 p1), (2, r 0 5 + 3), (0, p1), (2, 61)]) rfl ?_
      obtain ⟨hg, h⟩ := h
      refine Rn_iald rfl (ar_Lg_2 hf9 hK) hg ?_
      refine Rn_callV [(2, 61), (0, p1), (0, g (r 0 5 + 3) (g 62 p1))] [] rfl rfl rfl rfl (ab_rvB_of rfl (⟨rfl, (by omega : (0 : Int) ≤ 61), (by omega : (61 : Int) + 1 < K ∧ 5 < K)⟩)) ?_
      refine h.mono (fun g10 r' h => ?_)
      obtain ⟨hx, h⟩ := h
      replace hx := hx.symm
      subst hx
      refine Rn_pure 2 (i' := 40) (L' := [some (2, 0), some (0, p1), some (0, g 62 p1)]) (st' := [(2, 0)]) rfl ?_
      refine Rn_getR rfl (⟨rfl, (by omega : (0 : Int) ≤ 0), (by omega : (0 : Int) + 1 < K ∧ 5 < K)⟩) (hr 6 _ rfl) (by decide) ?_
      refine Rn_getR rfl (⟨rfl, (by omega : (0 : Int) ≤ 61), (by omega : (61 : Int) + 1 < K ∧ 5 < K)⟩) (hr 62 _ rfl) (by decide) ?_
      refine Rn_pure 4 (i' := 46) (L' := [some (2, 0), some (0, p1), some (0, g 62 p1)]) (st' := [(0, g 62 p1 + 1), (0, p1), (2, 62)]) rfl ?_
      obtain ⟨hg, h⟩ := h
      refine Rn_iast rfl (⟨rfl, (by omega : (0 : Int) ≤ 62), (by omega : (62 : Int) + 1 < K ∧ 5 < K)⟩) hg (fun g12 he_g12 => ?_)
      have h := h g12 he_g12
      exact Rn_ret0 rfl h
  · have h := h.2 hc
    exact Rn_ret0 rfl h
-- EventLedger.countsNow (II)Z
theorem v_EL_countsNow {K : Int} {S : Nat} {g r : ab_H} {p1 p2 : Int} (P : Int → ab_H → ab_H → Prop) (hr : SI r) (hK : 186 ≤ K) (h : (isLg (r 0 5)) ∧ ((0 : Int) ≤ p2 ∧ (p2 : Int) < 120) ∧ (isTe (r 0 3)) ∧ ((0 : Int) ≤ p1 ∧ (p1 : Int) < 4) ∧ ((¬ wr (g (r 0 5 + 1) p2) = wr (g (r 0 3 + 3) p1) → P 0 g r) ∧ (wr (g (r 0 5 + 1) p2) = wr (g (r 0 3 + 3) p1) → ((0 : Int) ≤ p2 ∧ (p2 : Int) < 120) ∧ ((¬ wr (g 50 p2) = wr 0 → P 0 g r) ∧ (wr (g 50 p2) = wr 0 → (isLg (r 0 5)) ∧ ((0 : Int) ≤ p2 ∧ (p2 : Int) < 120) ∧ ((¬ wr (g (r 0 5 + 9) p2) = wr (-1) → P 0 g r) ∧ (wr (g (r 0 5 + 9) p2) = wr (-1) → P 1 g r))))))) : ab_RI m_EL_countsNow [(2, 0), (0, p1), (0, p2)] K S g r P := by
  show ab_Rn m_EL_countsNow 0 [some (2, 0), some (0, p1), some (0, p2)] [] (K, S, g, r) (ab_Qi K S P)
  refine Rn_pure 1 (i' := 1) (L' := [some (2, 0), some (0, p1), some (0, p2)]) (st' := [(2, 0)]) rfl ?_
  obtain ⟨hf1, h⟩ := h
  refine Rn_getR rfl (⟨rfl, (by omega : (0 : Int) ≤ 0), (by omega : (0 : Int) + 1 < K ∧ 5 < K)⟩) rfl (nn_Lg hf1) ?_
  refine Rn_getR rfl (ob_Lg hf1 hK) (fx_Lg_0 hr hf1) (show (r 0 5 + 1 : Int) ≠ -1 by have := hf1; unfold isLg at this; omega) ?_
  refine Rn_pure 1 (i' := 4) (L' := [some (2, 0), some (0, p1), some (0, p2)]) (st' := [(0, p2), (2, r 0 5 + 1)]) rfl ?_
  obtain ⟨hg, h⟩ := h
  refine Rn_iald rfl (ar_Lg_0 hf1 hK) hg ?_
  refine Rn_pure 1 (i' := 6) (L' := [some (2, 0), some (0, p1), some (0, p2)]) (st' := [(2, 0), (0, g (r 0 5 + 1) p2)]) rfl ?_
  obtain ⟨hf2, h⟩ := h
  refine Rn_getR rfl (⟨rfl, (by omega : (0 : Int) ≤ 0), (by omega : (0 : Int) + 1 < K ∧ 5 < K)⟩) rfl (nn_Te hf2) ?_
  refine Rn_getR rfl (ob_Te hf2 hK) (fx_Te_3 hr hf2) (show (r 0 3 + 3 : Int) ≠ -1 by have := hf2; unfold isTe at this; omega) ?_
  refine Rn_pure 1 (i' := 9) (L' := [some (2, 0), some (0, p1), some (0, p2)]) (st' := [(0, p1), (2, r 0 3 + 3), (0, g (r 0 5 + 1) p2)]) rfl ?_
  obtain ⟨hg, h⟩ := h
  refine Rn_iald rfl (ar_Te_3 hf2 hK) hg ?_
  refine Rn_icne rfl (fun hc => ?_) (fun hc => ?_)
  · have h := h.1 hc
    refine Rn_pure 1 (i' := 27) (L' := [some (2, 0), some (0, p1), some (0, p2)]) (st' := [(0, 0)]) rfl ?_
    exact Rn_ret2 rfl (by decide) h
  · have h := h.2 hc
    refine Rn_pure 1 (i' := 12) (L' := [some (2, 0), some (0, p1), some (0, p2)]) (st' := [(2, 0)]) rfl ?_
    refine Rn_getR rfl (⟨rfl, (by omega : (0 : Int) ≤ 0), (by omega : (0 : Int) + 1 < K ∧ 5 < K)⟩) (hr 2 _ rfl) (by decide) ?_
    refine Rn_getR rfl (⟨rfl, (by omega : (0 : Int) ≤ 45), (by omega : (45 : Int) + 1 < K ∧ 5 < K)⟩) (hr 54 _ rfl) (by decide) ?_
    refine Rn_pure 1 (i' := 15) (L' := [some (2, 0), some (0, p1), some (0, p2)]) (st' := [(0, p2), (2, 50)]) rfl ?_
    obtain ⟨hg, h⟩ := h
    refine Rn_iald rfl (⟨rfl, (by omega : (0 : Int) ≤ 50), (by omega : (50 : Int) + 1 < K ∧ 5 < K)⟩) hg ?_
    refine Rn_ifne rfl (fun hc => ?_) (fun hc => ?_)
    · have h := h.1 hc
      refine Rn_pure 1 (i' := 27) (L' := [some (2, 0), some (0, p1), some (0, p2)]) (st' := [(0, 0)]) rfl ?_
      exact Rn_ret2 rfl (by decide) h
    · have h := h.2 hc
      refine Rn_pure 1 (i' := 18) (L' := [some (2, 0), some (0, p1), some (0, p2)]) (st' := [(2, 0)]) rfl ?_
      obtain ⟨hf3, h⟩ := h
      refine Rn_getR rfl (⟨rfl, (by omega : (0 : Int) ≤ 0), (by omega : (0 : Int) + 1 < K ∧ 5 < K)⟩) rfl (nn_Lg hf3) ?_
      refine Rn_getR rfl (ob_Lg hf3 hK) (fx_Lg_8 hr hf3) (show (r 0 5 + 9 : Int) ≠ -1 by have := hf3; unfold isLg at this; omega) ?_
      refine Rn_pure 1 (i' := 21) (L' := [some (2, 0), some (0, p1), some (0, p2)]) (st' := [(0, p2), (2, r 0 5 + 9)]) rfl ?_
      obtain ⟨hg, h⟩ := h
      refine Rn_iald rfl (ar_Lg_8 hf3 hK) hg ?_
      refine Rn_pure 1 (i' := 23) (L' := [some (2, 0), some (0, p1), some (0, p2)]) (st' := [(0, (-1)), (0, g (r 0 5 + 9) p2)]) rfl ?_
      refine Rn_icne rfl (fun hc => ?_) (fun hc => ?_)
      · have h := h.1 hc
        refine Rn_pure 1 (i' := 27) (L' := [some (2, 0), some (0, p1), some (0, p2)]) (st' := [(0, 0)]) rfl ?_
        exact Rn_ret2 rfl (by decide) h
      · have h := h.2 hc
        refine Rn_pure 2 (i' := 27) (L' := [some (2, 0), some (0, p1), some (0, p2)]) (st' := [(0, 1)]) rfl ?_
        exact Rn_ret2 rfl (by decide) h
-- EventLedger.countedField (II)I
theorem v_EL_countedField {K : Int} {S : Nat} {g r : ab_H} {p1 p2 : Int} (P : Int → ab_H → ab_H → Prop) (hr : SI r) (hK : 186 ≤ K) (h : (isLg (r 0 5)) ∧ (isTe (r 0 3)) ∧ ((0 : Int) ≤ p1 ∧ (p1 : Int) < 4) ∧ ((0 : Int) ≤ 3 * p2 + (g (r 0 3 + 4) p1) - 1 ∧ (3 * p2 + (g (r 0 3 + 4) p1) - 1 : Int) < 360) ∧ P (g (r 0 5 + 7) (3 * p2 + (g (r 0 3 + 4) p1) - 1)) g r) : ab_RI m_EL_countedField [(2, 0), (0, p1), (0, p2)] K S g r P := by
  show ab_Rn m_EL_countedField 0 [some (2, 0), some (0, p1), some (0, p2)] [] (K, S, g, r) (ab_Qi K S P)
  refine Rn_pure 1 (i' := 1) (L' := [some (2, 0), some (0, p1), some (0, p2)]) (st' := [(2, 0)]) rfl ?_
  obtain ⟨hf1, h⟩ := h
  refine Rn_getR rfl (⟨rfl, (by omega : (0 : Int) ≤ 0), (by omega : (0 : Int) + 1 < K ∧ 5 < K)⟩) rfl (nn_Lg hf1) ?_
  refine Rn_getR rfl (ob_Lg hf1 hK) (fx_Lg_6 hr hf1) (show (r 0 5 + 7 : Int) ≠ -1 by have := hf1; unfold isLg at this; omega) ?_
  refine Rn_pure 4 (i' := 7) (L' := [some (2, 0), some (0, p1), some (0, p2)]) (st' := [(2, 0), (0, 3 * p2), (2, r 0 5 + 7)]) rfl ?_
  obtain ⟨hf2, h⟩ := h
  refine Rn_getR rfl (⟨rfl, (by omega : (0 : Int) ≤ 0), (by omega : (0 : Int) + 1 < K ∧ 5 < K)⟩) rfl (nn_Te hf2) ?_
  refine Rn_getR rfl (ob_Te hf2 hK) (fx_Te_4 hr hf2) (show (r 0 3 + 4 : Int) ≠ -1 by have := hf2; unfold isTe at this; omega) ?_
  refine Rn_pure 1 (i' := 10) (L' := [some (2, 0), some (0, p1), some (0, p2)]) (st' := [(0, p1), (2, r 0 3 + 4), (0, 3 * p2), (2, r 0 5 + 7)]) rfl ?_
  obtain ⟨hg, h⟩ := h
  refine Rn_iald rfl (ar_Te_4 hf2 hK) hg ?_
  refine Rn_pure 3 (i' := 14) (L' := [some (2, 0), some (0, p1), some (0, p2)]) (st' := [(0, 3 * p2 + (g (r 0 3 + 4) p1) - 1), (2, r 0 5 + 7)]) rfl ?_
  obtain ⟨hg, h⟩ := h
  refine Rn_iald rfl (ar_Lg_6 hf1 hK) hg ?_
  exact Rn_ret1 rfl h
-- EventLedger.sumCounted (II)I
theorem v_EL_sumCounted {K : Int} {S : Nat} {g r : ab_H} {p1 p2 : Int} (P : Int → ab_H → ab_H → Prop) (hr : SI r) (hK : 186 ≤ K) (h : ab_Rn m_EL_sumCounted 4 [some (2, 0), some (0, p1), some (0, p2), some (0, 0), some (0, 0)] [] (K, S, g, r) (ab_Qi K S P)) : ab_RI m_EL_sumCounted [(2, 0), (0, p1), (0, p2)] K S g r P := by
  show ab_Rn m_EL_sumCounted 0 [some (2, 0), some (0, p1), some (0, p2), none, none] [] (K, S, g, r) (ab_Qi K S P)
  refine Rn_pure 4 (i' := 4) (L' := [some (2, 0), some (0, p1), some (0, p2), some (0, 0), some (0, 0)]) (st' := []) rfl ?_
  exact h
theorem v_EL_sumCounted_4 {K : Int} {S : Nat} {g r : ab_H} {l1 l2 l3 l4 : Int} (P : Int → ab_H → ab_H → Prop) (hr : SI r) (hK : 186 ≤ K) (h : (isLg (r 0 5)) ∧ ((wr (g (r 0 5) 10) ≤ wr l4 → P l3 g r) ∧ (wr l4 < wr (g (r 0 5) 10) → ab_RI m_Ta_isCounted [(2, 61), (0, l1), (0, l4)] K S g r (fun x2 g' r' => g' = g ∧ r' = r ∧ (((wr x2 = wr 0 → ab_Rn m_EL_sumCounted 4 [some (2, 0), some (0, l1), some (0, l2), some (0, l3), some (0, l4 + 1)] [] (K, S, g, r) (ab_Qi K S P)) ∧ (¬ wr x2 = wr 0 → ((wr l2 = wr (-1) → ab_RI m_EL_countedField [(2, 0), (0, l1), (0, l4)] K S g r (fun x3 g' r' => g' = g ∧ r' = r ∧ (ab_Rn m_EL_sumCounted 4 [some (2, 0), some (0, l1), some (0, l2), some (0, l3 + x3), some (0, l4 + 1)] [] (K, S, g, r) (ab_Qi K S P)))) ∧ (¬ wr l2 = wr (-1) → (isLg (r 0 5)) ∧ ((0 : Int) ≤ l4 ∧ (l4 : Int) < 120) ∧ ((¬ wr (g (r 0 5 + 2) l4) = wr l2 → ab_Rn m_EL_sumCounted 4 [some (2, 0), some (0, l1), some (0, l2), some (0, l3), some (0, l4 + 1)] [] (K, S, g, r) (ab_Qi K S P)) ∧ (wr (g (r 0 5 + 2) l4) = wr l2 → ab_RI m_EL_countedField [(2, 0), (0, l1), (0, l4)] K S g r (fun x5 g' r' => g' = g ∧ r' = r ∧ (ab_Rn m_EL_sumCounted 4 [some (2, 0), some (0, l1), some (0, l2), some (0, l3 + x5), some (0, l4 + 1)] [] (K, S, g, r) (ab_Qi K S P)))))))))))))) : ab_Rn m_EL_sumCounted 4 [some (2, 0), some (0, l1), some (0, l2), some (0, l3), some (0, l4)] [] (K, S, g, r) (ab_Qi K S P) := by
  refine Rn_pure 2 (i' := 6) (L' := [some (2, 0), some (0, l1), some (0, l2), some (0, l3), some (0, l4)]) (st' := [(2, 0), (0, l4)]) rfl ?_
  obtain ⟨hf1, h⟩ := h
  refine Rn_getR rfl (⟨rfl, (by omega : (0 : Int) ≤ 0), (by omega : (0 : Int) + 1 < K ∧ 5 < K)⟩) rfl (nn_Lg hf1) ?_
  refine Rn_getI rfl (ob_Lg hf1 hK) ?_
  refine Rn_icge rfl (fun hc => ?_) (fun hc => ?_)
  · have h := h.1 hc
    refine Rn_pure 1 (i' := 35) (L' := [some (2, 0), some (0, l1), some (0, l2), some (0, l3), some (0, l4)]) (st' := [(0, l3)]) rfl ?_
    exact Rn_ret1 rfl h
  · have h := h.2 hc
    refine Rn_pure 1 (i' := 10) (L' := [some (2, 0), some (0, l1), some (0, l2), some (0, l3), some (0, l4)]) (st' := [(2, 0)]) rfl ?_
    refine Rn_getR rfl (⟨rfl, (by omega : (0 : Int) ≤ 0), (by omega : (0 : Int) + 1 < K ∧ 5 < K)⟩) (hr 6 _ rfl) (by decide) ?_
    refine Rn_pure 2 (i' := 13) (L' := [some (2, 0), some (0, l1), some (0, l2), some (0, l3), some (0, l4)]) (st' := [(0, l4), (0, l1), (2, 61)]) rfl ?_
    refine Rn_callI [(2, 61), (0, l1), (0, l4)] [] rfl rfl rfl rfl (ab_rvB_of rfl (⟨rfl, (by omega : (0 : Int) ≤ 61), (by omega : (61 : Int) + 1 < K ∧ 5 < K)⟩)) ?_
    refine h.mono (fun x2 g' r' h => ?_)
    obtain ⟨hx, h⟩ := h
    replace hx := hx.symm
    subst hx
    obtain ⟨hx, h⟩ := h
    replace hx := hx.symm
    subst hx
    refine Rn_ifeq rfl (fun hc => ?_) (fun hc => ?_)
    · have h := h.1 hc
      refine Rn_pure 2 (i' := 4) (L' := [some (2, 0), some (0, l1), some (0, l2), some (0, l3), some (0, l4 + 1)]) (st' := []) rfl ?_
      exact h
    · have h := h.2 hc
      refine Rn_pure 2 (i' := 17) (L' := [some (2, 0), some (0, l1), some (0, l2), some (0, l3), some (0, l4)]) (st' := [(0, (-1)), (0, l2)]) rfl ?_
      refine Rn_iceq rfl (fun hc => ?_) (fun hc => ?_)
      · have h := h.1 hc
        refine Rn_pure 4 (i' := 29) (L' := [some (2, 0), some (0, l1), some (0, l2), some (0, l3), some (0, l4)]) (st' := [(0, l4), (0, l1), (2, 0), (0, l3)]) rfl ?_
        refine Rn_callI [(2, 0), (0, l1), (0, l4)] [(0, l3)] rfl rfl rfl rfl (ab_rvB_of rfl (⟨rfl, (by omega : (0 : Int) ≤ 0), (by omega : (0 : Int) + 1 < K ∧ 5 < K)⟩)) ?_
        refine h.mono (fun x3 g' r' h => ?_)
        obtain ⟨hx, h⟩ := h
        replace hx := hx.symm
        subst hx
        obtain ⟨hx, h⟩ := h
        replace hx := hx.symm
        subst hx
        refine Rn_pure 4 (i' := 4) (L' := [some (2, 0), some (0, l1), some (0, l2), some (0, l3 + x3), some (0, l4 + 1)]) (st' := []) rfl ?_
        exact h
      · have h := h.2 hc
        refine Rn_pure 1 (i' := 19) (L' := [some (2, 0), some (0, l1), some (0, l2), some (0, l3), some (0, l4)]) (st' := [(2, 0)]) rfl ?_
        obtain ⟨hf4, h⟩ := h
        refine Rn_getR rfl (⟨rfl, (by omega : (0 : Int) ≤ 0), (by omega : (0 : Int) + 1 < K ∧ 5 < K)⟩) rfl (nn_Lg hf4) ?_
        refine Rn_getR rfl (ob_Lg hf4 hK) (fx_Lg_1 hr hf4) (show (r 0 5 + 2 : Int) ≠ -1 by have := hf4; unfold isLg at this; omega) ?_
        refine Rn_pure 1 (i' := 22) (L' := [some (2, 0), some (0, l1), some (0, l2), some (0, l3), some (0, l4)]) (st' := [(0, l4), (2, r 0 5 + 2)]) rfl ?_
        obtain ⟨hg, h⟩ := h
        refine Rn_iald rfl (ar_Lg_1 hf4 hK) hg ?_
        refine Rn_pure 1 (i' := 24) (L' := [some (2, 0), some (0, l1), some (0, l2), some (0, l3), some (0, l4)]) (st' := [(0, l2), (0, g (r 0 5 + 2) l4)]) rfl ?_
        refine Rn_icne rfl (fun hc => ?_) (fun hc => ?_)
        · have h := h.1 hc
          refine Rn_pure 2 (i' := 4) (L' := [some (2, 0), some (0, l1), some (0, l2), some (0, l3), some (0, l4 + 1)]) (st' := []) rfl ?_
          exact h
        · have h := h.2 hc
          refine Rn_pure 4 (i' := 29) (L' := [some (2, 0), some (0, l1), some (0, l2), some (0, l3), some (0, l4)]) (st' := [(0, l4), (0, l1), (2, 0), (0, l3)]) rfl ?_
          refine Rn_callI [(2, 0), (0, l1), (0, l4)] [(0, l3)] rfl rfl rfl rfl (ab_rvB_of rfl (⟨rfl, (by omega : (0 : Int) ≤ 0), (by omega : (0 : Int) + 1 < K ∧ 5 < K)⟩)) ?_
          refine h.mono (fun x5 g' r' h => ?_)
          obtain ⟨hx, h⟩ := h
          replace hx := hx.symm
          subst hx
          obtain ⟨hx, h⟩ := h
          replace hx := hx.symm
          subst hx
          refine Rn_pure 4 (i' := 4) (L' := [some (2, 0), some (0, l1), some (0, l2), some (0, l3 + x5), some (0, l4 + 1)]) (st' := []) rfl ?_
          exact h
-- EventLedger.sumAnew (I)I
theorem v_EL_sumAnew {K : Int} {S : Nat} {g r : ab_H} {p1 : Int} (P : Int → ab_H → ab_H → Prop) (hr : SI r) (hK : 186 ≤ K) (h : ab_Rn m_EL_sumAnew 4 [some (2, 0), some (0, p1), some (0, 0), some (0, 0)] [] (K, S, g, r) (ab_Qi K S P)) : ab_RI m_EL_sumAnew [(2, 0), (0, p1)] K S g r P := by
  show ab_Rn m_EL_sumAnew 0 [some (2, 0), some (0, p1), none, none] [] (K, S, g, r) (ab_Qi K S P)
  refine Rn_pure 4 (i' := 4) (L' := [some (2, 0), some (0, p1), some (0, 0), some (0, 0)]) (st' := []) rfl ?_
  exact h
theorem v_EL_sumAnew_4 {K : Int} {S : Nat} {g r : ab_H} {l1 l2 l3 : Int} (P : Int → ab_H → ab_H → Prop) (hr : SI r) (hK : 186 ≤ K) (h : (isLg (r 0 5)) ∧ ((wr (g (r 0 5) 10) ≤ wr l3 → P l2 g r) ∧ (wr l3 < wr (g (r 0 5) 10) → ab_RI m_EL_countsNow [(2, 0), (0, l1), (0, l3)] K S g r (fun x2 g' r' => g' = g ∧ r' = r ∧ (((wr x2 = wr 0 → ab_Rn m_EL_sumAnew 4 [some (2, 0), some (0, l1), some (0, l2), some (0, l3 + 1)] [] (K, S, g, r) (ab_Qi K S P)) ∧ (¬ wr x2 = wr 0 → ab_RI m_EL_countedField [(2, 0), (0, l1), (0, l3)] K S g r (fun x3 g' r' => g' = g ∧ r' = r ∧ (ab_Rn m_EL_sumAnew 4 [some (2, 0), some (0, l1), some (0, l2 + x3), some (0, l3 + 1)] [] (K, S, g, r) (ab_Qi K S P)))))))))) : ab_Rn m_EL_sumAnew 4 [some (2, 0), some (0, l1), some (0, l2), some (0, l3)] [] (K, S, g, r) (ab_Qi K S P) := by
  refine Rn_pure 2 (i' := 6) (L' := [some (2, 0), some (0, l1), some (0, l2), some (0, l3)]) (st' := [(2, 0), (0, l3)]) rfl ?_
  obtain ⟨hf1, h⟩ := h
  refine Rn_getR rfl (⟨rfl, (by omega : (0 : Int) ≤ 0), (by omega : (0 : Int) + 1 < K ∧ 5 < K)⟩) rfl (nn_Lg hf1) ?_
  refine Rn_getI rfl (ob_Lg hf1 hK) ?_
  refine Rn_icge rfl (fun hc => ?_) (fun hc => ?_)
  · have h := h.1 hc
    refine Rn_pure 1 (i' := 24) (L' := [some (2, 0), some (0, l1), some (0, l2), some (0, l3)]) (st' := [(0, l2)]) rfl ?_
    exact Rn_ret1 rfl h
  · have h := h.2 hc
    refine Rn_pure 3 (i' := 12) (L' := [some (2, 0), some (0, l1), some (0, l2), some (0, l3)]) (st' := [(0, l3), (0, l1), (2, 0)]) rfl ?_
    refine Rn_callI [(2, 0), (0, l1), (0, l3)] [] rfl rfl rfl rfl (ab_rvB_of rfl (⟨rfl, (by omega : (0 : Int) ≤ 0), (by omega : (0 : Int) + 1 < K ∧ 5 < K)⟩)) ?_
    refine h.mono (fun x2 g' r' h => ?_)
    obtain ⟨hx, h⟩ := h
    replace hx := hx.symm
    subst hx
    obtain ⟨hx, h⟩ := h
    replace hx := hx.symm
    subst hx
    refine Rn_ifeq rfl (fun hc => ?_) (fun hc => ?_)
    · have h := h.1 hc
      refine Rn_pure 2 (i' := 4) (L' := [some (2, 0), some (0, l1), some (0, l2), some (0, l3 + 1)]) (st' := []) rfl ?_
      exact h
    · have h := h.2 hc
      refine Rn_pure 4 (i' := 18) (L' := [some (2, 0), some (0, l1), some (0, l2), some (0, l3)]) (st' := [(0, l3), (0, l1), (2, 0), (0, l2)]) rfl ?_
      refine Rn_callI [(2, 0), (0, l1), (0, l3)] [(0, l2)] rfl rfl rfl rfl (ab_rvB_of rfl (⟨rfl, (by omega : (0 : Int) ≤ 0), (by omega : (0 : Int) + 1 < K ∧ 5 < K)⟩)) ?_
      refine h.mono (fun x3 g' r' h => ?_)
      obtain ⟨hx, h⟩ := h
      replace hx := hx.symm
      subst hx
      obtain ⟨hx, h⟩ := h
      replace hx := hx.symm
      subst hx
      refine Rn_pure 4 (i' := 4) (L' := [some (2, 0), some (0, l1), some (0, l2 + x3), some (0, l3 + 1)]) (st' := []) rfl ?_
      exact h
-- EventLedger.addByChance (II)V
theorem v_EL_addByChance {K : Int} {S : Nat} {g r : ab_H} {p1 p2 : Int} (P : ab_H → ab_H → Prop) (hr : SI r) (hK : 186 ≤ K) (h : (isLg (r 0 5)) ∧ ab_RI m_Lg_latestTime [(2, r 0 5)] K S g r (fun x2 g' r' => g' = g ∧ r' = r ∧ (ab_Rn m_EL_addByChance 10 [some (2, 0), none, some (0, p2), some (0, ab_max 0 x2), some (0, p1), some (0, 0), none, none, none] [] (K, S, g, r) (ab_Qv K S P)))) : ab_RV m_EL_addByChance [(2, 0), (0, p1), (0, p2)] K S g r P := by
  show ab_Rn m_EL_addByChance 0 [some (2, 0), some (0, p1), some (0, p2), none, none, none, none, none, none] [] (K, S, g, r) (ab_Qv K S P)
  refine Rn_pure 2 (i' := 2) (L' := [some (2, 0), some (0, p1), some (0, p2), none, none, none, none, none, none]) (st' := [(2, 0), (0, 0)]) rfl ?_
  obtain ⟨hf1, h⟩ := h
  refine Rn_getR rfl (⟨rfl, (by omega : (0 : Int) ≤ 0), (by omega : (0 : Int) + 1 < K ∧ 5 < K)⟩) rfl (nn_Lg hf1) ?_
  refine Rn_callI [(2, r 0 5)] [(0, 0)] rfl rfl rfl rfl (ab_rvB_of rfl (ob_Lg hf1 hK)) ?_
  refine h.mono (fun x2 g' r' h => ?_)
  obtain ⟨hx, h⟩ := h
  replace hx := hx.symm
  subst hx
  obtain ⟨hx, h⟩ := h
  replace hx := hx.symm
  subst hx
  refine Rn_max rfl (by decide) ?_
  refine Rn_pure 5 (i' := 10) (L' := [some (2, 0), some (0, p1), some (0, p2), some (0, ab_max 0 x2), some (0, p1), some (0, 0), none, none, none]) (st' := []) rfl ?_
  refine Rn_weak (L' := [some (2, 0), none, some (0, p2), some (0, ab_max 0 x2), some (0, p1), some (0, 0), none, none, none]) ⟨rfl, ⟨rfl, ⟨rfl, ⟨rfl, ⟨rfl, trivial⟩⟩⟩⟩⟩ ?_
  exact h
theorem v_EL_addByChance_10 {K : Int} {S : Nat} {g r : ab_H} {l2 l3 l4 l5 : Int} (P : ab_H → ab_H → Prop) (hr : SI r) (hK : 186 ≤ K) (h : ((wr l2 ≤ wr l5 → P g r) ∧ (wr l5 < wr l2 → ab_RI m_EL_nextNumber [(0, l4)] K S g r (fun x1 g' r' => g' = g ∧ r' = r ∧ (ab_RI m_EL_drawn [(0, x1), (0, 5)] K S g r (fun x2 g' r' => g' = g ∧ r' = r ∧ (ab_RI m_EL_nextNumber [(0, x1)] K S g r (fun x3 g' r' => g' = g ∧ r' = r ∧ ((isTe (r 0 3)) ∧ ab_RI m_EL_drawn [(0, x3), (0, g (r 0 3) 1)] K S g r (fun x5 g' r' => g' = g ∧ r' = r ∧ (ab_RI m_EL_nextNumber [(0, x3)] K S g r (fun x6 g' r' => g' = g ∧ r' = r ∧ (ab_RI m_EL_drawn [(0, x6), (0, 1000)] K S g r (fun x7 g' r' => g' = g ∧ r' = r ∧ (ab_RV m_EL_fillRow [(2, 0), (0, x7), (0, 0)] K S g r (fun g8 r' => r' = r ∧ ((isLg (r 0 6)) ∧ (isLg (r 0 6)) ∧ ab_RV m_Lg_add [(2, r 0 6), (0, x2), (0, x5), (0, (-1)), (0, l3), (0, 3), (2, 64)] K S g8 r (fun g12 r' => r' = r ∧ ((isTe (r 0 3)) ∧ (isLg (r 0 6)) ∧ ab_RV m_Te_lift [(2, r 0 3), (2, r 0 6), (0, g8 (r 0 6) 10), (0, (-1)), (0, (-1))] K S g12 r (fun g16 r' => r' = r ∧ (ab_Rn m_EL_addByChance 10 [some (2, 0), none, some (0, l2), some (0, l3), some (0, x6), some (0, l5 + 1), none, none, none] [] (K, S, g16, r) (ab_Qv K S P)))))))))))))))))))))) : ab_Rn m_EL_addByChance 10 [some (2, 0), none, some (0, l2), some (0, l3), some (0, l4), some (0, l5), none, none, none] [] (K, S, g, r) (ab_Qv K S P) := by
  refine Rn_pure 2 (i' := 12) (L' := [some (2, 0), none, some (0, l2), some (0, l3), some (0, l4), some (0, l5), none, none, none]) (st' := [(0, l2), (0, l5)]) rfl ?_
  refine Rn_icge rfl (fun hc => ?_) (fun hc => ?_)
  · have h := h.1 hc
    exact Rn_ret0 rfl h
  · have h := h.2 hc
    refine Rn_pure 1 (i' := 14) (L' := [some (2, 0), none, some (0, l2), some (0, l3), some (0, l4), some (0, l5), none, none, none]) (st' := [(0, l4)]) rfl ?_
    refine Rn_callI [(0, l4)] [] rfl rfl rfl rfl (rfl) ?_
    refine h.mono (fun x1 g' r' h => ?_)
    obtain ⟨hx, h⟩ := h
    replace hx := hx.symm
    subst hx
    obtain ⟨hx, h⟩ := h
    replace hx := hx.symm
    subst hx
    refine Rn_pure 3 (i' := 18) (L' := [some (2, 0), none, some (0, l2), some (0, l3), some (0, x1), some (0, l5), none, none, none]) (st' := [(0, 5), (0, x1)]) rfl ?_
    refine Rn_callI [(0, x1), (0, 5)] [] rfl rfl rfl rfl (rfl) ?_
    refine h.mono (fun x2 g' r' h => ?_)
    obtain ⟨hx, h⟩ := h
    replace hx := hx.symm
    subst hx
    obtain ⟨hx, h⟩ := h
    replace hx := hx.symm
    subst hx
    refine Rn_pure 2 (i' := 21) (L' := [some (2, 0), none, some (0, l2), some (0, l3), some (0, x1), some (0, l5), some (0, x2), none, none]) (st' := [(0, x1)]) rfl ?_
    refine Rn_callI [(0, x1)] [] rfl rfl rfl rfl (rfl) ?_
    refine h.mono (fun x3 g' r' h => ?_)
    obtain ⟨hx, h⟩ := h
    replace hx := hx.symm
    subst hx
    obtain ⟨hx, h⟩ := h
    replace hx := hx.symm
    subst hx
    refine Rn_pure 3 (i' := 25) (L' := [some (2, 0), none, some (0, l2), some (0, l3), some (0, x3), some (0, l5), some (0, x2), none, none]) (st' := [(2, 0), (0, x3)]) rfl ?_
    obtain ⟨hf4, h⟩ := h
    refine Rn_getR rfl (⟨rfl, (by omega : (0 : Int) ≤ 0), (by omega : (0 : Int) + 1 < K ∧ 5 < K)⟩) rfl (nn_Te hf4) ?_
    refine Rn_getI rfl (ob_Te hf4 hK) ?_
    refine Rn_callI [(0, x3), (0, g (r 0 3) 1)] [] rfl rfl rfl rfl (rfl) ?_
    refine h.mono (fun x5 g' r' h => ?_)
    obtain ⟨hx, h⟩ := h
    replace hx := hx.symm
    subst hx
    obtain ⟨hx, h⟩ := h
    replace hx := hx.symm
    subst hx
    refine Rn_pure 2 (i' := 30) (L' := [some (2, 0), none, some (0, l2), some (0, l3), some (0, x3), some (0, l5), some (0, x2), some (0, x5), none]) (st' := [(0, x3)]) rfl ?_
    refine Rn_callI [(0, x3)] [] rfl rfl rfl rfl (rfl) ?_
    refine h.mono (fun x6 g' r' h => ?_)
    obtain ⟨hx, h⟩ := h
    replace hx := hx.symm
    subst hx
    obtain ⟨hx, h⟩ := h
    replace hx := hx.symm
    subst hx
    refine Rn_pure 4 (i' := 35) (L' := [some (2, 0), none, some (0, l2), some (0, l3), some (0, x6), some (0, l5), some (0, x2), some (0, x5), none]) (st' := [(0, 1000), (0, x6), (2, 0)]) rfl ?_
    refine Rn_callI [(0, x6), (0, 1000)] [(2, 0)] rfl rfl rfl rfl (rfl) ?_
    refine h.mono (fun x7 g' r' h => ?_)
    obtain ⟨hx, h⟩ := h
    replace hx := hx.symm
    subst hx
    obtain ⟨hx, h⟩ := h
    replace hx := hx.symm
    subst hx
    refine Rn_pure 1 (i' := 37) (L' := [some (2, 0), none, some (0, l2), some (0, l3), some (0, x6), some (0, l5), some (0, x2), some (0, x5), none]) (st' := [(0, 0), (0, x7), (2, 0)]) rfl ?_
    refine Rn_callV [(2, 0), (0, x7), (0, 0)] [] rfl rfl rfl rfl (ab_rvB_of rfl (⟨rfl, (by omega : (0 : Int) ≤ 0), (by omega : (0 : Int) + 1 < K ∧ 5 < K)⟩)) ?_
    refine h.mono (fun g8 r' h => ?_)
    obtain ⟨hx, h⟩ := h
    replace hx := hx.symm
    subst hx
    refine Rn_pure 1 (i' := 39) (L' := [some (2, 0), none, some (0, l2), some (0, l3), some (0, x6), some (0, l5), some (0, x2), some (0, x5), none]) (st' := [(2, 0)]) rfl ?_
    obtain ⟨hf10, h⟩ := h
    refine Rn_getR rfl (⟨rfl, (by omega : (0 : Int) ≤ 0), (by omega : (0 : Int) + 1 < K ∧ 5 < K)⟩) rfl (nn_Lg hf10) ?_
    refine Rn_getI rfl (ob_Lg hf10 hK) ?_
    refine Rn_pure 2 (i' := 43) (L' := [some (2, 0), none, some (0, l2), some (0, l3), some (0, x6), some (0, l5), some (0, x2), some (0, x5), some (0, g8 (r 0 6) 10)]) (st' := [(2, 0)]) rfl ?_
    obtain ⟨hf11, h⟩ := h
    refine Rn_getR rfl (⟨rfl, (by omega : (0 : Int) ≤ 0), (by omega : (0 : Int) + 1 < K ∧ 5 < K)⟩) rfl (nn_Lg hf11) ?_
    refine Rn_pure 6 (i' := 50) (L' := [some (2, 0), none, some (0, l2), some (0, l3), some (0, x6), some (0, l5), some (0, x2), some (0, x5), some (0, g8 (r 0 6) 10)]) (st' := [(2, 0), (0, 3), (0, l3), (0, (-1)), (0, x5), (0, x2), (2, r 0 6)]) rfl ?_
    refine Rn_getR rfl (⟨rfl, (by omega : (0 : Int) ≤ 0), (by omega : (0 : Int) + 1 < K ∧ 5 < K)⟩) (hr 7 _ rfl) (by decide) ?_
    refine Rn_callV [(2, r 0 6), (0, x2), (0, x5), (0, (-1)), (0, l3), (0, 3), (2, 64)] [] rfl rfl rfl rfl (ab_rvB_of rfl (ob_Lg hf11 hK)) ?_
    refine h.mono (fun g12 r' h => ?_)
    obtain ⟨hx, h⟩ := h
    replace hx := hx.symm
    subst hx
    refine Rn_pure 1 (i' := 53) (L' := [some (2, 0), none, some (0, l2), some (0, l3), some (0, x6), some (0, l5), some (0, x2), some (0, x5), some (0, g8 (r 0 6) 10)]) (st' := [(2, 0)]) rfl ?_
    obtain ⟨hf14, h⟩ := h
    refine Rn_getR rfl (⟨rfl, (by omega : (0 : Int) ≤ 0), (by omega : (0 : Int) + 1 < K ∧ 5 < K)⟩) rfl (nn_Te hf14) ?_
    refine Rn_pure 1 (i' := 55) (L' := [some (2, 0), none, some (0, l2), some (0, l3), some (0, x6), some (0, l5), some (0, x2), some (0, x5), some (0, g8 (r 0 6) 10)]) (st' := [(2, 0), (2, r 0 3)]) rfl ?_
    obtain ⟨hf15, h⟩ := h
    refine Rn_getR rfl (⟨rfl, (by omega : (0 : Int) ≤ 0), (by omega : (0 : Int) + 1 < K ∧ 5 < K)⟩) rfl (nn_Lg hf15) ?_
    refine Rn_pure 3 (i' := 59) (L' := [some (2, 0), none, some (0, l2), some (0, l3), some (0, x6), some (0, l5), some (0, x2), some (0, x5), some (0, g8 (r 0 6) 10)]) (st' := [(0, (-1)), (0, (-1)), (0, g8 (r 0 6) 10), (2, r 0 6), (2, r 0 3)]) rfl ?_
    refine Rn_callV [(2, r 0 3), (2, r 0 6), (0, g8 (r 0 6) 10), (0, (-1)), (0, (-1))] [] rfl rfl rfl rfl (ab_rvB_of rfl (ob_Te hf14 hK)) ?_
    refine h.mono (fun g16 r' h => ?_)
    obtain ⟨hx, h⟩ := h
    replace hx := hx.symm
    subst hx
    refine Rn_pure 2 (i' := 10) (L' := [some (2, 0), none, some (0, l2), some (0, l3), some (0, x6), some (0, l5 + 1), some (0, x2), some (0, x5), some (0, g8 (r 0 6) 10)]) (st' := []) rfl ?_
    refine Rn_weak (L' := [some (2, 0), none, some (0, l2), some (0, l3), some (0, x6), some (0, l5 + 1), none, none, none]) ⟨rfl, ⟨rfl, ⟨rfl, ⟨rfl, ⟨rfl, trivial⟩⟩⟩⟩⟩ ?_
    exact h
-- EventLedger.nextNumber (I)I
theorem v_EL_nextNumber {K : Int} {S : Nat} {g r : ab_H} {p0 : Int} (P : Int → ab_H → ab_H → Prop) (hr : SI r) (hK : 186 ≤ K) (h : P (ab_and (p0 * 1103515245 + 12345) 2147483647) g r) : ab_RI m_EL_nextNumber [(0, p0)] K S g r P := by
  show ab_Rn m_EL_nextNumber 0 [some (0, p0)] [] (K, S, g, r) (ab_Qi K S P)
  refine Rn_pure 7 (i' := 7) (L' := [some (0, p0)]) (st' := [(0, ab_and (p0 * 1103515245 + 12345) 2147483647)]) rfl ?_
  exact Rn_ret1 rfl h
-- EventLedger.drawn (II)I
theorem v_EL_drawn {K : Int} {S : Nat} {g r : ab_H} {p0 p1 : Int} (P : Int → ab_H → ab_H → Prop) (hr : SI r) (hK : 186 ≤ K) (h : ((wr p1 ≤ wr 0 → P 0 g r) ∧ (wr 0 < wr p1 → (¬ wr p1 = 0) ∧ P (ab_rem (ab_shr p0 16) p1) g r))) : ab_RI m_EL_drawn [(0, p0), (0, p1)] K S g r P := by
  show ab_Rn m_EL_drawn 0 [some (0, p0), some (0, p1)] [] (K, S, g, r) (ab_Qi K S P)
  refine Rn_pure 1 (i' := 1) (L' := [some (0, p0), some (0, p1)]) (st' := [(0, p1)]) rfl ?_
  refine Rn_ifle rfl (fun hc => ?_) (fun hc => ?_)
  · have h := h.1 hc
    refine Rn_pure 1 (i' := 9) (L' := [some (0, p0), some (0, p1)]) (st' := [(0, 0)]) rfl ?_
    exact Rn_ret1 rfl h
  · have h := h.2 hc
    refine Rn_pure 4 (i' := 6) (L' := [some (0, p0), some (0, p1)]) (st' := [(0, p1), (0, ab_shr p0 16)]) rfl ?_
    obtain ⟨hg, h⟩ := h
    refine Rn_rem rfl hg ?_
    refine Rn_pure 1 (i' := 9) (L' := [some (0, p0), some (0, p1)]) (st' := [(0, ab_rem (ab_shr p0 16) p1)]) rfl ?_
    exact Rn_ret1 rfl h
-- EventLedger.mark ()V
theorem v_EL_mark {K : Int} {S : Nat} {g r : ab_H} (P : ab_H → ab_H → Prop) (hr : SI r) (hK : 186 ≤ K) (h : ((wr (g 0 14) < wr 20 → ((0 : Int) ≤ g 0 14 ∧ (g 0 14 : Int) < 20) ∧ (isMk (r 65 (g 0 14))) ∧ ab_RV m_EL_fillMark [(2, 0), (2, r 65 (g 0 14))] K S g r (fun g2 r' => r' = r ∧ (∀ g4, g4 = ab_up g2 0 14 (g2 0 14 + 1) → P g4 r))) ∧ (wr 20 ≤ wr (g 0 14) → ((0 : Int) ≤ 0 ∧ (0 : Int) < 20) ∧ (isMk (r 65 0)) ∧ ab_Rn m_EL_mark 11 [some (2, 0), some (2, r 65 0), some (0, 1)] [] (K, S, g, r) (ab_Qv K S P)))) : ab_RV m_EL_mark [(2, 0)] K S g r P := by
  show ab_Rn m_EL_mark 0 [some (2, 0), none, none] [] (K, S, g, r) (ab_Qv K S P)
  refine Rn_pure 1 (i' := 1) (L' := [some (2, 0), none, none]) (st' := [(2, 0)]) rfl ?_
  refine Rn_getI rfl (⟨rfl, (by omega : (0 : Int) ≤ 0), (by omega : (0 : Int) + 1 < K ∧ 5 < K)⟩) ?_
  refine Rn_pure 1 (i' := 3) (L' := [some (2, 0), none, none]) (st' := [(0, 20), (0, g 0 14)]) rfl ?_
  refine Rn_iclt rfl (fun hc => ?_) (fun hc => ?_)
  · have h := h.1 hc
    refine Rn_pure 2 (i' := 36) (L' := [some (2, 0), none, none]) (st' := [(2, 0), (2, 0)]) rfl ?_
    refine Rn_getR rfl (⟨rfl, (by omega : (0 : Int) ≤ 0), (by omega : (0 : Int) + 1 < K ∧ 5 < K)⟩) (hr 8 _ rfl) (by decide) ?_
    refine Rn_pure 1 (i' := 38) (L' := [some (2, 0), none, none]) (st' := [(2, 0), (2, 65), (2, 0)]) rfl ?_
    refine Rn_getI rfl (⟨rfl, (by omega : (0 : Int) ≤ 0), (by omega : (0 : Int) + 1 < K ∧ 5 < K)⟩) ?_
    obtain ⟨hg, h⟩ := h
    obtain ⟨hf1, h⟩ := h
    refine Rn_aald rfl (⟨rfl, (by omega : (0 : Int) ≤ 65), (by omega : (65 : Int) + 1 < K ∧ 5 < K)⟩) hg rfl (nn_Mk hf1) ?_
    refine Rn_callV [(2, 0), (2, r 65 (g 0 14))] [] rfl rfl rfl rfl (ab_rvB_of rfl (⟨rfl, (by omega : (0 : Int) ≤ 0), (by omega : (0 : Int) + 1 < K ∧ 5 < K)⟩)) ?_
    refine h.mono (fun g2 r' h => ?_)
    obtain ⟨hx, h⟩ := h
    replace hx := hx.symm
    subst hx
    refine Rn_pure 2 (i' := 43) (L' := [some (2, 0), none, none]) (st' := [(2, 0), (2, 0)]) rfl ?_
    refine Rn_getI rfl (⟨rfl, (by omega : (0 : Int) ≤ 0), (by omega : (0 : Int) + 1 < K ∧ 5 < K)⟩) ?_
    refine Rn_pure 2 (i' := 46) (L' := [some (2, 0), none, none]) (st' := [(0, g2 0 14 + 1), (2, 0)]) rfl ?_
    refine Rn_putI rfl (⟨rfl, (by omega : (0 : Int) ≤ 0), (by omega : (0 : Int) + 1 < K ∧ 5 < K)⟩) (fun g4 he_g4 => ?_)
    have h := h g4 he_g4
    exact Rn_ret0 rfl h
  · have h := h.2 hc
    refine Rn_pure 1 (i' := 5) (L' := [some (2, 0), none, none]) (st' := [(2, 0)]) rfl ?_
    refine Rn_getR rfl (⟨rfl, (by omega : (0 : Int) ≤ 0), (by omega : (0 : Int) + 1 < K ∧ 5 < K)⟩) (hr 8 _ rfl) (by decide) ?_
    refine Rn_pure 1 (i' := 7) (L' := [some (2, 0), none, none]) (st' := [(0, 0), (2, 65)]) rfl ?_
    obtain ⟨hg, h⟩ := h
    obtain ⟨hf5, h⟩ := h
    refine Rn_aald rfl (⟨rfl, (by omega : (0 : Int) ≤ 65), (by omega : (65 : Int) + 1 < K ∧ 5 < K)⟩) hg rfl (nn_Mk hf5) ?_
    refine Rn_pure 3 (i' := 11) (L' := [some (2, 0), some (2, r 65 0), some (0, 1)]) (st' := []) rfl ?_
    exact h
theorem v_EL_mark_11 {K : Int} {S : Nat} {g r : ab_H} {l1 l2 : Int} (P : ab_H → ab_H → Prop) (hr : SI r) (hK : 186 ≤ K) (hl1 : isMk l1) (h : ((wr 20 ≤ wr l2 → ((0 : Int) ≤ 19 ∧ (19 : Int) < 20) ∧ ∀ r1, r1 = ab_up r 65 19 l1 → ∀ g3, g3 = ab_up g 0 14 19 → ((0 : Int) ≤ g3 0 14 ∧ (g3 0 14 : Int) < 20) ∧ (isMk (r1 65 (g3 0 14))) ∧ ab_RV m_EL_fillMark [(2, 0), (2, r1 65 (g3 0 14))] K S g3 r1 (fun g5 r' => r' = r1 ∧ (∀ g7, g7 = ab_up g5 0 14 (g5 0 14 + 1) → P g7 r1))) ∧ (wr l2 < wr 20 → ((0 : Int) ≤ l2 ∧ (l2 : Int) < 20) ∧ (isMk (r 65 l2)) ∧ ((0 : Int) ≤ l2 - 1 ∧ (l2 - 1 : Int) < 20) ∧ ∀ r9, r9 = ab_up r 65 (l2 - 1) (r 65 l2) → ab_Rn m_EL_mark 11 [some (2, 0), some (2, l1), some (0, l2 + 1)] [] (K, S, g, r9) (ab_Qv K S P)))) : ab_Rn m_EL_mark 11 [some (2, 0), some (2, l1), some (0, l2)] [] (K, S, g, r) (ab_Qv K S P) := by
  refine Rn_pure 2 (i' := 13) (L' := [some (2, 0), some (2, l1), some (0, l2)]) (st' := [(0, 20), (0, l2)]) rfl ?_
  refine Rn_icge rfl (fun hc => ?_) (fun hc => ?_)
  · have h := h.1 hc
    refine Rn_pure 1 (i' := 27) (L' := [some (2, 0), some (2, l1), some (0, l2)]) (st' := [(2, 0)]) rfl ?_
    refine Rn_getR rfl (⟨rfl, (by omega : (0 : Int) ≤ 0), (by omega : (0 : Int) + 1 < K ∧ 5 < K)⟩) (hr 8 _ rfl) (by decide) ?_
    refine Rn_pure 2 (i' := 30) (L' := [some (2, 0), some (2, l1), some (0, l2)]) (st' := [(2, l1), (0, 19), (2, 65)]) rfl ?_
    obtain ⟨hg, h⟩ := h
    refine Rn_aast rfl (⟨rfl, (by omega : (0 : Int) ≤ 65), (by omega : (65 : Int) + 1 < K ∧ 5 < K)⟩) hg (ob_Mk hl1 hK) (fun r1 he_r1 => ?_)
    have h := h r1 he_r1
    have hr2 : SI r1 := by rw [he_r1]; exact SI_upx hr (by decide)
    refine Rn_pure 2 (i' := 33) (L' := [some (2, 0), some (2, l1), some (0, l2)]) (st' := [(0, 19), (2, 0)]) rfl ?_
    refine Rn_putI rfl (⟨rfl, (by omega : (0 : Int) ≤ 0), (by omega : (0 : Int) + 1 < K ∧ 5 < K)⟩) (fun g3 he_g3 => ?_)
    have h := h g3 he_g3
    refine Rn_pure 2 (i' := 36) (L' := [some (2, 0), some (2, l1), some (0, l2)]) (st' := [(2, 0), (2, 0)]) rfl ?_
    refine Rn_getR rfl (⟨rfl, (by omega : (0 : Int) ≤ 0), (by omega : (0 : Int) + 1 < K ∧ 5 < K)⟩) (hr2 8 _ rfl) (by decide) ?_
    refine Rn_pure 1 (i' := 38) (L' := [some (2, 0), some (2, l1), some (0, l2)]) (st' := [(2, 0), (2, 65), (2, 0)]) rfl ?_
    refine Rn_getI rfl (⟨rfl, (by omega : (0 : Int) ≤ 0), (by omega : (0 : Int) + 1 < K ∧ 5 < K)⟩) ?_
    obtain ⟨hg, h⟩ := h
    obtain ⟨hf4, h⟩ := h
    refine Rn_aald rfl (⟨rfl, (by omega : (0 : Int) ≤ 65), (by omega : (65 : Int) + 1 < K ∧ 5 < K)⟩) hg rfl (nn_Mk hf4) ?_
    refine Rn_callV [(2, 0), (2, r1 65 (g3 0 14))] [] rfl rfl rfl rfl (ab_rvB_of rfl (⟨rfl, (by omega : (0 : Int) ≤ 0), (by omega : (0 : Int) + 1 < K ∧ 5 < K)⟩)) ?_
    refine h.mono (fun g5 r' h => ?_)
    obtain ⟨hx, h⟩ := h
    replace hx := hx.symm
    subst hx
    refine Rn_pure 2 (i' := 43) (L' := [some (2, 0), some (2, l1), some (0, l2)]) (st' := [(2, 0), (2, 0)]) rfl ?_
    refine Rn_getI rfl (⟨rfl, (by omega : (0 : Int) ≤ 0), (by omega : (0 : Int) + 1 < K ∧ 5 < K)⟩) ?_
    refine Rn_pure 2 (i' := 46) (L' := [some (2, 0), some (2, l1), some (0, l2)]) (st' := [(0, g5 0 14 + 1), (2, 0)]) rfl ?_
    refine Rn_putI rfl (⟨rfl, (by omega : (0 : Int) ≤ 0), (by omega : (0 : Int) + 1 < K ∧ 5 < K)⟩) (fun g7 he_g7 => ?_)
    have h := h g7 he_g7
    exact Rn_ret0 rfl h
  · have h := h.2 hc
    refine Rn_pure 1 (i' := 15) (L' := [some (2, 0), some (2, l1), some (0, l2)]) (st' := [(2, 0)]) rfl ?_
    refine Rn_getR rfl (⟨rfl, (by omega : (0 : Int) ≤ 0), (by omega : (0 : Int) + 1 < K ∧ 5 < K)⟩) (hr 8 _ rfl) (by decide) ?_
    refine Rn_pure 4 (i' := 20) (L' := [some (2, 0), some (2, l1), some (0, l2)]) (st' := [(2, 0), (0, l2 - 1), (2, 65)]) rfl ?_
    refine Rn_getR rfl (⟨rfl, (by omega : (0 : Int) ≤ 0), (by omega : (0 : Int) + 1 < K ∧ 5 < K)⟩) (hr 8 _ rfl) (by decide) ?_
    refine Rn_pure 1 (i' := 22) (L' := [some (2, 0), some (2, l1), some (0, l2)]) (st' := [(0, l2), (2, 65), (0, l2 - 1), (2, 65)]) rfl ?_
    obtain ⟨hg, h⟩ := h
    obtain ⟨hf8, h⟩ := h
    refine Rn_aald rfl (⟨rfl, (by omega : (0 : Int) ≤ 65), (by omega : (65 : Int) + 1 < K ∧ 5 < K)⟩) hg rfl (nn_Mk hf8) ?_
    obtain ⟨hg, h⟩ := h
    refine Rn_aast rfl (⟨rfl, (by omega : (0 : Int) ≤ 65), (by omega : (65 : Int) + 1 < K ∧ 5 < K)⟩) hg (ob_Mk hf8 hK) (fun r9 he_r9 => ?_)
    have h := h r9 he_r9
    have hr10 : SI r9 := by rw [he_r9]; exact SI_upx hr (by decide)
    refine Rn_pure 2 (i' := 11) (L' := [some (2, 0), some (2, l1), some (0, l2 + 1)]) (st' := []) rfl ?_
    exact h
-- EventLedger.fillMark (LEventLedger$Mark;)V
theorem v_EL_fillMark {K : Int} {S : Nat} {g r : ab_H} {p1 : Int} (P : ab_H → ab_H → Prop) (hr : SI r) (hK : 186 ≤ K) (hp1 : isMk p1) (h : (isLg (r 0 5)) ∧ ∀ g2, g2 = ab_up g p1 0 (g (r 0 5) 10) → ∀ g3, g3 = ab_up g2 p1 1 (g2 57 2) → ∀ g4, g4 = ab_up g3 p1 2 (g3 57 3) → ab_RV m_Ta_copyFrom [(2, p1 + 1), (2, 61)] K S g4 r (fun g5 r' => r' = r ∧ (P g5 r))) : ab_RV m_EL_fillMark [(2, 0), (2, p1)] K S g r P := by
  show ab_Rn m_EL_fillMark 0 [some (2, 0), some (2, p1)] [] (K, S, g, r) (ab_Qv K S P)
  refine Rn_pure 2 (i' := 2) (L' := [some (2, 0), some (2, p1)]) (st' := [(2, 0), (2, p1)]) rfl ?_
  obtain ⟨hf1, h⟩ := h
  refine Rn_getR rfl (⟨rfl, (by omega : (0 : Int) ≤ 0), (by omega : (0 : Int) + 1 < K ∧ 5 < K)⟩) rfl (nn_Lg hf1) ?_
  refine Rn_getI rfl (ob_Lg hf1 hK) ?_
  refine Rn_putI rfl (ob_Mk hp1 hK) (fun g2 he_g2 => ?_)
  have h := h g2 he_g2
  refine Rn_pure 2 (i' := 7) (L' := [some (2, 0), some (2, p1)]) (st' := [(2, 0), (2, p1)]) rfl ?_
  refine Rn_getR rfl (⟨rfl, (by omega : (0 : Int) ≤ 0), (by omega : (0 : Int) + 1 < K ∧ 5 < K)⟩) (hr 4 _ rfl) (by decide) ?_
  refine Rn_getI rfl (⟨rfl, (by omega : (0 : Int) ≤ 57), (by omega : (57 : Int) + 1 < K ∧ 5 < K)⟩) ?_
  refine Rn_putI rfl (ob_Mk hp1 hK) (fun g3 he_g3 => ?_)
  have h := h g3 he_g3
  refine Rn_pure 2 (i' := 12) (L' := [some (2, 0), some (2, p1)]) (st' := [(2, 0), (2, p1)]) rfl ?_
  refine Rn_getR rfl (⟨rfl, (by omega : (0 : Int) ≤ 0), (by omega : (0 : Int) + 1 < K ∧ 5 < K)⟩) (hr 4 _ rfl) (by decide) ?_
  refine Rn_getI rfl (⟨rfl, (by omega : (0 : Int) ≤ 57), (by omega : (57 : Int) + 1 < K ∧ 5 < K)⟩) ?_
  refine Rn_putI rfl (ob_Mk hp1 hK) (fun g4 he_g4 => ?_)
  have h := h g4 he_g4
  refine Rn_pure 1 (i' := 16) (L' := [some (2, 0), some (2, p1)]) (st' := [(2, p1)]) rfl ?_
  refine Rn_getR rfl (ob_Mk hp1 hK) (fx_Mk_3 hr hp1) (show (p1 + 1 : Int) ≠ -1 by have := hp1; unfold isMk at this; omega) ?_
  refine Rn_pure 1 (i' := 18) (L' := [some (2, 0), some (2, p1)]) (st' := [(2, 0), (2, p1 + 1)]) rfl ?_
  refine Rn_getR rfl (⟨rfl, (by omega : (0 : Int) ≤ 0), (by omega : (0 : Int) + 1 < K ∧ 5 < K)⟩) (hr 6 _ rfl) (by decide) ?_
  refine Rn_callV [(2, p1 + 1), (2, 61)] [] rfl rfl rfl rfl (ab_rvB_of rfl (ob_Ta (Mk_Ta hp1) hK)) ?_
  refine h.mono (fun g5 r' h => ?_)
  obtain ⟨hx, h⟩ := h
  replace hx := hx.symm
  subst hx
  exact Rn_ret0 rfl h
-- EventLedger.restore (LEventLedger$Mark;)V
theorem v_EL_restore {K : Int} {S : Nat} {g r : ab_H} {p1 : Int} (P : ab_H → ab_H → Prop) (hr : SI r) (hK : 186 ≤ K) (hp1 : isMk p1) (h : ∀ g1, g1 = ab_up g 57 2 (g p1 1) → ∀ g2, g2 = ab_up g1 57 3 (g1 p1 2) → ab_RV m_Ta_copyFrom [(2, 61), (2, p1 + 1)] K S g2 r (fun g3 r' => r' = r ∧ (ab_RV m_EL_rebuild [(2, 0)] K S g3 r (fun g5 r' => r' = r ∧ (P g5 r))))) : ab_RV m_EL_restore [(2, 0), (2, p1)] K S g r P := by
  show ab_Rn m_EL_restore 0 [some (2, 0), some (2, p1)] [] (K, S, g, r) (ab_Qv K S P)
  refine Rn_pure 1 (i' := 1) (L' := [some (2, 0), some (2, p1)]) (st' := [(2, 0)]) rfl ?_
  refine Rn_getR rfl (⟨rfl, (by omega : (0 : Int) ≤ 0), (by omega : (0 : Int) + 1 < K ∧ 5 < K)⟩) (hr 4 _ rfl) (by decide) ?_
  refine Rn_pure 1 (i' := 3) (L' := [some (2, 0), some (2, p1)]) (st' := [(2, p1), (2, 57)]) rfl ?_
  refine Rn_getI rfl (ob_Mk hp1 hK) ?_
  refine Rn_putI rfl (⟨rfl, (by omega : (0 : Int) ≤ 57), (by omega : (57 : Int) + 1 < K ∧ 5 < K)⟩) (fun g1 he_g1 => ?_)
  have h := h g1 he_g1
  refine Rn_pure 1 (i' := 6) (L' := [some (2, 0), some (2, p1)]) (st' := [(2, 0)]) rfl ?_
  refine Rn_getR rfl (⟨rfl, (by omega : (0 : Int) ≤ 0), (by omega : (0 : Int) + 1 < K ∧ 5 < K)⟩) (hr 4 _ rfl) (by decide) ?_
  refine Rn_pure 1 (i' := 8) (L' := [some (2, 0), some (2, p1)]) (st' := [(2, p1), (2, 57)]) rfl ?_
  refine Rn_getI rfl (ob_Mk hp1 hK) ?_
  refine Rn_putI rfl (⟨rfl, (by omega : (0 : Int) ≤ 57), (by omega : (57 : Int) + 1 < K ∧ 5 < K)⟩) (fun g2 he_g2 => ?_)
  have h := h g2 he_g2
  refine Rn_pure 1 (i' := 11) (L' := [some (2, 0), some (2, p1)]) (st' := [(2, 0)]) rfl ?_
  refine Rn_getR rfl (⟨rfl, (by omega : (0 : Int) ≤ 0), (by omega : (0 : Int) + 1 < K ∧ 5 < K)⟩) (hr 6 _ rfl) (by decide) ?_
  refine Rn_pure 1 (i' := 13) (L' := [some (2, 0), some (2, p1)]) (st' := [(2, p1), (2, 61)]) rfl ?_
  refine Rn_getR rfl (ob_Mk hp1 hK) (fx_Mk_3 hr hp1) (show (p1 + 1 : Int) ≠ -1 by have := hp1; unfold isMk at this; omega) ?_
  refine Rn_callV [(2, 61), (2, p1 + 1)] [] rfl rfl rfl rfl (ab_rvB_of rfl (⟨rfl, (by omega : (0 : Int) ≤ 61), (by omega : (61 : Int) + 1 < K ∧ 5 < K)⟩)) ?_
  refine h.mono (fun g3 r' h => ?_)
  obtain ⟨hx, h⟩ := h
  replace hx := hx.symm
  subst hx
  refine Rn_pure 1 (i' := 16) (L' := [some (2, 0), some (2, p1)]) (st' := [(2, 0)]) rfl ?_
  refine Rn_callV [(2, 0)] [] rfl rfl rfl rfl (ab_rvB_of rfl (⟨rfl, (by omega : (0 : Int) ≤ 0), (by omega : (0 : Int) + 1 < K ∧ 5 < K)⟩)) ?_
  refine h.mono (fun g5 r' h => ?_)
  obtain ⟨hx, h⟩ := h
  replace hx := hx.symm
  subst hx
  exact Rn_ret0 rfl h
