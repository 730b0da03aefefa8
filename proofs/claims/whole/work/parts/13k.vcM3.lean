-- EventLedgerModel.timeAhead ()I
theorem v_M_timeAhead {K : Int} {S : Nat} {g r : ab_H} (P : Int → ab_H → ab_H → Prop) (hr : SI r) (hK : 186 ≤ K) (h : ab_RI m_M_reading [(2, 161), (0, 5)] K S g r (fun x1 g' r' => g' = g ∧ r' = r ∧ (((¬ wr x1 = wr 0 → ab_RI m_M_reading [(2, 161), (0, 5)] K S g r (fun x2 g' r' => g' = g ∧ r' = r ∧ (((0 : Int) ≤ 8 * x2 - 8 + 3 ∧ (8 * x2 - 8 + 3 : Int) < 400) ∧ P (g 172 (8 * x2 - 8 + 3)) g r))) ∧ (wr x1 = wr 0 → P 0 g r))))) : ab_RI m_M_timeAhead [(2, 161)] K S g r P := by
  show ab_Rn m_M_timeAhead 0 [some (2, 161)] [] (K, S, g, r) (ab_Qi K S P)
  refine Rn_pure 2 (i' := 2) (L' := [some (2, 161)]) (st' := [(0, 5), (2, 161)]) rfl ?_
  refine Rn_callI [(2, 161), (0, 5)] [] rfl rfl rfl rfl (ab_rvB_of rfl (⟨rfl, (by omega : (0 : Int) ≤ 161), (by omega : (161 : Int) + 1 < K ∧ 5 < K)⟩)) ?_
  refine h.mono (fun x1 g' r' h => ?_)
  obtain ⟨hx, h⟩ := h
  replace hx := hx.symm
  subst hx
  obtain ⟨hx, h⟩ := h
  replace hx := hx.symm
  subst hx
  refine Rn_ifne rfl (fun hc => ?_) (fun hc => ?_)
  · have h := h.1 hc
    refine Rn_pure 1 (i' := 7) (L' := [some (2, 161)]) (st' := [(2, 161)]) rfl ?_
    refine Rn_getR rfl (⟨rfl, (by omega : (0 : Int) ≤ 161), (by omega : (161 : Int) + 1 < K ∧ 5 < K)⟩) (hr 147 _ rfl) (by decide) ?_
    refine Rn_pure 3 (i' := 11) (L' := [some (2, 161)]) (st' := [(0, 5), (2, 161), (0, 8), (2, 172)]) rfl ?_
    refine Rn_callI [(2, 161), (0, 5)] [(0, 8), (2, 172)] rfl rfl rfl rfl (ab_rvB_of rfl (⟨rfl, (by omega : (0 : Int) ≤ 161), (by omega : (161 : Int) + 1 < K ∧ 5 < K)⟩)) ?_
    refine h.mono (fun x2 g' r' h => ?_)
    obtain ⟨hx, h⟩ := h
    replace hx := hx.symm
    subst hx
    obtain ⟨hx, h⟩ := h
    replace hx := hx.symm
    subst hx
    refine Rn_pure 5 (i' := 17) (L' := [some (2, 161)]) (st' := [(0, 8 * x2 - 8 + 3), (2, 172)]) rfl ?_
    obtain ⟨hg, h⟩ := h
    refine Rn_iald rfl (⟨rfl, (by omega : (0 : Int) ≤ 172), (by omega : (172 : Int) + 1 < K ∧ 5 < K)⟩) hg ?_
    exact Rn_ret1 rfl h
  · have h := h.2 hc
    refine Rn_pure 2 (i' := 18) (L' := [some (2, 161)]) (st' := [(0, 0)]) rfl ?_
    exact Rn_ret1 rfl h
-- EventLedgerModel.readEvent (I)V
theorem v_M_readEvent {K : Int} {S : Nat} {g r : ab_H} {p1 : Int} (P : ab_H → ab_H → Prop) (hr : SI r) (hK : 186 ≤ K) (h : ab_RI m_M_reading [(2, 161), (0, 5)] K S g r (fun x1 g' r' => g' = g ∧ r' = r ∧ (ab_RI m_M_reading [(2, 161), (0, 5)] K S g r (fun x2 g' r' => g' = g ∧ r' = r ∧ (((¬ wr x2 = wr 50 → ab_Rn m_M_readEvent 14 [some (2, 161), some (0, p1), some (0, 8 * x1), none, none, none, none, none, none, none] [] (K, S, g, r) (ab_Qv K S P)) ∧ (wr x2 = wr 50 → ab_RV m_M_wrong [(2, 161), (0, 2)] K S g r (fun g3 r' => r' = r ∧ (ab_Rn m_M_readEvent 14 [some (2, 161), some (0, p1), some (0, 8 * x1), none, none, none, none, none, none, none] [] (K, S, g3, r) (ab_Qv K S P)))))))))) : ab_RV m_M_readEvent [(2, 161), (0, p1)] K S g r P := by
  show ab_Rn m_M_readEvent 0 [some (2, 161), some (0, p1), none, none, none, none, none, none, none, none] [] (K, S, g, r) (ab_Qv K S P)
  refine Rn_pure 3 (i' := 3) (L' := [some (2, 161), some (0, p1), none, none, none, none, none, none, none, none]) (st' := [(0, 5), (2, 161), (0, 8)]) rfl ?_
  refine Rn_callI [(2, 161), (0, 5)] [(0, 8)] rfl rfl rfl rfl (ab_rvB_of rfl (⟨rfl, (by omega : (0 : Int) ≤ 161), (by omega : (161 : Int) + 1 < K ∧ 5 < K)⟩)) ?_
  refine h.mono (fun x1 g' r' h => ?_)
  obtain ⟨hx, h⟩ := h
  replace hx := hx.symm
  subst hx
  obtain ⟨hx, h⟩ := h
  replace hx := hx.symm
  subst hx
  refine Rn_pure 4 (i' := 8) (L' := [some (2, 161), some (0, p1), some (0, 8 * x1), none, none, none, none, none, none, none]) (st' := [(0, 5), (2, 161)]) rfl ?_
  refine Rn_callI [(2, 161), (0, 5)] [] rfl rfl rfl rfl (ab_rvB_of rfl (⟨rfl, (by omega : (0 : Int) ≤ 161), (by omega : (161 : Int) + 1 < K ∧ 5 < K)⟩)) ?_
  refine h.mono (fun x2 g' r' h => ?_)
  obtain ⟨hx, h⟩ := h
  replace hx := hx.symm
  subst hx
  obtain ⟨hx, h⟩ := h
  replace hx := hx.symm
  subst hx
  refine Rn_pure 1 (i' := 10) (L' := [some (2, 161), some (0, p1), some (0, 8 * x1), none, none, none, none, none, none, none]) (st' := [(0, 50), (0, x2)]) rfl ?_
  refine Rn_icne rfl (fun hc => ?_) (fun hc => ?_)
  · have h := h.1 hc
    exact h
  · have h := h.2 hc
    refine Rn_pure 2 (i' := 13) (L' := [some (2, 161), some (0, p1), some (0, 8 * x1), none, none, none, none, none, none, none]) (st' := [(0, 2), (2, 161)]) rfl ?_
    refine Rn_callV [(2, 161), (0, 2)] [] rfl rfl rfl rfl (ab_rvB_of rfl (⟨rfl, (by omega : (0 : Int) ≤ 161), (by omega : (161 : Int) + 1 < K ∧ 5 < K)⟩)) ?_
    refine h.mono (fun g3 r' h => ?_)
    obtain ⟨hx, h⟩ := h
    replace hx := hx.symm
    subst hx
    exact h
theorem v_M_readEvent_14 {K : Int} {S : Nat} {g r : ab_H} {l1 l2 : Int} (P : ab_H → ab_H → Prop) (hr : SI r) (hK : 186 ≤ K) (h : ab_RV m_M_goOn [(2, 161)] K S g r (fun g1 r' => r' = r ∧ (ab_RI m_M_accountHere [(2, 161)] K S g1 r (fun x4 g3 r' => r' = r ∧ (ab_RV m_M_goOn [(2, 161)] K S g3 r (fun g5 r' => r' = r ∧ (((¬ wr l1 = wr 6 → ((¬ wr (g5 161 22) = wr 0 → ab_Rn m_M_readEvent 38 [some (2, 161), some (0, l1), some (0, l2), some (0, x4), some (0, (-2)), none, none, none, none, none] [] (K, S, g5, r) (ab_Qv K S P)) ∧ (wr (g5 161 22) = wr 0 → ((¬ wr (-2) = wr x4 → ab_Rn m_M_readEvent 38 [some (2, 161), some (0, l1), some (0, l2), some (0, x4), some (0, (-2)), none, none, none, none, none] [] (K, S, g5, r) (ab_Qv K S P)) ∧ (wr (-2) = wr x4 → ab_RV m_M_wrong [(2, 161), (0, 3)] K S g5 r (fun g7 r' => r' = r ∧ (ab_Rn m_M_readEvent 38 [some (2, 161), some (0, l1), some (0, l2), some (0, x4), some (0, (-2)), none, none, none, none, none] [] (K, S, g7, r) (ab_Qv K S P)))))))) ∧ (wr l1 = wr 6 → ab_RI m_M_accountHere [(2, 161)] K S g5 r (fun x10 g9 r' => r' = r ∧ (((¬ wr (g9 161 22) = wr 0 → ab_Rn m_M_readEvent 38 [some (2, 161), some (0, l1), some (0, l2), some (0, x4), some (0, x10), none, none, none, none, none] [] (K, S, g9, r) (ab_Qv K S P)) ∧ (wr (g9 161 22) = wr 0 → ((¬ wr x10 = wr x4 → ab_Rn m_M_readEvent 38 [some (2, 161), some (0, l1), some (0, l2), some (0, x4), some (0, x10), none, none, none, none, none] [] (K, S, g9, r) (ab_Qv K S P)) ∧ (wr x10 = wr x4 → ab_RV m_M_wrong [(2, 161), (0, 3)] K S g9 r (fun g11 r' => r' = r ∧ (ab_Rn m_M_readEvent 38 [some (2, 161), some (0, l1), some (0, l2), some (0, x4), some (0, x10), none, none, none, none, none] [] (K, S, g11, r) (ab_Qv K S P)))))))))))))))))) : ab_Rn m_M_readEvent 14 [some (2, 161), some (0, l1), some (0, l2), none, none, none, none, none, none, none] [] (K, S, g, r) (ab_Qv K S P) := by
  refine Rn_pure 1 (i' := 15) (L' := [some (2, 161), some (0, l1), some (0, l2), none, none, none, none, none, none, none]) (st' := [(2, 161)]) rfl ?_
  refine Rn_callV [(2, 161)] [] rfl rfl rfl rfl (ab_rvB_of rfl (⟨rfl, (by omega : (0 : Int) ≤ 161), (by omega : (161 : Int) + 1 < K ∧ 5 < K)⟩)) ?_
  refine h.mono (fun g1 r' h => ?_)
  obtain ⟨hx, h⟩ := h
  replace hx := hx.symm
  subst hx
  refine Rn_pure 1 (i' := 17) (L' := [some (2, 161), some (0, l1), some (0, l2), none, none, none, none, none, none, none]) (st' := [(2, 161)]) rfl ?_
  refine Rn_callI [(2, 161)] [] rfl rfl rfl rfl (ab_rvB_of rfl (⟨rfl, (by omega : (0 : Int) ≤ 161), (by omega : (161 : Int) + 1 < K ∧ 5 < K)⟩)) ?_
  refine h.mono (fun x4 g3 r' h => ?_)
  obtain ⟨hx, h⟩ := h
  replace hx := hx.symm
  subst hx
  refine Rn_pure 2 (i' := 20) (L' := [some (2, 161), some (0, l1), some (0, l2), some (0, x4), none, none, none, none, none, none]) (st' := [(2, 161)]) rfl ?_
  refine Rn_callV [(2, 161)] [] rfl rfl rfl rfl (ab_rvB_of rfl (⟨rfl, (by omega : (0 : Int) ≤ 161), (by omega : (161 : Int) + 1 < K ∧ 5 < K)⟩)) ?_
  refine h.mono (fun g5 r' h => ?_)
  obtain ⟨hx, h⟩ := h
  replace hx := hx.symm
  subst hx
  refine Rn_pure 2 (i' := 23) (L' := [some (2, 161), some (0, l1), some (0, l2), some (0, x4), none, none, none, none, none, none]) (st' := [(0, 6), (0, l1)]) rfl ?_
  refine Rn_icne rfl (fun hc => ?_) (fun hc => ?_)
  · have h := h.1 hc
    refine Rn_pure 3 (i' := 30) (L' := [some (2, 161), some (0, l1), some (0, l2), some (0, x4), some (0, (-2)), none, none, none, none, none]) (st' := [(2, 161)]) rfl ?_
    refine Rn_getI rfl (⟨rfl, (by omega : (0 : Int) ≤ 161), (by omega : (161 : Int) + 1 < K ∧ 5 < K)⟩) ?_
    refine Rn_ifne rfl (fun hc => ?_) (fun hc => ?_)
    · have h := h.1 hc
      exact h
    · have h := h.2 hc
      refine Rn_pure 2 (i' := 34) (L' := [some (2, 161), some (0, l1), some (0, l2), some (0, x4), some (0, (-2)), none, none, none, none, none]) (st' := [(0, x4), (0, (-2))]) rfl ?_
      refine Rn_icne rfl (fun hc => ?_) (fun hc => ?_)
      · have h := h.1 hc
        exact h
      · have h := h.2 hc
        refine Rn_pure 2 (i' := 37) (L' := [some (2, 161), some (0, l1), some (0, l2), some (0, x4), some (0, (-2)), none, none, none, none, none]) (st' := [(0, 3), (2, 161)]) rfl ?_
        refine Rn_callV [(2, 161), (0, 3)] [] rfl rfl rfl rfl (ab_rvB_of rfl (⟨rfl, (by omega : (0 : Int) ≤ 161), (by omega : (161 : Int) + 1 < K ∧ 5 < K)⟩)) ?_
        refine h.mono (fun g7 r' h => ?_)
        obtain ⟨hx, h⟩ := h
        replace hx := hx.symm
        subst hx
        exact h
  · have h := h.2 hc
    refine Rn_pure 1 (i' := 25) (L' := [some (2, 161), some (0, l1), some (0, l2), some (0, x4), none, none, none, none, none, none]) (st' := [(2, 161)]) rfl ?_
    refine Rn_callI [(2, 161)] [] rfl rfl rfl rfl (ab_rvB_of rfl (⟨rfl, (by omega : (0 : Int) ≤ 161), (by omega : (161 : Int) + 1 < K ∧ 5 < K)⟩)) ?_
    refine h.mono (fun x10 g9 r' h => ?_)
    obtain ⟨hx, h⟩ := h
    replace hx := hx.symm
    subst hx
    refine Rn_pure 3 (i' := 30) (L' := [some (2, 161), some (0, l1), some (0, l2), some (0, x4), some (0, x10), none, none, none, none, none]) (st' := [(2, 161)]) rfl ?_
    refine Rn_getI rfl (⟨rfl, (by omega : (0 : Int) ≤ 161), (by omega : (161 : Int) + 1 < K ∧ 5 < K)⟩) ?_
    refine Rn_ifne rfl (fun hc => ?_) (fun hc => ?_)
    · have h := h.1 hc
      exact h
    · have h := h.2 hc
      refine Rn_pure 2 (i' := 34) (L' := [some (2, 161), some (0, l1), some (0, l2), some (0, x4), some (0, x10), none, none, none, none, none]) (st' := [(0, x4), (0, x10)]) rfl ?_
      refine Rn_icne rfl (fun hc => ?_) (fun hc => ?_)
      · have h := h.1 hc
        exact h
      · have h := h.2 hc
        refine Rn_pure 2 (i' := 37) (L' := [some (2, 161), some (0, l1), some (0, l2), some (0, x4), some (0, x10), none, none, none, none, none]) (st' := [(0, 3), (2, 161)]) rfl ?_
        refine Rn_callV [(2, 161), (0, 3)] [] rfl rfl rfl rfl (ab_rvB_of rfl (⟨rfl, (by omega : (0 : Int) ≤ 161), (by omega : (161 : Int) + 1 < K ∧ 5 < K)⟩)) ?_
        refine h.mono (fun g11 r' h => ?_)
        obtain ⟨hx, h⟩ := h
        replace hx := hx.symm
        subst hx
        exact h
theorem v_M_readEvent_38 {K : Int} {S : Nat} {g r : ab_H} {l1 l2 l3 l4 : Int} (P : ab_H → ab_H → Prop) (hr : SI r) (hK : 186 ≤ K) (h : ((¬ wr l1 = wr 6 → ab_Rn m_M_readEvent 43 [some (2, 161), some (0, l1), some (0, l2), some (0, l3), some (0, l4), none, none, none, none, none] [] (K, S, g, r) (ab_Qv K S P)) ∧ (wr l1 = wr 6 → ab_RV m_M_goOn [(2, 161)] K S g r (fun g1 r' => r' = r ∧ (ab_Rn m_M_readEvent 43 [some (2, 161), some (0, l1), some (0, l2), some (0, l3), some (0, l4), none, none, none, none, none] [] (K, S, g1, r) (ab_Qv K S P)))))) : ab_Rn m_M_readEvent 38 [some (2, 161), some (0, l1), some (0, l2), some (0, l3), some (0, l4), none, none, none, none, none] [] (K, S, g, r) (ab_Qv K S P) := by
  refine Rn_pure 2 (i' := 40) (L' := [some (2, 161), some (0, l1), some (0, l2), some (0, l3), some (0, l4), none, none, none, none, none]) (st' := [(0, 6), (0, l1)]) rfl ?_
  refine Rn_icne rfl (fun hc => ?_) (fun hc => ?_)
  · have h := h.1 hc
    exact h
  · have h := h.2 hc
    refine Rn_pure 1 (i' := 42) (L' := [some (2, 161), some (0, l1), some (0, l2), some (0, l3), some (0, l4), none, none, none, none, none]) (st' := [(2, 161)]) rfl ?_
    refine Rn_callV [(2, 161)] [] rfl rfl rfl rfl (ab_rvB_of rfl (⟨rfl, (by omega : (0 : Int) ≤ 161), (by omega : (161 : Int) + 1 < K ∧ 5 < K)⟩)) ?_
    refine h.mono (fun g1 r' h => ?_)
    obtain ⟨hx, h⟩ := h
    replace hx := hx.symm
    subst hx
    exact h
theorem v_M_readEvent_43 {K : Int} {S : Nat} {g r : ab_H} {l1 l2 l3 l4 : Int} (P : ab_H → ab_H → Prop) (hr : SI r) (hK : 186 ≤ K) (h : ab_RI m_M_timeAhead [(2, 161)] K S g r (fun x1 g' r' => g' = g ∧ r' = r ∧ (ab_RI m_M_numeral [(2, 161), (0, x1), (0, 9999)] K S g r (fun x3 g2 r' => r' = r ∧ (ab_RI m_M_numeral [(2, 161), (0, 1), (0, 3)] K S g2 r (fun x5 g4 r' => r' = r ∧ (ab_RI m_M_numeral [(2, 161), (0, 0), (0, 99999)] K S g4 r (fun x7 g6 r' => r' = r ∧ (((wr x5 ≤ wr 1 → ((wr x5 ≤ wr 2 → ((wr (g6 161 22) = wr 0 → ((0 : Int) ≤ l2 + 0 ∧ (l2 + 0 : Int) < 400) ∧ ∀ g8, g8 = ab_up g6 172 (l2 + 0) l1 → ((0 : Int) ≤ l2 + 1 ∧ (l2 + 1 : Int) < 400) ∧ ∀ g9, g9 = ab_up g8 172 (l2 + 1) l3 → ((0 : Int) ≤ l2 + 2 ∧ (l2 + 2 : Int) < 400) ∧ ∀ g10, g10 = ab_up g9 172 (l2 + 2) l4 → ((0 : Int) ≤ l2 + 3 ∧ (l2 + 3 : Int) < 400) ∧ ∀ g11, g11 = ab_up g10 172 (l2 + 3) x3 → ((0 : Int) ≤ l2 + 4 ∧ (l2 + 4 : Int) < 400) ∧ ∀ g12, g12 = ab_up g11 172 (l2 + 4) x5 → ((0 : Int) ≤ l2 + 5 ∧ (l2 + 5 : Int) < 400) ∧ ∀ g13, g13 = ab_up g12 172 (l2 + 5) x7 → ((0 : Int) ≤ l2 + 5 + 1 ∧ (l2 + 5 + 1 : Int) < 400) ∧ ∀ g14, g14 = ab_up g13 172 (l2 + 5 + 1) 0 → ((0 : Int) ≤ l2 + 5 + 2 ∧ (l2 + 5 + 2 : Int) < 400) ∧ ∀ g15, g15 = ab_up g14 172 (l2 + 5 + 2) 0 → ab_RI m_M_reading [(2, 161), (0, 5)] K S g15 r (fun x16 g' r' => g' = g15 ∧ r' = r ∧ (((0 : Int) ≤ x16 ∧ (x16 : Int) < 50) ∧ ∀ g17, g17 = ab_up g15 173 x16 (-2) → ab_RI m_M_reading [(2, 161), (0, 5)] K S g17 r (fun x18 g' r' => g' = g17 ∧ r' = r ∧ (ab_RV m_M_reads [(2, 161), (0, 5), (0, x18 + 1)] K S g17 r (fun g19 r' => r' = r ∧ (P g19 r))))))) ∧ (¬ wr (g6 161 22) = wr 0 → P g6 r))) ∧ (wr 2 < wr x5 → ab_RI m_M_numeral [(2, 161), (0, 0), (0, 99999)] K S g6 r (fun x22 g21 r' => r' = r ∧ (((wr (g21 161 22) = wr 0 → ((0 : Int) ≤ l2 + 0 ∧ (l2 + 0 : Int) < 400) ∧ ∀ g23, g23 = ab_up g21 172 (l2 + 0) l1 → ((0 : Int) ≤ l2 + 1 ∧ (l2 + 1 : Int) < 400) ∧ ∀ g24, g24 = ab_up g23 172 (l2 + 1) l3 → ((0 : Int) ≤ l2 + 2 ∧ (l2 + 2 : Int) < 400) ∧ ∀ g25, g25 = ab_up g24 172 (l2 + 2) l4 → ((0 : Int) ≤ l2 + 3 ∧ (l2 + 3 : Int) < 400) ∧ ∀ g26, g26 = ab_up g25 172 (l2 + 3) x3 → ((0 : Int) ≤ l2 + 4 ∧ (l2 + 4 : Int) < 400) ∧ ∀ g27, g27 = ab_up g26 172 (l2 + 4) x5 → ((0 : Int) ≤ l2 + 5 ∧ (l2 + 5 : Int) < 400) ∧ ∀ g28, g28 = ab_up g27 172 (l2 + 5) x7 → ((0 : Int) ≤ l2 + 5 + 1 ∧ (l2 + 5 + 1 : Int) < 400) ∧ ∀ g29, g29 = ab_up g28 172 (l2 + 5 + 1) 0 → ((0 : Int) ≤ l2 + 5 + 2 ∧ (l2 + 5 + 2 : Int) < 400) ∧ ∀ g30, g30 = ab_up g29 172 (l2 + 5 + 2) x22 → ab_RI m_M_reading [(2, 161), (0, 5)] K S g30 r (fun x31 g' r' => g' = g30 ∧ r' = r ∧ (((0 : Int) ≤ x31 ∧ (x31 : Int) < 50) ∧ ∀ g32, g32 = ab_up g30 173 x31 (-2) → ab_RI m_M_reading [(2, 161), (0, 5)] K S g32 r (fun x33 g' r' => g' = g32 ∧ r' = r ∧ (ab_RV m_M_reads [(2, 161), (0, 5), (0, x33 + 1)] K S g32 r (fun g34 r' => r' = r ∧ (P g34 r))))))) ∧ (¬ wr (g21 161 22) = wr 0 → P g21 r))))))) ∧ (wr 1 < wr x5 → ab_RI m_M_numeral [(2, 161), (0, 0), (0, 99999)] K S g6 r (fun x37 g36 r' => r' = r ∧ (((wr x5 ≤ wr 2 → ((wr (g36 161 22) = wr 0 → ((0 : Int) ≤ l2 + 0 ∧ (l2 + 0 : Int) < 400) ∧ ∀ g38, g38 = ab_up g36 172 (l2 + 0) l1 → ((0 : Int) ≤ l2 + 1 ∧ (l2 + 1 : Int) < 400) ∧ ∀ g39, g39 = ab_up g38 172 (l2 + 1) l3 → ((0 : Int) ≤ l2 + 2 ∧ (l2 + 2 : Int) < 400) ∧ ∀ g40, g40 = ab_up g39 172 (l2 + 2) l4 → ((0 : Int) ≤ l2 + 3 ∧ (l2 + 3 : Int) < 400) ∧ ∀ g41, g41 = ab_up g40 172 (l2 + 3) x3 → ((0 : Int) ≤ l2 + 4 ∧ (l2 + 4 : Int) < 400) ∧ ∀ g42, g42 = ab_up g41 172 (l2 + 4) x5 → ((0 : Int) ≤ l2 + 5 ∧ (l2 + 5 : Int) < 400) ∧ ∀ g43, g43 = ab_up g42 172 (l2 + 5) x7 → ((0 : Int) ≤ l2 + 5 + 1 ∧ (l2 + 5 + 1 : Int) < 400) ∧ ∀ g44, g44 = ab_up g43 172 (l2 + 5 + 1) x37 → ((0 : Int) ≤ l2 + 5 + 2 ∧ (l2 + 5 + 2 : Int) < 400) ∧ ∀ g45, g45 = ab_up g44 172 (l2 + 5 + 2) 0 → ab_RI m_M_reading [(2, 161), (0, 5)] K S g45 r (fun x46 g' r' => g' = g45 ∧ r' = r ∧ (((0 : Int) ≤ x46 ∧ (x46 : Int) < 50) ∧ ∀ g47, g47 = ab_up g45 173 x46 (-2) → ab_RI m_M_reading [(2, 161), (0, 5)] K S g47 r (fun x48 g' r' => g' = g47 ∧ r' = r ∧ (ab_RV m_M_reads [(2, 161), (0, 5), (0, x48 + 1)] K S g47 r (fun g49 r' => r' = r ∧ (P g49 r))))))) ∧ (¬ wr (g36 161 22) = wr 0 → P g36 r))) ∧ (wr 2 < wr x5 → ab_RI m_M_numeral [(2, 161), (0, 0), (0, 99999)] K S g36 r (fun x52 g51 r' => r' = r ∧ (((wr (g51 161 22) = wr 0 → ((0 : Int) ≤ l2 + 0 ∧ (l2 + 0 : Int) < 400) ∧ ∀ g53, g53 = ab_up g51 172 (l2 + 0) l1 → ((0 : Int) ≤ l2 + 1 ∧ (l2 + 1 : Int) < 400) ∧ ∀ g54, g54 = ab_up g53 172 (l2 + 1) l3 → ((0 : Int) ≤ l2 + 2 ∧ (l2 + 2 : Int) < 400) ∧ ∀ g55, g55 = ab_up g54 172 (l2 + 2) l4 → ((0 : Int) ≤ l2 + 3 ∧ (l2 + 3 : Int) < 400) ∧ ∀ g56, g56 = ab_up g55 172 (l2 + 3) x3 → ((0 : Int) ≤ l2 + 4 ∧ (l2 + 4 : Int) < 400) ∧ ∀ g57, g57 = ab_up g56 172 (l2 + 4) x5 → ((0 : Int) ≤ l2 + 5 ∧ (l2 + 5 : Int) < 400) ∧ ∀ g58, g58 = ab_up g57 172 (l2 + 5) x7 → ((0 : Int) ≤ l2 + 5 + 1 ∧ (l2 + 5 + 1 : Int) < 400) ∧ ∀ g59, g59 = ab_up g58 172 (l2 + 5 + 1) x37 → ((0 : Int) ≤ l2 + 5 + 2 ∧ (l2 + 5 + 2 : Int) < 400) ∧ ∀ g60, g60 = ab_up g59 172 (l2 + 5 + 2) x52 → ab_RI m_M_reading [(2, 161), (0, 5)] K S g60 r (fun x61 g' r' => g' = g60 ∧ r' = r ∧ (((0 : Int) ≤ x61 ∧ (x61 : Int) < 50) ∧ ∀ g62, g62 = ab_up g60 173 x61 (-2) → ab_RI m_M_reading [(2, 161), (0, 5)] K S g62 r (fun x63 g' r' => g' = g62 ∧ r' = r ∧ (ab_RV m_M_reads [(2, 161), (0, 5), (0, x63 + 1)] K S g62 r (fun g64 r' => r' = r ∧ (P g64 r))))))) ∧ (¬ wr (g51 161 22) = wr 0 → P g51 r))))))))))))))))))) : ab_Rn m_M_readEvent 43 [some (2, 161), some (0, l1), some (0, l2), some (0, l3), some (0, l4), none, none, none, none, none] [] (K, S, g, r) (ab_Qv K S P) := by
  refine Rn_pure 2 (i' := 45) (L' := [some (2, 161), some (0, l1), some (0, l2), some (0, l3), some (0, l4), none, none, none, none, none]) (st' := [(2, 161), (2, 161)]) rfl ?_
  refine Rn_callI [(2, 161)] [(2, 161)] rfl rfl rfl rfl (ab_rvB_of rfl (⟨rfl, (by omega : (0 : Int) ≤ 161), (by omega : (161 : Int) + 1 < K ∧ 5 < K)⟩)) ?_
  refine h.mono (fun x1 g' r' h => ?_)
  obtain ⟨hx, h⟩ := h
  replace hx := hx.symm
  subst hx
  obtain ⟨hx, h⟩ := h
  replace hx := hx.symm
  subst hx
  refine Rn_pure 1 (i' := 47) (L' := [some (2, 161), some (0, l1), some (0, l2), some (0, l3), some (0, l4), none, none, none, none, none]) (st' := [(0, 9999), (0, x1), (2, 161)]) rfl ?_
  refine Rn_callI [(2, 161), (0, x1), (0, 9999)] [] rfl rfl rfl rfl (ab_rvB_of rfl (⟨rfl, (by omega : (0 : Int) ≤ 161), (by omega : (161 : Int) + 1 < K ∧ 5 < K)⟩)) ?_
  refine h.mono (fun x3 g2 r' h => ?_)
  obtain ⟨hx, h⟩ := h
  replace hx := hx.symm
  subst hx
  refine Rn_pure 4 (i' := 52) (L' := [some (2, 161), some (0, l1), some (0, l2), some (0, l3), some (0, l4), some (0, x3), none, none, none, none]) (st' := [(0, 3), (0, 1), (2, 161)]) rfl ?_
  refine Rn_callI [(2, 161), (0, 1), (0, 3)] [] rfl rfl rfl rfl (ab_rvB_of rfl (⟨rfl, (by omega : (0 : Int) ≤ 161), (by omega : (161 : Int) + 1 < K ∧ 5 < K)⟩)) ?_
  refine h.mono (fun x5 g4 r' h => ?_)
  obtain ⟨hx, h⟩ := h
  replace hx := hx.symm
  subst hx
  refine Rn_pure 4 (i' := 57) (L' := [some (2, 161), some (0, l1), some (0, l2), some (0, l3), some (0, l4), some (0, x3), some (0, x5), none, none, none]) (st' := [(0, 99999), (0, 0), (2, 161)]) rfl ?_
  refine Rn_callI [(2, 161), (0, 0), (0, 99999)] [] rfl rfl rfl rfl (ab_rvB_of rfl (⟨rfl, (by omega : (0 : Int) ≤ 161), (by omega : (161 : Int) + 1 < K ∧ 5 < K)⟩)) ?_
  refine h.mono (fun x7 g6 r' h => ?_)
  obtain ⟨hx, h⟩ := h
  replace hx := hx.symm
  subst hx
  refine Rn_pure 3 (i' := 61) (L' := [some (2, 161), some (0, l1), some (0, l2), some (0, l3), some (0, l4), some (0, x3), some (0, x5), some (0, x7), none, none]) (st' := [(0, 1), (0, x5)]) rfl ?_
  refine Rn_icle rfl (fun hc => ?_) (fun hc => ?_)
  · have h := h.1 hc
    refine Rn_pure 4 (i' := 71) (L' := [some (2, 161), some (0, l1), some (0, l2), some (0, l3), some (0, l4), some (0, x3), some (0, x5), some (0, x7), some (0, 0), none]) (st' := [(0, 2), (0, x5)]) rfl ?_
    refine Rn_icle rfl (fun hc => ?_) (fun hc => ?_)
    · have h := h.1 hc
      refine Rn_pure 3 (i' := 80) (L' := [some (2, 161), some (0, l1), some (0, l2), some (0, l3), some (0, l4), some (0, x3), some (0, x5), some (0, x7), some (0, 0), some (0, 0)]) (st' := [(2, 161)]) rfl ?_
      refine Rn_getI rfl (⟨rfl, (by omega : (0 : Int) ≤ 161), (by omega : (161 : Int) + 1 < K ∧ 5 < K)⟩) ?_
      refine Rn_ifeq rfl (fun hc => ?_) (fun hc => ?_)
      · have h := h.1 hc
        refine Rn_pure 1 (i' := 84) (L' := [some (2, 161), some (0, l1), some (0, l2), some (0, l3), some (0, l4), some (0, x3), some (0, x5), some (0, x7), some (0, 0), some (0, 0)]) (st' := [(2, 161)]) rfl ?_
        refine Rn_getR rfl (⟨rfl, (by omega : (0 : Int) ≤ 161), (by omega : (161 : Int) + 1 < K ∧ 5 < K)⟩) (hr 147 _ rfl) (by decide) ?_
        refine Rn_pure 4 (i' := 89) (L' := [some (2, 161), some (0, l1), some (0, l2), some (0, l3), some (0, l4), some (0, x3), some (0, x5), some (0, x7), some (0, 0), some (0, 0)]) (st' := [(0, l1), (0, l2 + 0), (2, 172)]) rfl ?_
        obtain ⟨hg, h⟩ := h
        refine Rn_iast rfl (⟨rfl, (by omega : (0 : Int) ≤ 172), (by omega : (172 : Int) + 1 < K ∧ 5 < K)⟩) hg (fun g8 he_g8 => ?_)
        have h := h g8 he_g8
        refine Rn_pure 1 (i' := 91) (L' := [some (2, 161), some (0, l1), some (0, l2), some (0, l3), some (0, l4), some (0, x3), some (0, x5), some (0, x7), some (0, 0), some (0, 0)]) (st' := [(2, 161)]) rfl ?_
        refine Rn_getR rfl (⟨rfl, (by omega : (0 : Int) ≤ 161), (by omega : (161 : Int) + 1 < K ∧ 5 < K)⟩) (hr 147 _ rfl) (by decide) ?_
        refine Rn_pure 4 (i' := 96) (L' := [some (2, 161), some (0, l1), some (0, l2), some (0, l3), some (0, l4), some (0, x3), some (0, x5), some (0, x7), some (0, 0), some (0, 0)]) (st' := [(0, l3), (0, l2 + 1), (2, 172)]) rfl ?_
        obtain ⟨hg, h⟩ := h
        refine Rn_iast rfl (⟨rfl, (by omega : (0 : Int) ≤ 172), (by omega : (172 : Int) + 1 < K ∧ 5 < K)⟩) hg (fun g9 he_g9 => ?_)
        have h := h g9 he_g9
        refine Rn_pure 1 (i' := 98) (L' := [some (2, 161), some (0, l1), some (0, l2), some (0, l3), some (0, l4), some (0, x3), some (0, x5), some (0, x7), some (0, 0), some (0, 0)]) (st' := [(2, 161)]) rfl ?_
        refine Rn_getR rfl (⟨rfl, (by omega : (0 : Int) ≤ 161), (by omega : (161 : Int) + 1 < K ∧ 5 < K)⟩) (hr 147 _ rfl) (by decide) ?_
        refine Rn_pure 4 (i' := 103) (L' := [some (2, 161), some (0, l1), some (0, l2), some (0, l3), some (0, l4), some (0, x3), some (0, x5), some (0, x7), some (0, 0), some (0, 0)]) (st' := [(0, l4), (0, l2 + 2), (2, 172)]) rfl ?_
        obtain ⟨hg, h⟩ := h
        refine Rn_iast rfl (⟨rfl, (by omega : (0 : Int) ≤ 172), (by omega : (172 : Int) + 1 < K ∧ 5 < K)⟩) hg (fun g10 he_g10 => ?_)
        have h := h g10 he_g10
        refine Rn_pure 1 (i' := 105) (L' := [some (2, 161), some (0, l1), some (0, l2), some (0, l3), some (0, l4), some (0, x3), some (0, x5), some (0, x7), some (0, 0), some (0, 0)]) (st' := [(2, 161)]) rfl ?_
        refine Rn_getR rfl (⟨rfl, (by omega : (0 : Int) ≤ 161), (by omega : (161 : Int) + 1 < K ∧ 5 < K)⟩) (hr 147 _ rfl) (by decide) ?_
        refine Rn_pure 4 (i' := 110) (L' := [some (2, 161), some (0, l1), some (0, l2), some (0, l3), some (0, l4), some (0, x3), some (0, x5), some (0, x7), some (0, 0), some (0, 0)]) (st' := [(0, x3), (0, l2 + 3), (2, 172)]) rfl ?_
        obtain ⟨hg, h⟩ := h
        refine Rn_iast rfl (⟨rfl, (by omega : (0 : Int) ≤ 172), (by omega : (172 : Int) + 1 < K ∧ 5 < K)⟩) hg (fun g11 he_g11 => ?_)
        have h := h g11 he_g11
        refine Rn_pure 1 (i' := 112) (L' := [some (2, 161), some (0, l1), some (0, l2), some (0, l3), some (0, l4), some (0, x3), some (0, x5), some (0, x7), some (0, 0), some (0, 0)]) (st' := [(2, 161)]) rfl ?_
        refine Rn_getR rfl (⟨rfl, (by omega : (0 : Int) ≤ 161), (by omega : (161 : Int) + 1 < K ∧ 5 < K)⟩) (hr 147 _ rfl) (by decide) ?_
        refine Rn_pure 4 (i' := 117) (L' := [some (2, 161), some (0, l1), some (0, l2), some (0, l3), some (0, l4), some (0, x3), some (0, x5), some (0, x7), some (0, 0), some (0, 0)]) (st' := [(0, x5), (0, l2 + 4), (2, 172)]) rfl ?_
        obtain ⟨hg, h⟩ := h
        refine Rn_iast rfl (⟨rfl, (by omega : (0 : Int) ≤ 172), (by omega : (172 : Int) + 1 < K ∧ 5 < K)⟩) hg (fun g12 he_g12 => ?_)
        have h := h g12 he_g12
        refine Rn_pure 1 (i' := 119) (L' := [some (2, 161), some (0, l1), some (0, l2), some (0, l3), some (0, l4), some (0, x3), some (0, x5), some (0, x7), some (0, 0), some (0, 0)]) (st' := [(2, 161)]) rfl ?_
        refine Rn_getR rfl (⟨rfl, (by omega : (0 : Int) ≤ 161), (by omega : (161 : Int) + 1 < K ∧ 5 < K)⟩) (hr 147 _ rfl) (by decide) ?_
        refine Rn_pure 4 (i' := 124) (L' := [some (2, 161), some (0, l1), some (0, l2), some (0, l3), some (0, l4), some (0, x3), some (0, x5), some (0, x7), some (0, 0), some (0, 0)]) (st' := [(0, x7), (0, l2 + 5), (2, 172)]) rfl ?_
        obtain ⟨hg, h⟩ := h
        refine Rn_iast rfl (⟨rfl, (by omega : (0 : Int) ≤ 172), (by omega : (172 : Int) + 1 < K ∧ 5 < K)⟩) hg (fun g13 he_g13 => ?_)
        have h := h g13 he_g13
        refine Rn_pure 1 (i' := 126) (L' := [some (2, 161), some (0, l1), some (0, l2), some (0, l3), some (0, l4), some (0, x3), some (0, x5), some (0, x7), some (0, 0), some (0, 0)]) (st' := [(2, 161)]) rfl ?_
        refine Rn_getR rfl (⟨rfl, (by omega : (0 : Int) ≤ 161), (by omega : (161 : Int) + 1 < K ∧ 5 < K)⟩) (hr 147 _ rfl) (by decide) ?_
        refine Rn_pure 6 (i' := 133) (L' := [some (2, 161), some (0, l1), some (0, l2), some (0, l3), some (0, l4), some (0, x3), some (0, x5), some (0, x7), some (0, 0), some (0, 0)]) (st' := [(0, 0), (0, l2 + 5 + 1), (2, 172)]) rfl ?_
        obtain ⟨hg, h⟩ := h
        refine Rn_iast rfl (⟨rfl, (by omega : (0 : Int) ≤ 172), (by omega : (172 : Int) + 1 < K ∧ 5 < K)⟩) hg (fun g14 he_g14 => ?_)
        have h := h g14 he_g14
        refine Rn_pure 1 (i' := 135) (L' := [some (2, 161), some (0, l1), some (0, l2), some (0, l3), some (0, l4), some (0, x3), some (0, x5), some (0, x7), some (0, 0), some (0, 0)]) (st' := [(2, 161)]) rfl ?_
        refine Rn_getR rfl (⟨rfl, (by omega : (0 : Int) ≤ 161), (by omega : (161 : Int) + 1 < K ∧ 5 < K)⟩) (hr 147 _ rfl) (by decide) ?_
        refine Rn_pure 6 (i' := 142) (L' := [some (2, 161), some (0, l1), some (0, l2), some (0, l3), some (0, l4), some (0, x3), some (0, x5), some (0, x7), some (0, 0), some (0, 0)]) (st' := [(0, 0), (0, l2 + 5 + 2), (2, 172)]) rfl ?_
        obtain ⟨hg, h⟩ := h
        refine Rn_iast rfl (⟨rfl, (by omega : (0 : Int) ≤ 172), (by omega : (172 : Int) + 1 < K ∧ 5 < K)⟩) hg (fun g15 he_g15 => ?_)
        have h := h g15 he_g15
        refine Rn_pure 1 (i' := 144) (L' := [some (2, 161), some (0, l1), some (0, l2), some (0, l3), some (0, l4), some (0, x3), some (0, x5), some (0, x7), some (0, 0), some (0, 0)]) (st' := [(2, 161)]) rfl ?_
        refine Rn_getR rfl (⟨rfl, (by omega : (0 : Int) ≤ 161), (by omega : (161 : Int) + 1 < K ∧ 5 < K)⟩) (hr 148 _ rfl) (by decide) ?_
        refine Rn_pure 2 (i' := 147) (L' := [some (2, 161), some (0, l1), some (0, l2), some (0, l3), some (0, l4), some (0, x3), some (0, x5), some (0, x7), some (0, 0), some (0, 0)]) (st' := [(0, 5), (2, 161), (2, 173)]) rfl ?_
        refine Rn_callI [(2, 161), (0, 5)] [(2, 173)] rfl rfl rfl rfl (ab_rvB_of rfl (⟨rfl, (by omega : (0 : Int) ≤ 161), (by omega : (161 : Int) + 1 < K ∧ 5 < K)⟩)) ?_
        refine h.mono (fun x16 g' r' h => ?_)
        obtain ⟨hx, h⟩ := h
        replace hx := hx.symm
        subst hx
        obtain ⟨hx, h⟩ := h
        replace hx := hx.symm
        subst hx
        refine Rn_pure 1 (i' := 149) (L' := [some (2, 161), some (0, l1), some (0, l2), some (0, l3), some (0, l4), some (0, x3), some (0, x5), some (0, x7), some (0, 0), some (0, 0)]) (st' := [(0, (-2)), (0, x16), (2, 173)]) rfl ?_
        obtain ⟨hg, h⟩ := h
        refine Rn_iast rfl (⟨rfl, (by omega : (0 : Int) ≤ 173), (by omega : (173 : Int) + 1 < K ∧ 5 < K)⟩) hg (fun g17 he_g17 => ?_)
        have h := h g17 he_g17
        refine Rn_pure 4 (i' := 154) (L' := [some (2, 161), some (0, l1), some (0, l2), some (0, l3), some (0, l4), some (0, x3), some (0, x5), some (0, x7), some (0, 0), some (0, 0)]) (st' := [(0, 5), (2, 161), (0, 5), (2, 161)]) rfl ?_
        refine Rn_callI [(2, 161), (0, 5)] [(0, 5), (2, 161)] rfl rfl rfl rfl (ab_rvB_of rfl (⟨rfl, (by omega : (0 : Int) ≤ 161), (by omega : (161 : Int) + 1 < K ∧ 5 < K)⟩)) ?_
        refine h.mono (fun x18 g' r' h => ?_)
        obtain ⟨hx, h⟩ := h
        replace hx := hx.symm
        subst hx
        obtain ⟨hx, h⟩ := h
        replace hx := hx.symm
        subst hx
        refine Rn_pure 2 (i' := 157) (L' := [some (2, 161), some (0, l1), some (0, l2), some (0, l3), some (0, l4), some (0, x3), some (0, x5), some (0, x7), some (0, 0), some (0, 0)]) (st' := [(0, x18 + 1), (0, 5), (2, 161)]) rfl ?_
        refine Rn_callV [(2, 161), (0, 5), (0, x18 + 1)] [] rfl rfl rfl rfl (ab_rvB_of rfl (⟨rfl, (by omega : (0 : Int) ≤ 161), (by omega : (161 : Int) + 1 < K ∧ 5 < K)⟩)) ?_
        refine h.mono (fun g19 r' h => ?_)
        obtain ⟨hx, h⟩ := h
        replace hx := hx.symm
        subst hx
        exact Rn_ret0 rfl h
      · have h := h.2 hc
        exact Rn_ret0 rfl h
    · have h := h.2 hc
      refine Rn_pure 3 (i' := 75) (L' := [some (2, 161), some (0, l1), some (0, l2), some (0, l3), some (0, l4), some (0, x3), some (0, x5), some (0, x7), some (0, 0), none]) (st' := [(0, 99999), (0, 0), (2, 161)]) rfl ?_
      refine Rn_callI [(2, 161), (0, 0), (0, 99999)] [] rfl rfl rfl rfl (ab_rvB_of rfl (⟨rfl, (by omega : (0 : Int) ≤ 161), (by omega : (161 : Int) + 1 < K ∧ 5 < K)⟩)) ?_
      refine h.mono (fun x22 g21 r' h => ?_)
      obtain ⟨hx, h⟩ := h
      replace hx := hx.symm
      subst hx
      refine Rn_pure 3 (i' := 80) (L' := [some (2, 161), some (0, l1), some (0, l2), some (0, l3), some (0, l4), some (0, x3), some (0, x5), some (0, x7), some (0, 0), some (0, x22)]) (st' := [(2, 161)]) rfl ?_
      refine Rn_getI rfl (⟨rfl, (by omega : (0 : Int) ≤ 161), (by omega : (161 : Int) + 1 < K ∧ 5 < K)⟩) ?_
      refine Rn_ifeq rfl (fun hc => ?_) (fun hc => ?_)
      · have h := h.1 hc
        refine Rn_pure 1 (i' := 84) (L' := [some (2, 161), some (0, l1), some (0, l2), some (0, l3), some (0, l4), some (0, x3), some (0, x5), some (0, x7), some (0, 0), some (0, x22)]) (st' := [(2, 161)]) rfl ?_
        refine Rn_getR rfl (⟨rfl, (by omega : (0 : Int) ≤ 161), (by omega : (161 : Int) + 1 < K ∧ 5 < K)⟩) (hr 147 _ rfl) (by decide) ?_
        refine Rn_pure 4 (i' := 89) (L' := [some (2, 161), some (0, l1), some (0, l2), some (0, l3), some (0, l4), some (0, x3), some (0, x5), some (0, x7), some (0, 0), some (0, x22)]) (st' := [(0, l1), (0, l2 + 0), (2, 172)]) rfl ?_
        obtain ⟨hg, h⟩ := h
        refine Rn_iast rfl (⟨rfl, (by omega : (0 : Int) ≤ 172), (by omega : (172 : Int) + 1 < K ∧ 5 < K)⟩) hg (fun g23 he_g23 => ?_)
        have h := h g23 he_g23
        refine Rn_pure 1 (i' := 91) (L' := [some (2, 161), some (0, l1), some (0, l2), some (0, l3), some (0, l4), some (0, x3), some (0, x5), some (0, x7), some (0, 0), some (0, x22)]) (st' := [(2, 161)]) rfl ?_
        refine Rn_getR rfl (⟨rfl, (by omega : (0 : Int) ≤ 161), (by omega : (161 : Int) + 1 < K ∧ 5 < K)⟩) (hr 147 _ rfl) (by decide) ?_
        refine Rn_pure 4 (i' := 96) (L' := [some (2, 161), some (0, l1), some (0, l2), some (0, l3), some (0, l4), some (0, x3), some (0, x5), some (0, x7), some (0, 0), some (0, x22)]) (st' := [(0, l3), (0, l2 + 1), (2, 172)]) rfl ?_
        obtain ⟨hg, h⟩ := h
        refine Rn_iast rfl (⟨rfl, (by omega : (0 : Int) ≤ 172), (by omega : (172 : Int) + 1 < K ∧ 5 < K)⟩) hg (fun g24 he_g24 => ?_)
        have h := h g24 he_g24
        refine Rn_pure 1 (i' := 98) (L' := [some (2, 161), some (0, l1), some (0, l2), some (0, l3), some (0, l4), some (0, x3), some (0, x5), some (0, x7), some (0, 0), some (0, x22)]) (st' := [(2, 161)]) rfl ?_
        refine Rn_getR rfl (⟨rfl, (by omega : (0 : Int) ≤ 161), (by omega : (161 : Int) + 1 < K ∧ 5 < K)⟩) (hr 147 _ rfl) (by decide) ?_
        refine Rn_pure 4 (i' := 103) (L' := [some (2, 161), some (0, l1), some (0, l2), some (0, l3), some (0, l4), some (0, x3), some (0, x5), some (0, x7), some (0, 0), some (0, x22)]) (st' := [(0, l4), (0, l2 + 2), (2, 172)]) rfl ?_
        obtain ⟨hg, h⟩ := h
        refine Rn_iast rfl (⟨rfl, (by omega : (0 : Int) ≤ 172), (by omega : (172 : Int) + 1 < K ∧ 5 < K)⟩) hg (fun g25 he_g25 => ?_)
        have h := h g25 he_g25
        refine Rn_pure 1 (i' := 105) (L' := [some (2, 161), some (0, l1), some (0, l2), some (0, l3), some (0, l4), some (0, x3), some (0, x5), some (0, x7), some (0, 0), some (0, x22)]) (st' := [(2, 161)]) rfl ?_
        refine Rn_getR rfl (⟨rfl, (by omega : (0 : Int) ≤ 161), (by omega : (161 : Int) + 1 < K ∧ 5 < K)⟩) (hr 147 _ rfl) (by decide) ?_
        refine Rn_pure 4 (i' := 110) (L' := [some (2, 161), some (0, l1), some (0, l2), some (0, l3), some (0, l4), some (0, x3), some (0, x5), some (0, x7), some (0, 0), some (0, x22)]) (st' := [(0, x3), (0, l2 + 3), (2, 172)]) rfl ?_
        obtain ⟨hg, h⟩ := h
        refine Rn_iast rfl (⟨rfl, (by omega : (0 : Int) ≤ 172), (by omega : (172 : Int) + 1 < K ∧ 5 < K)⟩) hg (fun g26 he_g26 => ?_)
        have h := h g26 he_g26
        refine Rn_pure 1 (i' := 112) (L' := [some (2, 161), some (0, l1), some (0, l2), some (0, l3), some (0, l4), some (0, x3), some (0, x5), some (0, x7), some (0, 0), some (0, x22)]) (st' := [(2, 161)]) rfl ?_
        refine Rn_getR rfl (⟨rfl, (by omega : (0 : Int) ≤ 161), (by omega : (161 : Int) + 1 < K ∧ 5 < K)⟩) (hr 147 _ rfl) (by decide) ?_
        refine Rn_pure 4 (i' := 117) (L' := [some (2, 161), some (0, l1), some (0, l2), some (0, l3), some (0, l4), some (0, x3), some (0, x5), some (0, x7), some (0, 0), some (0, x22)]) (st' := [(0, x5), (0, l2 + 4), (2, 172)]) rfl ?_
        obtain ⟨hg, h⟩ := h
        refine Rn_iast rfl (⟨rfl, (by omega : (0 : Int) ≤ 172), (by omega : (172 : Int) + 1 < K ∧ 5 < K)⟩) hg (fun g27 he_g27 => ?_)
        have h := h g27 he_g27
        refine Rn_pure 1 (i' := 119) (L' := [some (2, 161), some (0, l1), some (0, l2), some (0, l3), some (0, l4), some (0, x3), some (0, x5), some (0, x7), some (0, 0), some (0, x22)]) (st' := [(2, 161)]) rfl ?_
        refine Rn_getR rfl (⟨rfl, (by omega : (0 : Int) ≤ 161), (by omega : (161 : Int) + 1 < K ∧ 5 < K)⟩) (hr 147 _ rfl) (by decide) ?_
        refine Rn_pure 4 (i' := 124) (L' := [some (2, 161), some (0, l1), some (0, l2), some (0, l3), some (0, l4), some (0, x3), some (0, x5), some (0, x7), some (0, 0), some (0, x22)]) (st' := [(0, x7), (0, l2 + 5), (2, 172)]) rfl ?_
        obtain ⟨hg, h⟩ := h
        refine Rn_iast rfl (⟨rfl, (by omega : (0 : Int) ≤ 172), (by omega : (172 : Int) + 1 < K ∧ 5 < K)⟩) hg (fun g28 he_g28 => ?_)
        have h := h g28 he_g28
        refine Rn_pure 1 (i' := 126) (L' := [some (2, 161), some (0, l1), some (0, l2), some (0, l3), some (0, l4), some (0, x3), some (0, x5), some (0, x7), some (0, 0), some (0, x22)]) (st' := [(2, 161)]) rfl ?_
        refine Rn_getR rfl (⟨rfl, (by omega : (0 : Int) ≤ 161), (by omega : (161 : Int) + 1 < K ∧ 5 < K)⟩) (hr 147 _ rfl) (by decide) ?_
        refine Rn_pure 6 (i' := 133) (L' := [some (2, 161), some (0, l1), some (0, l2), some (0, l3), some (0, l4), some (0, x3), some (0, x5), some (0, x7), some (0, 0), some (0, x22)]) (st' := [(0, 0), (0, l2 + 5 + 1), (2, 172)]) rfl ?_
        obtain ⟨hg, h⟩ := h
        refine Rn_iast rfl (⟨rfl, (by omega : (0 : Int) ≤ 172), (by omega : (172 : Int) + 1 < K ∧ 5 < K)⟩) hg (fun g29 he_g29 => ?_)
        have h := h g29 he_g29
        refine Rn_pure 1 (i' := 135) (L' := [some (2, 161), some (0, l1), some (0, l2), some (0, l3), some (0, l4), some (0, x3), some (0, x5), some (0, x7), some (0, 0), some (0, x22)]) (st' := [(2, 161)]) rfl ?_
        refine Rn_getR rfl (⟨rfl, (by omega : (0 : Int) ≤ 161), (by omega : (161 : Int) + 1 < K ∧ 5 < K)⟩) (hr 147 _ rfl) (by decide) ?_
        refine Rn_pure 6 (i' := 142) (L' := [some (2, 161), some (0, l1), some (0, l2), some (0, l3), some (0, l4), some (0, x3), some (0, x5), some (0, x7), some (0, 0), some (0, x22)]) (st' := [(0, x22), (0, l2 + 5 + 2), (2, 172)]) rfl ?_
        obtain ⟨hg, h⟩ := h
        refine Rn_iast rfl (⟨rfl, (by omega : (0 : Int) ≤ 172), (by omega : (172 : Int) + 1 < K ∧ 5 < K)⟩) hg (fun g30 he_g30 => ?_)
        have h := h g30 he_g30
        refine Rn_pure 1 (i' := 144) (L' := [some (2, 161), some (0, l1), some (0, l2), some (0, l3), some (0, l4), some (0, x3), some (0, x5), some (0, x7), some (0, 0), some (0, x22)]) (st' := [(2, 161)]) rfl ?_
        refine Rn_getR rfl (⟨rfl, (by omega : (0 : Int) ≤ 161), (by omega : (161 : Int) + 1 < K ∧ 5 < K)⟩) (hr 148 _ rfl) (by decide) ?_
        refine Rn_pure 2 (i' := 147) (L' := [some (2, 161), some (0, l1), some (0, l2), some (0, l3), some (0, l4), some (0, x3), some (0, x5), some (0, x7), some (0, 0), some (0, x22)]) (st' := [(0, 5), (2, 161), (2, 173)]) rfl ?_
        refine Rn_callI [(2, 161), (0, 5)] [(2, 173)] rfl rfl rfl rfl (ab_rvB_of rfl (⟨rfl, (by omega : (0 : Int) ≤ 161), (by omega : (161 : Int) + 1 < K ∧ 5 < K)⟩)) ?_
        refine h.mono (fun x31 g' r' h => ?_)
        obtain ⟨hx, h⟩ := h
        replace hx := hx.symm
        subst hx
        obtain ⟨hx, h⟩ := h
        replace hx := hx.symm
        subst hx
        refine Rn_pure 1 (i' := 149) (L' := [some (2, 161), some (0, l1), some (0, l2), some (0, l3), some (0, l4), some (0, x3), some (0, x5), some (0, x7), some (0, 0), some (0, x22)]) (st' := [(0, (-2)), (0, x31), (2, 173)]) rfl ?_
        obtain ⟨hg, h⟩ := h
        refine Rn_iast rfl (⟨rfl, (by omega : (0 : Int) ≤ 173), (by omega : (173 : Int) + 1 < K ∧ 5 < K)⟩) hg (fun g32 he_g32 => ?_)
        have h := h g32 he_g32
        refine Rn_pure 4 (i' := 154) (L' := [some (2, 161), some (0, l1), some (0, l2), some (0, l3), some (0, l4), some (0, x3), some (0, x5), some (0, x7), some (0, 0), some (0, x22)]) (st' := [(0, 5), (2, 161), (0, 5), (2, 161)]) rfl ?_
        refine Rn_callI [(2, 161), (0, 5)] [(0, 5), (2, 161)] rfl rfl rfl rfl (ab_rvB_of rfl (⟨rfl, (by omega : (0 : Int) ≤ 161), (by omega : (161 : Int) + 1 < K ∧ 5 < K)⟩)) ?_
        refine h.mono (fun x33 g' r' h => ?_)
        obtain ⟨hx, h⟩ := h
        replace hx := hx.symm
        subst hx
        obtain ⟨hx, h⟩ := h
        replace hx := hx.symm
        subst hx
        refine Rn_pure 2 (i' := 157) (L' := [some (2, 161), some (0, l1), some (0, l2), some (0, l3), some (0, l4), some (0, x3), some (0, x5), some (0, x7), some (0, 0), some (0, x22)]) (st' := [(0, x33 + 1), (0, 5), (2, 161)]) rfl ?_
        refine Rn_callV [(2, 161), (0, 5), (0, x33 + 1)] [] rfl rfl rfl rfl (ab_rvB_of rfl (⟨rfl, (by omega : (0 : Int) ≤ 161), (by omega : (161 : Int) + 1 < K ∧ 5 < K)⟩)) ?_
        refine h.mono (fun g34 r' h => ?_)
        obtain ⟨hx, h⟩ := h
        replace hx := hx.symm
        subst hx
        exact Rn_ret0 rfl h
      · have h := h.2 hc
        exact Rn_ret0 rfl h
  · have h := h.2 hc
    refine Rn_pure 3 (i' := 65) (L' := [some (2, 161), some (0, l1), some (0, l2), some (0, l3), some (0, l4), some (0, x3), some (0, x5), some (0, x7), none, none]) (st' := [(0, 99999), (0, 0), (2, 161)]) rfl ?_
    refine Rn_callI [(2, 161), (0, 0), (0, 99999)] [] rfl rfl rfl rfl (ab_rvB_of rfl (⟨rfl, (by omega : (0 : Int) ≤ 161), (by omega : (161 : Int) + 1 < K ∧ 5 < K)⟩)) ?_
    refine h.mono (fun x37 g36 r' h => ?_)
    obtain ⟨hx, h⟩ := h
    replace hx := hx.symm
    subst hx
    refine Rn_pure 4 (i' := 71) (L' := [some (2, 161), some (0, l1), some (0, l2), some (0, l3), some (0, l4), some (0, x3), some (0, x5), some (0, x7), some (0, x37), none]) (st' := [(0, 2), (0, x5)]) rfl ?_
    refine Rn_icle rfl (fun hc => ?_) (fun hc => ?_)
    · have h := h.1 hc
      refine Rn_pure 3 (i' := 80) (L' := [some (2, 161), some (0, l1), some (0, l2), some (0, l3), some (0, l4), some (0, x3), some (0, x5), some (0, x7), some (0, x37), some (0, 0)]) (st' := [(2, 161)]) rfl ?_
      refine Rn_getI rfl (⟨rfl, (by omega : (0 : Int) ≤ 161), (by omega : (161 : Int) + 1 < K ∧ 5 < K)⟩) ?_
      refine Rn_ifeq rfl (fun hc => ?_) (fun hc => ?_)
      · have h := h.1 hc
        refine Rn_pure 1 (i' := 84) (L' := [some (2, 161), some (0, l1), some (0, l2), some (0, l3), some (0, l4), some (0, x3), some (0, x5), some (0, x7), some (0, x37), some (0, 0)]) (st' := [(2, 161)]) rfl ?_
        refine Rn_getR rfl (⟨rfl, (by omega : (0 : Int) ≤ 161), (by omega : (161 : Int) + 1 < K ∧ 5 < K)⟩) (hr 147 _ rfl) (by decide) ?_
        refine Rn_pure 4 (i' := 89) (L' := [some (2, 161), some (0, l1), some (0, l2), some (0, l3), some (0, l4), some (0, x3), some (0, x5), some (0, x7), some (0, x37), some (0, 0)]) (st' := [(0, l1), (0, l2 + 0), (2, 172)]) rfl ?_
        obtain ⟨hg, h⟩ := h
        refine Rn_iast rfl (⟨rfl, (by omega : (0 : Int) ≤ 172), (by omega : (172 : Int) + 1 < K ∧ 5 < K)⟩) hg (fun g38 he_g38 => ?_)
        have h := h g38 he_g38
        refine Rn_pure 1 (i' := 91) (L' := [some (2, 161), some (0, l1), some (0, l2), some (0, l3), some (0, l4), some (0, x3), some (0, x5), some (0, x7), some (0, x37), some (0, 0)]) (st' := [(2, 161)]) rfl ?_
        refine Rn_getR rfl (⟨rfl, (by omega : (0 : Int) ≤ 161), (by omega : (161 : Int) + 1 < K ∧ 5 < K)⟩) (hr 147 _ rfl) (by decide) ?_
        refine Rn_pure 4 (i' := 96) (L' := [some (2, 161), some (0, l1), some (0, l2), some (0, l3), some (0, l4), some (0, x3), some (0, x5), some (0, x7), some (0, x37), some (0, 0)]) (st' := [(0, l3), (0, l2 + 1), (2, 172)]) rfl ?_
        obtain ⟨hg, h⟩ := h
        refine Rn_iast rfl (⟨rfl, (by omega : (0 : Int) ≤ 172), (by omega : (172 : Int) + 1 < K ∧ 5 < K)⟩) hg (fun g39 he_g39 => ?_)
        have h := h g39 he_g39
        refine Rn_pure 1 (i' := 98) (L' := [some (2, 161), some (0, l1), some (0, l2), some (0, l3), some (0, l4), some (0, x3), some (0, x5), some (0, x7), some (0, x37), some (0, 0)]) (st' := [(2, 161)]) rfl ?_
        refine Rn_getR rfl (⟨rfl, (by omega : (0 : Int) ≤ 161), (by omega : (161 : Int) + 1 < K ∧ 5 < K)⟩) (hr 147 _ rfl) (by decide) ?_
        refine Rn_pure 4 (i' := 103) (L' := [some (2, 161), some (0, l1), some (0, l2), some (0, l3), some (0, l4), some (0, x3), some (0, x5), some (0, x7), some (0, x37), some (0, 0)]) (st' := [(0, l4), (0, l2 + 2), (2, 172)]) rfl ?_
        obtain ⟨hg, h⟩ := h
        refine Rn_iast rfl (⟨rfl, (by omega : (0 : Int) ≤ 172), (by omega : (172 : Int) + 1 < K ∧ 5 < K)⟩) hg (fun g40 he_g40 => ?_)
        have h := h g40 he_g40
        refine Rn_pure 1 (i' := 105) (L' := [some (2, 161), some (0, l1), some (0, l2), some (0, l3), some (0, l4), some (0, x3), some (0, x5), some (0, x7), some (0, x37), some (0, 0)]) (st' := [(2, 161)]) rfl ?_
        refine Rn_getR rfl (⟨rfl, (by omega : (0 : Int) ≤ 161), (by omega : (161 : Int) + 1 < K ∧ 5 < K)⟩) (hr 147 _ rfl) (by decide) ?_
        refine Rn_pure 4 (i' := 110) (L' := [some (2, 161), some (0, l1), some (0, l2), some (0, l3), some (0, l4), some (0, x3), some (0, x5), some (0, x7), some (0, x37), some (0, 0)]) (st' := [(0, x3), (0, l2 + 3), (2, 172)]) rfl ?_
        obtain ⟨hg, h⟩ := h
        refine Rn_iast rfl (⟨rfl, (by omega : (0 : Int) ≤ 172), (by omega : (172 : Int) + 1 < K ∧ 5 < K)⟩) hg (fun g41 he_g41 => ?_)
        have h := h g41 he_g41
        refine Rn_pure 1 (i' := 112) (L' := [some (2, 161), some (0, l1), some (0, l2), some (0, l3), some (0, l4), some (0, x3), some (0, x5), some (0, x7), some (0, x37), some (0, 0)]) (st' := [(2, 161)]) rfl ?_
        refine Rn_getR rfl (⟨rfl, (by omega : (0 : Int) ≤ 161), (by omega : (161 : Int) + 1 < K ∧ 5 < K)⟩) (hr 147 _ rfl) (by decide) ?_
        refine Rn_pure 4 (i' := 117) (L' := [some (2, 161), some (0, l1), some (0, l2), some (0, l3), some (0, l4), some (0, x3), some (0, x5), some (0, x7), some (0, x37), some (0, 0)]) (st' := [(0, x5), (0, l2 + 4), (2, 172)]) rfl ?_
        obtain ⟨hg, h⟩ := h
        refine Rn_iast rfl (⟨rfl, (by omega : (0 : Int) ≤ 172), (by omega : (172 : Int) + 1 < K ∧ 5 < K)⟩) hg (fun g42 he_g42 => ?_)
        have h := h g42 he_g42
        refine Rn_pure 1 (i' := 119) (L' := [some (2, 161), some (0, l1), some (0, l2), some (0, l3), some (0, l4), some (0, x3), some (0, x5), some (0, x7), some (0, x37), some (0, 0)]) (st' := [(2, 161)]) rfl ?_
        refine Rn_getR rfl (⟨rfl, (by omega : (0 : Int) ≤ 161), (by omega : (161 : Int) + 1 < K ∧ 5 < K)⟩) (hr 147 _ rfl) (by decide) ?_
        refine Rn_pure 4 (i' := 124) (L' := [some (2, 161), some (0, l1), some (0, l2), some (0, l3), some (0, l4), some (0, x3), some (0, x5), some (0, x7), some (0, x37), some (0, 0)]) (st' := [(0, x7), (0, l2 + 5), (2, 172)]) rfl ?_
        obtain ⟨hg, h⟩ := h
        refine Rn_iast rfl (⟨rfl, (by omega : (0 : Int) ≤ 172), (by omega : (172 : Int) + 1 < K ∧ 5 < K)⟩) hg (fun g43 he_g43 => ?_)
        have h := h g43 he_g43
        refine Rn_pure 1 (i' := 126) (L' := [some (2, 161), some (0, l1), some (0, l2), some (0, l3), some (0, l4), some (0, x3), some (0, x5), some (0, x7), some (0, x37), some (0, 0)]) (st' := [(2, 161)]) rfl ?_
        refine Rn_getR rfl (⟨rfl, (by omega : (0 : Int) ≤ 161), (by omega : (161 : Int) + 1 < K ∧ 5 < K)⟩) (hr 147 _ rfl) (by decide) ?_
        refine Rn_pure 6 (i' := 133) (L' := [some (2, 161), some (0, l1), some (0, l2), some (0, l3), some (0, l4), some (0, x3), some (0, x5), some (0, x7), some (0, x37), some (0, 0)]) (st' := [(0, x37), (0, l2 + 5 + 1), (2, 172)]) rfl ?_
        obtain ⟨hg, h⟩ := h
        refine Rn_iast rfl (⟨rfl, (by omega : (0 : Int) ≤ 172), (by omega : (172 : Int) + 1 < K ∧ 5 < K)⟩) hg (fun g44 he_g44 => ?_)
        have h := h g44 he_g44
        refine Rn_pure 1 (i' := 135) (L' := [some (2, 161), some (0, l1), some (0, l2), some (0, l3), some (0, l4), some (0, x3), some (0, x5), some (0, x7), some (0, x37), some (0, 0)]) (st' := [(2, 161)]) rfl ?_
        refine Rn_getR rfl (⟨rfl, (by omega : (0 : Int) ≤ 161), (by omega : (161 : Int) + 1 < K ∧ 5 < K)⟩) (hr 147 _ rfl) (by decide) ?_
        refine Rn_pure 6 (i' := 142) (L' := [some (2, 161), some (0, l1), some (0, l2), some (0, l3), some (0, l4), some (0, x3), some (0, x5), some (0, x7), some (0, x37), some (0, 0)]) (st' := [(0, 0), (0, l2 + 5 + 2), (2, 172)]) rfl ?_
        obtain ⟨hg, h⟩ := h
        refine Rn_iast rfl (⟨rfl, (by omega : (0 : Int) ≤ 172), (by omega : (172 : Int) + 1 < K ∧ 5 < K)⟩) hg (fun g45 he_g45 => ?_)
        have h := h g45 he_g45
        refine Rn_pure 1 (i' := 144) (L' := [some (2, 161), some (0, l1), some (0, l2), some (0, l3), some (0, l4), some (0, x3), some (0, x5), some (0, x7), some (0, x37), some (0, 0)]) (st' := [(2, 161)]) rfl ?_
        refine Rn_getR rfl (⟨rfl, (by omega : (0 : Int) ≤ 161), (by omega : (161 : Int) + 1 < K ∧ 5 < K)⟩) (hr 148 _ rfl) (by decide) ?_
        refine Rn_pure 2 (i' := 147) (L' := [some (2, 161), some (0, l1), some (0, l2), some (0, l3), some (0, l4), some (0, x3), some (0, x5), some (0, x7), some (0, x37), some (0, 0)]) (st' := [(0, 5), (2, 161), (2, 173)]) rfl ?_
        refine Rn_callI [(2, 161), (0, 5)] [(2, 173)] rfl rfl rfl rfl (ab_rvB_of rfl (⟨rfl, (by omega : (0 : Int) ≤ 161), (by omega : (161 : Int) + 1 < K ∧ 5 < K)⟩)) ?_
        refine h.mono (fun x46 g' r' h => ?_)
        obtain ⟨hx, h⟩ := h
        replace hx := hx.symm
        subst hx
        obtain ⟨hx, h⟩ := h
        replace hx := hx.symm
        subst hx
        refine Rn_pure 1 (i' := 149) (L' := [some (2, 161), some (0, l1), some (0, l2), some (0, l3), some (0, l4), some (0, x3), some (0, x5), some (0, x7), some (0, x37), some (0, 0)]) (st' := [(0, (-2)), (0, x46), (2, 173)]) rfl ?_
        obtain ⟨hg, h⟩ := h
        refine Rn_iast rfl (⟨rfl, (by omega : (0 : Int) ≤ 173), (by omega : (173 : Int) + 1 < K ∧ 5 < K)⟩) hg (fun g47 he_g47 => ?_)
        have h := h g47 he_g47
        refine Rn_pure 4 (i' := 154) (L' := [some (2, 161), some (0, l1), some (0, l2), some (0, l3), some (0, l4), some (0, x3), some (0, x5), some (0, x7), some (0, x37), some (0, 0)]) (st' := [(0, 5), (2, 161), (0, 5), (2, 161)]) rfl ?_
        refine Rn_callI [(2, 161), (0, 5)] [(0, 5), (2, 161)] rfl rfl rfl rfl (ab_rvB_of rfl (⟨rfl, (by omega : (0 : Int) ≤ 161), (by omega : (161 : Int) + 1 < K ∧ 5 < K)⟩)) ?_
        refine h.mono (fun x48 g' r' h => ?_)
        obtain ⟨hx, h⟩ := h
        replace hx := hx.symm
        subst hx
        obtain ⟨hx, h⟩ := h
        replace hx := hx.symm
        subst hx
        refine Rn_pure 2 (i' := 157) (L' := [some (2, 161), some (0, l1), some (0, l2), some (0, l3), some (0, l4), some (0, x3), some (0, x5), some (0, x7), some (0, x37), some (0, 0)]) (st' := [(0, x48 + 1), (0, 5), (2, 161)]) rfl ?_
        refine Rn_callV [(2, 161), (0, 5), (0, x48 + 1)] [] rfl rfl rfl rfl (ab_rvB_of rfl (⟨rfl, (by omega : (0 : Int) ≤ 161), (by omega : (161 : Int) + 1 < K ∧ 5 < K)⟩)) ?_
        refine h.mono (fun g49 r' h => ?_)
        obtain ⟨hx, h⟩ := h
        replace hx := hx.symm
        subst hx
        exact Rn_ret0 rfl h
      · have h := h.2 hc
        exact Rn_ret0 rfl h
    · have h := h.2 hc
      refine Rn_pure 3 (i' := 75) (L' := [some (2, 161), some (0, l1), some (0, l2), some (0, l3), some (0, l4), some (0, x3), some (0, x5), some (0, x7), some (0, x37), none]) (st' := [(0, 99999), (0, 0), (2, 161)]) rfl ?_
      refine Rn_callI [(2, 161), (0, 0), (0, 99999)] [] rfl rfl rfl rfl (ab_rvB_of rfl (⟨rfl, (by omega : (0 : Int) ≤ 161), (by omega : (161 : Int) + 1 < K ∧ 5 < K)⟩)) ?_
      refine h.mono (fun x52 g51 r' h => ?_)
      obtain ⟨hx, h⟩ := h
      replace hx := hx.symm
      subst hx
      refine Rn_pure 3 (i' := 80) (L' := [some (2, 161), some (0, l1), some (0, l2), some (0, l3), some (0, l4), some (0, x3), some (0, x5), some (0, x7), some (0, x37), some (0, x52)]) (st' := [(2, 161)]) rfl ?_
      refine Rn_getI rfl (⟨rfl, (by omega : (0 : Int) ≤ 161), (by omega : (161 : Int) + 1 < K ∧ 5 < K)⟩) ?_
      refine Rn_ifeq rfl (fun hc => ?_) (fun hc => ?_)
      · have h := h.1 hc
        refine Rn_pure 1 (i' := 84) (L' := [some (2, 161), some (0, l1), some (0, l2), some (0, l3), some (0, l4), some (0, x3), some (0, x5), some (0, x7), some (0, x37), some (0, x52)]) (st' := [(2, 161)]) rfl ?_
        refine Rn_getR rfl (⟨rfl, (by omega : (0 : Int) ≤ 161), (by omega : (161 : Int) + 1 < K ∧ 5 < K)⟩) (hr 147 _ rfl) (by decide) ?_
        refine Rn_pure 4 (i' := 89) (L' := [some (2, 161), some (0, l1), some (0, l2), some (0, l3), some (0, l4), some (0, x3), some (0, x5), some (0, x7), some (0, x37), some (0, x52)]) (st' := [(0, l1), (0, l2 + 0), (2, 172)]) rfl ?_
        obtain ⟨hg, h⟩ := h
        refine Rn_iast rfl (⟨rfl, (by omega : (0 : Int) ≤ 172), (by omega : (172 : Int) + 1 < K ∧ 5 < K)⟩) hg (fun g53 he_g53 => ?_)
        have h := h g53 he_g53
        refine Rn_pure 1 (i' := 91) (L' := [some (2, 161), some (0, l1), some (0, l2), some (0, l3), some (0, l4), some (0, x3), some (0, x5), some (0, x7), some (0, x37), some (0, x52)]) (st' := [(2, 161)]) rfl ?_
        refine Rn_getR rfl (⟨rfl, (by omega : (0 : Int) ≤ 161), (by omega : (161 : Int) + 1 < K ∧ 5 < K)⟩) (hr 147 _ rfl) (by decide) ?_
        refine Rn_pure 4 (i' := 96) (L' := [some (2, 161), some (0, l1), some (0, l2), some (0, l3), some (0, l4), some (0, x3), some (0, x5), some (0, x7), some (0, x37), some (0, x52)]) (st' := [(0, l3), (0, l2 + 1), (2, 172)]) rfl ?_
        obtain ⟨hg, h⟩ := h
        refine Rn_iast rfl (⟨rfl, (by omega : (0 : Int) ≤ 172), (by omega : (172 : Int) + 1 < K ∧ 5 < K)⟩) hg (fun g54 he_g54 => ?_)
        have h := h g54 he_g54
        refine Rn_pure 1 (i' := 98) (L' := [some (2, 161), some (0, l1), some (0, l2), some (0, l3), some (0, l4), some (0, x3), some (0, x5), some (0, x7), some (0, x37), some (0, x52)]) (st' := [(2, 161)]) rfl ?_
        refine Rn_getR rfl (⟨rfl, (by omega : (0 : Int) ≤ 161), (by omega : (161 : Int) + 1 < K ∧ 5 < K)⟩) (hr 147 _ rfl) (by decide) ?_
        refine Rn_pure 4 (i' := 103) (L' := [some (2, 161), some (0, l1), some (0, l2), some (0, l3), some (0, l4), some (0, x3), some (0, x5), some (0, x7), some (0, x37), some (0, x52)]) (st' := [(0, l4), (0, l2 + 2), (2, 172)]) rfl ?_
        obtain ⟨hg, h⟩ := h
        refine Rn_iast rfl (⟨rfl, (by omega : (0 : Int) ≤ 172), (by omega : (172 : Int) + 1 < K ∧ 5 < K)⟩) hg (fun g55 he_g55 => ?_)
        have h := h g55 he_g55
        refine Rn_pure 1 (i' := 105) (L' := [some (2, 161), some (0, l1), some (0, l2), some (0, l3), some (0, l4), some (0, x3), some (0, x5), some (0, x7), some (0, x37), some (0, x52)]) (st' := [(2, 161)]) rfl ?_
        refine Rn_getR rfl (⟨rfl, (by omega : (0 : Int) ≤ 161), (by omega : (161 : Int) + 1 < K ∧ 5 < K)⟩) (hr 147 _ rfl) (by decide) ?_
        refine Rn_pure 4 (i' := 110) (L' := [some (2, 161), some (0, l1), some (0, l2), some (0, l3), some (0, l4), some (0, x3), some (0, x5), some (0, x7), some (0, x37), some (0, x52)]) (st' := [(0, x3), (0, l2 + 3), (2, 172)]) rfl ?_
        obtain ⟨hg, h⟩ := h
        refine Rn_iast rfl (⟨rfl, (by omega : (0 : Int) ≤ 172), (by omega : (172 : Int) + 1 < K ∧ 5 < K)⟩) hg (fun g56 he_g56 => ?_)
        have h := h g56 he_g56
        refine Rn_pure 1 (i' := 112) (L' := [some (2, 161), some (0, l1), some (0, l2), some (0, l3), some (0, l4), some (0, x3), some (0, x5), some (0, x7), some (0, x37), some (0, x52)]) (st' := [(2, 161)]) rfl ?_
        refine Rn_getR rfl (⟨rfl, (by omega : (0 : Int) ≤ 161), (by omega : (161 : Int) + 1 < K ∧ 5 < K)⟩) (hr 147 _ rfl) (by decide) ?_
        refine Rn_pure 4 (i' := 117) (L' := [some (2, 161), some (0, l1), some (0, l2), some (0, l3), some (0, l4), some (0, x3), some (0, x5), some (0, x7), some (0, x37), some (0, x52)]) (st' := [(0, x5), (0, l2 + 4), (2, 172)]) rfl ?_
        obtain ⟨hg, h⟩ := h
        refine Rn_iast rfl (⟨rfl, (by omega : (0 : Int) ≤ 172), (by omega : (172 : Int) + 1 < K ∧ 5 < K)⟩) hg (fun g57 he_g57 => ?_)
        have h := h g57 he_g57
        refine Rn_pure 1 (i' := 119) (L' := [some (2, 161), some (0, l1), some (0, l2), some (0, l3), some (0, l4), some (0, x3), some (0, x5), some (0, x7), some (0, x37), some (0, x52)]) (st' := [(2, 161)]) rfl ?_
        refine Rn_getR rfl (⟨rfl, (by omega : (0 : Int) ≤ 161), (by omega : (161 : Int) + 1 < K ∧ 5 < K)⟩) (hr 147 _ rfl) (by decide) ?_
        refine Rn_pure 4 (i' := 124) (L' := [some (2, 161), some (0, l1), some (0, l2), some (0, l3), some (0, l4), some (0, x3), some (0, x5), some (0, x7), some (0, x37), some (0, x52)]) (st' := [(0, x7), (0, l2 + 5), (2, 172)]) rfl ?_
        obtain ⟨hg, h⟩ := h
        refine Rn_iast rfl (⟨rfl, (by omega : (0 : Int) ≤ 172), (by omega : (172 : Int) + 1 < K ∧ 5 < K)⟩) hg (fun g58 he_g58 => ?_)
        have h := h g58 he_g58
        refine Rn_pure 1 (i' := 126) (L' := [some (2, 161), some (0, l1), some (0, l2), some (0, l3), some (0, l4), some (0, x3), some (0, x5), some (0, x7), some (0, x37), some (0, x52)]) (st' := [(2, 161)]) rfl ?_
        refine Rn_getR rfl (⟨rfl, (by omega : (0 : Int) ≤ 161), (by omega : (161 : Int) + 1 < K ∧ 5 < K)⟩) (hr 147 _ rfl) (by decide) ?_
        refine Rn_pure 6 (i' := 133) (L' := [some (2, 161), some (0, l1), some (0, l2), some (0, l3), some (0, l4), some (0, x3), some (0, x5), some (0, x7), some (0, x37), some (0, x52)]) (st' := [(0, x37), (0, l2 + 5 + 1), (2, 172)]) rfl ?_
        obtain ⟨hg, h⟩ := h
        refine Rn_iast rfl (⟨rfl, (by omega : (0 : Int) ≤ 172), (by omega : (172 : Int) + 1 < K ∧ 5 < K)⟩) hg (fun g59 he_g59 => ?_)
        have h := h g59 he_g59
        refine Rn_pure 1 (i' := 135) (L' := [some (2, 161), some (0, l1), some (0, l2), some (0, l3), some (0, l4), some (0, x3), some (0, x5), some (0, x7), some (0, x37), some (0, x52)]) (st' := [(2, 161)]) rfl ?_
        refine Rn_getR rfl (⟨rfl, (by omega : (0 : Int) ≤ 161), (by omega : (161 : Int) + 1 < K ∧ 5 < K)⟩) (hr 147 _ rfl) (by decide) ?_
        refine Rn_pure 6 (i' := 142) (L' := [some (2, 161), some (0, l1), some (0, l2), some (0, l3), some (0, l4), some (0, x3), some (0, x5), some (0, x7), some (0, x37), some (0, x52)]) (st' := [(0, x52), (0, l2 + 5 + 2), (2, 172)]) rfl ?_
        obtain ⟨hg, h⟩ := h
        refine Rn_iast rfl (⟨rfl, (by omega : (0 : Int) ≤ 172), (by omega : (172 : Int) + 1 < K ∧ 5 < K)⟩) hg (fun g60 he_g60 => ?_)
        have h := h g60 he_g60
        refine Rn_pure 1 (i' := 144) (L' := [some (2, 161), some (0, l1), some (0, l2), some (0, l3), some (0, l4), some (0, x3), some (0, x5), some (0, x7), some (0, x37), some (0, x52)]) (st' := [(2, 161)]) rfl ?_
        refine Rn_getR rfl (⟨rfl, (by omega : (0 : Int) ≤ 161), (by omega : (161 : Int) + 1 < K ∧ 5 < K)⟩) (hr 148 _ rfl) (by decide) ?_
        refine Rn_pure 2 (i' := 147) (L' := [some (2, 161), some (0, l1), some (0, l2), some (0, l3), some (0, l4), some (0, x3), some (0, x5), some (0, x7), some (0, x37), some (0, x52)]) (st' := [(0, 5), (2, 161), (2, 173)]) rfl ?_
        refine Rn_callI [(2, 161), (0, 5)] [(2, 173)] rfl rfl rfl rfl (ab_rvB_of rfl (⟨rfl, (by omega : (0 : Int) ≤ 161), (by omega : (161 : Int) + 1 < K ∧ 5 < K)⟩)) ?_
        refine h.mono (fun x61 g' r' h => ?_)
        obtain ⟨hx, h⟩ := h
        replace hx := hx.symm
        subst hx
        obtain ⟨hx, h⟩ := h
        replace hx := hx.symm
        subst hx
        refine Rn_pure 1 (i' := 149) (L' := [some (2, 161), some (0, l1), some (0, l2), some (0, l3), some (0, l4), some (0, x3), some (0, x5), some (0, x7), some (0, x37), some (0, x52)]) (st' := [(0, (-2)), (0, x61), (2, 173)]) rfl ?_
        obtain ⟨hg, h⟩ := h
        refine Rn_iast rfl (⟨rfl, (by omega : (0 : Int) ≤ 173), (by omega : (173 : Int) + 1 < K ∧ 5 < K)⟩) hg (fun g62 he_g62 => ?_)
        have h := h g62 he_g62
        refine Rn_pure 4 (i' := 154) (L' := [some (2, 161), some (0, l1), some (0, l2), some (0, l3), some (0, l4), some (0, x3), some (0, x5), some (0, x7), some (0, x37), some (0, x52)]) (st' := [(0, 5), (2, 161), (0, 5), (2, 161)]) rfl ?_
        refine Rn_callI [(2, 161), (0, 5)] [(0, 5), (2, 161)] rfl rfl rfl rfl (ab_rvB_of rfl (⟨rfl, (by omega : (0 : Int) ≤ 161), (by omega : (161 : Int) + 1 < K ∧ 5 < K)⟩)) ?_
        refine h.mono (fun x63 g' r' h => ?_)
        obtain ⟨hx, h⟩ := h
        replace hx := hx.symm
        subst hx
        obtain ⟨hx, h⟩ := h
        replace hx := hx.symm
        subst hx
        refine Rn_pure 2 (i' := 157) (L' := [some (2, 161), some (0, l1), some (0, l2), some (0, l3), some (0, l4), some (0, x3), some (0, x5), some (0, x7), some (0, x37), some (0, x52)]) (st' := [(0, x63 + 1), (0, 5), (2, 161)]) rfl ?_
        refine Rn_callV [(2, 161), (0, 5), (0, x63 + 1)] [] rfl rfl rfl rfl (ab_rvB_of rfl (⟨rfl, (by omega : (0 : Int) ≤ 161), (by omega : (161 : Int) + 1 < K ∧ 5 < K)⟩)) ?_
        refine h.mono (fun g64 r' h => ?_)
        obtain ⟨hx, h⟩ := h
        replace hx := hx.symm
        subst hx
        exact Rn_ret0 rfl h
      · have h := h.2 hc
        exact Rn_ret0 rfl h
-- EventLedgerModel.readRevoke ()V
theorem v_M_readRevoke {K : Int} {S : Nat} {g r : ab_H} (P : ab_H → ab_H → Prop) (hr : SI r) (hK : 186 ≤ K) (h : ab_RI m_M_reading [(2, 161), (0, 5)] K S g r (fun x1 g' r' => g' = g ∧ r' = r ∧ (ab_RI m_M_reading [(2, 161), (0, 5)] K S g r (fun x2 g' r' => g' = g ∧ r' = r ∧ (((¬ wr x2 = wr 50 → ab_Rn m_M_readRevoke 14 [some (2, 161), some (0, 8 * x1), none, none, none] [] (K, S, g, r) (ab_Qv K S P)) ∧ (wr x2 = wr 50 → ab_RV m_M_wrong [(2, 161), (0, 2)] K S g r (fun g3 r' => r' = r ∧ (ab_Rn m_M_readRevoke 14 [some (2, 161), some (0, 8 * x1), none, none, none] [] (K, S, g3, r) (ab_Qv K S P)))))))))) : ab_RV m_M_readRevoke [(2, 161)] K S g r P := by
  show ab_Rn m_M_readRevoke 0 [some (2, 161), none, none, none, none] [] (K, S, g, r) (ab_Qv K S P)
  refine Rn_pure 3 (i' := 3) (L' := [some (2, 161), none, none, none, none]) (st' := [(0, 5), (2, 161), (0, 8)]) rfl ?_
  refine Rn_callI [(2, 161), (0, 5)] [(0, 8)] rfl rfl rfl rfl (ab_rvB_of rfl (⟨rfl, (by omega : (0 : Int) ≤ 161), (by omega : (161 : Int) + 1 < K ∧ 5 < K)⟩)) ?_
  refine h.mono (fun x1 g' r' h => ?_)
  obtain ⟨hx, h⟩ := h
  replace hx := hx.symm
  subst hx
  obtain ⟨hx, h⟩ := h
  replace hx := hx.symm
  subst hx
  refine Rn_pure 4 (i' := 8) (L' := [some (2, 161), some (0, 8 * x1), none, none, none]) (st' := [(0, 5), (2, 161)]) rfl ?_
  refine Rn_callI [(2, 161), (0, 5)] [] rfl rfl rfl rfl (ab_rvB_of rfl (⟨rfl, (by omega : (0 : Int) ≤ 161), (by omega : (161 : Int) + 1 < K ∧ 5 < K)⟩)) ?_
  refine h.mono (fun x2 g' r' h => ?_)
  obtain ⟨hx, h⟩ := h
  replace hx := hx.symm
  subst hx
  obtain ⟨hx, h⟩ := h
  replace hx := hx.symm
  subst hx
  refine Rn_pure 1 (i' := 10) (L' := [some (2, 161), some (0, 8 * x1), none, none, none]) (st' := [(0, 50), (0, x2)]) rfl ?_
  refine Rn_icne rfl (fun hc => ?_) (fun hc => ?_)
  · have h := h.1 hc
    exact h
  · have h := h.2 hc
    refine Rn_pure 2 (i' := 13) (L' := [some (2, 161), some (0, 8 * x1), none, none, none]) (st' := [(0, 2), (2, 161)]) rfl ?_
    refine Rn_callV [(2, 161), (0, 2)] [] rfl rfl rfl rfl (ab_rvB_of rfl (⟨rfl, (by omega : (0 : Int) ≤ 161), (by omega : (161 : Int) + 1 < K ∧ 5 < K)⟩)) ?_
    refine h.mono (fun g3 r' h => ?_)
    obtain ⟨hx, h⟩ := h
    replace hx := hx.symm
    subst hx
    exact h
theorem v_M_readRevoke_14 {K : Int} {S : Nat} {g r : ab_H} {l1 : Int} (P : ab_H → ab_H → Prop) (hr : SI r) (hK : 186 ≤ K) (h : ab_RV m_M_goOn [(2, 161)] K S g r (fun g1 r' => r' = r ∧ (((wr (g1 161 22) = wr 0 → ((wr (g1 161 20) = wr 2 → ab_RI m_M_reading [(2, 161), (0, 5)] K S g1 r (fun x3 g' r' => g' = g1 ∧ r' = r ∧ (((wr x3 ≤ wr (g1 161 21) → ab_Rn m_M_readRevoke 45 [some (2, 161), some (0, l1), none, none, none] [] (K, S, g1, r) (ab_Qv K S P)) ∧ (wr (g1 161 21) < wr x3 → ((0 : Int) ≤ 8 * (g1 161 21) + 0 ∧ (8 * (g1 161 21) + 0 : Int) < 400) ∧ ((¬ wr (g1 172 (8 * (g1 161 21) + 0)) = wr 7 → ((0 : Int) ≤ g1 161 21 ∧ (g1 161 21 : Int) < 50) ∧ ((wr (g1 173 (g1 161 21)) = wr (-2) → ab_Rn m_M_readRevoke 59 [some (2, 161), some (0, l1), none, none, none] [] (K, S, g1, r) (ab_Qv K S P)) ∧ (¬ wr (g1 173 (g1 161 21)) = wr (-2) → ab_RV m_M_wrong [(2, 161), (0, 3)] K S g1 r (fun g4 r' => r' = r ∧ (ab_Rn m_M_readRevoke 59 [some (2, 161), some (0, l1), none, none, none] [] (K, S, g4, r) (ab_Qv K S P)))))) ∧ (wr (g1 172 (8 * (g1 161 21) + 0)) = wr 7 → ab_Rn m_M_readRevoke 45 [some (2, 161), some (0, l1), none, none, none] [] (K, S, g1, r) (ab_Qv K S P)))))))) ∧ (¬ wr (g1 161 20) = wr 2 → ab_RV m_M_wrong [(2, 161), (0, 1)] K S g1 r (fun g6 r' => r' = r ∧ (ab_Rn m_M_readRevoke 59 [some (2, 161), some (0, l1), none, none, none] [] (K, S, g6, r) (ab_Qv K S P)))))) ∧ (¬ wr (g1 161 22) = wr 0 → P g1 r))))) : ab_Rn m_M_readRevoke 14 [some (2, 161), some (0, l1), none, none, none] [] (K, S, g, r) (ab_Qv K S P) := by
  refine Rn_pure 1 (i' := 15) (L' := [some (2, 161), some (0, l1), none, none, none]) (st' := [(2, 161)]) rfl ?_
  refine Rn_callV [(2, 161)] [] rfl rfl rfl rfl (ab_rvB_of rfl (⟨rfl, (by omega : (0 : Int) ≤ 161), (by omega : (161 : Int) + 1 < K ∧ 5 < K)⟩)) ?_
  refine h.mono (fun g1 r' h => ?_)
  obtain ⟨hx, h⟩ := h
  replace hx := hx.symm
  subst hx
  refine Rn_pure 1 (i' := 17) (L' := [some (2, 161), some (0, l1), none, none, none]) (st' := [(2, 161)]) rfl ?_
  refine Rn_getI rfl (⟨rfl, (by omega : (0 : Int) ≤ 161), (by omega : (161 : Int) + 1 < K ∧ 5 < K)⟩) ?_
  refine Rn_ifeq rfl (fun hc => ?_) (fun hc => ?_)
  · have h := h.1 hc
    refine Rn_pure 1 (i' := 21) (L' := [some (2, 161), some (0, l1), none, none, none]) (st' := [(2, 161)]) rfl ?_
    refine Rn_getI rfl (⟨rfl, (by omega : (0 : Int) ≤ 161), (by omega : (161 : Int) + 1 < K ∧ 5 < K)⟩) ?_
    refine Rn_pure 1 (i' := 23) (L' := [some (2, 161), some (0, l1), none, none, none]) (st' := [(0, 2), (0, g1 161 20)]) rfl ?_
    refine Rn_iceq rfl (fun hc => ?_) (fun hc => ?_)
    · have h := h.1 hc
      refine Rn_pure 1 (i' := 29) (L' := [some (2, 161), some (0, l1), none, none, none]) (st' := [(2, 161)]) rfl ?_
      refine Rn_getI rfl (⟨rfl, (by omega : (0 : Int) ≤ 161), (by omega : (161 : Int) + 1 < K ∧ 5 < K)⟩) ?_
      refine Rn_pure 2 (i' := 32) (L' := [some (2, 161), some (0, l1), none, none, none]) (st' := [(0, 5), (2, 161), (0, g1 161 21)]) rfl ?_
      refine Rn_callI [(2, 161), (0, 5)] [(0, g1 161 21)] rfl rfl rfl rfl (ab_rvB_of rfl (⟨rfl, (by omega : (0 : Int) ≤ 161), (by omega : (161 : Int) + 1 < K ∧ 5 < K)⟩)) ?_
      refine h.mono (fun x3 g' r' h => ?_)
      obtain ⟨hx, h⟩ := h
      replace hx := hx.symm
      subst hx
      obtain ⟨hx, h⟩ := h
      replace hx := hx.symm
      subst hx
      refine Rn_icge rfl (fun hc => ?_) (fun hc => ?_)
      · have h := h.1 hc
        exact h
      · have h := h.2 hc
        refine Rn_pure 1 (i' := 35) (L' := [some (2, 161), some (0, l1), none, none, none]) (st' := [(2, 161)]) rfl ?_
        refine Rn_getR rfl (⟨rfl, (by omega : (0 : Int) ≤ 161), (by omega : (161 : Int) + 1 < K ∧ 5 < K)⟩) (hr 147 _ rfl) (by decide) ?_
        refine Rn_pure 2 (i' := 38) (L' := [some (2, 161), some (0, l1), none, none, none]) (st' := [(2, 161), (0, 8), (2, 172)]) rfl ?_
        refine Rn_getI rfl (⟨rfl, (by omega : (0 : Int) ≤ 161), (by omega : (161 : Int) + 1 < K ∧ 5 < K)⟩) ?_
        refine Rn_pure 3 (i' := 42) (L' := [some (2, 161), some (0, l1), none, none, none]) (st' := [(0, 8 * (g1 161 21) + 0), (2, 172)]) rfl ?_
        obtain ⟨hg, h⟩ := h
        refine Rn_iald rfl (⟨rfl, (by omega : (0 : Int) ≤ 172), (by omega : (172 : Int) + 1 < K ∧ 5 < K)⟩) hg ?_
        refine Rn_pure 1 (i' := 44) (L' := [some (2, 161), some (0, l1), none, none, none]) (st' := [(0, 7), (0, g1 172 (8 * (g1 161 21) + 0))]) rfl ?_
        refine Rn_icne rfl (fun hc => ?_) (fun hc => ?_)
        · have h := h.1 hc
          refine Rn_pure 1 (i' := 50) (L' := [some (2, 161), some (0, l1), none, none, none]) (st' := [(2, 161)]) rfl ?_
          refine Rn_getR rfl (⟨rfl, (by omega : (0 : Int) ≤ 161), (by omega : (161 : Int) + 1 < K ∧ 5 < K)⟩) (hr 148 _ rfl) (by decide) ?_
          refine Rn_pure 1 (i' := 52) (L' := [some (2, 161), some (0, l1), none, none, none]) (st' := [(2, 161), (2, 173)]) rfl ?_
          refine Rn_getI rfl (⟨rfl, (by omega : (0 : Int) ≤ 161), (by omega : (161 : Int) + 1 < K ∧ 5 < K)⟩) ?_
          obtain ⟨hg, h⟩ := h
          refine Rn_iald rfl (⟨rfl, (by omega : (0 : Int) ≤ 173), (by omega : (173 : Int) + 1 < K ∧ 5 < K)⟩) hg ?_
          refine Rn_pure 1 (i' := 55) (L' := [some (2, 161), some (0, l1), none, none, none]) (st' := [(0, (-2)), (0, g1 173 (g1 161 21))]) rfl ?_
          refine Rn_iceq rfl (fun hc => ?_) (fun hc => ?_)
          · have h := h.1 hc
            exact h
          · have h := h.2 hc
            refine Rn_pure 2 (i' := 58) (L' := [some (2, 161), some (0, l1), none, none, none]) (st' := [(0, 3), (2, 161)]) rfl ?_
            refine Rn_callV [(2, 161), (0, 3)] [] rfl rfl rfl rfl (ab_rvB_of rfl (⟨rfl, (by omega : (0 : Int) ≤ 161), (by omega : (161 : Int) + 1 < K ∧ 5 < K)⟩)) ?_
            refine h.mono (fun g4 r' h => ?_)
            obtain ⟨hx, h⟩ := h
            replace hx := hx.symm
            subst hx
            exact h
        · have h := h.2 hc
          exact h
    · have h := h.2 hc
      refine Rn_pure 2 (i' := 26) (L' := [some (2, 161), some (0, l1), none, none, none]) (st' := [(0, 1), (2, 161)]) rfl ?_
      refine Rn_callV [(2, 161), (0, 1)] [] rfl rfl rfl rfl (ab_rvB_of rfl (⟨rfl, (by omega : (0 : Int) ≤ 161), (by omega : (161 : Int) + 1 < K ∧ 5 < K)⟩)) ?_
      refine h.mono (fun g6 r' h => ?_)
      obtain ⟨hx, h⟩ := h
      replace hx := hx.symm
      subst hx
      refine Rn_pure 1 (i' := 59) (L' := [some (2, 161), some (0, l1), none, none, none]) (st' := []) rfl ?_
      exact h
  · have h := h.2 hc
    exact Rn_ret0 rfl h
theorem v_M_readRevoke_45 {K : Int} {S : Nat} {g r : ab_H} {l1 : Int} (P : ab_H → ab_H → Prop) (hr : SI r) (hK : 186 ≤ K) (h : ab_RV m_M_wrong [(2, 161), (0, 4)] K S g r (fun g1 r' => r' = r ∧ (ab_Rn m_M_readRevoke 59 [some (2, 161), some (0, l1), none, none, none] [] (K, S, g1, r) (ab_Qv K S P)))) : ab_Rn m_M_readRevoke 45 [some (2, 161), some (0, l1), none, none, none] [] (K, S, g, r) (ab_Qv K S P) := by
  refine Rn_pure 2 (i' := 47) (L' := [some (2, 161), some (0, l1), none, none, none]) (st' := [(0, 4), (2, 161)]) rfl ?_
  refine Rn_callV [(2, 161), (0, 4)] [] rfl rfl rfl rfl (ab_rvB_of rfl (⟨rfl, (by omega : (0 : Int) ≤ 161), (by omega : (161 : Int) + 1 < K ∧ 5 < K)⟩)) ?_
  refine h.mono (fun g1 r' h => ?_)
  obtain ⟨hx, h⟩ := h
  replace hx := hx.symm
  subst hx
  refine Rn_pure 1 (i' := 59) (L' := [some (2, 161), some (0, l1), none, none, none]) (st' := []) rfl ?_
  exact h
theorem v_M_readRevoke_59 {K : Int} {S : Nat} {g r : ab_H} {l1 : Int} (P : ab_H → ab_H → Prop) (hr : SI r) (hK : 186 ≤ K) (h : ((¬ wr (g 161 22) = wr 0 → ab_RV m_M_goOn [(2, 161)] K S g r (fun g1 r' => r' = r ∧ (ab_RI m_M_timeAhead [(2, 161)] K S g1 r (fun x3 g' r' => g' = g1 ∧ r' = r ∧ (ab_RI m_M_numeral [(2, 161), (0, x3), (0, 9999)] K S g1 r (fun x5 g4 r' => r' = r ∧ (((wr (g4 161 22) = wr 0 → ((0 : Int) ≤ l1 + 0 ∧ (l1 + 0 : Int) < 400) ∧ ∀ g6, g6 = ab_up g4 172 (l1 + 0) 7 → ((0 : Int) ≤ l1 + 1 ∧ (l1 + 1 : Int) < 400) ∧ ∀ g7, g7 = ab_up g6 172 (l1 + 1) (-2) → ((0 : Int) ≤ l1 + 2 ∧ (l1 + 2 : Int) < 400) ∧ ∀ g8, g8 = ab_up g7 172 (l1 + 2) 0 → ((0 : Int) ≤ l1 + 3 ∧ (l1 + 3 : Int) < 400) ∧ ∀ g9, g9 = ab_up g8 172 (l1 + 3) x5 → ((0 : Int) ≤ l1 + 4 ∧ (l1 + 4 : Int) < 400) ∧ ∀ g10, g10 = ab_up g9 172 (l1 + 4) 0 → ab_Rn m_M_readRevoke 116 [some (2, 161), some (0, l1), some (0, 0), none, some (0, 0)] [] (K, S, g10, r) (ab_Qv K S P)) ∧ (¬ wr (g4 161 22) = wr 0 → P g4 r))))))))) ∧ (wr (g 161 22) = wr 0 → ab_RV m_M_goOn [(2, 161)] K S g r (fun g11 r' => r' = r ∧ (ab_RI m_M_timeAhead [(2, 161)] K S g11 r (fun x13 g' r' => g' = g11 ∧ r' = r ∧ (ab_RI m_M_numeral [(2, 161), (0, x13), (0, 9999)] K S g11 r (fun x15 g14 r' => r' = r ∧ (((wr (g14 161 22) = wr 0 → ((0 : Int) ≤ l1 + 0 ∧ (l1 + 0 : Int) < 400) ∧ ∀ g16, g16 = ab_up g14 172 (l1 + 0) 7 → ((0 : Int) ≤ l1 + 1 ∧ (l1 + 1 : Int) < 400) ∧ ∀ g17, g17 = ab_up g16 172 (l1 + 1) (-2) → ((0 : Int) ≤ l1 + 2 ∧ (l1 + 2 : Int) < 400) ∧ ∀ g18, g18 = ab_up g17 172 (l1 + 2) (g 161 21) → ((0 : Int) ≤ l1 + 3 ∧ (l1 + 3 : Int) < 400) ∧ ∀ g19, g19 = ab_up g18 172 (l1 + 3) x15 → ((0 : Int) ≤ l1 + 4 ∧ (l1 + 4 : Int) < 400) ∧ ∀ g20, g20 = ab_up g19 172 (l1 + 4) 0 → ab_Rn m_M_readRevoke 116 [some (2, 161), some (0, l1), some (0, g 161 21), none, some (0, 0)] [] (K, S, g20, r) (ab_Qv K S P)) ∧ (¬ wr (g14 161 22) = wr 0 → P g14 r))))))))))) : ab_Rn m_M_readRevoke 59 [some (2, 161), some (0, l1), none, none, none] [] (K, S, g, r) (ab_Qv K S P) := by
  refine Rn_pure 1 (i' := 60) (L' := [some (2, 161), some (0, l1), none, none, none]) (st' := [(2, 161)]) rfl ?_
  refine Rn_getI rfl (⟨rfl, (by omega : (0 : Int) ≤ 161), (by omega : (161 : Int) + 1 < K ∧ 5 < K)⟩) ?_
  refine Rn_ifne rfl (fun hc => ?_) (fun hc => ?_)
  · have h := h.1 hc
    refine Rn_pure 3 (i' := 68) (L' := [some (2, 161), some (0, l1), some (0, 0), none, none]) (st' := [(2, 161)]) rfl ?_
    refine Rn_callV [(2, 161)] [] rfl rfl rfl rfl (ab_rvB_of rfl (⟨rfl, (by omega : (0 : Int) ≤ 161), (by omega : (161 : Int) + 1 < K ∧ 5 < K)⟩)) ?_
    refine h.mono (fun g1 r' h => ?_)
    obtain ⟨hx, h⟩ := h
    replace hx := hx.symm
    subst hx
    refine Rn_pure 2 (i' := 71) (L' := [some (2, 161), some (0, l1), some (0, 0), none, none]) (st' := [(2, 161), (2, 161)]) rfl ?_
    refine Rn_callI [(2, 161)] [(2, 161)] rfl rfl rfl rfl (ab_rvB_of rfl (⟨rfl, (by omega : (0 : Int) ≤ 161), (by omega : (161 : Int) + 1 < K ∧ 5 < K)⟩)) ?_
    refine h.mono (fun x3 g' r' h => ?_)
    obtain ⟨hx, h⟩ := h
    replace hx := hx.symm
    subst hx
    obtain ⟨hx, h⟩ := h
    replace hx := hx.symm
    subst hx
    refine Rn_pure 1 (i' := 73) (L' := [some (2, 161), some (0, l1), some (0, 0), none, none]) (st' := [(0, 9999), (0, x3), (2, 161)]) rfl ?_
    refine Rn_callI [(2, 161), (0, x3), (0, 9999)] [] rfl rfl rfl rfl (ab_rvB_of rfl (⟨rfl, (by omega : (0 : Int) ≤ 161), (by omega : (161 : Int) + 1 < K ∧ 5 < K)⟩)) ?_
    refine h.mono (fun x5 g4 r' h => ?_)
    obtain ⟨hx, h⟩ := h
    replace hx := hx.symm
    subst hx
    refine Rn_pure 2 (i' := 76) (L' := [some (2, 161), some (0, l1), some (0, 0), some (0, x5), none]) (st' := [(2, 161)]) rfl ?_
    refine Rn_getI rfl (⟨rfl, (by omega : (0 : Int) ≤ 161), (by omega : (161 : Int) + 1 < K ∧ 5 < K)⟩) ?_
    refine Rn_ifeq rfl (fun hc => ?_) (fun hc => ?_)
    · have h := h.1 hc
      refine Rn_pure 1 (i' := 80) (L' := [some (2, 161), some (0, l1), some (0, 0), some (0, x5), none]) (st' := [(2, 161)]) rfl ?_
      refine Rn_getR rfl (⟨rfl, (by omega : (0 : Int) ≤ 161), (by omega : (161 : Int) + 1 < K ∧ 5 < K)⟩) (hr 147 _ rfl) (by decide) ?_
      refine Rn_pure 4 (i' := 85) (L' := [some (2, 161), some (0, l1), some (0, 0), some (0, x5), none]) (st' := [(0, 7), (0, l1 + 0), (2, 172)]) rfl ?_
      obtain ⟨hg, h⟩ := h
      refine Rn_iast rfl (⟨rfl, (by omega : (0 : Int) ≤ 172), (by omega : (172 : Int) + 1 < K ∧ 5 < K)⟩) hg (fun g6 he_g6 => ?_)
      have h := h g6 he_g6
      refine Rn_pure 1 (i' := 87) (L' := [some (2, 161), some (0, l1), some (0, 0), some (0, x5), none]) (st' := [(2, 161)]) rfl ?_
      refine Rn_getR rfl (⟨rfl, (by omega : (0 : Int) ≤ 161), (by omega : (161 : Int) + 1 < K ∧ 5 < K)⟩) (hr 147 _ rfl) (by decide) ?_
      refine Rn_pure 4 (i' := 92) (L' := [some (2, 161), some (0, l1), some (0, 0), some (0, x5), none]) (st' := [(0, (-2)), (0, l1 + 1), (2, 172)]) rfl ?_
      obtain ⟨hg, h⟩ := h
      refine Rn_iast rfl (⟨rfl, (by omega : (0 : Int) ≤ 172), (by omega : (172 : Int) + 1 < K ∧ 5 < K)⟩) hg (fun g7 he_g7 => ?_)
      have h := h g7 he_g7
      refine Rn_pure 1 (i' := 94) (L' := [some (2, 161), some (0, l1), some (0, 0), some (0, x5), none]) (st' := [(2, 161)]) rfl ?_
      refine Rn_getR rfl (⟨rfl, (by omega : (0 : Int) ≤ 161), (by omega : (161 : Int) + 1 < K ∧ 5 < K)⟩) (hr 147 _ rfl) (by decide) ?_
      refine Rn_pure 4 (i' := 99) (L' := [some (2, 161), some (0, l1), some (0, 0), some (0, x5), none]) (st' := [(0, 0), (0, l1 + 2), (2, 172)]) rfl ?_
      obtain ⟨hg, h⟩ := h
      refine Rn_iast rfl (⟨rfl, (by omega : (0 : Int) ≤ 172), (by omega : (172 : Int) + 1 < K ∧ 5 < K)⟩) hg (fun g8 he_g8 => ?_)
      have h := h g8 he_g8
      refine Rn_pure 1 (i' := 101) (L' := [some (2, 161), some (0, l1), some (0, 0), some (0, x5), none]) (st' := [(2, 161)]) rfl ?_
      refine Rn_getR rfl (⟨rfl, (by omega : (0 : Int) ≤ 161), (by omega : (161 : Int) + 1 < K ∧ 5 < K)⟩) (hr 147 _ rfl) (by decide) ?_
      refine Rn_pure 4 (i' := 106) (L' := [some (2, 161), some (0, l1), some (0, 0), some (0, x5), none]) (st' := [(0, x5), (0, l1 + 3), (2, 172)]) rfl ?_
      obtain ⟨hg, h⟩ := h
      refine Rn_iast rfl (⟨rfl, (by omega : (0 : Int) ≤ 172), (by omega : (172 : Int) + 1 < K ∧ 5 < K)⟩) hg (fun g9 he_g9 => ?_)
      have h := h g9 he_g9
      refine Rn_pure 1 (i' := 108) (L' := [some (2, 161), some (0, l1), some (0, 0), some (0, x5), none]) (st' := [(2, 161)]) rfl ?_
      refine Rn_getR rfl (⟨rfl, (by omega : (0 : Int) ≤ 161), (by omega : (161 : Int) + 1 < K ∧ 5 < K)⟩) (hr 147 _ rfl) (by decide) ?_
      refine Rn_pure 4 (i' := 113) (L' := [some (2, 161), some (0, l1), some (0, 0), some (0, x5), none]) (st' := [(0, 0), (0, l1 + 4), (2, 172)]) rfl ?_
      obtain ⟨hg, h⟩ := h
      refine Rn_iast rfl (⟨rfl, (by omega : (0 : Int) ≤ 172), (by omega : (172 : Int) + 1 < K ∧ 5 < K)⟩) hg (fun g10 he_g10 => ?_)
      have h := h g10 he_g10
      refine Rn_pure 2 (i' := 116) (L' := [some (2, 161), some (0, l1), some (0, 0), some (0, x5), some (0, 0)]) (st' := []) rfl ?_
      refine Rn_weak (L' := [some (2, 161), some (0, l1), some (0, 0), none, some (0, 0)]) ⟨rfl, ⟨rfl, ⟨rfl, ⟨rfl, trivial⟩⟩⟩⟩ ?_
      exact h
    · have h := h.2 hc
      exact Rn_ret0 rfl h
  · have h := h.2 hc
    refine Rn_pure 1 (i' := 63) (L' := [some (2, 161), some (0, l1), none, none, none]) (st' := [(2, 161)]) rfl ?_
    refine Rn_getI rfl (⟨rfl, (by omega : (0 : Int) ≤ 161), (by omega : (161 : Int) + 1 < K ∧ 5 < K)⟩) ?_
    refine Rn_pure 3 (i' := 68) (L' := [some (2, 161), some (0, l1), some (0, g 161 21), none, none]) (st' := [(2, 161)]) rfl ?_
    refine Rn_callV [(2, 161)] [] rfl rfl rfl rfl (ab_rvB_of rfl (⟨rfl, (by omega : (0 : Int) ≤ 161), (by omega : (161 : Int) + 1 < K ∧ 5 < K)⟩)) ?_
    refine h.mono (fun g11 r' h => ?_)
    obtain ⟨hx, h⟩ := h
    replace hx := hx.symm
    subst hx
    refine Rn_pure 2 (i' := 71) (L' := [some (2, 161), some (0, l1), some (0, g 161 21), none, none]) (st' := [(2, 161), (2, 161)]) rfl ?_
    refine Rn_callI [(2, 161)] [(2, 161)] rfl rfl rfl rfl (ab_rvB_of rfl (⟨rfl, (by omega : (0 : Int) ≤ 161), (by omega : (161 : Int) + 1 < K ∧ 5 < K)⟩)) ?_
    refine h.mono (fun x13 g' r' h => ?_)
    obtain ⟨hx, h⟩ := h
    replace hx := hx.symm
    subst hx
    obtain ⟨hx, h⟩ := h
    replace hx := hx.symm
    subst hx
    refine Rn_pure 1 (i' := 73) (L' := [some (2, 161), some (0, l1), some (0, g 161 21), none, none]) (st' := [(0, 9999), (0, x13), (2, 161)]) rfl ?_
    refine Rn_callI [(2, 161), (0, x13), (0, 9999)] [] rfl rfl rfl rfl (ab_rvB_of rfl (⟨rfl, (by omega : (0 : Int) ≤ 161), (by omega : (161 : Int) + 1 < K ∧ 5 < K)⟩)) ?_
    refine h.mono (fun x15 g14 r' h => ?_)
    obtain ⟨hx, h⟩ := h
    replace hx := hx.symm
    subst hx
    refine Rn_pure 2 (i' := 76) (L' := [some (2, 161), some (0, l1), some (0, g 161 21), some (0, x15), none]) (st' := [(2, 161)]) rfl ?_
    refine Rn_getI rfl (⟨rfl, (by omega : (0 : Int) ≤ 161), (by omega : (161 : Int) + 1 < K ∧ 5 < K)⟩) ?_
    refine Rn_ifeq rfl (fun hc => ?_) (fun hc => ?_)
    · have h := h.1 hc
      refine Rn_pure 1 (i' := 80) (L' := [some (2, 161), some (0, l1), some (0, g 161 21), some (0, x15), none]) (st' := [(2, 161)]) rfl ?_
      refine Rn_getR rfl (⟨rfl, (by omega : (0 : Int) ≤ 161), (by omega : (161 : Int) + 1 < K ∧ 5 < K)⟩) (hr 147 _ rfl) (by decide) ?_
      refine Rn_pure 4 (i' := 85) (L' := [some (2, 161), some (0, l1), some (0, g 161 21), some (0, x15), none]) (st' := [(0, 7), (0, l1 + 0), (2, 172)]) rfl ?_
      obtain ⟨hg, h⟩ := h
      refine Rn_iast rfl (⟨rfl, (by omega : (0 : Int) ≤ 172), (by omega : (172 : Int) + 1 < K ∧ 5 < K)⟩) hg (fun g16 he_g16 => ?_)
      have h := h g16 he_g16
      refine Rn_pure 1 (i' := 87) (L' := [some (2, 161), some (0, l1), some (0, g 161 21), some (0, x15), none]) (st' := [(2, 161)]) rfl ?_
      refine Rn_getR rfl (⟨rfl, (by omega : (0 : Int) ≤ 161), (by omega : (161 : Int) + 1 < K ∧ 5 < K)⟩) (hr 147 _ rfl) (by decide) ?_
      refine Rn_pure 4 (i' := 92) (L' := [some (2, 161), some (0, l1), some (0, g 161 21), some (0, x15), none]) (st' := [(0, (-2)), (0, l1 + 1), (2, 172)]) rfl ?_
      obtain ⟨hg, h⟩ := h
      refine Rn_iast rfl (⟨rfl, (by omega : (0 : Int) ≤ 172), (by omega : (172 : Int) + 1 < K ∧ 5 < K)⟩) hg (fun g17 he_g17 => ?_)
      have h := h g17 he_g17
      refine Rn_pure 1 (i' := 94) (L' := [some (2, 161), some (0, l1), some (0, g 161 21), some (0, x15), none]) (st' := [(2, 161)]) rfl ?_
      refine Rn_getR rfl (⟨rfl, (by omega : (0 : Int) ≤ 161), (by omega : (161 : Int) + 1 < K ∧ 5 < K)⟩) (hr 147 _ rfl) (by decide) ?_
      refine Rn_pure 4 (i' := 99) (L' := [some (2, 161), some (0, l1), some (0, g 161 21), some (0, x15), none]) (st' := [(0, g 161 21), (0, l1 + 2), (2, 172)]) rfl ?_
      obtain ⟨hg, h⟩ := h
      refine Rn_iast rfl (⟨rfl, (by omega : (0 : Int) ≤ 172), (by omega : (172 : Int) + 1 < K ∧ 5 < K)⟩) hg (fun g18 he_g18 => ?_)
      have h := h g18 he_g18
      refine Rn_pure 1 (i' := 101) (L' := [some (2, 161), some (0, l1), some (0, g 161 21), some (0, x15), none]) (st' := [(2, 161)]) rfl ?_
      refine Rn_getR rfl (⟨rfl, (by omega : (0 : Int) ≤ 161), (by omega : (161 : Int) + 1 < K ∧ 5 < K)⟩) (hr 147 _ rfl) (by decide) ?_
      refine Rn_pure 4 (i' := 106) (L' := [some (2, 161), some (0, l1), some (0, g 161 21), some (0, x15), none]) (st' := [(0, x15), (0, l1 + 3), (2, 172)]) rfl ?_
      obtain ⟨hg, h⟩ := h
      refine Rn_iast rfl (⟨rfl, (by omega : (0 : Int) ≤ 172), (by omega : (172 : Int) + 1 < K ∧ 5 < K)⟩) hg (fun g19 he_g19 => ?_)
      have h := h g19 he_g19
      refine Rn_pure 1 (i' := 108) (L' := [some (2, 161), some (0, l1), some (0, g 161 21), some (0, x15), none]) (st' := [(2, 161)]) rfl ?_
      refine Rn_getR rfl (⟨rfl, (by omega : (0 : Int) ≤ 161), (by omega : (161 : Int) + 1 < K ∧ 5 < K)⟩) (hr 147 _ rfl) (by decide) ?_
      refine Rn_pure 4 (i' := 113) (L' := [some (2, 161), some (0, l1), some (0, g 161 21), some (0, x15), none]) (st' := [(0, 0), (0, l1 + 4), (2, 172)]) rfl ?_
      obtain ⟨hg, h⟩ := h
      refine Rn_iast rfl (⟨rfl, (by omega : (0 : Int) ≤ 172), (by omega : (172 : Int) + 1 < K ∧ 5 < K)⟩) hg (fun g20 he_g20 => ?_)
      have h := h g20 he_g20
      refine Rn_pure 2 (i' := 116) (L' := [some (2, 161), some (0, l1), some (0, g 161 21), some (0, x15), some (0, 0)]) (st' := []) rfl ?_
      refine Rn_weak (L' := [some (2, 161), some (0, l1), some (0, g 161 21), none, some (0, 0)]) ⟨rfl, ⟨rfl, ⟨rfl, ⟨rfl, trivial⟩⟩⟩⟩ ?_
      exact h
    · have h := h.2 hc
      exact Rn_ret0 rfl h
theorem v_M_readRevoke_116 {K : Int} {S : Nat} {g r : ab_H} {l1 l2 l4 : Int} (P : ab_H → ab_H → Prop) (hr : SI r) (hK : 186 ≤ K) (h : ((wr 3 ≤ wr l4 → ab_RI m_M_reading [(2, 161), (0, 5)] K S g r (fun x1 g' r' => g' = g ∧ r' = r ∧ (((0 : Int) ≤ l2 ∧ (l2 : Int) < 50) ∧ ∀ g2, g2 = ab_up g 173 l2 x1 → ab_RI m_M_reading [(2, 161), (0, 5)] K S g2 r (fun x3 g' r' => g' = g2 ∧ r' = r ∧ (((0 : Int) ≤ x3 ∧ (x3 : Int) < 50) ∧ ∀ g4, g4 = ab_up g2 173 x3 (-2) → ab_RI m_M_reading [(2, 161), (0, 5)] K S g4 r (fun x5 g' r' => g' = g4 ∧ r' = r ∧ (ab_RV m_M_reads [(2, 161), (0, 5), (0, x5 + 1)] K S g4 r (fun g6 r' => r' = r ∧ (P g6 r))))))))) ∧ (wr l4 < wr 3 → ((0 : Int) ≤ l1 + 5 + l4 ∧ (l1 + 5 + l4 : Int) < 400) ∧ ∀ g8, g8 = ab_up g 172 (l1 + 5 + l4) 0 → ab_Rn m_M_readRevoke 116 [some (2, 161), some (0, l1), some (0, l2), none, some (0, l4 + 1)] [] (K, S, g8, r) (ab_Qv K S P)))) : ab_Rn m_M_readRevoke 116 [some (2, 161), some (0, l1), some (0, l2), none, some (0, l4)] [] (K, S, g, r) (ab_Qv K S P) := by
  refine Rn_pure 2 (i' := 118) (L' := [some (2, 161), some (0, l1), some (0, l2), none, some (0, l4)]) (st' := [(0, 3), (0, l4)]) rfl ?_
  refine Rn_icge rfl (fun hc => ?_) (fun hc => ?_)
  · have h := h.1 hc
    refine Rn_pure 1 (i' := 131) (L' := [some (2, 161), some (0, l1), some (0, l2), none, some (0, l4)]) (st' := [(2, 161)]) rfl ?_
    refine Rn_getR rfl (⟨rfl, (by omega : (0 : Int) ≤ 161), (by omega : (161 : Int) + 1 < K ∧ 5 < K)⟩) (hr 148 _ rfl) (by decide) ?_
    refine Rn_pure 3 (i' := 135) (L' := [some (2, 161), some (0, l1), some (0, l2), none, some (0, l4)]) (st' := [(0, 5), (2, 161), (0, l2), (2, 173)]) rfl ?_
    refine Rn_callI [(2, 161), (0, 5)] [(0, l2), (2, 173)] rfl rfl rfl rfl (ab_rvB_of rfl (⟨rfl, (by omega : (0 : Int) ≤ 161), (by omega : (161 : Int) + 1 < K ∧ 5 < K)⟩)) ?_
    refine h.mono (fun x1 g' r' h => ?_)
    obtain ⟨hx, h⟩ := h
    replace hx := hx.symm
    subst hx
    obtain ⟨hx, h⟩ := h
    replace hx := hx.symm
    subst hx
    obtain ⟨hg, h⟩ := h
    refine Rn_iast rfl (⟨rfl, (by omega : (0 : Int) ≤ 173), (by omega : (173 : Int) + 1 < K ∧ 5 < K)⟩) hg (fun g2 he_g2 => ?_)
    have h := h g2 he_g2
    refine Rn_pure 1 (i' := 138) (L' := [some (2, 161), some (0, l1), some (0, l2), none, some (0, l4)]) (st' := [(2, 161)]) rfl ?_
    refine Rn_getR rfl (⟨rfl, (by omega : (0 : Int) ≤ 161), (by omega : (161 : Int) + 1 < K ∧ 5 < K)⟩) (hr 148 _ rfl) (by decide) ?_
    refine Rn_pure 2 (i' := 141) (L' := [some (2, 161), some (0, l1), some (0, l2), none, some (0, l4)]) (st' := [(0, 5), (2, 161), (2, 173)]) rfl ?_
    refine Rn_callI [(2, 161), (0, 5)] [(2, 173)] rfl rfl rfl rfl (ab_rvB_of rfl (⟨rfl, (by omega : (0 : Int) ≤ 161), (by omega : (161 : Int) + 1 < K ∧ 5 < K)⟩)) ?_
    refine h.mono (fun x3 g' r' h => ?_)
    obtain ⟨hx, h⟩ := h
    replace hx := hx.symm
    subst hx
    obtain ⟨hx, h⟩ := h
    replace hx := hx.symm
    subst hx
    refine Rn_pure 1 (i' := 143) (L' := [some (2, 161), some (0, l1), some (0, l2), none, some (0, l4)]) (st' := [(0, (-2)), (0, x3), (2, 173)]) rfl ?_
    obtain ⟨hg, h⟩ := h
    refine Rn_iast rfl (⟨rfl, (by omega : (0 : Int) ≤ 173), (by omega : (173 : Int) + 1 < K ∧ 5 < K)⟩) hg (fun g4 he_g4 => ?_)
    have h := h g4 he_g4
    refine Rn_pure 4 (i' := 148) (L' := [some (2, 161), some (0, l1), some (0, l2), none, some (0, l4)]) (st' := [(0, 5), (2, 161), (0, 5), (2, 161)]) rfl ?_
    refine Rn_callI [(2, 161), (0, 5)] [(0, 5), (2, 161)] rfl rfl rfl rfl (ab_rvB_of rfl (⟨rfl, (by omega : (0 : Int) ≤ 161), (by omega : (161 : Int) + 1 < K ∧ 5 < K)⟩)) ?_
    refine h.mono (fun x5 g' r' h => ?_)
    obtain ⟨hx, h⟩ := h
    replace hx := hx.symm
    subst hx
    obtain ⟨hx, h⟩ := h
    replace hx := hx.symm
    subst hx
    refine Rn_pure 2 (i' := 151) (L' := [some (2, 161), some (0, l1), some (0, l2), none, some (0, l4)]) (st' := [(0, x5 + 1), (0, 5), (2, 161)]) rfl ?_
    refine Rn_callV [(2, 161), (0, 5), (0, x5 + 1)] [] rfl rfl rfl rfl (ab_rvB_of rfl (⟨rfl, (by omega : (0 : Int) ≤ 161), (by omega : (161 : Int) + 1 < K ∧ 5 < K)⟩)) ?_
    refine h.mono (fun g6 r' h => ?_)
    obtain ⟨hx, h⟩ := h
    replace hx := hx.symm
    subst hx
    exact Rn_ret0 rfl h
  · have h := h.2 hc
    refine Rn_pure 1 (i' := 120) (L' := [some (2, 161), some (0, l1), some (0, l2), none, some (0, l4)]) (st' := [(2, 161)]) rfl ?_
    refine Rn_getR rfl (⟨rfl, (by omega : (0 : Int) ≤ 161), (by omega : (161 : Int) + 1 < K ∧ 5 < K)⟩) (hr 147 _ rfl) (by decide) ?_
    refine Rn_pure 6 (i' := 127) (L' := [some (2, 161), some (0, l1), some (0, l2), none, some (0, l4)]) (st' := [(0, 0), (0, l1 + 5 + l4), (2, 172)]) rfl ?_
    obtain ⟨hg, h⟩ := h
    refine Rn_iast rfl (⟨rfl, (by omega : (0 : Int) ≤ 172), (by omega : (172 : Int) + 1 < K ∧ 5 < K)⟩) hg (fun g8 he_g8 => ?_)
    have h := h g8 he_g8
    refine Rn_pure 2 (i' := 116) (L' := [some (2, 161), some (0, l1), some (0, l2), none, some (0, l4 + 1)]) (st' := []) rfl ?_
    exact h
