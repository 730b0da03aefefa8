-- EventLedgerModel.cost (I)I
theorem v_M_cost {K : Int} {S : Nat} {g r : ab_H} {p1 : Int} (P : Int → ab_H → ab_H → Prop) (hr : SI r) (hK : 186 ≤ K) (h : ∀ g1, g1 = ab_up g 161 0 0 → ((wr p1 < wr 0 → P (-1) g1 r) ∧ (wr 0 ≤ wr p1 → ab_RI m_M_many [(2, 161)] K S g1 r (fun x2 g' r' => g' = g1 ∧ r' = r ∧ (((wr x2 < wr p1 → P (-1) g1 r) ∧ (wr p1 ≤ wr x2 → ab_RI m_M_costOf [(2, 161), (0, p1)] K S g1 r (fun x3 g' r' => g' = g1 ∧ r' = r ∧ (P x3 g1 r))))))))) : ab_RI m_M_cost [(2, 161), (0, p1)] K S g r P := by
  show ab_Rn m_M_cost 0 [some (2, 161), some (0, p1)] [] (K, S, g, r) (ab_Qi K S P)
  refine Rn_pure 2 (i' := 2) (L' := [some (2, 161), some (0, p1)]) (st' := [(0, 0), (2, 161)]) rfl ?_
  refine Rn_putI rfl (⟨rfl, (by omega : (0 : Int) ≤ 161), (by omega : (161 : Int) + 1 < K ∧ 5 < K)⟩) (fun g1 he_g1 => ?_)
  have h := h g1 he_g1
  refine Rn_pure 1 (i' := 4) (L' := [some (2, 161), some (0, p1)]) (st' := [(0, p1)]) rfl ?_
  refine Rn_iflt rfl (fun hc => ?_) (fun hc => ?_)
  · have h := h.1 hc
    refine Rn_pure 1 (i' := 14) (L' := [some (2, 161), some (0, p1)]) (st' := [(0, (-1))]) rfl ?_
    exact Rn_ret1 rfl h
  · have h := h.2 hc
    refine Rn_pure 2 (i' := 7) (L' := [some (2, 161), some (0, p1)]) (st' := [(2, 161), (0, p1)]) rfl ?_
    refine Rn_callI [(2, 161)] [(0, p1)] rfl rfl rfl rfl (ab_rvB_of rfl (⟨rfl, (by omega : (0 : Int) ≤ 161), (by omega : (161 : Int) + 1 < K ∧ 5 < K)⟩)) ?_
    refine h.mono (fun x2 g' r' h => ?_)
    obtain ⟨hx, h⟩ := h
    replace hx := hx.symm
    subst hx
    obtain ⟨hx, h⟩ := h
    replace hx := hx.symm
    subst hx
    refine Rn_icgt rfl (fun hc => ?_) (fun hc => ?_)
    · have h := h.1 hc
      refine Rn_pure 1 (i' := 14) (L' := [some (2, 161), some (0, p1)]) (st' := [(0, (-1))]) rfl ?_
      exact Rn_ret1 rfl h
    · have h := h.2 hc
      refine Rn_pure 2 (i' := 11) (L' := [some (2, 161), some (0, p1)]) (st' := [(0, p1), (2, 161)]) rfl ?_
      refine Rn_callI [(2, 161), (0, p1)] [] rfl rfl rfl rfl (ab_rvB_of rfl (⟨rfl, (by omega : (0 : Int) ≤ 161), (by omega : (161 : Int) + 1 < K ∧ 5 < K)⟩)) ?_
      refine h.mono (fun x3 g' r' h => ?_)
      obtain ⟨hx, h⟩ := h
      replace hx := hx.symm
      subst hx
      obtain ⟨hx, h⟩ := h
      replace hx := hx.symm
      subst hx
      refine Rn_pure 1 (i' := 14) (L' := [some (2, 161), some (0, p1)]) (st' := [(0, x3)]) rfl ?_
      exact Rn_ret1 rfl h
-- EventLedgerModel.costAt (I)I
theorem v_M_costAt {K : Int} {S : Nat} {g r : ab_H} {p1 : Int} (P : Int → ab_H → ab_H → Prop) (hr : SI r) (hK : 186 ≤ K) (h : ∀ g1, g1 = ab_up g 161 0 0 → ab_RI m_M_isTime [(0, p1)] K S g1 r (fun x2 g' r' => g' = g1 ∧ r' = r ∧ (((wr x2 = wr 0 → P (-1) g1 r) ∧ (¬ wr x2 = wr 0 → ab_RI m_M_placeAt [(2, 161), (0, p1)] K S g1 r (fun x3 g' r' => g' = g1 ∧ r' = r ∧ (ab_RI m_M_costOf [(2, 161), (0, x3)] K S g1 r (fun x4 g' r' => g' = g1 ∧ r' = r ∧ (P x4 g1 r))))))))) : ab_RI m_M_costAt [(2, 161), (0, p1)] K S g r P := by
  show ab_Rn m_M_costAt 0 [some (2, 161), some (0, p1)] [] (K, S, g, r) (ab_Qi K S P)
  refine Rn_pure 2 (i' := 2) (L' := [some (2, 161), some (0, p1)]) (st' := [(0, 0), (2, 161)]) rfl ?_
  refine Rn_putI rfl (⟨rfl, (by omega : (0 : Int) ≤ 161), (by omega : (161 : Int) + 1 < K ∧ 5 < K)⟩) (fun g1 he_g1 => ?_)
  have h := h g1 he_g1
  refine Rn_pure 1 (i' := 4) (L' := [some (2, 161), some (0, p1)]) (st' := [(0, p1)]) rfl ?_
  refine Rn_callI [(0, p1)] [] rfl rfl rfl rfl (rfl) ?_
  refine h.mono (fun x2 g' r' h => ?_)
  obtain ⟨hx, h⟩ := h
  replace hx := hx.symm
  subst hx
  obtain ⟨hx, h⟩ := h
  replace hx := hx.symm
  subst hx
  refine Rn_ifeq rfl (fun hc => ?_) (fun hc => ?_)
  · have h := h.1 hc
    refine Rn_pure 1 (i' := 13) (L' := [some (2, 161), some (0, p1)]) (st' := [(0, (-1))]) rfl ?_
    exact Rn_ret1 rfl h
  · have h := h.2 hc
    refine Rn_pure 3 (i' := 9) (L' := [some (2, 161), some (0, p1)]) (st' := [(0, p1), (2, 161), (2, 161)]) rfl ?_
    refine Rn_callI [(2, 161), (0, p1)] [(2, 161)] rfl rfl rfl rfl (ab_rvB_of rfl (⟨rfl, (by omega : (0 : Int) ≤ 161), (by omega : (161 : Int) + 1 < K ∧ 5 < K)⟩)) ?_
    refine h.mono (fun x3 g' r' h => ?_)
    obtain ⟨hx, h⟩ := h
    replace hx := hx.symm
    subst hx
    obtain ⟨hx, h⟩ := h
    replace hx := hx.symm
    subst hx
    refine Rn_callI [(2, 161), (0, x3)] [] rfl rfl rfl rfl (ab_rvB_of rfl (⟨rfl, (by omega : (0 : Int) ≤ 161), (by omega : (161 : Int) + 1 < K ∧ 5 < K)⟩)) ?_
    refine h.mono (fun x4 g' r' h => ?_)
    obtain ⟨hx, h⟩ := h
    replace hx := hx.symm
    subst hx
    obtain ⟨hx, h⟩ := h
    replace hx := hx.symm
    subst hx
    refine Rn_pure 1 (i' := 13) (L' := [some (2, 161), some (0, p1)]) (st' := [(0, x4)]) rfl ?_
    exact Rn_ret1 rfl h
-- EventLedgerModel.snapshot (I)I
theorem v_M_snapshot {K : Int} {S : Nat} {g r : ab_H} {p1 : Int} (P : Int → ab_H → ab_H → Prop) (hr : SI r) (hK : 186 ≤ K) (h : ∀ g1, g1 = ab_up g 161 0 0 → ((wr 0 ≤ wr p1 → ((0 : Int) ≤ 1081 ∧ (1081 : Int) < 1607) ∧ ((wr (g1 174 1081) ≤ wr p1 → P (-2) g1 r) ∧ (wr p1 < wr (g1 174 1081) → ab_RI m_M_snapAt [(2, 161), (0, p1)] K S g1 r (fun x2 g' r' => g' = g1 ∧ r' = r ∧ (P x2 g1 r))))) ∧ (wr p1 < wr 0 → P (-1) g1 r))) : ab_RI m_M_snapshot [(2, 161), (0, p1)] K S g r P := by
  show ab_Rn m_M_snapshot 0 [some (2, 161), some (0, p1)] [] (K, S, g, r) (ab_Qi K S P)
  refine Rn_pure 2 (i' := 2) (L' := [some (2, 161), some (0, p1)]) (st' := [(0, 0), (2, 161)]) rfl ?_
  refine Rn_putI rfl (⟨rfl, (by omega : (0 : Int) ≤ 161), (by omega : (161 : Int) + 1 < K ∧ 5 < K)⟩) (fun g1 he_g1 => ?_)
  have h := h g1 he_g1
  refine Rn_pure 1 (i' := 4) (L' := [some (2, 161), some (0, p1)]) (st' := [(0, p1)]) rfl ?_
  refine Rn_ifge rfl (fun hc => ?_) (fun hc => ?_)
  · have h := h.1 hc
    refine Rn_pure 2 (i' := 9) (L' := [some (2, 161), some (0, p1)]) (st' := [(2, 161), (0, p1)]) rfl ?_
    refine Rn_getR rfl (⟨rfl, (by omega : (0 : Int) ≤ 161), (by omega : (161 : Int) + 1 < K ∧ 5 < K)⟩) (hr 149 _ rfl) (by decide) ?_
    refine Rn_pure 1 (i' := 11) (L' := [some (2, 161), some (0, p1)]) (st' := [(0, 1081), (2, 174), (0, p1)]) rfl ?_
    obtain ⟨hg, h⟩ := h
    refine Rn_iald rfl (⟨rfl, (by omega : (0 : Int) ≤ 174), (by omega : (174 : Int) + 1 < K ∧ 5 < K)⟩) hg ?_
    refine Rn_icge rfl (fun hc => ?_) (fun hc => ?_)
    · have h := h.1 hc
      refine Rn_pure 1 (i' := 18) (L' := [some (2, 161), some (0, p1)]) (st' := [(0, (-2))]) rfl ?_
      exact Rn_ret1 rfl h
    · have h := h.2 hc
      refine Rn_pure 2 (i' := 15) (L' := [some (2, 161), some (0, p1)]) (st' := [(0, p1), (2, 161)]) rfl ?_
      refine Rn_callI [(2, 161), (0, p1)] [] rfl rfl rfl rfl (ab_rvB_of rfl (⟨rfl, (by omega : (0 : Int) ≤ 161), (by omega : (161 : Int) + 1 < K ∧ 5 < K)⟩)) ?_
      refine h.mono (fun x2 g' r' h => ?_)
      obtain ⟨hx, h⟩ := h
      replace hx := hx.symm
      subst hx
      obtain ⟨hx, h⟩ := h
      replace hx := hx.symm
      subst hx
      refine Rn_pure 1 (i' := 18) (L' := [some (2, 161), some (0, p1)]) (st' := [(0, x2)]) rfl ?_
      exact Rn_ret1 rfl h
  · have h := h.2 hc
    refine Rn_pure 2 (i' := 18) (L' := [some (2, 161), some (0, p1)]) (st' := [(0, (-1))]) rfl ?_
    exact Rn_ret1 rfl h
-- EventLedgerModel.inSnapshot (III)I
theorem v_M_inSnapshot {K : Int} {S : Nat} {g r : ab_H} {p1 p2 p3 : Int} (P : Int → ab_H → ab_H → Prop) (hr : SI r) (hK : 186 ≤ K) (h : ∀ g1, g1 = ab_up g 161 0 0 → ((wr p1 < wr 0 → P (-2147483648) g1 r) ∧ (wr 0 ≤ wr p1 → ((0 : Int) ≤ 1081 ∧ (1081 : Int) < 1607) ∧ ((wr (g1 174 1081) ≤ wr p1 → P (-2147483648) g1 r) ∧ (wr p1 < wr (g1 174 1081) → ab_RI m_M_isAccount [(2, 161), (0, p2)] K S g1 r (fun x2 g' r' => g' = g1 ∧ r' = r ∧ (((wr x2 = wr 0 → P (-2147483648) g1 r) ∧ (¬ wr x2 = wr 0 → ab_RI m_M_isWhat [(0, p3)] K S g1 r (fun x3 g' r' => g' = g1 ∧ r' = r ∧ (((¬ wr x3 = wr 0 → ab_RI m_M_snapAt [(2, 161), (0, p1)] K S g1 r (fun x4 g' r' => g' = g1 ∧ r' = r ∧ (ab_RV m_M_replays [(2, 161), (0, x4), (0, (-1)), (0, 120), (0, (-1))] K S g1 r (fun g5 r' => r' = r ∧ (ab_RI m_M_has [(2, 161), (0, p2), (0, p3)] K S g5 r (fun x7 g' r' => g' = g5 ∧ r' = r ∧ (P x7 g5 r))))))) ∧ (wr x3 = wr 0 → P (-2147483648) g1 r))))))))))))) : ab_RI m_M_inSnapshot [(2, 161), (0, p1), (0, p2), (0, p3)] K S g r P := by
  show ab_Rn m_M_inSnapshot 0 [some (2, 161), some (0, p1), some (0, p2), some (0, p3)] [] (K, S, g, r) (ab_Qi K S P)
  refine Rn_pure 2 (i' := 2) (L' := [some (2, 161), some (0, p1), some (0, p2), some (0, p3)]) (st' := [(0, 0), (2, 161)]) rfl ?_
  refine Rn_putI rfl (⟨rfl, (by omega : (0 : Int) ≤ 161), (by omega : (161 : Int) + 1 < K ∧ 5 < K)⟩) (fun g1 he_g1 => ?_)
  have h := h g1 he_g1
  refine Rn_pure 1 (i' := 4) (L' := [some (2, 161), some (0, p1), some (0, p2), some (0, p3)]) (st' := [(0, p1)]) rfl ?_
  refine Rn_iflt rfl (fun hc => ?_) (fun hc => ?_)
  · have h := h.1 hc
    refine Rn_pure 1 (i' := 19) (L' := [some (2, 161), some (0, p1), some (0, p2), some (0, p3)]) (st' := [(0, (-2147483648))]) rfl ?_
    exact Rn_ret1 rfl h
  · have h := h.2 hc
    refine Rn_pure 2 (i' := 7) (L' := [some (2, 161), some (0, p1), some (0, p2), some (0, p3)]) (st' := [(2, 161), (0, p1)]) rfl ?_
    refine Rn_getR rfl (⟨rfl, (by omega : (0 : Int) ≤ 161), (by omega : (161 : Int) + 1 < K ∧ 5 < K)⟩) (hr 149 _ rfl) (by decide) ?_
    refine Rn_pure 1 (i' := 9) (L' := [some (2, 161), some (0, p1), some (0, p2), some (0, p3)]) (st' := [(0, 1081), (2, 174), (0, p1)]) rfl ?_
    obtain ⟨hg, h⟩ := h
    refine Rn_iald rfl (⟨rfl, (by omega : (0 : Int) ≤ 174), (by omega : (174 : Int) + 1 < K ∧ 5 < K)⟩) hg ?_
    refine Rn_icge rfl (fun hc => ?_) (fun hc => ?_)
    · have h := h.1 hc
      refine Rn_pure 1 (i' := 19) (L' := [some (2, 161), some (0, p1), some (0, p2), some (0, p3)]) (st' := [(0, (-2147483648))]) rfl ?_
      exact Rn_ret1 rfl h
    · have h := h.2 hc
      refine Rn_pure 2 (i' := 13) (L' := [some (2, 161), some (0, p1), some (0, p2), some (0, p3)]) (st' := [(0, p2), (2, 161)]) rfl ?_
      refine Rn_callI [(2, 161), (0, p2)] [] rfl rfl rfl rfl (ab_rvB_of rfl (⟨rfl, (by omega : (0 : Int) ≤ 161), (by omega : (161 : Int) + 1 < K ∧ 5 < K)⟩)) ?_
      refine h.mono (fun x2 g' r' h => ?_)
      obtain ⟨hx, h⟩ := h
      replace hx := hx.symm
      subst hx
      obtain ⟨hx, h⟩ := h
      replace hx := hx.symm
      subst hx
      refine Rn_ifeq rfl (fun hc => ?_) (fun hc => ?_)
      · have h := h.1 hc
        refine Rn_pure 1 (i' := 19) (L' := [some (2, 161), some (0, p1), some (0, p2), some (0, p3)]) (st' := [(0, (-2147483648))]) rfl ?_
        exact Rn_ret1 rfl h
      · have h := h.2 hc
        refine Rn_pure 1 (i' := 16) (L' := [some (2, 161), some (0, p1), some (0, p2), some (0, p3)]) (st' := [(0, p3)]) rfl ?_
        refine Rn_callI [(0, p3)] [] rfl rfl rfl rfl (rfl) ?_
        refine h.mono (fun x3 g' r' h => ?_)
        obtain ⟨hx, h⟩ := h
        replace hx := hx.symm
        subst hx
        obtain ⟨hx, h⟩ := h
        replace hx := hx.symm
        subst hx
        refine Rn_ifne rfl (fun hc => ?_) (fun hc => ?_)
        · have h := h.1 hc
          refine Rn_pure 3 (i' := 23) (L' := [some (2, 161), some (0, p1), some (0, p2), some (0, p3)]) (st' := [(0, p1), (2, 161), (2, 161)]) rfl ?_
          refine Rn_callI [(2, 161), (0, p1)] [(2, 161)] rfl rfl rfl rfl (ab_rvB_of rfl (⟨rfl, (by omega : (0 : Int) ≤ 161), (by omega : (161 : Int) + 1 < K ∧ 5 < K)⟩)) ?_
          refine h.mono (fun x4 g' r' h => ?_)
          obtain ⟨hx, h⟩ := h
          replace hx := hx.symm
          subst hx
          obtain ⟨hx, h⟩ := h
          replace hx := hx.symm
          subst hx
          refine Rn_pure 3 (i' := 27) (L' := [some (2, 161), some (0, p1), some (0, p2), some (0, p3)]) (st' := [(0, (-1)), (0, 120), (0, (-1)), (0, x4), (2, 161)]) rfl ?_
          refine Rn_callV [(2, 161), (0, x4), (0, (-1)), (0, 120), (0, (-1))] [] rfl rfl rfl rfl (ab_rvB_of rfl (⟨rfl, (by omega : (0 : Int) ≤ 161), (by omega : (161 : Int) + 1 < K ∧ 5 < K)⟩)) ?_
          refine h.mono (fun g5 r' h => ?_)
          obtain ⟨hx, h⟩ := h
          replace hx := hx.symm
          subst hx
          refine Rn_pure 3 (i' := 31) (L' := [some (2, 161), some (0, p1), some (0, p2), some (0, p3)]) (st' := [(0, p3), (0, p2), (2, 161)]) rfl ?_
          refine Rn_callI [(2, 161), (0, p2), (0, p3)] [] rfl rfl rfl rfl (ab_rvB_of rfl (⟨rfl, (by omega : (0 : Int) ≤ 161), (by omega : (161 : Int) + 1 < K ∧ 5 < K)⟩)) ?_
          refine h.mono (fun x7 g' r' h => ?_)
          obtain ⟨hx, h⟩ := h
          replace hx := hx.symm
          subst hx
          obtain ⟨hx, h⟩ := h
          replace hx := hx.symm
          subst hx
          exact Rn_ret1 rfl h
        · have h := h.2 hc
          refine Rn_pure 1 (i' := 19) (L' := [some (2, 161), some (0, p1), some (0, p2), some (0, p3)]) (st' := [(0, (-2147483648))]) rfl ?_
          exact Rn_ret1 rfl h
-- EventLedgerModel.costsWith (I)I
theorem v_M_costsWith {K : Int} {S : Nat} {g r : ab_H} {p1 : Int} (P : Int → ab_H → ab_H → Prop) (hr : SI r) (hK : 186 ≤ K) (h : ab_Rn m_M_costsWith 4 [some (2, 161), some (0, p1), some (0, 0), some (0, 0), none, none] [] (K, S, g, r) (ab_Qi K S P)) : ab_RI m_M_costsWith [(2, 161), (0, p1)] K S g r P := by
  show ab_Rn m_M_costsWith 0 [some (2, 161), some (0, p1), none, none, none, none] [] (K, S, g, r) (ab_Qi K S P)
  refine Rn_pure 4 (i' := 4) (L' := [some (2, 161), some (0, p1), some (0, 0), some (0, 0), none, none]) (st' := []) rfl ?_
  exact h
theorem v_M_costsWith_4 {K : Int} {S : Nat} {g r : ab_H} {l1 l2 l3 : Int} (P : Int → ab_H → ab_H → Prop) (hr : SI r) (hK : 186 ≤ K) (h : ab_RI m_M_many [(2, 161)] K S g r (fun x1 g' r' => g' = g ∧ r' = r ∧ (((wr x1 < wr l3 → P l2 g r) ∧ (wr l3 ≤ wr x1 → ab_RI m_M_costOf [(2, 161), (0, l3)] K S g r (fun x2 g' r' => g' = g ∧ r' = r ∧ (((wr l3 < wr l1 → ((wr x2 ≤ wr x2 → ab_Rn m_M_costsWith 4 [some (2, 161), some (0, l1), some (0, l2 + x2), some (0, l3 + 1), none, none] [] (K, S, g, r) (ab_Qi K S P)) ∧ (wr x2 < wr x2 → ab_Rn m_M_costsWith 4 [some (2, 161), some (0, l1), some (0, l2 + x2), some (0, l3 + 1), none, none] [] (K, S, g, r) (ab_Qi K S P)))) ∧ (wr l1 ≤ wr l3 → ab_RI m_M_weights [(2, 161), (0, l1), (0, l3)] K S g r (fun x3 g' r' => g' = g ∧ r' = r ∧ (((wr x2 ≤ wr x3 → ab_Rn m_M_costsWith 4 [some (2, 161), some (0, l1), some (0, l2 + x2), some (0, l3 + 1), none, none] [] (K, S, g, r) (ab_Qi K S P)) ∧ (wr x3 < wr x2 → ab_Rn m_M_costsWith 4 [some (2, 161), some (0, l1), some (0, l2 + x3), some (0, l3 + 1), none, none] [] (K, S, g, r) (ab_Qi K S P)))))))))))))) : ab_Rn m_M_costsWith 4 [some (2, 161), some (0, l1), some (0, l2), some (0, l3), none, none] [] (K, S, g, r) (ab_Qi K S P) := by
  refine Rn_pure 2 (i' := 6) (L' := [some (2, 161), some (0, l1), some (0, l2), some (0, l3), none, none]) (st' := [(2, 161), (0, l3)]) rfl ?_
  refine Rn_callI [(2, 161)] [(0, l3)] rfl rfl rfl rfl (ab_rvB_of rfl (⟨rfl, (by omega : (0 : Int) ≤ 161), (by omega : (161 : Int) + 1 < K ∧ 5 < K)⟩)) ?_
  refine h.mono (fun x1 g' r' h => ?_)
  obtain ⟨hx, h⟩ := h
  replace hx := hx.symm
  subst hx
  obtain ⟨hx, h⟩ := h
  replace hx := hx.symm
  subst hx
  refine Rn_icgt rfl (fun hc => ?_) (fun hc => ?_)
  · have h := h.1 hc
    refine Rn_pure 1 (i' := 34) (L' := [some (2, 161), some (0, l1), some (0, l2), some (0, l3), none, none]) (st' := [(0, l2)]) rfl ?_
    exact Rn_ret1 rfl h
  · have h := h.2 hc
    refine Rn_pure 2 (i' := 10) (L' := [some (2, 161), some (0, l1), some (0, l2), some (0, l3), none, none]) (st' := [(0, l3), (2, 161)]) rfl ?_
    refine Rn_callI [(2, 161), (0, l3)] [] rfl rfl rfl rfl (ab_rvB_of rfl (⟨rfl, (by omega : (0 : Int) ≤ 161), (by omega : (161 : Int) + 1 < K ∧ 5 < K)⟩)) ?_
    refine h.mono (fun x2 g' r' h => ?_)
    obtain ⟨hx, h⟩ := h
    replace hx := hx.symm
    subst hx
    obtain ⟨hx, h⟩ := h
    replace hx := hx.symm
    subst hx
    refine Rn_pure 3 (i' := 14) (L' := [some (2, 161), some (0, l1), some (0, l2), some (0, l3), some (0, x2), none]) (st' := [(0, l3), (0, l1)]) rfl ?_
    refine Rn_icgt rfl (fun hc => ?_) (fun hc => ?_)
    · have h := h.1 hc
      refine Rn_pure 5 (i' := 25) (L' := [some (2, 161), some (0, l1), some (0, l2), some (0, l3), some (0, x2), some (0, x2)]) (st' := [(0, x2), (0, x2), (0, l2)]) rfl ?_
      refine Rn_icge rfl (fun hc => ?_) (fun hc => ?_)
      · have h := h.1 hc
        refine Rn_pure 5 (i' := 4) (L' := [some (2, 161), some (0, l1), some (0, l2 + x2), some (0, l3 + 1), some (0, x2), some (0, x2)]) (st' := []) rfl ?_
        refine Rn_weak (L' := [some (2, 161), some (0, l1), some (0, l2 + x2), some (0, l3 + 1), none, none]) ⟨rfl, ⟨rfl, ⟨rfl, ⟨rfl, trivial⟩⟩⟩⟩ ?_
        exact h
      · have h := h.2 hc
        refine Rn_pure 6 (i' := 4) (L' := [some (2, 161), some (0, l1), some (0, l2 + x2), some (0, l3 + 1), some (0, x2), some (0, x2)]) (st' := []) rfl ?_
        refine Rn_weak (L' := [some (2, 161), some (0, l1), some (0, l2 + x2), some (0, l3 + 1), none, none]) ⟨rfl, ⟨rfl, ⟨rfl, ⟨rfl, trivial⟩⟩⟩⟩ ?_
        exact h
    · have h := h.2 hc
      refine Rn_pure 3 (i' := 18) (L' := [some (2, 161), some (0, l1), some (0, l2), some (0, l3), some (0, x2), none]) (st' := [(0, l3), (0, l1), (2, 161)]) rfl ?_
      refine Rn_callI [(2, 161), (0, l1), (0, l3)] [] rfl rfl rfl rfl (ab_rvB_of rfl (⟨rfl, (by omega : (0 : Int) ≤ 161), (by omega : (161 : Int) + 1 < K ∧ 5 < K)⟩)) ?_
      refine h.mono (fun x3 g' r' h => ?_)
      obtain ⟨hx, h⟩ := h
      replace hx := hx.symm
      subst hx
      obtain ⟨hx, h⟩ := h
      replace hx := hx.symm
      subst hx
      refine Rn_pure 5 (i' := 25) (L' := [some (2, 161), some (0, l1), some (0, l2), some (0, l3), some (0, x2), some (0, x3)]) (st' := [(0, x2), (0, x3), (0, l2)]) rfl ?_
      refine Rn_icge rfl (fun hc => ?_) (fun hc => ?_)
      · have h := h.1 hc
        refine Rn_pure 5 (i' := 4) (L' := [some (2, 161), some (0, l1), some (0, l2 + x2), some (0, l3 + 1), some (0, x2), some (0, x3)]) (st' := []) rfl ?_
        refine Rn_weak (L' := [some (2, 161), some (0, l1), some (0, l2 + x2), some (0, l3 + 1), none, none]) ⟨rfl, ⟨rfl, ⟨rfl, ⟨rfl, trivial⟩⟩⟩⟩ ?_
        exact h
      · have h := h.2 hc
        refine Rn_pure 6 (i' := 4) (L' := [some (2, 161), some (0, l1), some (0, l2 + x3), some (0, l3 + 1), some (0, x2), some (0, x3)]) (st' := []) rfl ?_
        refine Rn_weak (L' := [some (2, 161), some (0, l1), some (0, l2 + x3), some (0, l3 + 1), none, none]) ⟨rfl, ⟨rfl, ⟨rfl, ⟨rfl, trivial⟩⟩⟩⟩ ?_
        exact h
-- EventLedgerModel.bestPlace (I)I
theorem v_M_bestPlace {K : Int} {S : Nat} {g r : ab_H} {p1 : Int} (P : Int → ab_H → ab_H → Prop) (hr : SI r) (hK : 186 ≤ K) (h : ∀ g1, g1 = ab_up g 161 0 0 → ((wr p1 < wr 0 → P (-1) g1 r) ∧ (wr 0 ≤ wr p1 → ((wr p1 ≤ wr 1 → ab_RI m_M_costsWith [(2, 161), (0, 0)] K S g1 r (fun x2 g' r' => g' = g1 ∧ r' = r ∧ (ab_Rn m_M_bestPlace 18 [some (2, 161), some (0, p1), some (0, 0), some (0, x2), some (0, 1), none] [] (K, S, g1, r) (ab_Qi K S P)))) ∧ (wr 1 < wr p1 → P (-1) g1 r))))) : ab_RI m_M_bestPlace [(2, 161), (0, p1)] K S g r P := by
  show ab_Rn m_M_bestPlace 0 [some (2, 161), some (0, p1), none, none, none, none] [] (K, S, g, r) (ab_Qi K S P)
  refine Rn_pure 2 (i' := 2) (L' := [some (2, 161), some (0, p1), none, none, none, none]) (st' := [(0, 0), (2, 161)]) rfl ?_
  refine Rn_putI rfl (⟨rfl, (by omega : (0 : Int) ≤ 161), (by omega : (161 : Int) + 1 < K ∧ 5 < K)⟩) (fun g1 he_g1 => ?_)
  have h := h g1 he_g1
  refine Rn_pure 1 (i' := 4) (L' := [some (2, 161), some (0, p1), none, none, none, none]) (st' := [(0, p1)]) rfl ?_
  refine Rn_iflt rfl (fun hc => ?_) (fun hc => ?_)
  · have h := h.1 hc
    refine Rn_pure 1 (i' := 9) (L' := [some (2, 161), some (0, p1), none, none, none, none]) (st' := [(0, (-1))]) rfl ?_
    exact Rn_ret1 rfl h
  · have h := h.2 hc
    refine Rn_pure 2 (i' := 7) (L' := [some (2, 161), some (0, p1), none, none, none, none]) (st' := [(0, 1), (0, p1)]) rfl ?_
    refine Rn_icle rfl (fun hc => ?_) (fun hc => ?_)
    · have h := h.1 hc
      refine Rn_pure 4 (i' := 14) (L' := [some (2, 161), some (0, p1), some (0, 0), none, none, none]) (st' := [(0, 0), (2, 161)]) rfl ?_
      refine Rn_callI [(2, 161), (0, 0)] [] rfl rfl rfl rfl (ab_rvB_of rfl (⟨rfl, (by omega : (0 : Int) ≤ 161), (by omega : (161 : Int) + 1 < K ∧ 5 < K)⟩)) ?_
      refine h.mono (fun x2 g' r' h => ?_)
      obtain ⟨hx, h⟩ := h
      replace hx := hx.symm
      subst hx
      obtain ⟨hx, h⟩ := h
      replace hx := hx.symm
      subst hx
      refine Rn_pure 3 (i' := 18) (L' := [some (2, 161), some (0, p1), some (0, 0), some (0, x2), some (0, 1), none]) (st' := []) rfl ?_
      exact h
    · have h := h.2 hc
      refine Rn_pure 1 (i' := 9) (L' := [some (2, 161), some (0, p1), none, none, none, none]) (st' := [(0, (-1))]) rfl ?_
      exact Rn_ret1 rfl h
theorem v_M_bestPlace_18 {K : Int} {S : Nat} {g r : ab_H} {l1 l2 l3 l4 : Int} (P : Int → ab_H → ab_H → Prop) (hr : SI r) (hK : 186 ≤ K) (h : ab_RI m_M_many [(2, 161)] K S g r (fun x1 g' r' => g' = g ∧ r' = r ∧ (((wr x1 < wr l4 → ((¬ wr l1 = wr 0 → P l3 g r) ∧ (wr l1 = wr 0 → P l2 g r))) ∧ (wr l4 ≤ wr x1 → ab_RI m_M_costsWith [(2, 161), (0, l4)] K S g r (fun x2 g' r' => g' = g ∧ r' = r ∧ (((wr x2 < wr l3 → ab_Rn m_M_bestPlace 18 [some (2, 161), some (0, l1), some (0, l4), some (0, x2), some (0, l4 + 1), none] [] (K, S, g, r) (ab_Qi K S P)) ∧ (wr l3 ≤ wr x2 → ab_Rn m_M_bestPlace 18 [some (2, 161), some (0, l1), some (0, l2), some (0, l3), some (0, l4 + 1), none] [] (K, S, g, r) (ab_Qi K S P)))))))))) : ab_Rn m_M_bestPlace 18 [some (2, 161), some (0, l1), some (0, l2), some (0, l3), some (0, l4), none] [] (K, S, g, r) (ab_Qi K S P) := by
  refine Rn_pure 2 (i' := 20) (L' := [some (2, 161), some (0, l1), some (0, l2), some (0, l3), some (0, l4), none]) (st' := [(2, 161), (0, l4)]) rfl ?_
  refine Rn_callI [(2, 161)] [(0, l4)] rfl rfl rfl rfl (ab_rvB_of rfl (⟨rfl, (by omega : (0 : Int) ≤ 161), (by omega : (161 : Int) + 1 < K ∧ 5 < K)⟩)) ?_
  refine h.mono (fun x1 g' r' h => ?_)
  obtain ⟨hx, h⟩ := h
  replace hx := hx.symm
  subst hx
  obtain ⟨hx, h⟩ := h
  replace hx := hx.symm
  subst hx
  refine Rn_icgt rfl (fun hc => ?_) (fun hc => ?_)
  · have h := h.1 hc
    refine Rn_pure 1 (i' := 37) (L' := [some (2, 161), some (0, l1), some (0, l2), some (0, l3), some (0, l4), none]) (st' := [(0, l1)]) rfl ?_
    refine Rn_ifne rfl (fun hc => ?_) (fun hc => ?_)
    · have h := h.1 hc
      refine Rn_pure 1 (i' := 41) (L' := [some (2, 161), some (0, l1), some (0, l2), some (0, l3), some (0, l4), none]) (st' := [(0, l3)]) rfl ?_
      exact Rn_ret1 rfl h
    · have h := h.2 hc
      refine Rn_pure 2 (i' := 41) (L' := [some (2, 161), some (0, l1), some (0, l2), some (0, l3), some (0, l4), none]) (st' := [(0, l2)]) rfl ?_
      exact Rn_ret1 rfl h
  · have h := h.2 hc
    refine Rn_pure 2 (i' := 24) (L' := [some (2, 161), some (0, l1), some (0, l2), some (0, l3), some (0, l4), none]) (st' := [(0, l4), (2, 161)]) rfl ?_
    refine Rn_callI [(2, 161), (0, l4)] [] rfl rfl rfl rfl (ab_rvB_of rfl (⟨rfl, (by omega : (0 : Int) ≤ 161), (by omega : (161 : Int) + 1 < K ∧ 5 < K)⟩)) ?_
    refine h.mono (fun x2 g' r' h => ?_)
    obtain ⟨hx, h⟩ := h
    replace hx := hx.symm
    subst hx
    obtain ⟨hx, h⟩ := h
    replace hx := hx.symm
    subst hx
    refine Rn_pure 3 (i' := 28) (L' := [some (2, 161), some (0, l1), some (0, l2), some (0, l3), some (0, l4), some (0, x2)]) (st' := [(0, l3), (0, x2)]) rfl ?_
    refine Rn_iclt rfl (fun hc => ?_) (fun hc => ?_)
    · have h := h.1 hc
      refine Rn_pure 6 (i' := 18) (L' := [some (2, 161), some (0, l1), some (0, l4), some (0, x2), some (0, l4 + 1), some (0, x2)]) (st' := []) rfl ?_
      refine Rn_weak (L' := [some (2, 161), some (0, l1), some (0, l4), some (0, x2), some (0, l4 + 1), none]) ⟨rfl, ⟨rfl, ⟨rfl, ⟨rfl, ⟨rfl, trivial⟩⟩⟩⟩⟩ ?_
      exact h
    · have h := h.2 hc
      refine Rn_pure 3 (i' := 18) (L' := [some (2, 161), some (0, l1), some (0, l2), some (0, l3), some (0, l4 + 1), some (0, x2)]) (st' := []) rfl ?_
      refine Rn_weak (L' := [some (2, 161), some (0, l1), some (0, l2), some (0, l3), some (0, l4 + 1), none]) ⟨rfl, ⟨rfl, ⟨rfl, ⟨rfl, ⟨rfl, trivial⟩⟩⟩⟩⟩ ?_
      exact h
-- EventLedgerModel.resnap (II)I
theorem v_M_resnap {K : Int} {S : Nat} {g r : ab_H} {p1 p2 : Int} (P : Int → ab_H → ab_H → Prop) (hr : SI r) (hK : 186 ≤ K) (h : ∀ g1, g1 = ab_up g 161 0 0 → ((wr p1 < wr 1 → P (-1) g1 r) ∧ (wr 1 ≤ wr p1 → ((wr 999 < wr p1 → P (-1) g1 r) ∧ (wr p1 ≤ wr 999 → ((wr p2 < wr 0 → P (-1) g1 r) ∧ (wr 0 ≤ wr p2 → ((wr p2 ≤ wr 6 → ab_RV m_M_remembers [(2, 161)] K S g1 r (fun g2 r' => r' = r ∧ (((0 : Int) ≤ 1089 ∧ (1089 : Int) < 1607) ∧ ∀ g4, g4 = ab_up g2 174 1089 p1 → ((0 : Int) ≤ 1090 ∧ (1090 : Int) < 1607) ∧ ∀ g5, g5 = ab_up g4 174 1090 p2 → ((0 : Int) ≤ 1081 ∧ (1081 : Int) < 1607) ∧ ∀ g6, g6 = ab_up g5 174 1081 0 → ab_Rn m_M_resnap 35 [some (2, 161), none, none, some (0, 0)] [] (K, S, g6, r) (ab_Qi K S P)))) ∧ (wr 6 < wr p2 → P (-1) g1 r))))))))) : ab_RI m_M_resnap [(2, 161), (0, p1), (0, p2)] K S g r P := by
  show ab_Rn m_M_resnap 0 [some (2, 161), some (0, p1), some (0, p2), none] [] (K, S, g, r) (ab_Qi K S P)
  refine Rn_pure 2 (i' := 2) (L' := [some (2, 161), some (0, p1), some (0, p2), none]) (st' := [(0, 0), (2, 161)]) rfl ?_
  refine Rn_putI rfl (⟨rfl, (by omega : (0 : Int) ≤ 161), (by omega : (161 : Int) + 1 < K ∧ 5 < K)⟩) (fun g1 he_g1 => ?_)
  have h := h g1 he_g1
  refine Rn_pure 2 (i' := 5) (L' := [some (2, 161), some (0, p1), some (0, p2), none]) (st' := [(0, 1), (0, p1)]) rfl ?_
  refine Rn_iclt rfl (fun hc => ?_) (fun hc => ?_)
  · have h := h.1 hc
    refine Rn_pure 1 (i' := 15) (L' := [some (2, 161), some (0, p1), some (0, p2), none]) (st' := [(0, (-1))]) rfl ?_
    exact Rn_ret1 rfl h
  · have h := h.2 hc
    refine Rn_pure 2 (i' := 8) (L' := [some (2, 161), some (0, p1), some (0, p2), none]) (st' := [(0, 999), (0, p1)]) rfl ?_
    refine Rn_icgt rfl (fun hc => ?_) (fun hc => ?_)
    · have h := h.1 hc
      refine Rn_pure 1 (i' := 15) (L' := [some (2, 161), some (0, p1), some (0, p2), none]) (st' := [(0, (-1))]) rfl ?_
      exact Rn_ret1 rfl h
    · have h := h.2 hc
      refine Rn_pure 1 (i' := 10) (L' := [some (2, 161), some (0, p1), some (0, p2), none]) (st' := [(0, p2)]) rfl ?_
      refine Rn_iflt rfl (fun hc => ?_) (fun hc => ?_)
      · have h := h.1 hc
        refine Rn_pure 1 (i' := 15) (L' := [some (2, 161), some (0, p1), some (0, p2), none]) (st' := [(0, (-1))]) rfl ?_
        exact Rn_ret1 rfl h
      · have h := h.2 hc
        refine Rn_pure 2 (i' := 13) (L' := [some (2, 161), some (0, p1), some (0, p2), none]) (st' := [(0, 6), (0, p2)]) rfl ?_
        refine Rn_icle rfl (fun hc => ?_) (fun hc => ?_)
        · have h := h.1 hc
          refine Rn_pure 1 (i' := 17) (L' := [some (2, 161), some (0, p1), some (0, p2), none]) (st' := [(2, 161)]) rfl ?_
          refine Rn_callV [(2, 161)] [] rfl rfl rfl rfl (ab_rvB_of rfl (⟨rfl, (by omega : (0 : Int) ≤ 161), (by omega : (161 : Int) + 1 < K ∧ 5 < K)⟩)) ?_
          refine h.mono (fun g2 r' h => ?_)
          obtain ⟨hx, h⟩ := h
          replace hx := hx.symm
          subst hx
          refine Rn_pure 1 (i' := 19) (L' := [some (2, 161), some (0, p1), some (0, p2), none]) (st' := [(2, 161)]) rfl ?_
          refine Rn_getR rfl (⟨rfl, (by omega : (0 : Int) ≤ 161), (by omega : (161 : Int) + 1 < K ∧ 5 < K)⟩) (hr 149 _ rfl) (by decide) ?_
          refine Rn_pure 2 (i' := 22) (L' := [some (2, 161), some (0, p1), some (0, p2), none]) (st' := [(0, p1), (0, 1089), (2, 174)]) rfl ?_
          obtain ⟨hg, h⟩ := h
          refine Rn_iast rfl (⟨rfl, (by omega : (0 : Int) ≤ 174), (by omega : (174 : Int) + 1 < K ∧ 5 < K)⟩) hg (fun g4 he_g4 => ?_)
          have h := h g4 he_g4
          refine Rn_pure 1 (i' := 24) (L' := [some (2, 161), some (0, p1), some (0, p2), none]) (st' := [(2, 161)]) rfl ?_
          refine Rn_getR rfl (⟨rfl, (by omega : (0 : Int) ≤ 161), (by omega : (161 : Int) + 1 < K ∧ 5 < K)⟩) (hr 149 _ rfl) (by decide) ?_
          refine Rn_pure 2 (i' := 27) (L' := [some (2, 161), some (0, p1), some (0, p2), none]) (st' := [(0, p2), (0, 1090), (2, 174)]) rfl ?_
          obtain ⟨hg, h⟩ := h
          refine Rn_iast rfl (⟨rfl, (by omega : (0 : Int) ≤ 174), (by omega : (174 : Int) + 1 < K ∧ 5 < K)⟩) hg (fun g5 he_g5 => ?_)
          have h := h g5 he_g5
          refine Rn_pure 1 (i' := 29) (L' := [some (2, 161), some (0, p1), some (0, p2), none]) (st' := [(2, 161)]) rfl ?_
          refine Rn_getR rfl (⟨rfl, (by omega : (0 : Int) ≤ 161), (by omega : (161 : Int) + 1 < K ∧ 5 < K)⟩) (hr 149 _ rfl) (by decide) ?_
          refine Rn_pure 2 (i' := 32) (L' := [some (2, 161), some (0, p1), some (0, p2), none]) (st' := [(0, 0), (0, 1081), (2, 174)]) rfl ?_
          obtain ⟨hg, h⟩ := h
          refine Rn_iast rfl (⟨rfl, (by omega : (0 : Int) ≤ 174), (by omega : (174 : Int) + 1 < K ∧ 5 < K)⟩) hg (fun g6 he_g6 => ?_)
          have h := h g6 he_g6
          refine Rn_pure 2 (i' := 35) (L' := [some (2, 161), some (0, p1), some (0, p2), some (0, 0)]) (st' := []) rfl ?_
          refine Rn_weak (L' := [some (2, 161), none, none, some (0, 0)]) ⟨rfl, ⟨rfl, trivial⟩⟩ ?_
          exact h
        · have h := h.2 hc
          refine Rn_pure 1 (i' := 15) (L' := [some (2, 161), some (0, p1), some (0, p2), none]) (st' := [(0, (-1))]) rfl ?_
          exact Rn_ret1 rfl h
theorem v_M_resnap_35 {K : Int} {S : Nat} {g r : ab_H} {l3 : Int} (P : Int → ab_H → ab_H → Prop) (hr : SI r) (hK : 186 ≤ K) (h : ab_RI m_M_many [(2, 161)] K S g r (fun x1 g' r' => g' = g ∧ r' = r ∧ (((wr x1 ≤ wr l3 → ((0 : Int) ≤ 1081 ∧ (1081 : Int) < 1607) ∧ P (g 174 1081) g r) ∧ (wr l3 < wr x1 → ab_RI m_M_isVoid [(2, 161), (0, l3)] K S g r (fun x2 g' r' => g' = g ∧ r' = r ∧ (((wr x2 = wr 0 → ab_RV m_M_snaps [(2, 161), (0, l3 + 1)] K S g r (fun g3 r' => r' = r ∧ (ab_Rn m_M_resnap 35 [some (2, 161), none, none, some (0, l3 + 1)] [] (K, S, g3, r) (ab_Qi K S P)))) ∧ (¬ wr x2 = wr 0 → ((0 : Int) ≤ 9 * l3 + 2 ∧ (9 * l3 + 2 : Int) < 1607) ∧ ab_RV m_M_letsGo [(2, 161), (0, g 174 (9 * l3 + 2))] K S g r (fun g5 r' => r' = r ∧ (ab_RV m_M_snaps [(2, 161), (0, l3 + 1)] K S g5 r (fun g7 r' => r' = r ∧ (ab_Rn m_M_resnap 35 [some (2, 161), none, none, some (0, l3 + 1)] [] (K, S, g7, r) (ab_Qi K S P)))))))))))))) : ab_Rn m_M_resnap 35 [some (2, 161), none, none, some (0, l3)] [] (K, S, g, r) (ab_Qi K S P) := by
  refine Rn_pure 2 (i' := 37) (L' := [some (2, 161), none, none, some (0, l3)]) (st' := [(2, 161), (0, l3)]) rfl ?_
  refine Rn_callI [(2, 161)] [(0, l3)] rfl rfl rfl rfl (ab_rvB_of rfl (⟨rfl, (by omega : (0 : Int) ≤ 161), (by omega : (161 : Int) + 1 < K ∧ 5 < K)⟩)) ?_
  refine h.mono (fun x1 g' r' h => ?_)
  obtain ⟨hx, h⟩ := h
  replace hx := hx.symm
  subst hx
  obtain ⟨hx, h⟩ := h
  replace hx := hx.symm
  subst hx
  refine Rn_icge rfl (fun hc => ?_) (fun hc => ?_)
  · have h := h.1 hc
    refine Rn_pure 1 (i' := 61) (L' := [some (2, 161), none, none, some (0, l3)]) (st' := [(2, 161)]) rfl ?_
    refine Rn_getR rfl (⟨rfl, (by omega : (0 : Int) ≤ 161), (by omega : (161 : Int) + 1 < K ∧ 5 < K)⟩) (hr 149 _ rfl) (by decide) ?_
    refine Rn_pure 1 (i' := 63) (L' := [some (2, 161), none, none, some (0, l3)]) (st' := [(0, 1081), (2, 174)]) rfl ?_
    obtain ⟨hg, h⟩ := h
    refine Rn_iald rfl (⟨rfl, (by omega : (0 : Int) ≤ 174), (by omega : (174 : Int) + 1 < K ∧ 5 < K)⟩) hg ?_
    exact Rn_ret1 rfl h
  · have h := h.2 hc
    refine Rn_pure 2 (i' := 41) (L' := [some (2, 161), none, none, some (0, l3)]) (st' := [(0, l3), (2, 161)]) rfl ?_
    refine Rn_callI [(2, 161), (0, l3)] [] rfl rfl rfl rfl (ab_rvB_of rfl (⟨rfl, (by omega : (0 : Int) ≤ 161), (by omega : (161 : Int) + 1 < K ∧ 5 < K)⟩)) ?_
    refine h.mono (fun x2 g' r' h => ?_)
    obtain ⟨hx, h⟩ := h
    replace hx := hx.symm
    subst hx
    obtain ⟨hx, h⟩ := h
    replace hx := hx.symm
    subst hx
    refine Rn_ifeq rfl (fun hc => ?_) (fun hc => ?_)
    · have h := h.1 hc
      refine Rn_pure 4 (i' := 57) (L' := [some (2, 161), none, none, some (0, l3)]) (st' := [(0, l3 + 1), (2, 161)]) rfl ?_
      refine Rn_callV [(2, 161), (0, l3 + 1)] [] rfl rfl rfl rfl (ab_rvB_of rfl (⟨rfl, (by omega : (0 : Int) ≤ 161), (by omega : (161 : Int) + 1 < K ∧ 5 < K)⟩)) ?_
      refine h.mono (fun g3 r' h => ?_)
      obtain ⟨hx, h⟩ := h
      replace hx := hx.symm
      subst hx
      refine Rn_pure 2 (i' := 35) (L' := [some (2, 161), none, none, some (0, l3 + 1)]) (st' := []) rfl ?_
      exact h
    · have h := h.2 hc
      refine Rn_pure 2 (i' := 45) (L' := [some (2, 161), none, none, some (0, l3)]) (st' := [(2, 161), (2, 161)]) rfl ?_
      refine Rn_getR rfl (⟨rfl, (by omega : (0 : Int) ≤ 161), (by omega : (161 : Int) + 1 < K ∧ 5 < K)⟩) (hr 149 _ rfl) (by decide) ?_
      refine Rn_pure 5 (i' := 51) (L' := [some (2, 161), none, none, some (0, l3)]) (st' := [(0, 9 * l3 + 2), (2, 174), (2, 161)]) rfl ?_
      obtain ⟨hg, h⟩ := h
      refine Rn_iald rfl (⟨rfl, (by omega : (0 : Int) ≤ 174), (by omega : (174 : Int) + 1 < K ∧ 5 < K)⟩) hg ?_
      refine Rn_callV [(2, 161), (0, g 174 (9 * l3 + 2))] [] rfl rfl rfl rfl (ab_rvB_of rfl (⟨rfl, (by omega : (0 : Int) ≤ 161), (by omega : (161 : Int) + 1 < K ∧ 5 < K)⟩)) ?_
      refine h.mono (fun g5 r' h => ?_)
      obtain ⟨hx, h⟩ := h
      replace hx := hx.symm
      subst hx
      refine Rn_pure 4 (i' := 57) (L' := [some (2, 161), none, none, some (0, l3)]) (st' := [(0, l3 + 1), (2, 161)]) rfl ?_
      refine Rn_callV [(2, 161), (0, l3 + 1)] [] rfl rfl rfl rfl (ab_rvB_of rfl (⟨rfl, (by omega : (0 : Int) ≤ 161), (by omega : (161 : Int) + 1 < K ∧ 5 < K)⟩)) ?_
      refine h.mono (fun g7 r' h => ?_)
      obtain ⟨hx, h⟩ := h
      replace hx := hx.symm
      subst hx
      refine Rn_pure 2 (i' := 35) (L' := [some (2, 161), none, none, some (0, l3 + 1)]) (st' := []) rfl ?_
      exact h
-- EventLedgerModel.aside (I)I
theorem v_M_aside {K : Int} {S : Nat} {g r : ab_H} {p1 : Int} (P : Int → ab_H → ab_H → Prop) (hr : SI r) (hK : 186 ≤ K) (h : ∀ g1, g1 = ab_up g 161 0 0 → ((wr 0 ≤ wr p1 → ab_RV m_M_replaysAll [(2, 161)] K S g1 r (fun g2 r' => r' = r ∧ (ab_Rn m_M_aside 13 [some (2, 161), none, some (0, p1), some (0, 0)] [] (K, S, g2, r) (ab_Qi K S P)))) ∧ (wr p1 < wr 0 → P (-1) g1 r))) : ab_RI m_M_aside [(2, 161), (0, p1)] K S g r P := by
  show ab_Rn m_M_aside 0 [some (2, 161), some (0, p1), none, none] [] (K, S, g, r) (ab_Qi K S P)
  refine Rn_pure 2 (i' := 2) (L' := [some (2, 161), some (0, p1), none, none]) (st' := [(0, 0), (2, 161)]) rfl ?_
  refine Rn_putI rfl (⟨rfl, (by omega : (0 : Int) ≤ 161), (by omega : (161 : Int) + 1 < K ∧ 5 < K)⟩) (fun g1 he_g1 => ?_)
  have h := h g1 he_g1
  refine Rn_pure 1 (i' := 4) (L' := [some (2, 161), some (0, p1), none, none]) (st' := [(0, p1)]) rfl ?_
  refine Rn_ifge rfl (fun hc => ?_) (fun hc => ?_)
  · have h := h.1 hc
    refine Rn_pure 1 (i' := 8) (L' := [some (2, 161), some (0, p1), none, none]) (st' := [(2, 161)]) rfl ?_
    refine Rn_callV [(2, 161)] [] rfl rfl rfl rfl (ab_rvB_of rfl (⟨rfl, (by omega : (0 : Int) ≤ 161), (by omega : (161 : Int) + 1 < K ∧ 5 < K)⟩)) ?_
    refine h.mono (fun g2 r' h => ?_)
    obtain ⟨hx, h⟩ := h
    replace hx := hx.symm
    subst hx
    refine Rn_pure 4 (i' := 13) (L' := [some (2, 161), some (0, p1), some (0, p1), some (0, 0)]) (st' := []) rfl ?_
    refine Rn_weak (L' := [some (2, 161), none, some (0, p1), some (0, 0)]) ⟨rfl, ⟨rfl, ⟨rfl, trivial⟩⟩⟩ ?_
    exact h
  · have h := h.2 hc
    refine Rn_pure 1 (i' := 6) (L' := [some (2, 161), some (0, p1), none, none]) (st' := [(0, (-1))]) rfl ?_
    exact Rn_ret1 rfl h
theorem v_M_aside_13 {K : Int} {S : Nat} {g r : ab_H} {l2 l3 : Int} (P : Int → ab_H → ab_H → Prop) (hr : SI r) (hK : 186 ≤ K) (h : ab_RI m_M_many [(2, 161)] K S g r (fun x1 g' r' => g' = g ∧ r' = r ∧ (((wr x1 ≤ wr l3 → P (-2) g r) ∧ (wr l3 < wr x1 → ((0 : Int) ≤ l3 ∧ (l3 : Int) < 120) ∧ ((¬ wr (g 183 l3) = wr 0 → ((¬ wr l2 = wr 0 → ab_Rn m_M_aside 13 [some (2, 161), none, some (0, l2 + (-1)), some (0, l3 + 1)] [] (K, S, g, r) (ab_Qi K S P)) ∧ (wr l2 = wr 0 → P l3 g r))) ∧ (wr (g 183 l3) = wr 0 → ab_Rn m_M_aside 13 [some (2, 161), none, some (0, l2), some (0, l3 + 1)] [] (K, S, g, r) (ab_Qi K S P)))))))) : ab_Rn m_M_aside 13 [some (2, 161), none, some (0, l2), some (0, l3)] [] (K, S, g, r) (ab_Qi K S P) := by
  refine Rn_pure 2 (i' := 15) (L' := [some (2, 161), none, some (0, l2), some (0, l3)]) (st' := [(2, 161), (0, l3)]) rfl ?_
  refine Rn_callI [(2, 161)] [(0, l3)] rfl rfl rfl rfl (ab_rvB_of rfl (⟨rfl, (by omega : (0 : Int) ≤ 161), (by omega : (161 : Int) + 1 < K ∧ 5 < K)⟩)) ?_
  refine h.mono (fun x1 g' r' h => ?_)
  obtain ⟨hx, h⟩ := h
  replace hx := hx.symm
  subst hx
  obtain ⟨hx, h⟩ := h
  replace hx := hx.symm
  subst hx
  refine Rn_icge rfl (fun hc => ?_) (fun hc => ?_)
  · have h := h.1 hc
    refine Rn_pure 1 (i' := 31) (L' := [some (2, 161), none, some (0, l2), some (0, l3)]) (st' := [(0, (-2))]) rfl ?_
    exact Rn_ret1 rfl h
  · have h := h.2 hc
    refine Rn_pure 1 (i' := 18) (L' := [some (2, 161), none, some (0, l2), some (0, l3)]) (st' := [(2, 161)]) rfl ?_
    refine Rn_getR rfl (⟨rfl, (by omega : (0 : Int) ≤ 161), (by omega : (161 : Int) + 1 < K ∧ 5 < K)⟩) (hr 158 _ rfl) (by decide) ?_
    refine Rn_pure 1 (i' := 20) (L' := [some (2, 161), none, some (0, l2), some (0, l3)]) (st' := [(0, l3), (2, 183)]) rfl ?_
    obtain ⟨hg, h⟩ := h
    refine Rn_iald rfl (⟨rfl, (by omega : (0 : Int) ≤ 183), (by omega : (183 : Int) + 1 < K ∧ 5 < K)⟩) hg ?_
    refine Rn_ifne rfl (fun hc => ?_) (fun hc => ?_)
    · have h := h.1 hc
      refine Rn_pure 1 (i' := 24) (L' := [some (2, 161), none, some (0, l2), some (0, l3)]) (st' := [(0, l2)]) rfl ?_
      refine Rn_ifne rfl (fun hc => ?_) (fun hc => ?_)
      · have h := h.1 hc
        refine Rn_pure 3 (i' := 13) (L' := [some (2, 161), none, some (0, l2 + (-1)), some (0, l3 + 1)]) (st' := []) rfl ?_
        exact h
      · have h := h.2 hc
        refine Rn_pure 1 (i' := 26) (L' := [some (2, 161), none, some (0, l2), some (0, l3)]) (st' := [(0, l3)]) rfl ?_
        exact Rn_ret1 rfl h
    · have h := h.2 hc
      refine Rn_pure 3 (i' := 13) (L' := [some (2, 161), none, some (0, l2), some (0, l3 + 1)]) (st' := []) rfl ?_
      exact h
-- EventLedgerModel.blame (I)I
theorem v_M_blame {K : Int} {S : Nat} {g r : ab_H} {p1 : Int} (P : Int → ab_H → ab_H → Prop) (hr : SI r) (hK : 186 ≤ K) (h : ∀ g1, g1 = ab_up g 161 0 0 → ab_RI m_M_isEvent [(2, 161), (0, p1)] K S g1 r (fun x2 g' r' => g' = g1 ∧ r' = r ∧ (((¬ wr x2 = wr 0 → ab_RV m_M_replaysAll [(2, 161)] K S g1 r (fun g3 r' => r' = r ∧ (((0 : Int) ≤ p1 ∧ (p1 : Int) < 120) ∧ ((¬ wr (g3 183 p1) = wr 0 → ab_Rn m_M_blame 20 [some (2, 161), some (0, p1), some (0, 0)] [] (K, S, g3, r) (ab_Qi K S P)) ∧ (wr (g3 183 p1) = wr 0 → P (-1) g3 r))))) ∧ (wr x2 = wr 0 → P (-1) g1 r))))) : ab_RI m_M_blame [(2, 161), (0, p1)] K S g r P := by
  show ab_Rn m_M_blame 0 [some (2, 161), some (0, p1), none] [] (K, S, g, r) (ab_Qi K S P)
  refine Rn_pure 2 (i' := 2) (L' := [some (2, 161), some (0, p1), none]) (st' := [(0, 0), (2, 161)]) rfl ?_
  refine Rn_putI rfl (⟨rfl, (by omega : (0 : Int) ≤ 161), (by omega : (161 : Int) + 1 < K ∧ 5 < K)⟩) (fun g1 he_g1 => ?_)
  have h := h g1 he_g1
  refine Rn_pure 2 (i' := 5) (L' := [some (2, 161), some (0, p1), none]) (st' := [(0, p1), (2, 161)]) rfl ?_
  refine Rn_callI [(2, 161), (0, p1)] [] rfl rfl rfl rfl (ab_rvB_of rfl (⟨rfl, (by omega : (0 : Int) ≤ 161), (by omega : (161 : Int) + 1 < K ∧ 5 < K)⟩)) ?_
  refine h.mono (fun x2 g' r' h => ?_)
  obtain ⟨hx, h⟩ := h
  replace hx := hx.symm
  subst hx
  obtain ⟨hx, h⟩ := h
  replace hx := hx.symm
  subst hx
  refine Rn_ifne rfl (fun hc => ?_) (fun hc => ?_)
  · have h := h.1 hc
    refine Rn_pure 1 (i' := 10) (L' := [some (2, 161), some (0, p1), none]) (st' := [(2, 161)]) rfl ?_
    refine Rn_callV [(2, 161)] [] rfl rfl rfl rfl (ab_rvB_of rfl (⟨rfl, (by omega : (0 : Int) ≤ 161), (by omega : (161 : Int) + 1 < K ∧ 5 < K)⟩)) ?_
    refine h.mono (fun g3 r' h => ?_)
    obtain ⟨hx, h⟩ := h
    replace hx := hx.symm
    subst hx
    refine Rn_pure 1 (i' := 12) (L' := [some (2, 161), some (0, p1), none]) (st' := [(2, 161)]) rfl ?_
    refine Rn_getR rfl (⟨rfl, (by omega : (0 : Int) ≤ 161), (by omega : (161 : Int) + 1 < K ∧ 5 < K)⟩) (hr 158 _ rfl) (by decide) ?_
    refine Rn_pure 1 (i' := 14) (L' := [some (2, 161), some (0, p1), none]) (st' := [(0, p1), (2, 183)]) rfl ?_
    obtain ⟨hg, h⟩ := h
    refine Rn_iald rfl (⟨rfl, (by omega : (0 : Int) ≤ 183), (by omega : (183 : Int) + 1 < K ∧ 5 < K)⟩) hg ?_
    refine Rn_ifne rfl (fun hc => ?_) (fun hc => ?_)
    · have h := h.1 hc
      refine Rn_pure 2 (i' := 20) (L' := [some (2, 161), some (0, p1), some (0, 0)]) (st' := []) rfl ?_
      exact h
    · have h := h.2 hc
      refine Rn_pure 1 (i' := 17) (L' := [some (2, 161), some (0, p1), none]) (st' := [(0, (-1))]) rfl ?_
      exact Rn_ret1 rfl h
  · have h := h.2 hc
    refine Rn_pure 1 (i' := 8) (L' := [some (2, 161), some (0, p1), none]) (st' := [(0, (-1))]) rfl ?_
    exact Rn_ret1 rfl h
theorem v_M_blame_20 {K : Int} {S : Nat} {g r : ab_H} {l1 l2 : Int} (P : Int → ab_H → ab_H → Prop) (hr : SI r) (hK : 186 ≤ K) (h : ((wr l1 ≤ wr l2 → P (-2) g r) ∧ (wr l2 < wr l1 → ab_RI m_M_isVoid [(2, 161), (0, l2)] K S g r (fun x1 g' r' => g' = g ∧ r' = r ∧ (((¬ wr x1 = wr 0 → ab_Rn m_M_blame 20 [some (2, 161), some (0, l1), some (0, l2 + 1)] [] (K, S, g, r) (ab_Qi K S P)) ∧ (wr x1 = wr 0 → ab_RI m_M_isVoided [(2, 161), (0, l2)] K S g r (fun x2 g' r' => g' = g ∧ r' = r ∧ (((wr x2 = wr 0 → ab_RV m_M_replays [(2, 161), (0, l1 + 1), (0, l2), (0, 120), (0, (-1))] K S g r (fun g3 r' => r' = r ∧ (((0 : Int) ≤ l1 ∧ (l1 : Int) < 120) ∧ ((¬ wr (g3 183 l1) = wr 0 → ab_Rn m_M_blame 20 [some (2, 161), some (0, l1), some (0, l2 + 1)] [] (K, S, g3, r) (ab_Qi K S P)) ∧ (wr (g3 183 l1) = wr 0 → P l2 g3 r))))) ∧ (¬ wr x2 = wr 0 → ab_Rn m_M_blame 20 [some (2, 161), some (0, l1), some (0, l2 + 1)] [] (K, S, g, r) (ab_Qi K S P)))))))))))) : ab_Rn m_M_blame 20 [some (2, 161), some (0, l1), some (0, l2)] [] (K, S, g, r) (ab_Qi K S P) := by
  refine Rn_pure 2 (i' := 22) (L' := [some (2, 161), some (0, l1), some (0, l2)]) (st' := [(0, l1), (0, l2)]) rfl ?_
  refine Rn_icge rfl (fun hc => ?_) (fun hc => ?_)
  · have h := h.1 hc
    refine Rn_pure 1 (i' := 50) (L' := [some (2, 161), some (0, l1), some (0, l2)]) (st' := [(0, (-2))]) rfl ?_
    exact Rn_ret1 rfl h
  · have h := h.2 hc
    refine Rn_pure 2 (i' := 25) (L' := [some (2, 161), some (0, l1), some (0, l2)]) (st' := [(0, l2), (2, 161)]) rfl ?_
    refine Rn_callI [(2, 161), (0, l2)] [] rfl rfl rfl rfl (ab_rvB_of rfl (⟨rfl, (by omega : (0 : Int) ≤ 161), (by omega : (161 : Int) + 1 < K ∧ 5 < K)⟩)) ?_
    refine h.mono (fun x1 g' r' h => ?_)
    obtain ⟨hx, h⟩ := h
    replace hx := hx.symm
    subst hx
    obtain ⟨hx, h⟩ := h
    replace hx := hx.symm
    subst hx
    refine Rn_ifne rfl (fun hc => ?_) (fun hc => ?_)
    · have h := h.1 hc
      refine Rn_pure 2 (i' := 20) (L' := [some (2, 161), some (0, l1), some (0, l2 + 1)]) (st' := []) rfl ?_
      exact h
    · have h := h.2 hc
      refine Rn_pure 2 (i' := 29) (L' := [some (2, 161), some (0, l1), some (0, l2)]) (st' := [(0, l2), (2, 161)]) rfl ?_
      refine Rn_callI [(2, 161), (0, l2)] [] rfl rfl rfl rfl (ab_rvB_of rfl (⟨rfl, (by omega : (0 : Int) ≤ 161), (by omega : (161 : Int) + 1 < K ∧ 5 < K)⟩)) ?_
      refine h.mono (fun x2 g' r' h => ?_)
      obtain ⟨hx, h⟩ := h
      replace hx := hx.symm
      subst hx
      obtain ⟨hx, h⟩ := h
      replace hx := hx.symm
      subst hx
      refine Rn_ifeq rfl (fun hc => ?_) (fun hc => ?_)
      · have h := h.1 hc
        refine Rn_pure 7 (i' := 39) (L' := [some (2, 161), some (0, l1), some (0, l2)]) (st' := [(0, (-1)), (0, 120), (0, l2), (0, l1 + 1), (2, 161)]) rfl ?_
        refine Rn_callV [(2, 161), (0, l1 + 1), (0, l2), (0, 120), (0, (-1))] [] rfl rfl rfl rfl (ab_rvB_of rfl (⟨rfl, (by omega : (0 : Int) ≤ 161), (by omega : (161 : Int) + 1 < K ∧ 5 < K)⟩)) ?_
        refine h.mono (fun g3 r' h => ?_)
        obtain ⟨hx, h⟩ := h
        replace hx := hx.symm
        subst hx
        refine Rn_pure 1 (i' := 41) (L' := [some (2, 161), some (0, l1), some (0, l2)]) (st' := [(2, 161)]) rfl ?_
        refine Rn_getR rfl (⟨rfl, (by omega : (0 : Int) ≤ 161), (by omega : (161 : Int) + 1 < K ∧ 5 < K)⟩) (hr 158 _ rfl) (by decide) ?_
        refine Rn_pure 1 (i' := 43) (L' := [some (2, 161), some (0, l1), some (0, l2)]) (st' := [(0, l1), (2, 183)]) rfl ?_
        obtain ⟨hg, h⟩ := h
        refine Rn_iald rfl (⟨rfl, (by omega : (0 : Int) ≤ 183), (by omega : (183 : Int) + 1 < K ∧ 5 < K)⟩) hg ?_
        refine Rn_ifne rfl (fun hc => ?_) (fun hc => ?_)
        · have h := h.1 hc
          refine Rn_pure 2 (i' := 20) (L' := [some (2, 161), some (0, l1), some (0, l2 + 1)]) (st' := []) rfl ?_
          exact h
        · have h := h.2 hc
          refine Rn_pure 1 (i' := 46) (L' := [some (2, 161), some (0, l1), some (0, l2)]) (st' := [(0, l2)]) rfl ?_
          exact Rn_ret1 rfl h
      · have h := h.2 hc
        refine Rn_pure 3 (i' := 20) (L' := [some (2, 161), some (0, l1), some (0, l2 + 1)]) (st' := []) rfl ?_
        exact h
-- EventLedgerModel.without (II)I
theorem v_M_without {K : Int} {S : Nat} {g r : ab_H} {p1 p2 : Int} (P : Int → ab_H → ab_H → Prop) (hr : SI r) (hK : 186 ≤ K) (h : ∀ g1, g1 = ab_up g 161 0 0 → ab_RI m_M_isEvent [(2, 161), (0, p1)] K S g1 r (fun x2 g' r' => g' = g1 ∧ r' = r ∧ (((wr x2 = wr 0 → P (-2147483648) g1 r) ∧ (¬ wr x2 = wr 0 → ab_RI m_M_isVoid [(2, 161), (0, p1)] K S g1 r (fun x3 g' r' => g' = g1 ∧ r' = r ∧ (((¬ wr x3 = wr 0 → P (-2147483648) g1 r) ∧ (wr x3 = wr 0 → ab_RI m_M_isAccount [(2, 161), (0, p2)] K S g1 r (fun x4 g' r' => g' = g1 ∧ r' = r ∧ (((¬ wr x4 = wr 0 → ab_RI m_M_many [(2, 161)] K S g1 r (fun x5 g' r' => g' = g1 ∧ r' = r ∧ (ab_RV m_M_replays [(2, 161), (0, x5), (0, p1), (0, 120), (0, (-1))] K S g1 r (fun g6 r' => r' = r ∧ (((0 : Int) ≤ p2 ∧ (p2 : Int) < 8) ∧ P (g6 179 p2) g6 r))))) ∧ (wr x4 = wr 0 → P (-2147483648) g1 r))))))))))))) : ab_RI m_M_without [(2, 161), (0, p1), (0, p2)] K S g r P := by
  show ab_Rn m_M_without 0 [some (2, 161), some (0, p1), some (0, p2)] [] (K, S, g, r) (ab_Qi K S P)
  refine Rn_pure 2 (i' := 2) (L' := [some (2, 161), some (0, p1), some (0, p2)]) (st' := [(0, 0), (2, 161)]) rfl ?_
  refine Rn_putI rfl (⟨rfl, (by omega : (0 : Int) ≤ 161), (by omega : (161 : Int) + 1 < K ∧ 5 < K)⟩) (fun g1 he_g1 => ?_)
  have h := h g1 he_g1
  refine Rn_pure 2 (i' := 5) (L' := [some (2, 161), some (0, p1), some (0, p2)]) (st' := [(0, p1), (2, 161)]) rfl ?_
  refine Rn_callI [(2, 161), (0, p1)] [] rfl rfl rfl rfl (ab_rvB_of rfl (⟨rfl, (by omega : (0 : Int) ≤ 161), (by omega : (161 : Int) + 1 < K ∧ 5 < K)⟩)) ?_
  refine h.mono (fun x2 g' r' h => ?_)
  obtain ⟨hx, h⟩ := h
  replace hx := hx.symm
  subst hx
  obtain ⟨hx, h⟩ := h
  replace hx := hx.symm
  subst hx
  refine Rn_ifeq rfl (fun hc => ?_) (fun hc => ?_)
  · have h := h.1 hc
    refine Rn_pure 1 (i' := 16) (L' := [some (2, 161), some (0, p1), some (0, p2)]) (st' := [(0, (-2147483648))]) rfl ?_
    exact Rn_ret1 rfl h
  · have h := h.2 hc
    refine Rn_pure 2 (i' := 9) (L' := [some (2, 161), some (0, p1), some (0, p2)]) (st' := [(0, p1), (2, 161)]) rfl ?_
    refine Rn_callI [(2, 161), (0, p1)] [] rfl rfl rfl rfl (ab_rvB_of rfl (⟨rfl, (by omega : (0 : Int) ≤ 161), (by omega : (161 : Int) + 1 < K ∧ 5 < K)⟩)) ?_
    refine h.mono (fun x3 g' r' h => ?_)
    obtain ⟨hx, h⟩ := h
    replace hx := hx.symm
    subst hx
    obtain ⟨hx, h⟩ := h
    replace hx := hx.symm
    subst hx
    refine Rn_ifne rfl (fun hc => ?_) (fun hc => ?_)
    · have h := h.1 hc
      refine Rn_pure 1 (i' := 16) (L' := [some (2, 161), some (0, p1), some (0, p2)]) (st' := [(0, (-2147483648))]) rfl ?_
      exact Rn_ret1 rfl h
    · have h := h.2 hc
      refine Rn_pure 2 (i' := 13) (L' := [some (2, 161), some (0, p1), some (0, p2)]) (st' := [(0, p2), (2, 161)]) rfl ?_
      refine Rn_callI [(2, 161), (0, p2)] [] rfl rfl rfl rfl (ab_rvB_of rfl (⟨rfl, (by omega : (0 : Int) ≤ 161), (by omega : (161 : Int) + 1 < K ∧ 5 < K)⟩)) ?_
      refine h.mono (fun x4 g' r' h => ?_)
      obtain ⟨hx, h⟩ := h
      replace hx := hx.symm
      subst hx
      obtain ⟨hx, h⟩ := h
      replace hx := hx.symm
      subst hx
      refine Rn_ifne rfl (fun hc => ?_) (fun hc => ?_)
      · have h := h.1 hc
        refine Rn_pure 2 (i' := 19) (L' := [some (2, 161), some (0, p1), some (0, p2)]) (st' := [(2, 161), (2, 161)]) rfl ?_
        refine Rn_callI [(2, 161)] [(2, 161)] rfl rfl rfl rfl (ab_rvB_of rfl (⟨rfl, (by omega : (0 : Int) ≤ 161), (by omega : (161 : Int) + 1 < K ∧ 5 < K)⟩)) ?_
        refine h.mono (fun x5 g' r' h => ?_)
        obtain ⟨hx, h⟩ := h
        replace hx := hx.symm
        subst hx
        obtain ⟨hx, h⟩ := h
        replace hx := hx.symm
        subst hx
        refine Rn_pure 3 (i' := 23) (L' := [some (2, 161), some (0, p1), some (0, p2)]) (st' := [(0, (-1)), (0, 120), (0, p1), (0, x5), (2, 161)]) rfl ?_
        refine Rn_callV [(2, 161), (0, x5), (0, p1), (0, 120), (0, (-1))] [] rfl rfl rfl rfl (ab_rvB_of rfl (⟨rfl, (by omega : (0 : Int) ≤ 161), (by omega : (161 : Int) + 1 < K ∧ 5 < K)⟩)) ?_
        refine h.mono (fun g6 r' h => ?_)
        obtain ⟨hx, h⟩ := h
        replace hx := hx.symm
        subst hx
        refine Rn_pure 1 (i' := 25) (L' := [some (2, 161), some (0, p1), some (0, p2)]) (st' := [(2, 161)]) rfl ?_
        refine Rn_getR rfl (⟨rfl, (by omega : (0 : Int) ≤ 161), (by omega : (161 : Int) + 1 < K ∧ 5 < K)⟩) (hr 154 _ rfl) (by decide) ?_
        refine Rn_pure 1 (i' := 27) (L' := [some (2, 161), some (0, p1), some (0, p2)]) (st' := [(0, p2), (2, 179)]) rfl ?_
        obtain ⟨hg, h⟩ := h
        refine Rn_iald rfl (⟨rfl, (by omega : (0 : Int) ≤ 179), (by omega : (179 : Int) + 1 < K ∧ 5 < K)⟩) hg ?_
        exact Rn_ret1 rfl h
      · have h := h.2 hc
        refine Rn_pure 1 (i' := 16) (L' := [some (2, 161), some (0, p1), some (0, p2)]) (st' := [(0, (-2147483648))]) rfl ?_
        exact Rn_ret1 rfl h
-- EventLedgerModel.touches (I)I
theorem v_M_touches {K : Int} {S : Nat} {g r : ab_H} {p1 : Int} (P : Int → ab_H → ab_H → Prop) (hr : SI r) (hK : 186 ≤ K) (h : ∀ g1, g1 = ab_up g 161 0 0 → ab_RI m_M_isEvent [(2, 161), (0, p1)] K S g1 r (fun x2 g' r' => g' = g1 ∧ r' = r ∧ (((wr x2 = wr 0 → P (-1) g1 r) ∧ (¬ wr x2 = wr 0 → ab_RI m_M_isVoid [(2, 161), (0, p1)] K S g1 r (fun x3 g' r' => g' = g1 ∧ r' = r ∧ (((wr x3 = wr 0 → ab_RV m_M_replaysAll [(2, 161)] K S g1 r (fun g4 r' => r' = r ∧ (ab_Rn m_M_touches 17 [some (2, 161), some (0, p1), some (0, 0), none] [] (K, S, g4, r) (ab_Qi K S P)))) ∧ (¬ wr x3 = wr 0 → P (-1) g1 r))))))))) : ab_RI m_M_touches [(2, 161), (0, p1)] K S g r P := by
  show ab_Rn m_M_touches 0 [some (2, 161), some (0, p1), none, none] [] (K, S, g, r) (ab_Qi K S P)
  refine Rn_pure 2 (i' := 2) (L' := [some (2, 161), some (0, p1), none, none]) (st' := [(0, 0), (2, 161)]) rfl ?_
  refine Rn_putI rfl (⟨rfl, (by omega : (0 : Int) ≤ 161), (by omega : (161 : Int) + 1 < K ∧ 5 < K)⟩) (fun g1 he_g1 => ?_)
  have h := h g1 he_g1
  refine Rn_pure 2 (i' := 5) (L' := [some (2, 161), some (0, p1), none, none]) (st' := [(0, p1), (2, 161)]) rfl ?_
  refine Rn_callI [(2, 161), (0, p1)] [] rfl rfl rfl rfl (ab_rvB_of rfl (⟨rfl, (by omega : (0 : Int) ≤ 161), (by omega : (161 : Int) + 1 < K ∧ 5 < K)⟩)) ?_
  refine h.mono (fun x2 g' r' h => ?_)
  obtain ⟨hx, h⟩ := h
  replace hx := hx.symm
  subst hx
  obtain ⟨hx, h⟩ := h
  replace hx := hx.symm
  subst hx
  refine Rn_ifeq rfl (fun hc => ?_) (fun hc => ?_)
  · have h := h.1 hc
    refine Rn_pure 1 (i' := 12) (L' := [some (2, 161), some (0, p1), none, none]) (st' := [(0, (-1))]) rfl ?_
    exact Rn_ret1 rfl h
  · have h := h.2 hc
    refine Rn_pure 2 (i' := 9) (L' := [some (2, 161), some (0, p1), none, none]) (st' := [(0, p1), (2, 161)]) rfl ?_
    refine Rn_callI [(2, 161), (0, p1)] [] rfl rfl rfl rfl (ab_rvB_of rfl (⟨rfl, (by omega : (0 : Int) ≤ 161), (by omega : (161 : Int) + 1 < K ∧ 5 < K)⟩)) ?_
    refine h.mono (fun x3 g' r' h => ?_)
    obtain ⟨hx, h⟩ := h
    replace hx := hx.symm
    subst hx
    obtain ⟨hx, h⟩ := h
    replace hx := hx.symm
    subst hx
    refine Rn_ifeq rfl (fun hc => ?_) (fun hc => ?_)
    · have h := h.1 hc
      refine Rn_pure 1 (i' := 14) (L' := [some (2, 161), some (0, p1), none, none]) (st' := [(2, 161)]) rfl ?_
      refine Rn_callV [(2, 161)] [] rfl rfl rfl rfl (ab_rvB_of rfl (⟨rfl, (by omega : (0 : Int) ≤ 161), (by omega : (161 : Int) + 1 < K ∧ 5 < K)⟩)) ?_
      refine h.mono (fun g4 r' h => ?_)
      obtain ⟨hx, h⟩ := h
      replace hx := hx.symm
      subst hx
      refine Rn_pure 2 (i' := 17) (L' := [some (2, 161), some (0, p1), some (0, 0), none]) (st' := []) rfl ?_
      exact h
    · have h := h.2 hc
      refine Rn_pure 1 (i' := 12) (L' := [some (2, 161), some (0, p1), none, none]) (st' := [(0, (-1))]) rfl ?_
      exact Rn_ret1 rfl h
theorem v_M_touches_17 {K : Int} {S : Nat} {g r : ab_H} {l1 l2 : Int} (P : Int → ab_H → ab_H → Prop) (hr : SI r) (hK : 186 ≤ K) (h : ab_RI m_M_many [(2, 161)] K S g r (fun x1 g' r' => g' = g ∧ r' = r ∧ (((wr x1 ≤ wr l2 → ab_RI m_M_many [(2, 161)] K S g r (fun x2 g' r' => g' = g ∧ r' = r ∧ (ab_RV m_M_replays [(2, 161), (0, x2), (0, l1), (0, 120), (0, (-1))] K S g r (fun g3 r' => r' = r ∧ (ab_Rn m_M_touches 42 [some (2, 161), some (0, l1), some (0, 0), some (0, 0)] [] (K, S, g3, r) (ab_Qi K S P)))))) ∧ (wr l2 < wr x1 → ((0 : Int) ≤ l2 ∧ (l2 : Int) < 120) ∧ ((0 : Int) ≤ l2 ∧ (l2 : Int) < 120) ∧ ∀ g5, g5 = ab_up g 184 l2 (g 183 l2) → ab_Rn m_M_touches 17 [some (2, 161), some (0, l1), some (0, l2 + 1), none] [] (K, S, g5, r) (ab_Qi K S P)))))) : ab_Rn m_M_touches 17 [some (2, 161), some (0, l1), some (0, l2), none] [] (K, S, g, r) (ab_Qi K S P) := by
  refine Rn_pure 2 (i' := 19) (L' := [some (2, 161), some (0, l1), some (0, l2), none]) (st' := [(2, 161), (0, l2)]) rfl ?_
  refine Rn_callI [(2, 161)] [(0, l2)] rfl rfl rfl rfl (ab_rvB_of rfl (⟨rfl, (by omega : (0 : Int) ≤ 161), (by omega : (161 : Int) + 1 < K ∧ 5 < K)⟩)) ?_
  refine h.mono (fun x1 g' r' h => ?_)
  obtain ⟨hx, h⟩ := h
  replace hx := hx.symm
  subst hx
  obtain ⟨hx, h⟩ := h
  replace hx := hx.symm
  subst hx
  refine Rn_icge rfl (fun hc => ?_) (fun hc => ?_)
  · have h := h.1 hc
    refine Rn_pure 2 (i' := 33) (L' := [some (2, 161), some (0, l1), some (0, l2), none]) (st' := [(2, 161), (2, 161)]) rfl ?_
    refine Rn_callI [(2, 161)] [(2, 161)] rfl rfl rfl rfl (ab_rvB_of rfl (⟨rfl, (by omega : (0 : Int) ≤ 161), (by omega : (161 : Int) + 1 < K ∧ 5 < K)⟩)) ?_
    refine h.mono (fun x2 g' r' h => ?_)
    obtain ⟨hx, h⟩ := h
    replace hx := hx.symm
    subst hx
    obtain ⟨hx, h⟩ := h
    replace hx := hx.symm
    subst hx
    refine Rn_pure 3 (i' := 37) (L' := [some (2, 161), some (0, l1), some (0, l2), none]) (st' := [(0, (-1)), (0, 120), (0, l1), (0, x2), (2, 161)]) rfl ?_
    refine Rn_callV [(2, 161), (0, x2), (0, l1), (0, 120), (0, (-1))] [] rfl rfl rfl rfl (ab_rvB_of rfl (⟨rfl, (by omega : (0 : Int) ≤ 161), (by omega : (161 : Int) + 1 < K ∧ 5 < K)⟩)) ?_
    refine h.mono (fun g3 r' h => ?_)
    obtain ⟨hx, h⟩ := h
    replace hx := hx.symm
    subst hx
    refine Rn_pure 4 (i' := 42) (L' := [some (2, 161), some (0, l1), some (0, 0), some (0, 0)]) (st' := []) rfl ?_
    exact h
  · have h := h.2 hc
    refine Rn_pure 1 (i' := 22) (L' := [some (2, 161), some (0, l1), some (0, l2), none]) (st' := [(2, 161)]) rfl ?_
    refine Rn_getR rfl (⟨rfl, (by omega : (0 : Int) ≤ 161), (by omega : (161 : Int) + 1 < K ∧ 5 < K)⟩) (hr 159 _ rfl) (by decide) ?_
    refine Rn_pure 2 (i' := 25) (L' := [some (2, 161), some (0, l1), some (0, l2), none]) (st' := [(2, 161), (0, l2), (2, 184)]) rfl ?_
    refine Rn_getR rfl (⟨rfl, (by omega : (0 : Int) ≤ 161), (by omega : (161 : Int) + 1 < K ∧ 5 < K)⟩) (hr 158 _ rfl) (by decide) ?_
    refine Rn_pure 1 (i' := 27) (L' := [some (2, 161), some (0, l1), some (0, l2), none]) (st' := [(0, l2), (2, 183), (0, l2), (2, 184)]) rfl ?_
    obtain ⟨hg, h⟩ := h
    refine Rn_iald rfl (⟨rfl, (by omega : (0 : Int) ≤ 183), (by omega : (183 : Int) + 1 < K ∧ 5 < K)⟩) hg ?_
    obtain ⟨hg, h⟩ := h
    refine Rn_iast rfl (⟨rfl, (by omega : (0 : Int) ≤ 184), (by omega : (184 : Int) + 1 < K ∧ 5 < K)⟩) hg (fun g5 he_g5 => ?_)
    have h := h g5 he_g5
    refine Rn_pure 2 (i' := 17) (L' := [some (2, 161), some (0, l1), some (0, l2 + 1), none]) (st' := []) rfl ?_
    exact h
theorem v_M_touches_42 {K : Int} {S : Nat} {g r : ab_H} {l1 l2 l3 : Int} (P : Int → ab_H → ab_H → Prop) (hr : SI r) (hK : 186 ≤ K) (h : ab_RI m_M_many [(2, 161)] K S g r (fun x1 g' r' => g' = g ∧ r' = r ∧ (((wr x1 ≤ wr l3 → P l2 g r) ∧ (wr l3 < wr x1 → ((wr l3 = wr l1 → ab_Rn m_M_touches 42 [some (2, 161), some (0, l1), some (0, l2 + 0), some (0, l3 + 1)] [] (K, S, g, r) (ab_Qi K S P)) ∧ (¬ wr l3 = wr l1 → ((0 : Int) ≤ l3 ∧ (l3 : Int) < 120) ∧ ((0 : Int) ≤ l3 ∧ (l3 : Int) < 120) ∧ ((wr (g 184 l3) = wr (g 183 l3) → ab_Rn m_M_touches 42 [some (2, 161), some (0, l1), some (0, l2 + 0), some (0, l3 + 1)] [] (K, S, g, r) (ab_Qi K S P)) ∧ (¬ wr (g 184 l3) = wr (g 183 l3) → ab_Rn m_M_touches 42 [some (2, 161), some (0, l1), some (0, l2 + 1), some (0, l3 + 1)] [] (K, S, g, r) (ab_Qi K S P)))))))))) : ab_Rn m_M_touches 42 [some (2, 161), some (0, l1), some (0, l2), some (0, l3)] [] (K, S, g, r) (ab_Qi K S P) := by
  refine Rn_pure 2 (i' := 44) (L' := [some (2, 161), some (0, l1), some (0, l2), some (0, l3)]) (st' := [(2, 161), (0, l3)]) rfl ?_
  refine Rn_callI [(2, 161)] [(0, l3)] rfl rfl rfl rfl (ab_rvB_of rfl (⟨rfl, (by omega : (0 : Int) ≤ 161), (by omega : (161 : Int) + 1 < K ∧ 5 < K)⟩)) ?_
  refine h.mono (fun x1 g' r' h => ?_)
  obtain ⟨hx, h⟩ := h
  replace hx := hx.symm
  subst hx
  obtain ⟨hx, h⟩ := h
  replace hx := hx.symm
  subst hx
  refine Rn_icge rfl (fun hc => ?_) (fun hc => ?_)
  · have h := h.1 hc
    refine Rn_pure 1 (i' := 67) (L' := [some (2, 161), some (0, l1), some (0, l2), some (0, l3)]) (st' := [(0, l2)]) rfl ?_
    exact Rn_ret1 rfl h
  · have h := h.2 hc
    refine Rn_pure 3 (i' := 49) (L' := [some (2, 161), some (0, l1), some (0, l2), some (0, l3)]) (st' := [(0, l1), (0, l3), (0, l2)]) rfl ?_
    refine Rn_iceq rfl (fun hc => ?_) (fun hc => ?_)
    · have h := h.1 hc
      refine Rn_pure 5 (i' := 42) (L' := [some (2, 161), some (0, l1), some (0, l2 + 0), some (0, l3 + 1)]) (st' := []) rfl ?_
      exact h
    · have h := h.2 hc
      refine Rn_pure 1 (i' := 51) (L' := [some (2, 161), some (0, l1), some (0, l2), some (0, l3)]) (st' := [(2, 161), (0, l2)]) rfl ?_
      refine Rn_getR rfl (⟨rfl, (by omega : (0 : Int) ≤ 161), (by omega : (161 : Int) + 1 < K ∧ 5 < K)⟩) (hr 159 _ rfl) (by decide) ?_
      refine Rn_pure 1 (i' := 53) (L' := [some (2, 161), some (0, l1), some (0, l2), some (0, l3)]) (st' := [(0, l3), (2, 184), (0, l2)]) rfl ?_
      obtain ⟨hg, h⟩ := h
      refine Rn_iald rfl (⟨rfl, (by omega : (0 : Int) ≤ 184), (by omega : (184 : Int) + 1 < K ∧ 5 < K)⟩) hg ?_
      refine Rn_pure 1 (i' := 55) (L' := [some (2, 161), some (0, l1), some (0, l2), some (0, l3)]) (st' := [(2, 161), (0, g 184 l3), (0, l2)]) rfl ?_
      refine Rn_getR rfl (⟨rfl, (by omega : (0 : Int) ≤ 161), (by omega : (161 : Int) + 1 < K ∧ 5 < K)⟩) (hr 158 _ rfl) (by decide) ?_
      refine Rn_pure 1 (i' := 57) (L' := [some (2, 161), some (0, l1), some (0, l2), some (0, l3)]) (st' := [(0, l3), (2, 183), (0, g 184 l3), (0, l2)]) rfl ?_
      obtain ⟨hg, h⟩ := h
      refine Rn_iald rfl (⟨rfl, (by omega : (0 : Int) ≤ 183), (by omega : (183 : Int) + 1 < K ∧ 5 < K)⟩) hg ?_
      refine Rn_iceq rfl (fun hc => ?_) (fun hc => ?_)
      · have h := h.1 hc
        refine Rn_pure 5 (i' := 42) (L' := [some (2, 161), some (0, l1), some (0, l2 + 0), some (0, l3 + 1)]) (st' := []) rfl ?_
        exact h
      · have h := h.2 hc
        refine Rn_pure 6 (i' := 42) (L' := [some (2, 161), some (0, l1), some (0, l2 + 1), some (0, l3 + 1)]) (st' := []) rfl ?_
        exact h
-- EventLedgerModel.firstBelow (I)I
theorem v_M_firstBelow {K : Int} {S : Nat} {g r : ab_H} {p1 : Int} (P : Int → ab_H → ab_H → Prop) (hr : SI r) (hK : 186 ≤ K) (h : ∀ g1, g1 = ab_up g 161 0 0 → ab_RI m_M_isAccount [(2, 161), (0, p1)] K S g1 r (fun x2 g' r' => g' = g1 ∧ r' = r ∧ (((¬ wr x2 = wr 0 → ab_RI m_M_many [(2, 161)] K S g1 r (fun x3 g' r' => g' = g1 ∧ r' = r ∧ (ab_RV m_M_replays [(2, 161), (0, x3), (0, (-1)), (0, 120), (0, p1)] K S g1 r (fun g4 r' => r' = r ∧ (P (g4 161 41) g4 r))))) ∧ (wr x2 = wr 0 → P (-1) g1 r))))) : ab_RI m_M_firstBelow [(2, 161), (0, p1)] K S g r P := by
  show ab_Rn m_M_firstBelow 0 [some (2, 161), some (0, p1)] [] (K, S, g, r) (ab_Qi K S P)
  refine Rn_pure 2 (i' := 2) (L' := [some (2, 161), some (0, p1)]) (st' := [(0, 0), (2, 161)]) rfl ?_
  refine Rn_putI rfl (⟨rfl, (by omega : (0 : Int) ≤ 161), (by omega : (161 : Int) + 1 < K ∧ 5 < K)⟩) (fun g1 he_g1 => ?_)
  have h := h g1 he_g1
  refine Rn_pure 2 (i' := 5) (L' := [some (2, 161), some (0, p1)]) (st' := [(0, p1), (2, 161)]) rfl ?_
  refine Rn_callI [(2, 161), (0, p1)] [] rfl rfl rfl rfl (ab_rvB_of rfl (⟨rfl, (by omega : (0 : Int) ≤ 161), (by omega : (161 : Int) + 1 < K ∧ 5 < K)⟩)) ?_
  refine h.mono (fun x2 g' r' h => ?_)
  obtain ⟨hx, h⟩ := h
  replace hx := hx.symm
  subst hx
  obtain ⟨hx, h⟩ := h
  replace hx := hx.symm
  subst hx
  refine Rn_ifne rfl (fun hc => ?_) (fun hc => ?_)
  · have h := h.1 hc
    refine Rn_pure 2 (i' := 11) (L' := [some (2, 161), some (0, p1)]) (st' := [(2, 161), (2, 161)]) rfl ?_
    refine Rn_callI [(2, 161)] [(2, 161)] rfl rfl rfl rfl (ab_rvB_of rfl (⟨rfl, (by omega : (0 : Int) ≤ 161), (by omega : (161 : Int) + 1 < K ∧ 5 < K)⟩)) ?_
    refine h.mono (fun x3 g' r' h => ?_)
    obtain ⟨hx, h⟩ := h
    replace hx := hx.symm
    subst hx
    obtain ⟨hx, h⟩ := h
    replace hx := hx.symm
    subst hx
    refine Rn_pure 3 (i' := 15) (L' := [some (2, 161), some (0, p1)]) (st' := [(0, p1), (0, 120), (0, (-1)), (0, x3), (2, 161)]) rfl ?_
    refine Rn_callV [(2, 161), (0, x3), (0, (-1)), (0, 120), (0, p1)] [] rfl rfl rfl rfl (ab_rvB_of rfl (⟨rfl, (by omega : (0 : Int) ≤ 161), (by omega : (161 : Int) + 1 < K ∧ 5 < K)⟩)) ?_
    refine h.mono (fun g4 r' h => ?_)
    obtain ⟨hx, h⟩ := h
    replace hx := hx.symm
    subst hx
    refine Rn_pure 1 (i' := 17) (L' := [some (2, 161), some (0, p1)]) (st' := [(2, 161)]) rfl ?_
    refine Rn_getI rfl (⟨rfl, (by omega : (0 : Int) ≤ 161), (by omega : (161 : Int) + 1 < K ∧ 5 < K)⟩) ?_
    exact Rn_ret1 rfl h
  · have h := h.2 hc
    refine Rn_pure 1 (i' := 8) (L' := [some (2, 161), some (0, p1)]) (st' := [(0, (-1))]) rfl ?_
    exact Rn_ret1 rfl h
-- EventLedgerModel.peak (II)I
theorem v_M_peak {K : Int} {S : Nat} {g r : ab_H} {p1 p2 : Int} (P : Int → ab_H → ab_H → Prop) (hr : SI r) (hK : 186 ≤ K) (h : ∀ g1, g1 = ab_up g 161 0 0 → ab_RI m_M_isAccount [(2, 161), (0, p1)] K S g1 r (fun x2 g' r' => g' = g1 ∧ r' = r ∧ (((wr x2 = wr 0 → P (-2147483648) g1 r) ∧ (¬ wr x2 = wr 0 → ((wr p2 < wr 0 → P (-2147483648) g1 r) ∧ (wr 0 ≤ wr p2 → ((wr p2 ≤ wr 1 → ab_RI m_M_many [(2, 161)] K S g1 r (fun x3 g' r' => g' = g1 ∧ r' = r ∧ (ab_RV m_M_replays [(2, 161), (0, x3), (0, (-1)), (0, 120), (0, p1)] K S g1 r (fun g4 r' => r' = r ∧ (((¬ wr p2 = wr 0 → P (g4 161 43) g4 r) ∧ (wr p2 = wr 0 → P (g4 161 42) g4 r))))))) ∧ (wr 1 < wr p2 → P (-2147483648) g1 r))))))))) : ab_RI m_M_peak [(2, 161), (0, p1), (0, p2)] K S g r P := by
  show ab_Rn m_M_peak 0 [some (2, 161), some (0, p1), some (0, p2)] [] (K, S, g, r) (ab_Qi K S P)
  refine Rn_pure 2 (i' := 2) (L' := [some (2, 161), some (0, p1), some (0, p2)]) (st' := [(0, 0), (2, 161)]) rfl ?_
  refine Rn_putI rfl (⟨rfl, (by omega : (0 : Int) ≤ 161), (by omega : (161 : Int) + 1 < K ∧ 5 < K)⟩) (fun g1 he_g1 => ?_)
  have h := h g1 he_g1
  refine Rn_pure 2 (i' := 5) (L' := [some (2, 161), some (0, p1), some (0, p2)]) (st' := [(0, p1), (2, 161)]) rfl ?_
  refine Rn_callI [(2, 161), (0, p1)] [] rfl rfl rfl rfl (ab_rvB_of rfl (⟨rfl, (by omega : (0 : Int) ≤ 161), (by omega : (161 : Int) + 1 < K ∧ 5 < K)⟩)) ?_
  refine h.mono (fun x2 g' r' h => ?_)
  obtain ⟨hx, h⟩ := h
  replace hx := hx.symm
  subst hx
  obtain ⟨hx, h⟩ := h
  replace hx := hx.symm
  subst hx
  refine Rn_ifeq rfl (fun hc => ?_) (fun hc => ?_)
  · have h := h.1 hc
    refine Rn_pure 1 (i' := 13) (L' := [some (2, 161), some (0, p1), some (0, p2)]) (st' := [(0, (-2147483648))]) rfl ?_
    exact Rn_ret1 rfl h
  · have h := h.2 hc
    refine Rn_pure 1 (i' := 8) (L' := [some (2, 161), some (0, p1), some (0, p2)]) (st' := [(0, p2)]) rfl ?_
    refine Rn_iflt rfl (fun hc => ?_) (fun hc => ?_)
    · have h := h.1 hc
      refine Rn_pure 1 (i' := 13) (L' := [some (2, 161), some (0, p1), some (0, p2)]) (st' := [(0, (-2147483648))]) rfl ?_
      exact Rn_ret1 rfl h
    · have h := h.2 hc
      refine Rn_pure 2 (i' := 11) (L' := [some (2, 161), some (0, p1), some (0, p2)]) (st' := [(0, 1), (0, p2)]) rfl ?_
      refine Rn_icle rfl (fun hc => ?_) (fun hc => ?_)
      · have h := h.1 hc
        refine Rn_pure 2 (i' := 16) (L' := [some (2, 161), some (0, p1), some (0, p2)]) (st' := [(2, 161), (2, 161)]) rfl ?_
        refine Rn_callI [(2, 161)] [(2, 161)] rfl rfl rfl rfl (ab_rvB_of rfl (⟨rfl, (by omega : (0 : Int) ≤ 161), (by omega : (161 : Int) + 1 < K ∧ 5 < K)⟩)) ?_
        refine h.mono (fun x3 g' r' h => ?_)
        obtain ⟨hx, h⟩ := h
        replace hx := hx.symm
        subst hx
        obtain ⟨hx, h⟩ := h
        replace hx := hx.symm
        subst hx
        refine Rn_pure 3 (i' := 20) (L' := [some (2, 161), some (0, p1), some (0, p2)]) (st' := [(0, p1), (0, 120), (0, (-1)), (0, x3), (2, 161)]) rfl ?_
        refine Rn_callV [(2, 161), (0, x3), (0, (-1)), (0, 120), (0, p1)] [] rfl rfl rfl rfl (ab_rvB_of rfl (⟨rfl, (by omega : (0 : Int) ≤ 161), (by omega : (161 : Int) + 1 < K ∧ 5 < K)⟩)) ?_
        refine h.mono (fun g4 r' h => ?_)
        obtain ⟨hx, h⟩ := h
        replace hx := hx.symm
        subst hx
        refine Rn_pure 1 (i' := 22) (L' := [some (2, 161), some (0, p1), some (0, p2)]) (st' := [(0, p2)]) rfl ?_
        refine Rn_ifne rfl (fun hc => ?_) (fun hc => ?_)
        · have h := h.1 hc
          refine Rn_pure 1 (i' := 27) (L' := [some (2, 161), some (0, p1), some (0, p2)]) (st' := [(2, 161)]) rfl ?_
          refine Rn_getI rfl (⟨rfl, (by omega : (0 : Int) ≤ 161), (by omega : (161 : Int) + 1 < K ∧ 5 < K)⟩) ?_
          exact Rn_ret1 rfl h
        · have h := h.2 hc
          refine Rn_pure 1 (i' := 24) (L' := [some (2, 161), some (0, p1), some (0, p2)]) (st' := [(2, 161)]) rfl ?_
          refine Rn_getI rfl (⟨rfl, (by omega : (0 : Int) ≤ 161), (by omega : (161 : Int) + 1 < K ∧ 5 < K)⟩) ?_
          refine Rn_pure 1 (i' := 28) (L' := [some (2, 161), some (0, p1), some (0, p2)]) (st' := [(0, g4 161 42)]) rfl ?_
          exact Rn_ret1 rfl h
      · have h := h.2 hc
        refine Rn_pure 1 (i' := 13) (L' := [some (2, 161), some (0, p1), some (0, p2)]) (st' := [(0, (-2147483648))]) rfl ?_
        exact Rn_ret1 rfl h
-- EventLedgerModel.ifPlain (II)I
theorem v_M_ifPlain {K : Int} {S : Nat} {g r : ab_H} {p1 p2 : Int} (P : Int → ab_H → ab_H → Prop) (hr : SI r) (hK : 186 ≤ K) (h : ∀ g1, g1 = ab_up g 161 0 0 → ((wr p1 < wr 0 → P (-1) g1 r) ∧ (wr 0 ≤ wr p1 → ((wr 6 < wr p1 → P (-1) g1 r) ∧ (wr p1 ≤ wr 6 → ((wr p2 < wr 1 → P (-1) g1 r) ∧ (wr 1 ≤ wr p2 → ((wr p2 ≤ wr 2 → ∀ g2, g2 = ab_up g1 161 34 p1 → ∀ g3, g3 = ab_up g2 161 35 p2 → ab_RV m_M_replaysAll [(2, 161)] K S g3 r (fun g4 r' => r' = r ∧ (∀ g6, g6 = ab_up g4 161 34 (-1) → ab_RI m_M_asidesNow [(2, 161)] K S g6 r (fun x7 g' r' => g' = g6 ∧ r' = r ∧ (P x7 g6 r))))) ∧ (wr 2 < wr p2 → P (-1) g1 r))))))))) : ab_RI m_M_ifPlain [(2, 161), (0, p1), (0, p2)] K S g r P := by
  show ab_Rn m_M_ifPlain 0 [some (2, 161), some (0, p1), some (0, p2)] [] (K, S, g, r) (ab_Qi K S P)
  refine Rn_pure 2 (i' := 2) (L' := [some (2, 161), some (0, p1), some (0, p2)]) (st' := [(0, 0), (2, 161)]) rfl ?_
  refine Rn_putI rfl (⟨rfl, (by omega : (0 : Int) ≤ 161), (by omega : (161 : Int) + 1 < K ∧ 5 < K)⟩) (fun g1 he_g1 => ?_)
  have h := h g1 he_g1
  refine Rn_pure 1 (i' := 4) (L' := [some (2, 161), some (0, p1), some (0, p2)]) (st' := [(0, p1)]) rfl ?_
  refine Rn_iflt rfl (fun hc => ?_) (fun hc => ?_)
  · have h := h.1 hc
    refine Rn_pure 1 (i' := 15) (L' := [some (2, 161), some (0, p1), some (0, p2)]) (st' := [(0, (-1))]) rfl ?_
    exact Rn_ret1 rfl h
  · have h := h.2 hc
    refine Rn_pure 2 (i' := 7) (L' := [some (2, 161), some (0, p1), some (0, p2)]) (st' := [(0, 6), (0, p1)]) rfl ?_
    refine Rn_icgt rfl (fun hc => ?_) (fun hc => ?_)
    · have h := h.1 hc
      refine Rn_pure 1 (i' := 15) (L' := [some (2, 161), some (0, p1), some (0, p2)]) (st' := [(0, (-1))]) rfl ?_
      exact Rn_ret1 rfl h
    · have h := h.2 hc
      refine Rn_pure 2 (i' := 10) (L' := [some (2, 161), some (0, p1), some (0, p2)]) (st' := [(0, 1), (0, p2)]) rfl ?_
      refine Rn_iclt rfl (fun hc => ?_) (fun hc => ?_)
      · have h := h.1 hc
        refine Rn_pure 1 (i' := 15) (L' := [some (2, 161), some (0, p1), some (0, p2)]) (st' := [(0, (-1))]) rfl ?_
        exact Rn_ret1 rfl h
      · have h := h.2 hc
        refine Rn_pure 2 (i' := 13) (L' := [some (2, 161), some (0, p1), some (0, p2)]) (st' := [(0, 2), (0, p2)]) rfl ?_
        refine Rn_icle rfl (fun hc => ?_) (fun hc => ?_)
        · have h := h.1 hc
          refine Rn_pure 2 (i' := 18) (L' := [some (2, 161), some (0, p1), some (0, p2)]) (st' := [(0, p1), (2, 161)]) rfl ?_
          refine Rn_putI rfl (⟨rfl, (by omega : (0 : Int) ≤ 161), (by omega : (161 : Int) + 1 < K ∧ 5 < K)⟩) (fun g2 he_g2 => ?_)
          have h := h g2 he_g2
          refine Rn_pure 2 (i' := 21) (L' := [some (2, 161), some (0, p1), some (0, p2)]) (st' := [(0, p2), (2, 161)]) rfl ?_
          refine Rn_putI rfl (⟨rfl, (by omega : (0 : Int) ≤ 161), (by omega : (161 : Int) + 1 < K ∧ 5 < K)⟩) (fun g3 he_g3 => ?_)
          have h := h g3 he_g3
          refine Rn_pure 1 (i' := 23) (L' := [some (2, 161), some (0, p1), some (0, p2)]) (st' := [(2, 161)]) rfl ?_
          refine Rn_callV [(2, 161)] [] rfl rfl rfl rfl (ab_rvB_of rfl (⟨rfl, (by omega : (0 : Int) ≤ 161), (by omega : (161 : Int) + 1 < K ∧ 5 < K)⟩)) ?_
          refine h.mono (fun g4 r' h => ?_)
          obtain ⟨hx, h⟩ := h
          replace hx := hx.symm
          subst hx
          refine Rn_pure 2 (i' := 26) (L' := [some (2, 161), some (0, p1), some (0, p2)]) (st' := [(0, (-1)), (2, 161)]) rfl ?_
          refine Rn_putI rfl (⟨rfl, (by omega : (0 : Int) ≤ 161), (by omega : (161 : Int) + 1 < K ∧ 5 < K)⟩) (fun g6 he_g6 => ?_)
          have h := h g6 he_g6
          refine Rn_pure 1 (i' := 28) (L' := [some (2, 161), some (0, p1), some (0, p2)]) (st' := [(2, 161)]) rfl ?_
          refine Rn_callI [(2, 161)] [] rfl rfl rfl rfl (ab_rvB_of rfl (⟨rfl, (by omega : (0 : Int) ≤ 161), (by omega : (161 : Int) + 1 < K ∧ 5 < K)⟩)) ?_
          refine h.mono (fun x7 g' r' h => ?_)
          obtain ⟨hx, h⟩ := h
          replace hx := hx.symm
          subst hx
          obtain ⟨hx, h⟩ := h
          replace hx := hx.symm
          subst hx
          exact Rn_ret1 rfl h
        · have h := h.2 hc
          refine Rn_pure 1 (i' := 15) (L' := [some (2, 161), some (0, p1), some (0, p2)]) (st' := [(0, (-1))]) rfl ?_
          exact Rn_ret1 rfl h
-- EventLedgerModel.isTally (I)Z
theorem v_M_isTally {K : Int} {S : Nat} {g r : ab_H} {p1 : Int} (P : Int → ab_H → ab_H → Prop) (hr : SI r) (hK : 186 ≤ K) (h : ((wr p1 < wr 0 → P 0 g r) ∧ (wr 0 ≤ wr p1 → ab_RI m_M_tallies [(2, 161)] K S g r (fun x1 g' r' => g' = g ∧ r' = r ∧ (((wr x1 ≤ wr p1 → P 0 g r) ∧ (wr p1 < wr x1 → P 1 g r))))))) : ab_RI m_M_isTally [(2, 161), (0, p1)] K S g r P := by
  show ab_Rn m_M_isTally 0 [some (2, 161), some (0, p1)] [] (K, S, g, r) (ab_Qi K S P)
  refine Rn_pure 1 (i' := 1) (L' := [some (2, 161), some (0, p1)]) (st' := [(0, p1)]) rfl ?_
  refine Rn_iflt rfl (fun hc => ?_) (fun hc => ?_)
  · have h := h.1 hc
    refine Rn_pure 1 (i' := 9) (L' := [some (2, 161), some (0, p1)]) (st' := [(0, 0)]) rfl ?_
    exact Rn_ret2 rfl (by decide) h
  · have h := h.2 hc
    refine Rn_pure 2 (i' := 4) (L' := [some (2, 161), some (0, p1)]) (st' := [(2, 161), (0, p1)]) rfl ?_
    refine Rn_callI [(2, 161)] [(0, p1)] rfl rfl rfl rfl (ab_rvB_of rfl (⟨rfl, (by omega : (0 : Int) ≤ 161), (by omega : (161 : Int) + 1 < K ∧ 5 < K)⟩)) ?_
    refine h.mono (fun x1 g' r' h => ?_)
    obtain ⟨hx, h⟩ := h
    replace hx := hx.symm
    subst hx
    obtain ⟨hx, h⟩ := h
    replace hx := hx.symm
    subst hx
    refine Rn_icge rfl (fun hc => ?_) (fun hc => ?_)
    · have h := h.1 hc
      refine Rn_pure 1 (i' := 9) (L' := [some (2, 161), some (0, p1)]) (st' := [(0, 0)]) rfl ?_
      exact Rn_ret2 rfl (by decide) h
    · have h := h.2 hc
      refine Rn_pure 2 (i' := 9) (L' := [some (2, 161), some (0, p1)]) (st' := [(0, 1)]) rfl ?_
      exact Rn_ret2 rfl (by decide) h
-- EventLedgerModel.tallyAt (I)I
theorem v_M_tallyAt {K : Int} {S : Nat} {g r : ab_H} {p0 : Int} (P : Int → ab_H → ab_H → Prop) (hr : SI r) (hK : 186 ≤ K) (h : P (1091 + (129 * p0)) g r) : ab_RI m_M_tallyAt [(0, p0)] K S g r P := by
  show ab_Rn m_M_tallyAt 0 [some (0, p0)] [] (K, S, g, r) (ab_Qi K S P)
  refine Rn_pure 5 (i' := 5) (L' := [some (0, p0)]) (st' := [(0, 1091 + (129 * p0))]) rfl ?_
  exact Rn_ret1 rfl h
-- EventLedgerModel.counts (II)I
theorem v_M_counts {K : Int} {S : Nat} {g r : ab_H} {p1 p2 : Int} (P : Int → ab_H → ab_H → Prop) (hr : SI r) (hK : 186 ≤ K) (h : ab_RI m_M_isVoid [(2, 161), (0, p2)] K S g r (fun x1 g' r' => g' = g ∧ r' = r ∧ (((¬ wr x1 = wr 0 → P 0 g r) ∧ (wr x1 = wr 0 → ab_RI m_M_isVoided [(2, 161), (0, p2)] K S g r (fun x2 g' r' => g' = g ∧ r' = r ∧ (((¬ wr x2 = wr 0 → P 0 g r) ∧ (wr x2 = wr 0 → ((0 : Int) ≤ 9 * p2 + 0 ∧ (9 * p2 + 0 : Int) < 1607) ∧ ((0 : Int) ≤ p1 ∧ (p1 : Int) < 8) ∧ ((¬ wr (g 174 (9 * p2 + 0)) = wr (g 166 p1) → P 0 g r) ∧ (wr (g 174 (9 * p2 + 0)) = wr (g 166 p1) → ((0 : Int) ≤ p2 ∧ (p2 : Int) < 120) ∧ ((wr (g 183 p2) = wr 0 → ab_RI m_M_breaks [(2, 161), (0, p2)] K S g r (fun x4 g3 r' => r' = r ∧ (((0 : Int) ≤ p1 ∧ (p1 : Int) < 8) ∧ ((0 : Int) ≤ g3 167 p1 - 1 ∧ (g3 167 p1 - 1 : Int) < 3) ∧ P (g3 178 (g3 167 p1 - 1) + 1) g3 r))) ∧ (¬ wr (g 183 p2) = wr 0 → P 0 g r))))))))))))) : ab_RI m_M_counts [(2, 161), (0, p1), (0, p2)] K S g r P := by
  show ab_Rn m_M_counts 0 [some (2, 161), some (0, p1), some (0, p2)] [] (K, S, g, r) (ab_Qi K S P)
  refine Rn_pure 2 (i' := 2) (L' := [some (2, 161), some (0, p1), some (0, p2)]) (st' := [(0, p2), (2, 161)]) rfl ?_
  refine Rn_callI [(2, 161), (0, p2)] [] rfl rfl rfl rfl (ab_rvB_of rfl (⟨rfl, (by omega : (0 : Int) ≤ 161), (by omega : (161 : Int) + 1 < K ∧ 5 < K)⟩)) ?_
  refine h.mono (fun x1 g' r' h => ?_)
  obtain ⟨hx, h⟩ := h
  replace hx := hx.symm
  subst hx
  obtain ⟨hx, h⟩ := h
  replace hx := hx.symm
  subst hx
  refine Rn_ifne rfl (fun hc => ?_) (fun hc => ?_)
  · have h := h.1 hc
    refine Rn_pure 1 (i' := 27) (L' := [some (2, 161), some (0, p1), some (0, p2)]) (st' := [(0, 0)]) rfl ?_
    exact Rn_ret1 rfl h
  · have h := h.2 hc
    refine Rn_pure 2 (i' := 6) (L' := [some (2, 161), some (0, p1), some (0, p2)]) (st' := [(0, p2), (2, 161)]) rfl ?_
    refine Rn_callI [(2, 161), (0, p2)] [] rfl rfl rfl rfl (ab_rvB_of rfl (⟨rfl, (by omega : (0 : Int) ≤ 161), (by omega : (161 : Int) + 1 < K ∧ 5 < K)⟩)) ?_
    refine h.mono (fun x2 g' r' h => ?_)
    obtain ⟨hx, h⟩ := h
    replace hx := hx.symm
    subst hx
    obtain ⟨hx, h⟩ := h
    replace hx := hx.symm
    subst hx
    refine Rn_ifne rfl (fun hc => ?_) (fun hc => ?_)
    · have h := h.1 hc
      refine Rn_pure 1 (i' := 27) (L' := [some (2, 161), some (0, p1), some (0, p2)]) (st' := [(0, 0)]) rfl ?_
      exact Rn_ret1 rfl h
    · have h := h.2 hc
      refine Rn_pure 1 (i' := 9) (L' := [some (2, 161), some (0, p1), some (0, p2)]) (st' := [(2, 161)]) rfl ?_
      refine Rn_getR rfl (⟨rfl, (by omega : (0 : Int) ≤ 161), (by omega : (161 : Int) + 1 < K ∧ 5 < K)⟩) (hr 149 _ rfl) (by decide) ?_
      refine Rn_pure 5 (i' := 15) (L' := [some (2, 161), some (0, p1), some (0, p2)]) (st' := [(0, 9 * p2 + 0), (2, 174)]) rfl ?_
      obtain ⟨hg, h⟩ := h
      refine Rn_iald rfl (⟨rfl, (by omega : (0 : Int) ≤ 174), (by omega : (174 : Int) + 1 < K ∧ 5 < K)⟩) hg ?_
      refine Rn_pure 1 (i' := 17) (L' := [some (2, 161), some (0, p1), some (0, p2)]) (st' := [(2, 161), (0, g 174 (9 * p2 + 0))]) rfl ?_
      refine Rn_getR rfl (⟨rfl, (by omega : (0 : Int) ≤ 161), (by omega : (161 : Int) + 1 < K ∧ 5 < K)⟩) (hr 141 _ rfl) (by decide) ?_
      refine Rn_pure 1 (i' := 19) (L' := [some (2, 161), some (0, p1), some (0, p2)]) (st' := [(0, p1), (2, 166), (0, g 174 (9 * p2 + 0))]) rfl ?_
      obtain ⟨hg, h⟩ := h
      refine Rn_iald rfl (⟨rfl, (by omega : (0 : Int) ≤ 166), (by omega : (166 : Int) + 1 < K ∧ 5 < K)⟩) hg ?_
      refine Rn_icne rfl (fun hc => ?_) (fun hc => ?_)
      · have h := h.1 hc
        refine Rn_pure 1 (i' := 27) (L' := [some (2, 161), some (0, p1), some (0, p2)]) (st' := [(0, 0)]) rfl ?_
        exact Rn_ret1 rfl h
      · have h := h.2 hc
        refine Rn_pure 1 (i' := 22) (L' := [some (2, 161), some (0, p1), some (0, p2)]) (st' := [(2, 161)]) rfl ?_
        refine Rn_getR rfl (⟨rfl, (by omega : (0 : Int) ≤ 161), (by omega : (161 : Int) + 1 < K ∧ 5 < K)⟩) (hr 158 _ rfl) (by decide) ?_
        refine Rn_pure 1 (i' := 24) (L' := [some (2, 161), some (0, p1), some (0, p2)]) (st' := [(0, p2), (2, 183)]) rfl ?_
        obtain ⟨hg, h⟩ := h
        refine Rn_iald rfl (⟨rfl, (by omega : (0 : Int) ≤ 183), (by omega : (183 : Int) + 1 < K ∧ 5 < K)⟩) hg ?_
        refine Rn_ifeq rfl (fun hc => ?_) (fun hc => ?_)
        · have h := h.1 hc
          refine Rn_pure 2 (i' := 30) (L' := [some (2, 161), some (0, p1), some (0, p2)]) (st' := [(0, p2), (2, 161)]) rfl ?_
          refine Rn_callI [(2, 161), (0, p2)] [] rfl rfl rfl rfl (ab_rvB_of rfl (⟨rfl, (by omega : (0 : Int) ≤ 161), (by omega : (161 : Int) + 1 < K ∧ 5 < K)⟩)) ?_
          refine h.mono (fun x4 g3 r' h => ?_)
          obtain ⟨hx, h⟩ := h
          replace hx := hx.symm
          subst hx
          refine Rn_pure 2 (i' := 33) (L' := [some (2, 161), some (0, p1), some (0, p2)]) (st' := [(2, 161)]) rfl ?_
          refine Rn_getR rfl (⟨rfl, (by omega : (0 : Int) ≤ 161), (by omega : (161 : Int) + 1 < K ∧ 5 < K)⟩) (hr 153 _ rfl) (by decide) ?_
          refine Rn_pure 1 (i' := 35) (L' := [some (2, 161), some (0, p1), some (0, p2)]) (st' := [(2, 161), (2, 178)]) rfl ?_
          refine Rn_getR rfl (⟨rfl, (by omega : (0 : Int) ≤ 161), (by omega : (161 : Int) + 1 < K ∧ 5 < K)⟩) (hr 142 _ rfl) (by decide) ?_
          refine Rn_pure 1 (i' := 37) (L' := [some (2, 161), some (0, p1), some (0, p2)]) (st' := [(0, p1), (2, 167), (2, 178)]) rfl ?_
          obtain ⟨hg, h⟩ := h
          refine Rn_iald rfl (⟨rfl, (by omega : (0 : Int) ≤ 167), (by omega : (167 : Int) + 1 < K ∧ 5 < K)⟩) hg ?_
          refine Rn_pure 2 (i' := 40) (L' := [some (2, 161), some (0, p1), some (0, p2)]) (st' := [(0, g3 167 p1 - 1), (2, 178)]) rfl ?_
          obtain ⟨hg, h⟩ := h
          refine Rn_iald rfl (⟨rfl, (by omega : (0 : Int) ≤ 178), (by omega : (178 : Int) + 1 < K ∧ 5 < K)⟩) hg ?_
          refine Rn_pure 2 (i' := 43) (L' := [some (2, 161), some (0, p1), some (0, p2)]) (st' := [(0, g3 178 (g3 167 p1 - 1) + 1)]) rfl ?_
          exact Rn_ret1 rfl h
        · have h := h.2 hc
          refine Rn_pure 1 (i' := 27) (L' := [some (2, 161), some (0, p1), some (0, p2)]) (st' := [(0, 0)]) rfl ?_
          exact Rn_ret1 rfl h
-- EventLedgerModel.sees (II)V
theorem v_M_sees {K : Int} {S : Nat} {g r : ab_H} {p1 p2 : Int} (P : ab_H → ab_H → Prop) (hr : SI r) (hK : 186 ≤ K) (h : ab_RI m_M_tallyAt [(0, p1)] K S g r (fun x1 g' r' => g' = g ∧ r' = r ∧ (ab_RI m_M_isVoid [(2, 161), (0, p2)] K S g r (fun x2 g' r' => g' = g ∧ r' = r ∧ (((¬ wr x2 = wr 0 → ((0 : Int) ≤ 9 * p2 + 2 ∧ (9 * p2 + 2 : Int) < 1607) ∧ ((0 : Int) ≤ x1 + 9 + (g 174 (9 * p2 + 2)) ∧ (x1 + 9 + (g 174 (9 * p2 + 2)) : Int) < 1607) ∧ ((¬ wr (g 174 (x1 + 9 + (g 174 (9 * p2 + 2)))) = wr 0 → ((0 : Int) ≤ 9 * (g 174 (9 * p2 + 2)) + 1 ∧ (9 * (g 174 (9 * p2 + 2)) + 1 : Int) < 1607) ∧ ((0 : Int) ≤ x1 + 1 + (g 174 (9 * (g 174 (9 * p2 + 2)) + 1)) ∧ (x1 + 1 + (g 174 (9 * (g 174 (9 * p2 + 2)) + 1)) : Int) < 1607) ∧ ((0 : Int) ≤ x1 + 9 + (g 174 (9 * p2 + 2)) ∧ (x1 + 9 + (g 174 (9 * p2 + 2)) : Int) < 1607) ∧ ((0 : Int) ≤ x1 + 1 + (g 174 (9 * (g 174 (9 * p2 + 2)) + 1)) ∧ (x1 + 1 + (g 174 (9 * (g 174 (9 * p2 + 2)) + 1)) : Int) < 1607) ∧ ∀ g3, g3 = ab_up g 174 (x1 + 1 + (g 174 (9 * (g 174 (9 * p2 + 2)) + 1))) (g 174 (x1 + 1 + (g 174 (9 * (g 174 (9 * p2 + 2)) + 1))) - (g 174 (x1 + 9 + (g 174 (9 * p2 + 2))) - 1)) → ((0 : Int) ≤ x1 + 9 + (g 174 (9 * p2 + 2)) ∧ (x1 + 9 + (g 174 (9 * p2 + 2)) : Int) < 1607) ∧ ∀ g4, g4 = ab_up g3 174 (x1 + 9 + (g 174 (9 * p2 + 2))) 0 → P g4 r) ∧ (wr (g 174 (x1 + 9 + (g 174 (9 * p2 + 2)))) = wr 0 → P g r))) ∧ (wr x2 = wr 0 → ab_RI m_M_counts [(2, 161), (0, p1), (0, p2)] K S g r (fun x6 g5 r' => r' = r ∧ (((0 : Int) ≤ x1 + 9 + p2 ∧ (x1 + 9 + p2 : Int) < 1607) ∧ ∀ g7, g7 = ab_up g5 174 (x1 + 9 + p2) x6 → ((wr x6 ≤ wr 0 → P g7 r) ∧ (wr 0 < wr x6 → ((0 : Int) ≤ 9 * p2 + 1 ∧ (9 * p2 + 1 : Int) < 1607) ∧ ((0 : Int) ≤ x1 + 1 + (g7 174 (9 * p2 + 1)) ∧ (x1 + 1 + (g7 174 (9 * p2 + 1)) : Int) < 1607) ∧ ((0 : Int) ≤ x1 + 1 + (g7 174 (9 * p2 + 1)) ∧ (x1 + 1 + (g7 174 (9 * p2 + 1)) : Int) < 1607) ∧ ∀ g8, g8 = ab_up g7 174 (x1 + 1 + (g7 174 (9 * p2 + 1))) (g7 174 (x1 + 1 + (g7 174 (9 * p2 + 1))) + (x6 - 1)) → P g8 r))))))))))) : ab_RV m_M_sees [(2, 161), (0, p1), (0, p2)] K S g r P := by
  show ab_Rn m_M_sees 0 [some (2, 161), some (0, p1), some (0, p2), none, none] [] (K, S, g, r) (ab_Qv K S P)
  refine Rn_pure 1 (i' := 1) (L' := [some (2, 161), some (0, p1), some (0, p2), none, none]) (st' := [(0, p1)]) rfl ?_
  refine Rn_callI [(0, p1)] [] rfl rfl rfl rfl (rfl) ?_
  refine h.mono (fun x1 g' r' h => ?_)
  obtain ⟨hx, h⟩ := h
  replace hx := hx.symm
  subst hx
  obtain ⟨hx, h⟩ := h
  replace hx := hx.symm
  subst hx
  refine Rn_pure 3 (i' := 5) (L' := [some (2, 161), some (0, p1), some (0, p2), some (0, x1), none]) (st' := [(0, p2), (2, 161)]) rfl ?_
  refine Rn_callI [(2, 161), (0, p2)] [] rfl rfl rfl rfl (ab_rvB_of rfl (⟨rfl, (by omega : (0 : Int) ≤ 161), (by omega : (161 : Int) + 1 < K ∧ 5 < K)⟩)) ?_
  refine h.mono (fun x2 g' r' h => ?_)
  obtain ⟨hx, h⟩ := h
  replace hx := hx.symm
  subst hx
  obtain ⟨hx, h⟩ := h
  replace hx := hx.symm
  subst hx
  refine Rn_ifne rfl (fun hc => ?_) (fun hc => ?_)
  · have h := h.1 hc
    refine Rn_pure 1 (i' := 46) (L' := [some (2, 161), some (0, p1), some (0, p2), some (0, x1), none]) (st' := [(2, 161)]) rfl ?_
    refine Rn_getR rfl (⟨rfl, (by omega : (0 : Int) ≤ 161), (by omega : (161 : Int) + 1 < K ∧ 5 < K)⟩) (hr 149 _ rfl) (by decide) ?_
    refine Rn_pure 5 (i' := 52) (L' := [some (2, 161), some (0, p1), some (0, p2), some (0, x1), none]) (st' := [(0, 9 * p2 + 2), (2, 174)]) rfl ?_
    obtain ⟨hg, h⟩ := h
    refine Rn_iald rfl (⟨rfl, (by omega : (0 : Int) ≤ 174), (by omega : (174 : Int) + 1 < K ∧ 5 < K)⟩) hg ?_
    refine Rn_pure 2 (i' := 55) (L' := [some (2, 161), some (0, p1), some (0, p2), some (0, x1), some (0, g 174 (9 * p2 + 2))]) (st' := [(2, 161)]) rfl ?_
    refine Rn_getR rfl (⟨rfl, (by omega : (0 : Int) ≤ 161), (by omega : (161 : Int) + 1 < K ∧ 5 < K)⟩) (hr 149 _ rfl) (by decide) ?_
    refine Rn_pure 5 (i' := 61) (L' := [some (2, 161), some (0, p1), some (0, p2), some (0, x1), some (0, g 174 (9 * p2 + 2))]) (st' := [(0, x1 + 9 + (g 174 (9 * p2 + 2))), (2, 174)]) rfl ?_
    obtain ⟨hg, h⟩ := h
    refine Rn_iald rfl (⟨rfl, (by omega : (0 : Int) ≤ 174), (by omega : (174 : Int) + 1 < K ∧ 5 < K)⟩) hg ?_
    refine Rn_ifne rfl (fun hc => ?_) (fun hc => ?_)
    · have h := h.1 hc
      refine Rn_pure 1 (i' := 65) (L' := [some (2, 161), some (0, p1), some (0, p2), some (0, x1), some (0, g 174 (9 * p2 + 2))]) (st' := [(2, 161)]) rfl ?_
      refine Rn_getR rfl (⟨rfl, (by omega : (0 : Int) ≤ 161), (by omega : (161 : Int) + 1 < K ∧ 5 < K)⟩) (hr 149 _ rfl) (by decide) ?_
      refine Rn_pure 4 (i' := 70) (L' := [some (2, 161), some (0, p1), some (0, p2), some (0, x1), some (0, g 174 (9 * p2 + 2))]) (st' := [(2, 161), (0, x1 + 1), (2, 174)]) rfl ?_
      refine Rn_getR rfl (⟨rfl, (by omega : (0 : Int) ≤ 161), (by omega : (161 : Int) + 1 < K ∧ 5 < K)⟩) (hr 149 _ rfl) (by decide) ?_
      refine Rn_pure 5 (i' := 76) (L' := [some (2, 161), some (0, p1), some (0, p2), some (0, x1), some (0, g 174 (9 * p2 + 2))]) (st' := [(0, 9 * (g 174 (9 * p2 + 2)) + 1), (2, 174), (0, x1 + 1), (2, 174)]) rfl ?_
      obtain ⟨hg, h⟩ := h
      refine Rn_iald rfl (⟨rfl, (by omega : (0 : Int) ≤ 174), (by omega : (174 : Int) + 1 < K ∧ 5 < K)⟩) hg ?_
      refine Rn_pure 2 (i' := 79) (L' := [some (2, 161), some (0, p1), some (0, p2), some (0, x1), some (0, g 174 (9 * p2 + 2))]) (st' := [(0, x1 + 1 + (g 174 (9 * (g 174 (9 * p2 + 2)) + 1))), (2, 174), (0, x1 + 1 + (g 174 (9 * (g 174 (9 * p2 + 2)) + 1))), (2, 174)]) rfl ?_
      obtain ⟨hg, h⟩ := h
      refine Rn_iald rfl (⟨rfl, (by omega : (0 : Int) ≤ 174), (by omega : (174 : Int) + 1 < K ∧ 5 < K)⟩) hg ?_
      refine Rn_pure 1 (i' := 81) (L' := [some (2, 161), some (0, p1), some (0, p2), some (0, x1), some (0, g 174 (9 * p2 + 2))]) (st' := [(2, 161), (0, g 174 (x1 + 1 + (g 174 (9 * (g 174 (9 * p2 + 2)) + 1)))), (0, x1 + 1 + (g 174 (9 * (g 174 (9 * p2 + 2)) + 1))), (2, 174)]) rfl ?_
      refine Rn_getR rfl (⟨rfl, (by omega : (0 : Int) ≤ 161), (by omega : (161 : Int) + 1 < K ∧ 5 < K)⟩) (hr 149 _ rfl) (by decide) ?_
      refine Rn_pure 5 (i' := 87) (L' := [some (2, 161), some (0, p1), some (0, p2), some (0, x1), some (0, g 174 (9 * p2 + 2))]) (st' := [(0, x1 + 9 + (g 174 (9 * p2 + 2))), (2, 174), (0, g 174 (x1 + 1 + (g 174 (9 * (g 174 (9 * p2 + 2)) + 1)))), (0, x1 + 1 + (g 174 (9 * (g 174 (9 * p2 + 2)) + 1))), (2, 174)]) rfl ?_
      obtain ⟨hg, h⟩ := h
      refine Rn_iald rfl (⟨rfl, (by omega : (0 : Int) ≤ 174), (by omega : (174 : Int) + 1 < K ∧ 5 < K)⟩) hg ?_
      refine Rn_pure 3 (i' := 91) (L' := [some (2, 161), some (0, p1), some (0, p2), some (0, x1), some (0, g 174 (9 * p2 + 2))]) (st' := [(0, g 174 (x1 + 1 + (g 174 (9 * (g 174 (9 * p2 + 2)) + 1))) - (g 174 (x1 + 9 + (g 174 (9 * p2 + 2))) - 1)), (0, x1 + 1 + (g 174 (9 * (g 174 (9 * p2 + 2)) + 1))), (2, 174)]) rfl ?_
      obtain ⟨hg, h⟩ := h
      refine Rn_iast rfl (⟨rfl, (by omega : (0 : Int) ≤ 174), (by omega : (174 : Int) + 1 < K ∧ 5 < K)⟩) hg (fun g3 he_g3 => ?_)
      have h := h g3 he_g3
      refine Rn_pure 1 (i' := 93) (L' := [some (2, 161), some (0, p1), some (0, p2), some (0, x1), some (0, g 174 (9 * p2 + 2))]) (st' := [(2, 161)]) rfl ?_
      refine Rn_getR rfl (⟨rfl, (by omega : (0 : Int) ≤ 161), (by omega : (161 : Int) + 1 < K ∧ 5 < K)⟩) (hr 149 _ rfl) (by decide) ?_
      refine Rn_pure 6 (i' := 100) (L' := [some (2, 161), some (0, p1), some (0, p2), some (0, x1), some (0, g 174 (9 * p2 + 2))]) (st' := [(0, 0), (0, x1 + 9 + (g 174 (9 * p2 + 2))), (2, 174)]) rfl ?_
      obtain ⟨hg, h⟩ := h
      refine Rn_iast rfl (⟨rfl, (by omega : (0 : Int) ≤ 174), (by omega : (174 : Int) + 1 < K ∧ 5 < K)⟩) hg (fun g4 he_g4 => ?_)
      have h := h g4 he_g4
      exact Rn_ret0 rfl h
    · have h := h.2 hc
      exact Rn_ret0 rfl h
  · have h := h.2 hc
    refine Rn_pure 3 (i' := 10) (L' := [some (2, 161), some (0, p1), some (0, p2), some (0, x1), none]) (st' := [(0, p2), (0, p1), (2, 161)]) rfl ?_
    refine Rn_callI [(2, 161), (0, p1), (0, p2)] [] rfl rfl rfl rfl (ab_rvB_of rfl (⟨rfl, (by omega : (0 : Int) ≤ 161), (by omega : (161 : Int) + 1 < K ∧ 5 < K)⟩)) ?_
    refine h.mono (fun x6 g5 r' h => ?_)
    obtain ⟨hx, h⟩ := h
    replace hx := hx.symm
    subst hx
    refine Rn_pure 2 (i' := 13) (L' := [some (2, 161), some (0, p1), some (0, p2), some (0, x1), some (0, x6)]) (st' := [(2, 161)]) rfl ?_
    refine Rn_getR rfl (⟨rfl, (by omega : (0 : Int) ≤ 161), (by omega : (161 : Int) + 1 < K ∧ 5 < K)⟩) (hr 149 _ rfl) (by decide) ?_
    refine Rn_pure 6 (i' := 20) (L' := [some (2, 161), some (0, p1), some (0, p2), some (0, x1), some (0, x6)]) (st' := [(0, x6), (0, x1 + 9 + p2), (2, 174)]) rfl ?_
    obtain ⟨hg, h⟩ := h
    refine Rn_iast rfl (⟨rfl, (by omega : (0 : Int) ≤ 174), (by omega : (174 : Int) + 1 < K ∧ 5 < K)⟩) hg (fun g7 he_g7 => ?_)
    have h := h g7 he_g7
    refine Rn_pure 1 (i' := 22) (L' := [some (2, 161), some (0, p1), some (0, p2), some (0, x1), some (0, x6)]) (st' := [(0, x6)]) rfl ?_
    refine Rn_ifle rfl (fun hc => ?_) (fun hc => ?_)
    · have h := h.1 hc
      exact Rn_ret0 rfl h
    · have h := h.2 hc
      refine Rn_pure 1 (i' := 24) (L' := [some (2, 161), some (0, p1), some (0, p2), some (0, x1), some (0, x6)]) (st' := [(2, 161)]) rfl ?_
      refine Rn_getR rfl (⟨rfl, (by omega : (0 : Int) ≤ 161), (by omega : (161 : Int) + 1 < K ∧ 5 < K)⟩) (hr 149 _ rfl) (by decide) ?_
      refine Rn_pure 4 (i' := 29) (L' := [some (2, 161), some (0, p1), some (0, p2), some (0, x1), some (0, x6)]) (st' := [(2, 161), (0, x1 + 1), (2, 174)]) rfl ?_
      refine Rn_getR rfl (⟨rfl, (by omega : (0 : Int) ≤ 161), (by omega : (161 : Int) + 1 < K ∧ 5 < K)⟩) (hr 149 _ rfl) (by decide) ?_
      refine Rn_pure 5 (i' := 35) (L' := [some (2, 161), some (0, p1), some (0, p2), some (0, x1), some (0, x6)]) (st' := [(0, 9 * p2 + 1), (2, 174), (0, x1 + 1), (2, 174)]) rfl ?_
      obtain ⟨hg, h⟩ := h
      refine Rn_iald rfl (⟨rfl, (by omega : (0 : Int) ≤ 174), (by omega : (174 : Int) + 1 < K ∧ 5 < K)⟩) hg ?_
      refine Rn_pure 2 (i' := 38) (L' := [some (2, 161), some (0, p1), some (0, p2), some (0, x1), some (0, x6)]) (st' := [(0, x1 + 1 + (g7 174 (9 * p2 + 1))), (2, 174), (0, x1 + 1 + (g7 174 (9 * p2 + 1))), (2, 174)]) rfl ?_
      obtain ⟨hg, h⟩ := h
      refine Rn_iald rfl (⟨rfl, (by omega : (0 : Int) ≤ 174), (by omega : (174 : Int) + 1 < K ∧ 5 < K)⟩) hg ?_
      refine Rn_pure 4 (i' := 43) (L' := [some (2, 161), some (0, p1), some (0, p2), some (0, x1), some (0, x6)]) (st' := [(0, g7 174 (x1 + 1 + (g7 174 (9 * p2 + 1))) + (x6 - 1)), (0, x1 + 1 + (g7 174 (9 * p2 + 1))), (2, 174)]) rfl ?_
      obtain ⟨hg, h⟩ := h
      refine Rn_iast rfl (⟨rfl, (by omega : (0 : Int) ≤ 174), (by omega : (174 : Int) + 1 < K ∧ 5 < K)⟩) hg (fun g8 he_g8 => ?_)
      have h := h g8 he_g8
      exact Rn_ret0 rfl h
-- EventLedgerModel.see (II)I
theorem v_M_see {K : Int} {S : Nat} {g r : ab_H} {p1 p2 : Int} (P : Int → ab_H → ab_H → Prop) (hr : SI r) (hK : 186 ≤ K) (h : ∀ g1, g1 = ab_up g 161 0 0 → ab_RI m_M_isTally [(2, 161), (0, p1)] K S g1 r (fun x2 g' r' => g' = g1 ∧ r' = r ∧ (((wr x2 = wr 0 → P (-1) g1 r) ∧ (¬ wr x2 = wr 0 → ((wr p2 < wr 1 → P (-1) g1 r) ∧ (wr 1 ≤ wr p2 → ((wr p2 ≤ wr 120 → ab_RI m_M_tallyAt [(0, p1)] K S g1 r (fun x3 g' r' => g' = g1 ∧ r' = r ∧ (((0 : Int) ≤ x3 + 0 ∧ (x3 + 0 : Int) < 1607) ∧ ab_RI m_M_many [(2, 161)] K S g1 r (fun x4 g' r' => g' = g1 ∧ r' = r ∧ (((¬ wr (g1 174 (x3 + 0)) = wr x4 → ab_RV m_M_remembers [(2, 161)] K S g1 r (fun g5 r' => r' = r ∧ (ab_RV m_M_replaysAll [(2, 161)] K S g5 r (fun g7 r' => r' = r ∧ (ab_Rn m_M_see 35 [some (2, 161), some (0, p1), some (0, p2), some (0, x3), some (0, 0)] [] (K, S, g7, r) (ab_Qi K S P)))))) ∧ (wr (g1 174 (x3 + 0)) = wr x4 → P (-2) g1 r))))))) ∧ (wr 120 < wr p2 → P (-1) g1 r))))))))) : ab_RI m_M_see [(2, 161), (0, p1), (0, p2)] K S g r P := by
  show ab_Rn m_M_see 0 [some (2, 161), some (0, p1), some (0, p2), none, none] [] (K, S, g, r) (ab_Qi K S P)
  refine Rn_pure 2 (i' := 2) (L' := [some (2, 161), some (0, p1), some (0, p2), none, none]) (st' := [(0, 0), (2, 161)]) rfl ?_
  refine Rn_putI rfl (⟨rfl, (by omega : (0 : Int) ≤ 161), (by omega : (161 : Int) + 1 < K ∧ 5 < K)⟩) (fun g1 he_g1 => ?_)
  have h := h g1 he_g1
  refine Rn_pure 2 (i' := 5) (L' := [some (2, 161), some (0, p1), some (0, p2), none, none]) (st' := [(0, p1), (2, 161)]) rfl ?_
  refine Rn_callI [(2, 161), (0, p1)] [] rfl rfl rfl rfl (ab_rvB_of rfl (⟨rfl, (by omega : (0 : Int) ≤ 161), (by omega : (161 : Int) + 1 < K ∧ 5 < K)⟩)) ?_
  refine h.mono (fun x2 g' r' h => ?_)
  obtain ⟨hx, h⟩ := h
  replace hx := hx.symm
  subst hx
  obtain ⟨hx, h⟩ := h
  replace hx := hx.symm
  subst hx
  refine Rn_ifeq rfl (fun hc => ?_) (fun hc => ?_)
  · have h := h.1 hc
    refine Rn_pure 1 (i' := 14) (L' := [some (2, 161), some (0, p1), some (0, p2), none, none]) (st' := [(0, (-1))]) rfl ?_
    exact Rn_ret1 rfl h
  · have h := h.2 hc
    refine Rn_pure 2 (i' := 9) (L' := [some (2, 161), some (0, p1), some (0, p2), none, none]) (st' := [(0, 1), (0, p2)]) rfl ?_
    refine Rn_iclt rfl (fun hc => ?_) (fun hc => ?_)
    · have h := h.1 hc
      refine Rn_pure 1 (i' := 14) (L' := [some (2, 161), some (0, p1), some (0, p2), none, none]) (st' := [(0, (-1))]) rfl ?_
      exact Rn_ret1 rfl h
    · have h := h.2 hc
      refine Rn_pure 2 (i' := 12) (L' := [some (2, 161), some (0, p1), some (0, p2), none, none]) (st' := [(0, 120), (0, p2)]) rfl ?_
      refine Rn_icle rfl (fun hc => ?_) (fun hc => ?_)
      · have h := h.1 hc
        refine Rn_pure 1 (i' := 16) (L' := [some (2, 161), some (0, p1), some (0, p2), none, none]) (st' := [(0, p1)]) rfl ?_
        refine Rn_callI [(0, p1)] [] rfl rfl rfl rfl (rfl) ?_
        refine h.mono (fun x3 g' r' h => ?_)
        obtain ⟨hx, h⟩ := h
        replace hx := hx.symm
        subst hx
        obtain ⟨hx, h⟩ := h
        replace hx := hx.symm
        subst hx
        refine Rn_pure 2 (i' := 19) (L' := [some (2, 161), some (0, p1), some (0, p2), some (0, x3), none]) (st' := [(2, 161)]) rfl ?_
        refine Rn_getR rfl (⟨rfl, (by omega : (0 : Int) ≤ 161), (by omega : (161 : Int) + 1 < K ∧ 5 < K)⟩) (hr 149 _ rfl) (by decide) ?_
        refine Rn_pure 3 (i' := 23) (L' := [some (2, 161), some (0, p1), some (0, p2), some (0, x3), none]) (st' := [(0, x3 + 0), (2, 174)]) rfl ?_
        obtain ⟨hg, h⟩ := h
        refine Rn_iald rfl (⟨rfl, (by omega : (0 : Int) ≤ 174), (by omega : (174 : Int) + 1 < K ∧ 5 < K)⟩) hg ?_
        refine Rn_pure 1 (i' := 25) (L' := [some (2, 161), some (0, p1), some (0, p2), some (0, x3), none]) (st' := [(2, 161), (0, g1 174 (x3 + 0))]) rfl ?_
        refine Rn_callI [(2, 161)] [(0, g1 174 (x3 + 0))] rfl rfl rfl rfl (ab_rvB_of rfl (⟨rfl, (by omega : (0 : Int) ≤ 161), (by omega : (161 : Int) + 1 < K ∧ 5 < K)⟩)) ?_
        refine h.mono (fun x4 g' r' h => ?_)
        obtain ⟨hx, h⟩ := h
        replace hx := hx.symm
        subst hx
        obtain ⟨hx, h⟩ := h
        replace hx := hx.symm
        subst hx
        refine Rn_icne rfl (fun hc => ?_) (fun hc => ?_)
        · have h := h.1 hc
          refine Rn_pure 1 (i' := 30) (L' := [some (2, 161), some (0, p1), some (0, p2), some (0, x3), none]) (st' := [(2, 161)]) rfl ?_
          refine Rn_callV [(2, 161)] [] rfl rfl rfl rfl (ab_rvB_of rfl (⟨rfl, (by omega : (0 : Int) ≤ 161), (by omega : (161 : Int) + 1 < K ∧ 5 < K)⟩)) ?_
          refine h.mono (fun g5 r' h => ?_)
          obtain ⟨hx, h⟩ := h
          replace hx := hx.symm
          subst hx
          refine Rn_pure 1 (i' := 32) (L' := [some (2, 161), some (0, p1), some (0, p2), some (0, x3), none]) (st' := [(2, 161)]) rfl ?_
          refine Rn_callV [(2, 161)] [] rfl rfl rfl rfl (ab_rvB_of rfl (⟨rfl, (by omega : (0 : Int) ≤ 161), (by omega : (161 : Int) + 1 < K ∧ 5 < K)⟩)) ?_
          refine h.mono (fun g7 r' h => ?_)
          obtain ⟨hx, h⟩ := h
          replace hx := hx.symm
          subst hx
          refine Rn_pure 2 (i' := 35) (L' := [some (2, 161), some (0, p1), some (0, p2), some (0, x3), some (0, 0)]) (st' := []) rfl ?_
          exact h
        · have h := h.2 hc
          refine Rn_pure 1 (i' := 28) (L' := [some (2, 161), some (0, p1), some (0, p2), some (0, x3), none]) (st' := [(0, (-2))]) rfl ?_
          exact Rn_ret1 rfl h
      · have h := h.2 hc
        refine Rn_pure 1 (i' := 14) (L' := [some (2, 161), some (0, p1), some (0, p2), none, none]) (st' := [(0, (-1))]) rfl ?_
        exact Rn_ret1 rfl h
theorem v_M_see_35 {K : Int} {S : Nat} {g r : ab_H} {l1 l2 l3 l4 : Int} (P : Int → ab_H → ab_H → Prop) (hr : SI r) (hK : 186 ≤ K) (h : ((wr l2 ≤ wr l4 → P l4 g r) ∧ (wr l4 < wr l2 → ((0 : Int) ≤ l3 + 0 ∧ (l3 + 0 : Int) < 1607) ∧ ab_RI m_M_many [(2, 161)] K S g r (fun x1 g' r' => g' = g ∧ r' = r ∧ (((wr x1 ≤ wr (g 174 (l3 + 0)) → P l4 g r) ∧ (wr (g 174 (l3 + 0)) < wr x1 → ((0 : Int) ≤ l3 + 0 ∧ (l3 + 0 : Int) < 1607) ∧ ab_RV m_M_sees [(2, 161), (0, l1), (0, g 174 (l3 + 0))] K S g r (fun g2 r' => r' = r ∧ (((0 : Int) ≤ l3 + 0 ∧ (l3 + 0 : Int) < 1607) ∧ ((0 : Int) ≤ l3 + 0 ∧ (l3 + 0 : Int) < 1607) ∧ ∀ g4, g4 = ab_up g2 174 (l3 + 0) (g2 174 (l3 + 0) + 1) → ab_Rn m_M_see 35 [some (2, 161), some (0, l1), some (0, l2), some (0, l3), some (0, l4 + 1)] [] (K, S, g4, r) (ab_Qi K S P)))))))))) : ab_Rn m_M_see 35 [some (2, 161), some (0, l1), some (0, l2), some (0, l3), some (0, l4)] [] (K, S, g, r) (ab_Qi K S P) := by
  refine Rn_pure 2 (i' := 37) (L' := [some (2, 161), some (0, l1), some (0, l2), some (0, l3), some (0, l4)]) (st' := [(0, l2), (0, l4)]) rfl ?_
  refine Rn_icge rfl (fun hc => ?_) (fun hc => ?_)
  · have h := h.1 hc
    refine Rn_pure 1 (i' := 69) (L' := [some (2, 161), some (0, l1), some (0, l2), some (0, l3), some (0, l4)]) (st' := [(0, l4)]) rfl ?_
    exact Rn_ret1 rfl h
  · have h := h.2 hc
    refine Rn_pure 1 (i' := 39) (L' := [some (2, 161), some (0, l1), some (0, l2), some (0, l3), some (0, l4)]) (st' := [(2, 161)]) rfl ?_
    refine Rn_getR rfl (⟨rfl, (by omega : (0 : Int) ≤ 161), (by omega : (161 : Int) + 1 < K ∧ 5 < K)⟩) (hr 149 _ rfl) (by decide) ?_
    refine Rn_pure 3 (i' := 43) (L' := [some (2, 161), some (0, l1), some (0, l2), some (0, l3), some (0, l4)]) (st' := [(0, l3 + 0), (2, 174)]) rfl ?_
    obtain ⟨hg, h⟩ := h
    refine Rn_iald rfl (⟨rfl, (by omega : (0 : Int) ≤ 174), (by omega : (174 : Int) + 1 < K ∧ 5 < K)⟩) hg ?_
    refine Rn_pure 1 (i' := 45) (L' := [some (2, 161), some (0, l1), some (0, l2), some (0, l3), some (0, l4)]) (st' := [(2, 161), (0, g 174 (l3 + 0))]) rfl ?_
    refine Rn_callI [(2, 161)] [(0, g 174 (l3 + 0))] rfl rfl rfl rfl (ab_rvB_of rfl (⟨rfl, (by omega : (0 : Int) ≤ 161), (by omega : (161 : Int) + 1 < K ∧ 5 < K)⟩)) ?_
    refine h.mono (fun x1 g' r' h => ?_)
    obtain ⟨hx, h⟩ := h
    replace hx := hx.symm
    subst hx
    obtain ⟨hx, h⟩ := h
    replace hx := hx.symm
    subst hx
    refine Rn_icge rfl (fun hc => ?_) (fun hc => ?_)
    · have h := h.1 hc
      refine Rn_pure 1 (i' := 69) (L' := [some (2, 161), some (0, l1), some (0, l2), some (0, l3), some (0, l4)]) (st' := [(0, l4)]) rfl ?_
      exact Rn_ret1 rfl h
    · have h := h.2 hc
      refine Rn_pure 3 (i' := 50) (L' := [some (2, 161), some (0, l1), some (0, l2), some (0, l3), some (0, l4)]) (st' := [(2, 161), (0, l1), (2, 161)]) rfl ?_
      refine Rn_getR rfl (⟨rfl, (by omega : (0 : Int) ≤ 161), (by omega : (161 : Int) + 1 < K ∧ 5 < K)⟩) (hr 149 _ rfl) (by decide) ?_
      refine Rn_pure 3 (i' := 54) (L' := [some (2, 161), some (0, l1), some (0, l2), some (0, l3), some (0, l4)]) (st' := [(0, l3 + 0), (2, 174), (0, l1), (2, 161)]) rfl ?_
      obtain ⟨hg, h⟩ := h
      refine Rn_iald rfl (⟨rfl, (by omega : (0 : Int) ≤ 174), (by omega : (174 : Int) + 1 < K ∧ 5 < K)⟩) hg ?_
      refine Rn_callV [(2, 161), (0, l1), (0, g 174 (l3 + 0))] [] rfl rfl rfl rfl (ab_rvB_of rfl (⟨rfl, (by omega : (0 : Int) ≤ 161), (by omega : (161 : Int) + 1 < K ∧ 5 < K)⟩)) ?_
      refine h.mono (fun g2 r' h => ?_)
      obtain ⟨hx, h⟩ := h
      replace hx := hx.symm
      subst hx
      refine Rn_pure 1 (i' := 57) (L' := [some (2, 161), some (0, l1), some (0, l2), some (0, l3), some (0, l4)]) (st' := [(2, 161)]) rfl ?_
      refine Rn_getR rfl (⟨rfl, (by omega : (0 : Int) ≤ 161), (by omega : (161 : Int) + 1 < K ∧ 5 < K)⟩) (hr 149 _ rfl) (by decide) ?_
      refine Rn_pure 4 (i' := 62) (L' := [some (2, 161), some (0, l1), some (0, l2), some (0, l3), some (0, l4)]) (st' := [(0, l3 + 0), (2, 174), (0, l3 + 0), (2, 174)]) rfl ?_
      obtain ⟨hg, h⟩ := h
      refine Rn_iald rfl (⟨rfl, (by omega : (0 : Int) ≤ 174), (by omega : (174 : Int) + 1 < K ∧ 5 < K)⟩) hg ?_
      refine Rn_pure 2 (i' := 65) (L' := [some (2, 161), some (0, l1), some (0, l2), some (0, l3), some (0, l4)]) (st' := [(0, g2 174 (l3 + 0) + 1), (0, l3 + 0), (2, 174)]) rfl ?_
      obtain ⟨hg, h⟩ := h
      refine Rn_iast rfl (⟨rfl, (by omega : (0 : Int) ≤ 174), (by omega : (174 : Int) + 1 < K ∧ 5 < K)⟩) hg (fun g4 he_g4 => ?_)
      have h := h g4 he_g4
      refine Rn_pure 2 (i' := 35) (L' := [some (2, 161), some (0, l1), some (0, l2), some (0, l3), some (0, l4 + 1)]) (st' := []) rfl ?_
      exact h
-- EventLedgerModel.rewind (I)I
theorem v_M_rewind {K : Int} {S : Nat} {g r : ab_H} {p1 : Int} (P : Int → ab_H → ab_H → Prop) (hr : SI r) (hK : 186 ≤ K) (h : ∀ g1, g1 = ab_up g 161 0 0 → ab_RI m_M_isTally [(2, 161), (0, p1)] K S g1 r (fun x2 g' r' => g' = g1 ∧ r' = r ∧ (((¬ wr x2 = wr 0 → ab_RI m_M_tallyAt [(0, p1)] K S g1 r (fun x3 g' r' => g' = g1 ∧ r' = r ∧ (((0 : Int) ≤ x3 + 0 ∧ (x3 + 0 : Int) < 1607) ∧ ab_RV m_M_remembers [(2, 161)] K S g1 r (fun g4 r' => r' = r ∧ (ab_Rn m_M_rewind 23 [some (2, 161), none, some (0, x3), some (0, g1 174 (x3 + 0)), some (0, 0)] [] (K, S, g4, r) (ab_Qi K S P)))))) ∧ (wr x2 = wr 0 → P (-1) g1 r))))) : ab_RI m_M_rewind [(2, 161), (0, p1)] K S g r P := by
  show ab_Rn m_M_rewind 0 [some (2, 161), some (0, p1), none, none, none] [] (K, S, g, r) (ab_Qi K S P)
  refine Rn_pure 2 (i' := 2) (L' := [some (2, 161), some (0, p1), none, none, none]) (st' := [(0, 0), (2, 161)]) rfl ?_
  refine Rn_putI rfl (⟨rfl, (by omega : (0 : Int) ≤ 161), (by omega : (161 : Int) + 1 < K ∧ 5 < K)⟩) (fun g1 he_g1 => ?_)
  have h := h g1 he_g1
  refine Rn_pure 2 (i' := 5) (L' := [some (2, 161), some (0, p1), none, none, none]) (st' := [(0, p1), (2, 161)]) rfl ?_
  refine Rn_callI [(2, 161), (0, p1)] [] rfl rfl rfl rfl (ab_rvB_of rfl (⟨rfl, (by omega : (0 : Int) ≤ 161), (by omega : (161 : Int) + 1 < K ∧ 5 < K)⟩)) ?_
  refine h.mono (fun x2 g' r' h => ?_)
  obtain ⟨hx, h⟩ := h
  replace hx := hx.symm
  subst hx
  obtain ⟨hx, h⟩ := h
  replace hx := hx.symm
  subst hx
  refine Rn_ifne rfl (fun hc => ?_) (fun hc => ?_)
  · have h := h.1 hc
    refine Rn_pure 1 (i' := 10) (L' := [some (2, 161), some (0, p1), none, none, none]) (st' := [(0, p1)]) rfl ?_
    refine Rn_callI [(0, p1)] [] rfl rfl rfl rfl (rfl) ?_
    refine h.mono (fun x3 g' r' h => ?_)
    obtain ⟨hx, h⟩ := h
    replace hx := hx.symm
    subst hx
    obtain ⟨hx, h⟩ := h
    replace hx := hx.symm
    subst hx
    refine Rn_pure 2 (i' := 13) (L' := [some (2, 161), some (0, p1), some (0, x3), none, none]) (st' := [(2, 161)]) rfl ?_
    refine Rn_getR rfl (⟨rfl, (by omega : (0 : Int) ≤ 161), (by omega : (161 : Int) + 1 < K ∧ 5 < K)⟩) (hr 149 _ rfl) (by decide) ?_
    refine Rn_pure 3 (i' := 17) (L' := [some (2, 161), some (0, p1), some (0, x3), none, none]) (st' := [(0, x3 + 0), (2, 174)]) rfl ?_
    obtain ⟨hg, h⟩ := h
    refine Rn_iald rfl (⟨rfl, (by omega : (0 : Int) ≤ 174), (by omega : (174 : Int) + 1 < K ∧ 5 < K)⟩) hg ?_
    refine Rn_pure 2 (i' := 20) (L' := [some (2, 161), some (0, p1), some (0, x3), some (0, g1 174 (x3 + 0)), none]) (st' := [(2, 161)]) rfl ?_
    refine Rn_callV [(2, 161)] [] rfl rfl rfl rfl (ab_rvB_of rfl (⟨rfl, (by omega : (0 : Int) ≤ 161), (by omega : (161 : Int) + 1 < K ∧ 5 < K)⟩)) ?_
    refine h.mono (fun g4 r' h => ?_)
    obtain ⟨hx, h⟩ := h
    replace hx := hx.symm
    subst hx
    refine Rn_pure 2 (i' := 23) (L' := [some (2, 161), some (0, p1), some (0, x3), some (0, g1 174 (x3 + 0)), some (0, 0)]) (st' := []) rfl ?_
    refine Rn_weak (L' := [some (2, 161), none, some (0, x3), some (0, g1 174 (x3 + 0)), some (0, 0)]) ⟨rfl, ⟨rfl, ⟨rfl, ⟨rfl, trivial⟩⟩⟩⟩ ?_
    exact h
  · have h := h.2 hc
    refine Rn_pure 1 (i' := 8) (L' := [some (2, 161), some (0, p1), none, none, none]) (st' := [(0, (-1))]) rfl ?_
    exact Rn_ret1 rfl h
theorem v_M_rewind_23 {K : Int} {S : Nat} {g r : ab_H} {l2 l3 l4 : Int} (P : Int → ab_H → ab_H → Prop) (hr : SI r) (hK : 186 ≤ K) (h : ((wr 129 ≤ wr l4 → P l3 g r) ∧ (wr l4 < wr 129 → ((0 : Int) ≤ l2 + l4 ∧ (l2 + l4 : Int) < 1607) ∧ ∀ g1, g1 = ab_up g 174 (l2 + l4) 0 → ab_Rn m_M_rewind 23 [some (2, 161), none, some (0, l2), some (0, l3), some (0, l4 + 1)] [] (K, S, g1, r) (ab_Qi K S P)))) : ab_Rn m_M_rewind 23 [some (2, 161), none, some (0, l2), some (0, l3), some (0, l4)] [] (K, S, g, r) (ab_Qi K S P) := by
  refine Rn_pure 2 (i' := 25) (L' := [some (2, 161), none, some (0, l2), some (0, l3), some (0, l4)]) (st' := [(0, 129), (0, l4)]) rfl ?_
  refine Rn_icge rfl (fun hc => ?_) (fun hc => ?_)
  · have h := h.1 hc
    refine Rn_pure 1 (i' := 36) (L' := [some (2, 161), none, some (0, l2), some (0, l3), some (0, l4)]) (st' := [(0, l3)]) rfl ?_
    exact Rn_ret1 rfl h
  · have h := h.2 hc
    refine Rn_pure 1 (i' := 27) (L' := [some (2, 161), none, some (0, l2), some (0, l3), some (0, l4)]) (st' := [(2, 161)]) rfl ?_
    refine Rn_getR rfl (⟨rfl, (by omega : (0 : Int) ≤ 161), (by omega : (161 : Int) + 1 < K ∧ 5 < K)⟩) (hr 149 _ rfl) (by decide) ?_
    refine Rn_pure 4 (i' := 32) (L' := [some (2, 161), none, some (0, l2), some (0, l3), some (0, l4)]) (st' := [(0, 0), (0, l2 + l4), (2, 174)]) rfl ?_
    obtain ⟨hg, h⟩ := h
    refine Rn_iast rfl (⟨rfl, (by omega : (0 : Int) ≤ 174), (by omega : (174 : Int) + 1 < K ∧ 5 < K)⟩) hg (fun g1 he_g1 => ?_)
    have h := h g1 he_g1
    refine Rn_pure 2 (i' := 23) (L' := [some (2, 161), none, some (0, l2), some (0, l3), some (0, l4 + 1)]) (st' := []) rfl ?_
    exact h
-- EventLedgerModel.countedMany (I)I
theorem v_M_countedMany {K : Int} {S : Nat} {g r : ab_H} {p1 : Int} (P : Int → ab_H → ab_H → Prop) (hr : SI r) (hK : 186 ≤ K) (h : ab_Rn m_M_countedMany 4 [some (2, 161), some (0, p1), some (0, 0), some (0, 0)] [] (K, S, g, r) (ab_Qi K S P)) : ab_RI m_M_countedMany [(2, 161), (0, p1)] K S g r P := by
  show ab_Rn m_M_countedMany 0 [some (2, 161), some (0, p1), none, none] [] (K, S, g, r) (ab_Qi K S P)
  refine Rn_pure 4 (i' := 4) (L' := [some (2, 161), some (0, p1), some (0, 0), some (0, 0)]) (st' := []) rfl ?_
  exact h
theorem v_M_countedMany_4 {K : Int} {S : Nat} {g r : ab_H} {l1 l2 l3 : Int} (P : Int → ab_H → ab_H → Prop) (hr : SI r) (hK : 186 ≤ K) (h : ((wr 120 ≤ wr l3 → P l2 g r) ∧ (wr l3 < wr 120 → ab_RI m_M_tallyAt [(0, l1)] K S g r (fun x1 g' r' => g' = g ∧ r' = r ∧ (((0 : Int) ≤ x1 + 9 + l3 ∧ (x1 + 9 + l3 : Int) < 1607) ∧ ((wr (g 174 (x1 + 9 + l3)) ≤ wr 0 → ab_Rn m_M_countedMany 4 [some (2, 161), some (0, l1), some (0, l2 + 0), some (0, l3 + 1)] [] (K, S, g, r) (ab_Qi K S P)) ∧ (wr 0 < wr (g 174 (x1 + 9 + l3)) → ab_Rn m_M_countedMany 4 [some (2, 161), some (0, l1), some (0, l2 + 1), some (0, l3 + 1)] [] (K, S, g, r) (ab_Qi K S P)))))))) : ab_Rn m_M_countedMany 4 [some (2, 161), some (0, l1), some (0, l2), some (0, l3)] [] (K, S, g, r) (ab_Qi K S P) := by
  refine Rn_pure 2 (i' := 6) (L' := [some (2, 161), some (0, l1), some (0, l2), some (0, l3)]) (st' := [(0, 120), (0, l3)]) rfl ?_
  refine Rn_icge rfl (fun hc => ?_) (fun hc => ?_)
  · have h := h.1 hc
    refine Rn_pure 1 (i' := 26) (L' := [some (2, 161), some (0, l1), some (0, l2), some (0, l3)]) (st' := [(0, l2)]) rfl ?_
    exact Rn_ret1 rfl h
  · have h := h.2 hc
    refine Rn_pure 2 (i' := 9) (L' := [some (2, 161), some (0, l1), some (0, l2), some (0, l3)]) (st' := [(2, 161), (0, l2)]) rfl ?_
    refine Rn_getR rfl (⟨rfl, (by omega : (0 : Int) ≤ 161), (by omega : (161 : Int) + 1 < K ∧ 5 < K)⟩) (hr 149 _ rfl) (by decide) ?_
    refine Rn_pure 1 (i' := 11) (L' := [some (2, 161), some (0, l1), some (0, l2), some (0, l3)]) (st' := [(0, l1), (2, 174), (0, l2)]) rfl ?_
    refine Rn_callI [(0, l1)] [(2, 174), (0, l2)] rfl rfl rfl rfl (rfl) ?_
    refine h.mono (fun x1 g' r' h => ?_)
    obtain ⟨hx, h⟩ := h
    replace hx := hx.symm
    subst hx
    obtain ⟨hx, h⟩ := h
    replace hx := hx.symm
    subst hx
    refine Rn_pure 4 (i' := 16) (L' := [some (2, 161), some (0, l1), some (0, l2), some (0, l3)]) (st' := [(0, x1 + 9 + l3), (2, 174), (0, l2)]) rfl ?_
    obtain ⟨hg, h⟩ := h
    refine Rn_iald rfl (⟨rfl, (by omega : (0 : Int) ≤ 174), (by omega : (174 : Int) + 1 < K ∧ 5 < K)⟩) hg ?_
    refine Rn_ifle rfl (fun hc => ?_) (fun hc => ?_)
    · have h := h.1 hc
      refine Rn_pure 5 (i' := 4) (L' := [some (2, 161), some (0, l1), some (0, l2 + 0), some (0, l3 + 1)]) (st' := []) rfl ?_
      exact h
    · have h := h.2 hc
      refine Rn_pure 6 (i' := 4) (L' := [some (2, 161), some (0, l1), some (0, l2 + 1), some (0, l3 + 1)]) (st' := []) rfl ?_
      exact h
-- EventLedgerModel.sums (I)I
theorem v_M_sums {K : Int} {S : Nat} {g r : ab_H} {p1 : Int} (P : Int → ab_H → ab_H → Prop) (hr : SI r) (hK : 186 ≤ K) (h : ab_Rn m_M_sums 4 [some (2, 161), some (0, p1), some (0, 0), some (0, 0)] [] (K, S, g, r) (ab_Qi K S P)) : ab_RI m_M_sums [(2, 161), (0, p1)] K S g r P := by
  show ab_Rn m_M_sums 0 [some (2, 161), some (0, p1), none, none] [] (K, S, g, r) (ab_Qi K S P)
  refine Rn_pure 4 (i' := 4) (L' := [some (2, 161), some (0, p1), some (0, 0), some (0, 0)]) (st' := []) rfl ?_
  exact h
theorem v_M_sums_4 {K : Int} {S : Nat} {g r : ab_H} {l1 l2 l3 : Int} (P : Int → ab_H → ab_H → Prop) (hr : SI r) (hK : 186 ≤ K) (h : ((wr 8 ≤ wr l3 → P l2 g r) ∧ (wr l3 < wr 8 → ab_RI m_M_tallyAt [(0, l1)] K S g r (fun x1 g' r' => g' = g ∧ r' = r ∧ (((0 : Int) ≤ x1 + 1 + l3 ∧ (x1 + 1 + l3 : Int) < 1607) ∧ ab_Rn m_M_sums 4 [some (2, 161), some (0, l1), some (0, l2 + (g 174 (x1 + 1 + l3))), some (0, l3 + 1)] [] (K, S, g, r) (ab_Qi K S P)))))) : ab_Rn m_M_sums 4 [some (2, 161), some (0, l1), some (0, l2), some (0, l3)] [] (K, S, g, r) (ab_Qi K S P) := by
  refine Rn_pure 2 (i' := 6) (L' := [some (2, 161), some (0, l1), some (0, l2), some (0, l3)]) (st' := [(0, 8), (0, l3)]) rfl ?_
  refine Rn_icge rfl (fun hc => ?_) (fun hc => ?_)
  · have h := h.1 hc
    refine Rn_pure 1 (i' := 22) (L' := [some (2, 161), some (0, l1), some (0, l2), some (0, l3)]) (st' := [(0, l2)]) rfl ?_
    exact Rn_ret1 rfl h
  · have h := h.2 hc
    refine Rn_pure 2 (i' := 9) (L' := [some (2, 161), some (0, l1), some (0, l2), some (0, l3)]) (st' := [(2, 161), (0, l2)]) rfl ?_
    refine Rn_getR rfl (⟨rfl, (by omega : (0 : Int) ≤ 161), (by omega : (161 : Int) + 1 < K ∧ 5 < K)⟩) (hr 149 _ rfl) (by decide) ?_
    refine Rn_pure 1 (i' := 11) (L' := [some (2, 161), some (0, l1), some (0, l2), some (0, l3)]) (st' := [(0, l1), (2, 174), (0, l2)]) rfl ?_
    refine Rn_callI [(0, l1)] [(2, 174), (0, l2)] rfl rfl rfl rfl (rfl) ?_
    refine h.mono (fun x1 g' r' h => ?_)
    obtain ⟨hx, h⟩ := h
    replace hx := hx.symm
    subst hx
    obtain ⟨hx, h⟩ := h
    replace hx := hx.symm
    subst hx
    refine Rn_pure 4 (i' := 16) (L' := [some (2, 161), some (0, l1), some (0, l2), some (0, l3)]) (st' := [(0, x1 + 1 + l3), (2, 174), (0, l2)]) rfl ?_
    obtain ⟨hg, h⟩ := h
    refine Rn_iald rfl (⟨rfl, (by omega : (0 : Int) ≤ 174), (by omega : (174 : Int) + 1 < K ∧ 5 < K)⟩) hg ?_
    refine Rn_pure 4 (i' := 4) (L' := [some (2, 161), some (0, l1), some (0, l2 + (g 174 (x1 + 1 + l3))), some (0, l3 + 1)]) (st' := []) rfl ?_
    exact h
