-- EventLedgerModel.anew (I)I
theorem v_M_anew {K : Int} {S : Nat} {g r : ab_H} {p1 : Int} (P : Int → ab_H → ab_H → Prop) (hr : SI r) (hK : 186 ≤ K) (h : ab_RV m_M_replaysAll [(2, 161)] K S g r (fun g1 r' => r' = r ∧ (ab_Rn m_M_anew 6 [some (2, 161), some (0, p1), some (0, 0), some (0, 0), none] [] (K, S, g1, r) (ab_Qi K S P)))) : ab_RI m_M_anew [(2, 161), (0, p1)] K S g r P := by
  show ab_Rn m_M_anew 0 [some (2, 161), some (0, p1), none, none, none] [] (K, S, g, r) (ab_Qi K S P)
  refine Rn_pure 1 (i' := 1) (L' := [some (2, 161), some (0, p1), none, none, none]) (st' := [(2, 161)]) rfl ?_
  refine Rn_callV [(2, 161)] [] rfl rfl rfl rfl (ab_rvB_of rfl (⟨rfl, (by omega : (0 : Int) ≤ 161), (by omega : (161 : Int) + 1 < K ∧ 5 < K)⟩)) ?_
  refine h.mono (fun g1 r' h => ?_)
  obtain ⟨hx, h⟩ := h
  replace hx := hx.symm
  subst hx
  refine Rn_pure 4 (i' := 6) (L' := [some (2, 161), some (0, p1), some (0, 0), some (0, 0), none]) (st' := []) rfl ?_
  exact h
theorem v_M_anew_6 {K : Int} {S : Nat} {g r : ab_H} {l1 l2 l3 : Int} (P : Int → ab_H → ab_H → Prop) (hr : SI r) (hK : 186 ≤ K) (h : ab_RI m_M_many [(2, 161)] K S g r (fun x1 g' r' => g' = g ∧ r' = r ∧ (((wr x1 ≤ wr l3 → P l2 g r) ∧ (wr l3 < wr x1 → ab_RI m_M_counts [(2, 161), (0, l1), (0, l3)] K S g r (fun x3 g2 r' => r' = r ∧ (((wr x3 ≤ wr 0 → ab_Rn m_M_anew 6 [some (2, 161), some (0, l1), some (0, l2 + 0), some (0, l3 + 1), none] [] (K, S, g2, r) (ab_Qi K S P)) ∧ (wr 0 < wr x3 → ab_Rn m_M_anew 6 [some (2, 161), some (0, l1), some (0, l2 + (x3 - 1)), some (0, l3 + 1), none] [] (K, S, g2, r) (ab_Qi K S P)))))))))) : ab_Rn m_M_anew 6 [some (2, 161), some (0, l1), some (0, l2), some (0, l3), none] [] (K, S, g, r) (ab_Qi K S P) := by
  refine Rn_pure 2 (i' := 8) (L' := [some (2, 161), some (0, l1), some (0, l2), some (0, l3), none]) (st' := [(2, 161), (0, l3)]) rfl ?_
  refine Rn_callI [(2, 161)] [(0, l3)] rfl rfl rfl rfl (ab_rvB_of rfl (⟨rfl, (by omega : (0 : Int) ≤ 161), (by omega : (161 : Int) + 1 < K ∧ 5 < K)⟩)) ?_
  refine h.mono (fun x1 g' r' h => ?_)
  obtain ⟨hx, h⟩ := h
  replace hx := hx.symm
  subst hx
  obtain ⟨hx, h⟩ := h
  replace hx := hx.symm
  subst hx
  refine Rn_icge rfl (fun hc => ?_) (fun hc => ?_)
  · have h := h.1 hc
    refine Rn_pure 1 (i' := 28) (L' := [some (2, 161), some (0, l1), some (0, l2), some (0, l3), none]) (st' := [(0, l2)]) rfl ?_
    exact Rn_ret1 rfl h
  · have h := h.2 hc
    refine Rn_pure 3 (i' := 13) (L' := [some (2, 161), some (0, l1), some (0, l2), some (0, l3), none]) (st' := [(0, l3), (0, l1), (2, 161)]) rfl ?_
    refine Rn_callI [(2, 161), (0, l1), (0, l3)] [] rfl rfl rfl rfl (ab_rvB_of rfl (⟨rfl, (by omega : (0 : Int) ≤ 161), (by omega : (161 : Int) + 1 < K ∧ 5 < K)⟩)) ?_
    refine h.mono (fun x3 g2 r' h => ?_)
    obtain ⟨hx, h⟩ := h
    replace hx := hx.symm
    subst hx
    refine Rn_pure 3 (i' := 17) (L' := [some (2, 161), some (0, l1), some (0, l2), some (0, l3), some (0, x3)]) (st' := [(0, x3), (0, l2)]) rfl ?_
    refine Rn_ifle rfl (fun hc => ?_) (fun hc => ?_)
    · have h := h.1 hc
      refine Rn_pure 5 (i' := 6) (L' := [some (2, 161), some (0, l1), some (0, l2 + 0), some (0, l3 + 1), some (0, x3)]) (st' := []) rfl ?_
      refine Rn_weak (L' := [some (2, 161), some (0, l1), some (0, l2 + 0), some (0, l3 + 1), none]) ⟨rfl, ⟨rfl, ⟨rfl, ⟨rfl, trivial⟩⟩⟩⟩ ?_
      exact h
    · have h := h.2 hc
      refine Rn_pure 8 (i' := 6) (L' := [some (2, 161), some (0, l1), some (0, l2 + (x3 - 1)), some (0, l3 + 1), some (0, x3)]) (st' := []) rfl ?_
      refine Rn_weak (L' := [some (2, 161), some (0, l1), some (0, l2 + (x3 - 1)), some (0, l3 + 1), none]) ⟨rfl, ⟨rfl, ⟨rfl, ⟨rfl, trivial⟩⟩⟩⟩ ?_
      exact h
-- EventLedgerModel.tally (II)I
theorem v_M_tally {K : Int} {S : Nat} {g r : ab_H} {p1 p2 : Int} (P : Int → ab_H → ab_H → Prop) (hr : SI r) (hK : 186 ≤ K) (h : ∀ g1, g1 = ab_up g 161 0 0 → ab_RI m_M_isTally [(2, 161), (0, p1)] K S g1 r (fun x2 g' r' => g' = g1 ∧ r' = r ∧ (((¬ wr x2 = wr 0 → ((wr p2 = 0 → ab_RI m_M_tallyAt [(0, p1)] K S g1 r (fun x3 g' r' => g' = g1 ∧ r' = r ∧ (((0 : Int) ≤ x3 + 0 ∧ (x3 + 0 : Int) < 1607) ∧ P (g1 174 (x3 + 0)) g1 r))) ∧ (wr p2 = 1 → ab_RI m_M_many [(2, 161)] K S g1 r (fun x4 g' r' => g' = g1 ∧ r' = r ∧ (ab_RI m_M_tallyAt [(0, p1)] K S g1 r (fun x5 g' r' => g' = g1 ∧ r' = r ∧ (((0 : Int) ≤ x5 + 0 ∧ (x5 + 0 : Int) < 1607) ∧ P (x4 - (g1 174 (x5 + 0))) g1 r))))) ∧ (wr p2 = 2 → ab_RI m_M_countedMany [(2, 161), (0, p1)] K S g1 r (fun x6 g' r' => g' = g1 ∧ r' = r ∧ (P x6 g1 r))) ∧ (wr p2 = 3 → ((0 : Int) ≤ p1 ∧ (p1 : Int) < 8) ∧ P (g1 166 p1) g1 r) ∧ (wr p2 = 4 → ((0 : Int) ≤ p1 ∧ (p1 : Int) < 8) ∧ P (g1 167 p1) g1 r) ∧ (wr p2 = 5 → ab_RI m_M_sums [(2, 161), (0, p1)] K S g1 r (fun x7 g' r' => g' = g1 ∧ r' = r ∧ (P x7 g1 r))) ∧ (wr p2 = 6 → ab_RI m_M_anew [(2, 161), (0, p1)] K S g1 r (fun x9 g8 r' => r' = r ∧ (ab_RI m_M_sums [(2, 161), (0, p1)] K S g8 r (fun x10 g' r' => g' = g8 ∧ r' = r ∧ (P (x9 - x10) g8 r))))) ∧ (wr p2 < 0 ∨ 7 ≤ wr p2 → P (-2147483648) g1 r))) ∧ (wr x2 = wr 0 → P (-2147483648) g1 r))))) : ab_RI m_M_tally [(2, 161), (0, p1), (0, p2)] K S g r P := by
  show ab_Rn m_M_tally 0 [some (2, 161), some (0, p1), some (0, p2)] [] (K, S, g, r) (ab_Qi K S P)
  refine Rn_pure 2 (i' := 2) (L' := [some (2, 161), some (0, p1), some (0, p2)]) (st' := [(0, 0), (2, 161)]) rfl ?_
  refine Rn_putI rfl (⟨rfl, (by omega : (0 : Int) ≤ 161), (by omega : (161 : Int) + 1 < K ∧ 5 < K)⟩) (fun g1 he_g1 => ?_)
  have h := h g1 he_g1
  refine Rn_pure 2 (i' := 5) (L' := [some (2, 161), some (0, p1), some (0, p2)]) (st' := [(0, p1), (2, 161)]) rfl ?_
  refine Rn_callI [(2, 161), (0, p1)] [] rfl rfl rfl rfl (ab_rvB_of rfl (⟨rfl, (by omega : (0 : Int) ≤ 161), (by omega : (161 : Int) + 1 < K ∧ 5 < K)⟩)) ?_
  refine h.mono (fun x2 g' r' h => ?_)
  obtain ⟨hx, h⟩ := h
  replace hx := hx.symm
  subst hx
  obtain ⟨hx, h⟩ := h
  replace hx := hx.symm
  subst hx
  refine Rn_ifne rfl (fun hc => ?_) (fun hc => ?_)
  · have h := h.1 hc
    refine Rn_pure 1 (i' := 10) (L' := [some (2, 161), some (0, p1), some (0, p2)]) (st' := [(0, p2)]) rfl ?_
    refine Rn_ts rfl ?_
    have ht11 : (wr p2 = 0) → ab_Rn m_M_tally 11 [some (2, 161), some (0, p1), some (0, p2)] [] (K, S, g1, r) (ab_Qi K S P) := by
      intro hc
      have h := h.1 hc
      refine Rn_pure 1 (i' := 12) (L' := [some (2, 161), some (0, p1), some (0, p2)]) (st' := [(2, 161)]) rfl ?_
      refine Rn_getR rfl (⟨rfl, (by omega : (0 : Int) ≤ 161), (by omega : (161 : Int) + 1 < K ∧ 5 < K)⟩) (hr 149 _ rfl) (by decide) ?_
      refine Rn_pure 1 (i' := 14) (L' := [some (2, 161), some (0, p1), some (0, p2)]) (st' := [(0, p1), (2, 174)]) rfl ?_
      refine Rn_callI [(0, p1)] [(2, 174)] rfl rfl rfl rfl (rfl) ?_
      refine h.mono (fun x3 g' r' h => ?_)
      obtain ⟨hx, h⟩ := h
      replace hx := hx.symm
      subst hx
      obtain ⟨hx, h⟩ := h
      replace hx := hx.symm
      subst hx
      refine Rn_pure 2 (i' := 17) (L' := [some (2, 161), some (0, p1), some (0, p2)]) (st' := [(0, x3 + 0), (2, 174)]) rfl ?_
      obtain ⟨hg, h⟩ := h
      refine Rn_iald rfl (⟨rfl, (by omega : (0 : Int) ≤ 174), (by omega : (174 : Int) + 1 < K ∧ 5 < K)⟩) hg ?_
      exact Rn_ret1 rfl h
    have ht19 : (wr p2 = 1) → ab_Rn m_M_tally 19 [some (2, 161), some (0, p1), some (0, p2)] [] (K, S, g1, r) (ab_Qi K S P) := by
      intro hc
      have h := h.2.1 hc
      refine Rn_pure 1 (i' := 20) (L' := [some (2, 161), some (0, p1), some (0, p2)]) (st' := [(2, 161)]) rfl ?_
      refine Rn_callI [(2, 161)] [] rfl rfl rfl rfl (ab_rvB_of rfl (⟨rfl, (by omega : (0 : Int) ≤ 161), (by omega : (161 : Int) + 1 < K ∧ 5 < K)⟩)) ?_
      refine h.mono (fun x4 g' r' h => ?_)
      obtain ⟨hx, h⟩ := h
      replace hx := hx.symm
      subst hx
      obtain ⟨hx, h⟩ := h
      replace hx := hx.symm
      subst hx
      refine Rn_pure 1 (i' := 22) (L' := [some (2, 161), some (0, p1), some (0, p2)]) (st' := [(2, 161), (0, x4)]) rfl ?_
      refine Rn_getR rfl (⟨rfl, (by omega : (0 : Int) ≤ 161), (by omega : (161 : Int) + 1 < K ∧ 5 < K)⟩) (hr 149 _ rfl) (by decide) ?_
      refine Rn_pure 1 (i' := 24) (L' := [some (2, 161), some (0, p1), some (0, p2)]) (st' := [(0, p1), (2, 174), (0, x4)]) rfl ?_
      refine Rn_callI [(0, p1)] [(2, 174), (0, x4)] rfl rfl rfl rfl (rfl) ?_
      refine h.mono (fun x5 g' r' h => ?_)
      obtain ⟨hx, h⟩ := h
      replace hx := hx.symm
      subst hx
      obtain ⟨hx, h⟩ := h
      replace hx := hx.symm
      subst hx
      refine Rn_pure 2 (i' := 27) (L' := [some (2, 161), some (0, p1), some (0, p2)]) (st' := [(0, x5 + 0), (2, 174), (0, x4)]) rfl ?_
      obtain ⟨hg, h⟩ := h
      refine Rn_iald rfl (⟨rfl, (by omega : (0 : Int) ≤ 174), (by omega : (174 : Int) + 1 < K ∧ 5 < K)⟩) hg ?_
      refine Rn_pure 1 (i' := 29) (L' := [some (2, 161), some (0, p1), some (0, p2)]) (st' := [(0, x4 - (g1 174 (x5 + 0)))]) rfl ?_
      exact Rn_ret1 rfl h
    have ht30 : (wr p2 = 2) → ab_Rn m_M_tally 30 [some (2, 161), some (0, p1), some (0, p2)] [] (K, S, g1, r) (ab_Qi K S P) := by
      intro hc
      have h := h.2.2.1 hc
      refine Rn_pure 2 (i' := 32) (L' := [some (2, 161), some (0, p1), some (0, p2)]) (st' := [(0, p1), (2, 161)]) rfl ?_
      refine Rn_callI [(2, 161), (0, p1)] [] rfl rfl rfl rfl (ab_rvB_of rfl (⟨rfl, (by omega : (0 : Int) ≤ 161), (by omega : (161 : Int) + 1 < K ∧ 5 < K)⟩)) ?_
      refine h.mono (fun x6 g' r' h => ?_)
      obtain ⟨hx, h⟩ := h
      replace hx := hx.symm
      subst hx
      obtain ⟨hx, h⟩ := h
      replace hx := hx.symm
      subst hx
      exact Rn_ret1 rfl h
    have ht34 : (wr p2 = 3) → ab_Rn m_M_tally 34 [some (2, 161), some (0, p1), some (0, p2)] [] (K, S, g1, r) (ab_Qi K S P) := by
      intro hc
      have h := h.2.2.2.1 hc
      refine Rn_pure 1 (i' := 35) (L' := [some (2, 161), some (0, p1), some (0, p2)]) (st' := [(2, 161)]) rfl ?_
      refine Rn_getR rfl (⟨rfl, (by omega : (0 : Int) ≤ 161), (by omega : (161 : Int) + 1 < K ∧ 5 < K)⟩) (hr 141 _ rfl) (by decide) ?_
      refine Rn_pure 1 (i' := 37) (L' := [some (2, 161), some (0, p1), some (0, p2)]) (st' := [(0, p1), (2, 166)]) rfl ?_
      obtain ⟨hg, h⟩ := h
      refine Rn_iald rfl (⟨rfl, (by omega : (0 : Int) ≤ 166), (by omega : (166 : Int) + 1 < K ∧ 5 < K)⟩) hg ?_
      exact Rn_ret1 rfl h
    have ht39 : (wr p2 = 4) → ab_Rn m_M_tally 39 [some (2, 161), some (0, p1), some (0, p2)] [] (K, S, g1, r) (ab_Qi K S P) := by
      intro hc
      have h := h.2.2.2.2.1 hc
      refine Rn_pure 1 (i' := 40) (L' := [some (2, 161), some (0, p1), some (0, p2)]) (st' := [(2, 161)]) rfl ?_
      refine Rn_getR rfl (⟨rfl, (by omega : (0 : Int) ≤ 161), (by omega : (161 : Int) + 1 < K ∧ 5 < K)⟩) (hr 142 _ rfl) (by decide) ?_
      refine Rn_pure 1 (i' := 42) (L' := [some (2, 161), some (0, p1), some (0, p2)]) (st' := [(0, p1), (2, 167)]) rfl ?_
      obtain ⟨hg, h⟩ := h
      refine Rn_iald rfl (⟨rfl, (by omega : (0 : Int) ≤ 167), (by omega : (167 : Int) + 1 < K ∧ 5 < K)⟩) hg ?_
      exact Rn_ret1 rfl h
    have ht44 : (wr p2 = 5) → ab_Rn m_M_tally 44 [some (2, 161), some (0, p1), some (0, p2)] [] (K, S, g1, r) (ab_Qi K S P) := by
      intro hc
      have h := h.2.2.2.2.2.1 hc
      refine Rn_pure 2 (i' := 46) (L' := [some (2, 161), some (0, p1), some (0, p2)]) (st' := [(0, p1), (2, 161)]) rfl ?_
      refine Rn_callI [(2, 161), (0, p1)] [] rfl rfl rfl rfl (ab_rvB_of rfl (⟨rfl, (by omega : (0 : Int) ≤ 161), (by omega : (161 : Int) + 1 < K ∧ 5 < K)⟩)) ?_
      refine h.mono (fun x7 g' r' h => ?_)
      obtain ⟨hx, h⟩ := h
      replace hx := hx.symm
      subst hx
      obtain ⟨hx, h⟩ := h
      replace hx := hx.symm
      subst hx
      exact Rn_ret1 rfl h
    have ht48 : (wr p2 = 6) → ab_Rn m_M_tally 48 [some (2, 161), some (0, p1), some (0, p2)] [] (K, S, g1, r) (ab_Qi K S P) := by
      intro hc
      have h := h.2.2.2.2.2.2.1 hc
      refine Rn_pure 2 (i' := 50) (L' := [some (2, 161), some (0, p1), some (0, p2)]) (st' := [(0, p1), (2, 161)]) rfl ?_
      refine Rn_callI [(2, 161), (0, p1)] [] rfl rfl rfl rfl (ab_rvB_of rfl (⟨rfl, (by omega : (0 : Int) ≤ 161), (by omega : (161 : Int) + 1 < K ∧ 5 < K)⟩)) ?_
      refine h.mono (fun x9 g8 r' h => ?_)
      obtain ⟨hx, h⟩ := h
      replace hx := hx.symm
      subst hx
      refine Rn_pure 2 (i' := 53) (L' := [some (2, 161), some (0, p1), some (0, p2)]) (st' := [(0, p1), (2, 161), (0, x9)]) rfl ?_
      refine Rn_callI [(2, 161), (0, p1)] [(0, x9)] rfl rfl rfl rfl (ab_rvB_of rfl (⟨rfl, (by omega : (0 : Int) ≤ 161), (by omega : (161 : Int) + 1 < K ∧ 5 < K)⟩)) ?_
      refine h.mono (fun x10 g' r' h => ?_)
      obtain ⟨hx, h⟩ := h
      replace hx := hx.symm
      subst hx
      obtain ⟨hx, h⟩ := h
      replace hx := hx.symm
      subst hx
      refine Rn_pure 1 (i' := 55) (L' := [some (2, 161), some (0, p1), some (0, p2)]) (st' := [(0, x9 - x10)]) rfl ?_
      exact Rn_ret1 rfl h
    have htd : (wr p2 < 0 ∨ 7 ≤ wr p2) → ab_Rn m_M_tally 56 [some (2, 161), some (0, p1), some (0, p2)] [] (K, S, g1, r) (ab_Qi K S P) := by
      intro hc
      have h := h.2.2.2.2.2.2.2 hc
      refine Rn_pure 1 (i' := 57) (L' := [some (2, 161), some (0, p1), some (0, p2)]) (st' := [(0, (-2147483648))]) rfl ?_
      exact Rn_ret1 rfl h
    have hsp : wr p2 < 0 ∨ 7 ≤ wr p2 ∨ wr p2 = 0 ∨ wr p2 = 1 ∨ wr p2 = 2 ∨ wr p2 = 3 ∨ wr p2 = 4 ∨ wr p2 = 5 ∨ wr p2 = 6 := by omega
    rcases hsp with hc | hc | hc | hc | hc | hc | hc | hc | hc
    · rw [ab_ts_out (hT := (rfl : ab_nth ab_tsL 8 = some (0, 56, [11, 19, 30, 34, 39, 44, 48]))) rfl (Or.inl hc)]; exact htd (by simp only [hc, true_or, or_true])
    · rw [ab_ts_out (hT := (rfl : ab_nth ab_tsL 8 = some (0, 56, [11, 19, 30, 34, 39, 44, 48]))) rfl (Or.inr hc)]; exact htd (by simp only [hc, true_or, or_true])
    · rw [ab_ts_in (j := 0) (hT := (rfl : ab_nth ab_tsL 8 = some (0, 56, [11, 19, 30, 34, 39, 44, 48]))) (by rw [hc]; rfl) rfl]; exact ht11 (by simp only [hc, true_or, or_true])
    · rw [ab_ts_in (j := 1) (hT := (rfl : ab_nth ab_tsL 8 = some (0, 56, [11, 19, 30, 34, 39, 44, 48]))) (by rw [hc]; rfl) rfl]; exact ht19 (by simp only [hc, true_or, or_true])
    · rw [ab_ts_in (j := 2) (hT := (rfl : ab_nth ab_tsL 8 = some (0, 56, [11, 19, 30, 34, 39, 44, 48]))) (by rw [hc]; rfl) rfl]; exact ht30 (by simp only [hc, true_or, or_true])
    · rw [ab_ts_in (j := 3) (hT := (rfl : ab_nth ab_tsL 8 = some (0, 56, [11, 19, 30, 34, 39, 44, 48]))) (by rw [hc]; rfl) rfl]; exact ht34 (by simp only [hc, true_or, or_true])
    · rw [ab_ts_in (j := 4) (hT := (rfl : ab_nth ab_tsL 8 = some (0, 56, [11, 19, 30, 34, 39, 44, 48]))) (by rw [hc]; rfl) rfl]; exact ht39 (by simp only [hc, true_or, or_true])
    · rw [ab_ts_in (j := 5) (hT := (rfl : ab_nth ab_tsL 8 = some (0, 56, [11, 19, 30, 34, 39, 44, 48]))) (by rw [hc]; rfl) rfl]; exact ht44 (by simp only [hc, true_or, or_true])
    · rw [ab_ts_in (j := 6) (hT := (rfl : ab_nth ab_tsL 8 = some (0, 56, [11, 19, 30, 34, 39, 44, 48]))) (by rw [hc]; rfl) rfl]; exact ht48 (by simp only [hc, true_or, or_true])
  · have h := h.2 hc
    refine Rn_pure 1 (i' := 8) (L' := [some (2, 161), some (0, p1), some (0, p2)]) (st' := [(0, (-2147483648))]) rfl ?_
    exact Rn_ret1 rfl h
-- EventLedgerModel.sum (II)I
theorem v_M_sum {K : Int} {S : Nat} {g r : ab_H} {p1 p2 : Int} (P : Int → ab_H → ab_H → Prop) (hr : SI r) (hK : 186 ≤ K) (h : ∀ g1, g1 = ab_up g 161 0 0 → ab_RI m_M_isTally [(2, 161), (0, p1)] K S g1 r (fun x2 g' r' => g' = g1 ∧ r' = r ∧ (((wr x2 = wr 0 → P (-2147483648) g1 r) ∧ (¬ wr x2 = wr 0 → ab_RI m_M_isAccount [(2, 161), (0, p2)] K S g1 r (fun x3 g' r' => g' = g1 ∧ r' = r ∧ (((wr x3 = wr 0 → P (-2147483648) g1 r) ∧ (¬ wr x3 = wr 0 → ab_RI m_M_tallyAt [(0, p1)] K S g1 r (fun x4 g' r' => g' = g1 ∧ r' = r ∧ (((0 : Int) ≤ x4 + 1 + p2 ∧ (x4 + 1 + p2 : Int) < 1607) ∧ P (g1 174 (x4 + 1 + p2)) g1 r))))))))))) : ab_RI m_M_sum [(2, 161), (0, p1), (0, p2)] K S g r P := by
  show ab_Rn m_M_sum 0 [some (2, 161), some (0, p1), some (0, p2)] [] (K, S, g, r) (ab_Qi K S P)
  refine Rn_pure 2 (i' := 2) (L' := [some (2, 161), some (0, p1), some (0, p2)]) (st' := [(0, 0), (2, 161)]) rfl ?_
  refine Rn_putI rfl (⟨rfl, (by omega : (0 : Int) ≤ 161), (by omega : (161 : Int) + 1 < K ∧ 5 < K)⟩) (fun g1 he_g1 => ?_)
  have h := h g1 he_g1
  refine Rn_pure 2 (i' := 5) (L' := [some (2, 161), some (0, p1), some (0, p2)]) (st' := [(0, p1), (2, 161)]) rfl ?_
  refine Rn_callI [(2, 161), (0, p1)] [] rfl rfl rfl rfl (ab_rvB_of rfl (⟨rfl, (by omega : (0 : Int) ≤ 161), (by omega : (161 : Int) + 1 < K ∧ 5 < K)⟩)) ?_
  refine h.mono (fun x2 g' r' h => ?_)
  obtain ⟨hx, h⟩ := h
  replace hx := hx.symm
  subst hx
  obtain ⟨hx, h⟩ := h
  replace hx := hx.symm
  subst hx
  refine Rn_ifeq rfl (fun hc => ?_) (fun hc => ?_)
  · have h := h.1 hc
    refine Rn_pure 1 (i' := 22) (L' := [some (2, 161), some (0, p1), some (0, p2)]) (st' := [(0, (-2147483648))]) rfl ?_
    exact Rn_ret1 rfl h
  · have h := h.2 hc
    refine Rn_pure 2 (i' := 9) (L' := [some (2, 161), some (0, p1), some (0, p2)]) (st' := [(0, p2), (2, 161)]) rfl ?_
    refine Rn_callI [(2, 161), (0, p2)] [] rfl rfl rfl rfl (ab_rvB_of rfl (⟨rfl, (by omega : (0 : Int) ≤ 161), (by omega : (161 : Int) + 1 < K ∧ 5 < K)⟩)) ?_
    refine h.mono (fun x3 g' r' h => ?_)
    obtain ⟨hx, h⟩ := h
    replace hx := hx.symm
    subst hx
    obtain ⟨hx, h⟩ := h
    replace hx := hx.symm
    subst hx
    refine Rn_ifeq rfl (fun hc => ?_) (fun hc => ?_)
    · have h := h.1 hc
      refine Rn_pure 1 (i' := 22) (L' := [some (2, 161), some (0, p1), some (0, p2)]) (st' := [(0, (-2147483648))]) rfl ?_
      exact Rn_ret1 rfl h
    · have h := h.2 hc
      refine Rn_pure 1 (i' := 12) (L' := [some (2, 161), some (0, p1), some (0, p2)]) (st' := [(2, 161)]) rfl ?_
      refine Rn_getR rfl (⟨rfl, (by omega : (0 : Int) ≤ 161), (by omega : (161 : Int) + 1 < K ∧ 5 < K)⟩) (hr 149 _ rfl) (by decide) ?_
      refine Rn_pure 1 (i' := 14) (L' := [some (2, 161), some (0, p1), some (0, p2)]) (st' := [(0, p1), (2, 174)]) rfl ?_
      refine Rn_callI [(0, p1)] [(2, 174)] rfl rfl rfl rfl (rfl) ?_
      refine h.mono (fun x4 g' r' h => ?_)
      obtain ⟨hx, h⟩ := h
      replace hx := hx.symm
      subst hx
      obtain ⟨hx, h⟩ := h
      replace hx := hx.symm
      subst hx
      refine Rn_pure 4 (i' := 19) (L' := [some (2, 161), some (0, p1), some (0, p2)]) (st' := [(0, x4 + 1 + p2), (2, 174)]) rfl ?_
      obtain ⟨hg, h⟩ := h
      refine Rn_iald rfl (⟨rfl, (by omega : (0 : Int) ≤ 174), (by omega : (174 : Int) + 1 < K ∧ 5 < K)⟩) hg ?_
      refine Rn_pure 1 (i' := 22) (L' := [some (2, 161), some (0, p1), some (0, p2)]) (st' := [(0, g1 174 (x4 + 1 + p2))]) rfl ?_
      exact Rn_ret1 rfl h
-- EventLedgerModel.draw (I)I
theorem v_M_draw {K : Int} {S : Nat} {g r : ab_H} {p1 : Int} (P : Int → ab_H → ab_H → Prop) (hr : SI r) (hK : 186 ≤ K) (h : ∀ g1, g1 = ab_up g 161 45 (ab_and ((g 161 45) * 1103515245 + 12345) 2147483647) → (¬ wr p1 = 0) ∧ P (ab_rem (ab_shr (g1 161 45) 16) p1) g1 r) : ab_RI m_M_draw [(2, 161), (0, p1)] K S g r P := by
  show ab_Rn m_M_draw 0 [some (2, 161), some (0, p1)] [] (K, S, g, r) (ab_Qi K S P)
  refine Rn_pure 2 (i' := 2) (L' := [some (2, 161), some (0, p1)]) (st' := [(2, 161), (2, 161)]) rfl ?_
  refine Rn_getI rfl (⟨rfl, (by omega : (0 : Int) ≤ 161), (by omega : (161 : Int) + 1 < K ∧ 5 < K)⟩) ?_
  refine Rn_pure 6 (i' := 9) (L' := [some (2, 161), some (0, p1)]) (st' := [(0, ab_and ((g 161 45) * 1103515245 + 12345) 2147483647), (2, 161)]) rfl ?_
  refine Rn_putI rfl (⟨rfl, (by omega : (0 : Int) ≤ 161), (by omega : (161 : Int) + 1 < K ∧ 5 < K)⟩) (fun g1 he_g1 => ?_)
  have h := h g1 he_g1
  refine Rn_pure 1 (i' := 11) (L' := [some (2, 161), some (0, p1)]) (st' := [(2, 161)]) rfl ?_
  refine Rn_getI rfl (⟨rfl, (by omega : (0 : Int) ≤ 161), (by omega : (161 : Int) + 1 < K ∧ 5 < K)⟩) ?_
  refine Rn_pure 3 (i' := 15) (L' := [some (2, 161), some (0, p1)]) (st' := [(0, p1), (0, ab_shr (g1 161 45) 16)]) rfl ?_
  obtain ⟨hg, h⟩ := h
  refine Rn_rem rfl hg ?_
  exact Rn_ret1 rfl h
-- EventLedgerModel.balances ()I
theorem v_M_balances {K : Int} {S : Nat} {g r : ab_H} (P : Int → ab_H → ab_H → Prop) (hr : SI r) (hK : 186 ≤ K) (h : ab_Rn m_M_balances 4 [some (2, 161), some (0, 0), some (0, 0)] [] (K, S, g, r) (ab_Qi K S P)) : ab_RI m_M_balances [(2, 161)] K S g r P := by
  show ab_Rn m_M_balances 0 [some (2, 161), none, none] [] (K, S, g, r) (ab_Qi K S P)
  refine Rn_pure 4 (i' := 4) (L' := [some (2, 161), some (0, 0), some (0, 0)]) (st' := []) rfl ?_
  exact h
theorem v_M_balances_4 {K : Int} {S : Nat} {g r : ab_H} {l1 l2 : Int} (P : Int → ab_H → ab_H → Prop) (hr : SI r) (hK : 186 ≤ K) (h : ab_RI m_M_accounts [(2, 161)] K S g r (fun x1 g' r' => g' = g ∧ r' = r ∧ (((wr x1 ≤ wr l2 → P l1 g r) ∧ (wr l2 < wr x1 → ((0 : Int) ≤ l2 ∧ (l2 : Int) < 8) ∧ ab_Rn m_M_balances 4 [some (2, 161), some (0, l1 + (g 179 l2)), some (0, l2 + 1)] [] (K, S, g, r) (ab_Qi K S P)))))) : ab_Rn m_M_balances 4 [some (2, 161), some (0, l1), some (0, l2)] [] (K, S, g, r) (ab_Qi K S P) := by
  refine Rn_pure 2 (i' := 6) (L' := [some (2, 161), some (0, l1), some (0, l2)]) (st' := [(2, 161), (0, l2)]) rfl ?_
  refine Rn_callI [(2, 161)] [(0, l2)] rfl rfl rfl rfl (ab_rvB_of rfl (⟨rfl, (by omega : (0 : Int) ≤ 161), (by omega : (161 : Int) + 1 < K ∧ 5 < K)⟩)) ?_
  refine h.mono (fun x1 g' r' h => ?_)
  obtain ⟨hx, h⟩ := h
  replace hx := hx.symm
  subst hx
  obtain ⟨hx, h⟩ := h
  replace hx := hx.symm
  subst hx
  refine Rn_icge rfl (fun hc => ?_) (fun hc => ?_)
  · have h := h.1 hc
    refine Rn_pure 1 (i' := 18) (L' := [some (2, 161), some (0, l1), some (0, l2)]) (st' := [(0, l1)]) rfl ?_
    exact Rn_ret1 rfl h
  · have h := h.2 hc
    refine Rn_pure 2 (i' := 10) (L' := [some (2, 161), some (0, l1), some (0, l2)]) (st' := [(2, 161), (0, l1)]) rfl ?_
    refine Rn_getR rfl (⟨rfl, (by omega : (0 : Int) ≤ 161), (by omega : (161 : Int) + 1 < K ∧ 5 < K)⟩) (hr 154 _ rfl) (by decide) ?_
    refine Rn_pure 1 (i' := 12) (L' := [some (2, 161), some (0, l1), some (0, l2)]) (st' := [(0, l2), (2, 179), (0, l1)]) rfl ?_
    obtain ⟨hg, h⟩ := h
    refine Rn_iald rfl (⟨rfl, (by omega : (0 : Int) ≤ 179), (by omega : (179 : Int) + 1 < K ∧ 5 < K)⟩) hg ?_
    refine Rn_pure 4 (i' := 4) (L' := [some (2, 161), some (0, l1 + (g 179 l2)), some (0, l2 + 1)]) (st' := []) rfl ?_
    exact h
-- EventLedgerModel.chance (III)I
theorem v_M_chance {K : Int} {S : Nat} {g r : ab_H} {p1 p2 p3 : Int} (P : Int → ab_H → ab_H → Prop) (hr : SI r) (hK : 186 ≤ K) (h : ∀ g1, g1 = ab_up g 161 0 0 → ((wr p1 < wr (-1) → ab_Rn m_M_chance 28 [some (2, 161), some (0, p1), some (0, p2), some (0, p3), none, none, none, none, none] [] (K, S, g1, r) (ab_Qi K S P)) ∧ (wr (-1) ≤ wr p1 → ((wr p2 < wr 1 → ab_Rn m_M_chance 28 [some (2, 161), some (0, p1), some (0, p2), some (0, p3), none, none, none, none, none] [] (K, S, g1, r) (ab_Qi K S P)) ∧ (wr 1 ≤ wr p2 → ((wr 60 < wr p2 → ab_Rn m_M_chance 28 [some (2, 161), some (0, p1), some (0, p2), some (0, p3), none, none, none, none, none] [] (K, S, g1, r) (ab_Qi K S P)) ∧ (wr p2 ≤ wr 60 → ((wr p3 < wr 0 → ab_Rn m_M_chance 28 [some (2, 161), some (0, p1), some (0, p2), some (0, p3), none, none, none, none, none] [] (K, S, g1, r) (ab_Qi K S P)) ∧ (wr 0 ≤ wr p3 → ((wr 2 < wr p3 → ab_Rn m_M_chance 28 [some (2, 161), some (0, p1), some (0, p2), some (0, p3), none, none, none, none, none] [] (K, S, g1, r) (ab_Qi K S P)) ∧ (wr p3 ≤ wr 2 → ab_RI m_M_accounts [(2, 161)] K S g1 r (fun x2 g' r' => g' = g1 ∧ r' = r ∧ (((wr x2 ≤ wr 0 → ab_Rn m_M_chance 28 [some (2, 161), some (0, p1), some (0, p2), some (0, p3), none, none, none, none, none] [] (K, S, g1, r) (ab_Qi K S P)) ∧ (wr 0 < wr x2 → ab_RI m_M_many [(2, 161)] K S g1 r (fun x3 g' r' => g' = g1 ∧ r' = r ∧ (((wr 120 < wr (x3 + p2) → ab_Rn m_M_chance 28 [some (2, 161), some (0, p1), some (0, p2), some (0, p3), none, none, none, none, none] [] (K, S, g1, r) (ab_Qi K S P)) ∧ (wr (x3 + p2) ≤ wr 120 → ((¬ wr 1 = wr 0 → ((¬ wr p1 = wr (-1) → ∀ g4, g4 = ab_up g1 161 45 p1 → ab_RV m_M_copies [(2, 174), (0, 0), (2, 175), (0, 0)] K S g4 r (fun g5 r' => r' = r ∧ (ab_RI m_M_many [(2, 161)] K S g5 r (fun x7 g' r' => g' = g5 ∧ r' = r ∧ (∀ g8, g8 = ab_up g5 161 32 0 → ab_Rn m_M_chance 65 [some (2, 161), none, some (0, p2), some (0, p3), none, some (0, x7), some (0, 0), none, none] [] (K, S, g8, r) (ab_Qi K S P)))))) ∧ (wr p1 = wr (-1) → ((0 : Int) ≤ 4 ∧ (4 : Int) < 12) ∧ ∀ g9, g9 = ab_up g1 161 45 (g1 163 4) → ab_RV m_M_copies [(2, 174), (0, 0), (2, 175), (0, 0)] K S g9 r (fun g10 r' => r' = r ∧ (ab_RI m_M_many [(2, 161)] K S g10 r (fun x12 g' r' => g' = g10 ∧ r' = r ∧ (∀ g13, g13 = ab_up g10 161 32 0 → ab_Rn m_M_chance 65 [some (2, 161), none, some (0, p2), some (0, p3), none, some (0, x12), some (0, 0), none, none] [] (K, S, g13, r) (ab_Qi K S P)))))))) ∧ (wr 1 = wr 0 → ((¬ wr p3 = wr 1 → P (-1) g1 r) ∧ (wr p3 = wr 1 → P (-2147483648) g1 r))))))))))))))))))))))) : ab_RI m_M_chance [(2, 161), (0, p1), (0, p2), (0, p3)] K S g r P := by
  show ab_Rn m_M_chance 0 [some (2, 161), some (0, p1), some (0, p2), some (0, p3), none, none, none, none, none] [] (K, S, g, r) (ab_Qi K S P)
  refine Rn_pure 2 (i' := 2) (L' := [some (2, 161), some (0, p1), some (0, p2), some (0, p3), none, none, none, none, none]) (st' := [(0, 0), (2, 161)]) rfl ?_
  refine Rn_putI rfl (⟨rfl, (by omega : (0 : Int) ≤ 161), (by omega : (161 : Int) + 1 < K ∧ 5 < K)⟩) (fun g1 he_g1 => ?_)
  have h := h g1 he_g1
  refine Rn_pure 2 (i' := 5) (L' := [some (2, 161), some (0, p1), some (0, p2), some (0, p3), none, none, none, none, none]) (st' := [(0, (-1)), (0, p1)]) rfl ?_
  refine Rn_iclt rfl (fun hc => ?_) (fun hc => ?_)
  · have h := h.1 hc
    exact h
  · have h := h.2 hc
    refine Rn_pure 2 (i' := 8) (L' := [some (2, 161), some (0, p1), some (0, p2), some (0, p3), none, none, none, none, none]) (st' := [(0, 1), (0, p2)]) rfl ?_
    refine Rn_iclt rfl (fun hc => ?_) (fun hc => ?_)
    · have h := h.1 hc
      exact h
    · have h := h.2 hc
      refine Rn_pure 2 (i' := 11) (L' := [some (2, 161), some (0, p1), some (0, p2), some (0, p3), none, none, none, none, none]) (st' := [(0, 60), (0, p2)]) rfl ?_
      refine Rn_icgt rfl (fun hc => ?_) (fun hc => ?_)
      · have h := h.1 hc
        exact h
      · have h := h.2 hc
        refine Rn_pure 1 (i' := 13) (L' := [some (2, 161), some (0, p1), some (0, p2), some (0, p3), none, none, none, none, none]) (st' := [(0, p3)]) rfl ?_
        refine Rn_iflt rfl (fun hc => ?_) (fun hc => ?_)
        · have h := h.1 hc
          exact h
        · have h := h.2 hc
          refine Rn_pure 2 (i' := 16) (L' := [some (2, 161), some (0, p1), some (0, p2), some (0, p3), none, none, none, none, none]) (st' := [(0, 2), (0, p3)]) rfl ?_
          refine Rn_icgt rfl (fun hc => ?_) (fun hc => ?_)
          · have h := h.1 hc
            exact h
          · have h := h.2 hc
            refine Rn_pure 1 (i' := 18) (L' := [some (2, 161), some (0, p1), some (0, p2), some (0, p3), none, none, none, none, none]) (st' := [(2, 161)]) rfl ?_
            refine Rn_callI [(2, 161)] [] rfl rfl rfl rfl (ab_rvB_of rfl (⟨rfl, (by omega : (0 : Int) ≤ 161), (by omega : (161 : Int) + 1 < K ∧ 5 < K)⟩)) ?_
            refine h.mono (fun x2 g' r' h => ?_)
            obtain ⟨hx, h⟩ := h
            replace hx := hx.symm
            subst hx
            obtain ⟨hx, h⟩ := h
            replace hx := hx.symm
            subst hx
            refine Rn_ifle rfl (fun hc => ?_) (fun hc => ?_)
            · have h := h.1 hc
              exact h
            · have h := h.2 hc
              refine Rn_pure 1 (i' := 21) (L' := [some (2, 161), some (0, p1), some (0, p2), some (0, p3), none, none, none, none, none]) (st' := [(2, 161)]) rfl ?_
              refine Rn_callI [(2, 161)] [] rfl rfl rfl rfl (ab_rvB_of rfl (⟨rfl, (by omega : (0 : Int) ≤ 161), (by omega : (161 : Int) + 1 < K ∧ 5 < K)⟩)) ?_
              refine h.mono (fun x3 g' r' h => ?_)
              obtain ⟨hx, h⟩ := h
              replace hx := hx.symm
              subst hx
              obtain ⟨hx, h⟩ := h
              replace hx := hx.symm
              subst hx
              refine Rn_pure 3 (i' := 25) (L' := [some (2, 161), some (0, p1), some (0, p2), some (0, p3), none, none, none, none, none]) (st' := [(0, 120), (0, x3 + p2)]) rfl ?_
              refine Rn_icgt rfl (fun hc => ?_) (fun hc => ?_)
              · have h := h.1 hc
                exact h
              · have h := h.2 hc
                refine Rn_pure 4 (i' := 31) (L' := [some (2, 161), some (0, p1), some (0, p2), some (0, p3), some (0, 1), none, none, none, none]) (st' := [(0, 1)]) rfl ?_
                refine Rn_ifne rfl (fun hc => ?_) (fun hc => ?_)
                · have h := h.1 hc
                  refine Rn_pure 3 (i' := 42) (L' := [some (2, 161), some (0, p1), some (0, p2), some (0, p3), some (0, 1), none, none, none, none]) (st' := [(0, (-1)), (0, p1), (2, 161)]) rfl ?_
                  refine Rn_icne rfl (fun hc => ?_) (fun hc => ?_)
                  · have h := h.1 hc
                    refine Rn_pure 1 (i' := 49) (L' := [some (2, 161), some (0, p1), some (0, p2), some (0, p3), some (0, 1), none, none, none, none]) (st' := [(0, p1), (2, 161)]) rfl ?_
                    refine Rn_putI rfl (⟨rfl, (by omega : (0 : Int) ≤ 161), (by omega : (161 : Int) + 1 < K ∧ 5 < K)⟩) (fun g4 he_g4 => ?_)
                    have h := h g4 he_g4
                    refine Rn_pure 1 (i' := 51) (L' := [some (2, 161), some (0, p1), some (0, p2), some (0, p3), some (0, 1), none, none, none, none]) (st' := [(2, 161)]) rfl ?_
                    refine Rn_getR rfl (⟨rfl, (by omega : (0 : Int) ≤ 161), (by omega : (161 : Int) + 1 < K ∧ 5 < K)⟩) (hr 149 _ rfl) (by decide) ?_
                    refine Rn_pure 2 (i' := 54) (L' := [some (2, 161), some (0, p1), some (0, p2), some (0, p3), some (0, 1), none, none, none, none]) (st' := [(2, 161), (0, 0), (2, 174)]) rfl ?_
                    refine Rn_getR rfl (⟨rfl, (by omega : (0 : Int) ≤ 161), (by omega : (161 : Int) + 1 < K ∧ 5 < K)⟩) (hr 150 _ rfl) (by decide) ?_
                    refine Rn_pure 1 (i' := 56) (L' := [some (2, 161), some (0, p1), some (0, p2), some (0, p3), some (0, 1), none, none, none, none]) (st' := [(0, 0), (2, 175), (0, 0), (2, 174)]) rfl ?_
                    refine Rn_callV [(2, 174), (0, 0), (2, 175), (0, 0)] [] rfl rfl rfl rfl (rfl) ?_
                    refine h.mono (fun g5 r' h => ?_)
                    obtain ⟨hx, h⟩ := h
                    replace hx := hx.symm
                    subst hx
                    refine Rn_pure 1 (i' := 58) (L' := [some (2, 161), some (0, p1), some (0, p2), some (0, p3), some (0, 1), none, none, none, none]) (st' := [(2, 161)]) rfl ?_
                    refine Rn_callI [(2, 161)] [] rfl rfl rfl rfl (ab_rvB_of rfl (⟨rfl, (by omega : (0 : Int) ≤ 161), (by omega : (161 : Int) + 1 < K ∧ 5 < K)⟩)) ?_
                    refine h.mono (fun x7 g' r' h => ?_)
                    obtain ⟨hx, h⟩ := h
                    replace hx := hx.symm
                    subst hx
                    obtain ⟨hx, h⟩ := h
                    replace hx := hx.symm
                    subst hx
                    refine Rn_pure 3 (i' := 62) (L' := [some (2, 161), some (0, p1), some (0, p2), some (0, p3), some (0, 1), some (0, x7), none, none, none]) (st' := [(0, 0), (2, 161)]) rfl ?_
                    refine Rn_putI rfl (⟨rfl, (by omega : (0 : Int) ≤ 161), (by omega : (161 : Int) + 1 < K ∧ 5 < K)⟩) (fun g8 he_g8 => ?_)
                    have h := h g8 he_g8
                    refine Rn_pure 2 (i' := 65) (L' := [some (2, 161), some (0, p1), some (0, p2), some (0, p3), some (0, 1), some (0, x7), some (0, 0), none, none]) (st' := []) rfl ?_
                    refine Rn_weak (L' := [some (2, 161), none, some (0, p2), some (0, p3), none, some (0, x7), some (0, 0), none, none]) ⟨rfl, ⟨rfl, ⟨rfl, ⟨rfl, ⟨rfl, trivial⟩⟩⟩⟩⟩ ?_
                    exact h
                  · have h := h.2 hc
                    refine Rn_pure 1 (i' := 44) (L' := [some (2, 161), some (0, p1), some (0, p2), some (0, p3), some (0, 1), none, none, none, none]) (st' := [(2, 161), (2, 161)]) rfl ?_
                    refine Rn_getR rfl (⟨rfl, (by omega : (0 : Int) ≤ 161), (by omega : (161 : Int) + 1 < K ∧ 5 < K)⟩) (hr 138 _ rfl) (by decide) ?_
                    refine Rn_pure 1 (i' := 46) (L' := [some (2, 161), some (0, p1), some (0, p2), some (0, p3), some (0, 1), none, none, none, none]) (st' := [(0, 4), (2, 163), (2, 161)]) rfl ?_
                    obtain ⟨hg, h⟩ := h
                    refine Rn_iald rfl (⟨rfl, (by omega : (0 : Int) ≤ 163), (by omega : (163 : Int) + 1 < K ∧ 5 < K)⟩) hg ?_
                    refine Rn_pure 1 (i' := 49) (L' := [some (2, 161), some (0, p1), some (0, p2), some (0, p3), some (0, 1), none, none, none, none]) (st' := [(0, g1 163 4), (2, 161)]) rfl ?_
                    refine Rn_putI rfl (⟨rfl, (by omega : (0 : Int) ≤ 161), (by omega : (161 : Int) + 1 < K ∧ 5 < K)⟩) (fun g9 he_g9 => ?_)
                    have h := h g9 he_g9
                    refine Rn_pure 1 (i' := 51) (L' := [some (2, 161), some (0, p1), some (0, p2), some (0, p3), some (0, 1), none, none, none, none]) (st' := [(2, 161)]) rfl ?_
                    refine Rn_getR rfl (⟨rfl, (by omega : (0 : Int) ≤ 161), (by omega : (161 : Int) + 1 < K ∧ 5 < K)⟩) (hr 149 _ rfl) (by decide) ?_
                    refine Rn_pure 2 (i' := 54) (L' := [some (2, 161), some (0, p1), some (0, p2), some (0, p3), some (0, 1), none, none, none, none]) (st' := [(2, 161), (0, 0), (2, 174)]) rfl ?_
                    refine Rn_getR rfl (⟨rfl, (by omega : (0 : Int) ≤ 161), (by omega : (161 : Int) + 1 < K ∧ 5 < K)⟩) (hr 150 _ rfl) (by decide) ?_
                    refine Rn_pure 1 (i' := 56) (L' := [some (2, 161), some (0, p1), some (0, p2), some (0, p3), some (0, 1), none, none, none, none]) (st' := [(0, 0), (2, 175), (0, 0), (2, 174)]) rfl ?_
                    refine Rn_callV [(2, 174), (0, 0), (2, 175), (0, 0)] [] rfl rfl rfl rfl (rfl) ?_
                    refine h.mono (fun g10 r' h => ?_)
                    obtain ⟨hx, h⟩ := h
                    replace hx := hx.symm
                    subst hx
                    refine Rn_pure 1 (i' := 58) (L' := [some (2, 161), some (0, p1), some (0, p2), some (0, p3), some (0, 1), none, none, none, none]) (st' := [(2, 161)]) rfl ?_
                    refine Rn_callI [(2, 161)] [] rfl rfl rfl rfl (ab_rvB_of rfl (⟨rfl, (by omega : (0 : Int) ≤ 161), (by omega : (161 : Int) + 1 < K ∧ 5 < K)⟩)) ?_
                    refine h.mono (fun x12 g' r' h => ?_)
                    obtain ⟨hx, h⟩ := h
                    replace hx := hx.symm
                    subst hx
                    obtain ⟨hx, h⟩ := h
                    replace hx := hx.symm
                    subst hx
                    refine Rn_pure 3 (i' := 62) (L' := [some (2, 161), some (0, p1), some (0, p2), some (0, p3), some (0, 1), some (0, x12), none, none, none]) (st' := [(0, 0), (2, 161)]) rfl ?_
                    refine Rn_putI rfl (⟨rfl, (by omega : (0 : Int) ≤ 161), (by omega : (161 : Int) + 1 < K ∧ 5 < K)⟩) (fun g13 he_g13 => ?_)
                    have h := h g13 he_g13
                    refine Rn_pure 2 (i' := 65) (L' := [some (2, 161), some (0, p1), some (0, p2), some (0, p3), some (0, 1), some (0, x12), some (0, 0), none, none]) (st' := []) rfl ?_
                    refine Rn_weak (L' := [some (2, 161), none, some (0, p2), some (0, p3), none, some (0, x12), some (0, 0), none, none]) ⟨rfl, ⟨rfl, ⟨rfl, ⟨rfl, ⟨rfl, trivial⟩⟩⟩⟩⟩ ?_
                    exact h
                · have h := h.2 hc
                  refine Rn_pure 2 (i' := 34) (L' := [some (2, 161), some (0, p1), some (0, p2), some (0, p3), some (0, 1), none, none, none, none]) (st' := [(0, 1), (0, p3)]) rfl ?_
                  refine Rn_icne rfl (fun hc => ?_) (fun hc => ?_)
                  · have h := h.1 hc
                    refine Rn_pure 1 (i' := 38) (L' := [some (2, 161), some (0, p1), some (0, p2), some (0, p3), some (0, 1), none, none, none, none]) (st' := [(0, (-1))]) rfl ?_
                    exact Rn_ret1 rfl h
                  · have h := h.2 hc
                    refine Rn_pure 2 (i' := 38) (L' := [some (2, 161), some (0, p1), some (0, p2), some (0, p3), some (0, 1), none, none, none, none]) (st' := [(0, (-2147483648))]) rfl ?_
                    exact Rn_ret1 rfl h
theorem v_M_chance_28 {K : Int} {S : Nat} {g r : ab_H} {l1 l2 l3 : Int} (P : Int → ab_H → ab_H → Prop) (hr : SI r) (hK : 186 ≤ K) (h : ((¬ wr 0 = wr 0 → ((¬ wr l1 = wr (-1) → ∀ g1, g1 = ab_up g 161 45 l1 → ab_RV m_M_copies [(2, 174), (0, 0), (2, 175), (0, 0)] K S g1 r (fun g2 r' => r' = r ∧ (ab_RI m_M_many [(2, 161)] K S g2 r (fun x4 g' r' => g' = g2 ∧ r' = r ∧ (∀ g5, g5 = ab_up g2 161 32 0 → ab_Rn m_M_chance 65 [some (2, 161), none, some (0, l2), some (0, l3), none, some (0, x4), some (0, 0), none, none] [] (K, S, g5, r) (ab_Qi K S P)))))) ∧ (wr l1 = wr (-1) → ((0 : Int) ≤ 4 ∧ (4 : Int) < 12) ∧ ∀ g6, g6 = ab_up g 161 45 (g 163 4) → ab_RV m_M_copies [(2, 174), (0, 0), (2, 175), (0, 0)] K S g6 r (fun g7 r' => r' = r ∧ (ab_RI m_M_many [(2, 161)] K S g7 r (fun x9 g' r' => g' = g7 ∧ r' = r ∧ (∀ g10, g10 = ab_up g7 161 32 0 → ab_Rn m_M_chance 65 [some (2, 161), none, some (0, l2), some (0, l3), none, some (0, x9), some (0, 0), none, none] [] (K, S, g10, r) (ab_Qi K S P)))))))) ∧ (wr 0 = wr 0 → ((¬ wr l3 = wr 1 → P (-1) g r) ∧ (wr l3 = wr 1 → P (-2147483648) g r))))) : ab_Rn m_M_chance 28 [some (2, 161), some (0, l1), some (0, l2), some (0, l3), none, none, none, none, none] [] (K, S, g, r) (ab_Qi K S P) := by
  refine Rn_pure 3 (i' := 31) (L' := [some (2, 161), some (0, l1), some (0, l2), some (0, l3), some (0, 0), none, none, none, none]) (st' := [(0, 0)]) rfl ?_
  refine Rn_ifne rfl (fun hc => ?_) (fun hc => ?_)
  · have h := h.1 hc
    refine Rn_pure 3 (i' := 42) (L' := [some (2, 161), some (0, l1), some (0, l2), some (0, l3), some (0, 0), none, none, none, none]) (st' := [(0, (-1)), (0, l1), (2, 161)]) rfl ?_
    refine Rn_icne rfl (fun hc => ?_) (fun hc => ?_)
    · have h := h.1 hc
      refine Rn_pure 1 (i' := 49) (L' := [some (2, 161), some (0, l1), some (0, l2), some (0, l3), some (0, 0), none, none, none, none]) (st' := [(0, l1), (2, 161)]) rfl ?_
      refine Rn_putI rfl (⟨rfl, (by omega : (0 : Int) ≤ 161), (by omega : (161 : Int) + 1 < K ∧ 5 < K)⟩) (fun g1 he_g1 => ?_)
      have h := h g1 he_g1
      refine Rn_pure 1 (i' := 51) (L' := [some (2, 161), some (0, l1), some (0, l2), some (0, l3), some (0, 0), none, none, none, none]) (st' := [(2, 161)]) rfl ?_
      refine Rn_getR rfl (⟨rfl, (by omega : (0 : Int) ≤ 161), (by omega : (161 : Int) + 1 < K ∧ 5 < K)⟩) (hr 149 _ rfl) (by decide) ?_
      refine Rn_pure 2 (i' := 54) (L' := [some (2, 161), some (0, l1), some (0, l2), some (0, l3), some (0, 0), none, none, none, none]) (st' := [(2, 161), (0, 0), (2, 174)]) rfl ?_
      refine Rn_getR rfl (⟨rfl, (by omega : (0 : Int) ≤ 161), (by omega : (161 : Int) + 1 < K ∧ 5 < K)⟩) (hr 150 _ rfl) (by decide) ?_
      refine Rn_pure 1 (i' := 56) (L' := [some (2, 161), some (0, l1), some (0, l2), some (0, l3), some (0, 0), none, none, none, none]) (st' := [(0, 0), (2, 175), (0, 0), (2, 174)]) rfl ?_
      refine Rn_callV [(2, 174), (0, 0), (2, 175), (0, 0)] [] rfl rfl rfl rfl (rfl) ?_
      refine h.mono (fun g2 r' h => ?_)
      obtain ⟨hx, h⟩ := h
      replace hx := hx.symm
      subst hx
      refine Rn_pure 1 (i' := 58) (L' := [some (2, 161), some (0, l1), some (0, l2), some (0, l3), some (0, 0), none, none, none, none]) (st' := [(2, 161)]) rfl ?_
      refine Rn_callI [(2, 161)] [] rfl rfl rfl rfl (ab_rvB_of rfl (⟨rfl, (by omega : (0 : Int) ≤ 161), (by omega : (161 : Int) + 1 < K ∧ 5 < K)⟩)) ?_
      refine h.mono (fun x4 g' r' h => ?_)
      obtain ⟨hx, h⟩ := h
      replace hx := hx.symm
      subst hx
      obtain ⟨hx, h⟩ := h
      replace hx := hx.symm
      subst hx
      refine Rn_pure 3 (i' := 62) (L' := [some (2, 161), some (0, l1), some (0, l2), some (0, l3), some (0, 0), some (0, x4), none, none, none]) (st' := [(0, 0), (2, 161)]) rfl ?_
      refine Rn_putI rfl (⟨rfl, (by omega : (0 : Int) ≤ 161), (by omega : (161 : Int) + 1 < K ∧ 5 < K)⟩) (fun g5 he_g5 => ?_)
      have h := h g5 he_g5
      refine Rn_pure 2 (i' := 65) (L' := [some (2, 161), some (0, l1), some (0, l2), some (0, l3), some (0, 0), some (0, x4), some (0, 0), none, none]) (st' := []) rfl ?_
      refine Rn_weak (L' := [some (2, 161), none, some (0, l2), some (0, l3), none, some (0, x4), some (0, 0), none, none]) ⟨rfl, ⟨rfl, ⟨rfl, ⟨rfl, ⟨rfl, trivial⟩⟩⟩⟩⟩ ?_
      exact h
    · have h := h.2 hc
      refine Rn_pure 1 (i' := 44) (L' := [some (2, 161), some (0, l1), some (0, l2), some (0, l3), some (0, 0), none, none, none, none]) (st' := [(2, 161), (2, 161)]) rfl ?_
      refine Rn_getR rfl (⟨rfl, (by omega : (0 : Int) ≤ 161), (by omega : (161 : Int) + 1 < K ∧ 5 < K)⟩) (hr 138 _ rfl) (by decide) ?_
      refine Rn_pure 1 (i' := 46) (L' := [some (2, 161), some (0, l1), some (0, l2), some (0, l3), some (0, 0), none, none, none, none]) (st' := [(0, 4), (2, 163), (2, 161)]) rfl ?_
      obtain ⟨hg, h⟩ := h
      refine Rn_iald rfl (⟨rfl, (by omega : (0 : Int) ≤ 163), (by omega : (163 : Int) + 1 < K ∧ 5 < K)⟩) hg ?_
      refine Rn_pure 1 (i' := 49) (L' := [some (2, 161), some (0, l1), some (0, l2), some (0, l3), some (0, 0), none, none, none, none]) (st' := [(0, g 163 4), (2, 161)]) rfl ?_
      refine Rn_putI rfl (⟨rfl, (by omega : (0 : Int) ≤ 161), (by omega : (161 : Int) + 1 < K ∧ 5 < K)⟩) (fun g6 he_g6 => ?_)
      have h := h g6 he_g6
      refine Rn_pure 1 (i' := 51) (L' := [some (2, 161), some (0, l1), some (0, l2), some (0, l3), some (0, 0), none, none, none, none]) (st' := [(2, 161)]) rfl ?_
      refine Rn_getR rfl (⟨rfl, (by omega : (0 : Int) ≤ 161), (by omega : (161 : Int) + 1 < K ∧ 5 < K)⟩) (hr 149 _ rfl) (by decide) ?_
      refine Rn_pure 2 (i' := 54) (L' := [some (2, 161), some (0, l1), some (0, l2), some (0, l3), some (0, 0), none, none, none, none]) (st' := [(2, 161), (0, 0), (2, 174)]) rfl ?_
      refine Rn_getR rfl (⟨rfl, (by omega : (0 : Int) ≤ 161), (by omega : (161 : Int) + 1 < K ∧ 5 < K)⟩) (hr 150 _ rfl) (by decide) ?_
      refine Rn_pure 1 (i' := 56) (L' := [some (2, 161), some (0, l1), some (0, l2), some (0, l3), some (0, 0), none, none, none, none]) (st' := [(0, 0), (2, 175), (0, 0), (2, 174)]) rfl ?_
      refine Rn_callV [(2, 174), (0, 0), (2, 175), (0, 0)] [] rfl rfl rfl rfl (rfl) ?_
      refine h.mono (fun g7 r' h => ?_)
      obtain ⟨hx, h⟩ := h
      replace hx := hx.symm
      subst hx
      refine Rn_pure 1 (i' := 58) (L' := [some (2, 161), some (0, l1), some (0, l2), some (0, l3), some (0, 0), none, none, none, none]) (st' := [(2, 161)]) rfl ?_
      refine Rn_callI [(2, 161)] [] rfl rfl rfl rfl (ab_rvB_of rfl (⟨rfl, (by omega : (0 : Int) ≤ 161), (by omega : (161 : Int) + 1 < K ∧ 5 < K)⟩)) ?_
      refine h.mono (fun x9 g' r' h => ?_)
      obtain ⟨hx, h⟩ := h
      replace hx := hx.symm
      subst hx
      obtain ⟨hx, h⟩ := h
      replace hx := hx.symm
      subst hx
      refine Rn_pure 3 (i' := 62) (L' := [some (2, 161), some (0, l1), some (0, l2), some (0, l3), some (0, 0), some (0, x9), none, none, none]) (st' := [(0, 0), (2, 161)]) rfl ?_
      refine Rn_putI rfl (⟨rfl, (by omega : (0 : Int) ≤ 161), (by omega : (161 : Int) + 1 < K ∧ 5 < K)⟩) (fun g10 he_g10 => ?_)
      have h := h g10 he_g10
      refine Rn_pure 2 (i' := 65) (L' := [some (2, 161), some (0, l1), some (0, l2), some (0, l3), some (0, 0), some (0, x9), some (0, 0), none, none]) (st' := []) rfl ?_
      refine Rn_weak (L' := [some (2, 161), none, some (0, l2), some (0, l3), none, some (0, x9), some (0, 0), none, none]) ⟨rfl, ⟨rfl, ⟨rfl, ⟨rfl, ⟨rfl, trivial⟩⟩⟩⟩⟩ ?_
      exact h
  · have h := h.2 hc
    refine Rn_pure 2 (i' := 34) (L' := [some (2, 161), some (0, l1), some (0, l2), some (0, l3), some (0, 0), none, none, none, none]) (st' := [(0, 1), (0, l3)]) rfl ?_
    refine Rn_icne rfl (fun hc => ?_) (fun hc => ?_)
    · have h := h.1 hc
      refine Rn_pure 1 (i' := 38) (L' := [some (2, 161), some (0, l1), some (0, l2), some (0, l3), some (0, 0), none, none, none, none]) (st' := [(0, (-1))]) rfl ?_
      exact Rn_ret1 rfl h
    · have h := h.2 hc
      refine Rn_pure 2 (i' := 38) (L' := [some (2, 161), some (0, l1), some (0, l2), some (0, l3), some (0, 0), none, none, none, none]) (st' := [(0, (-2147483648))]) rfl ?_
      exact Rn_ret1 rfl h
theorem v_M_chance_65 {K : Int} {S : Nat} {g r : ab_H} {l2 l3 l5 l6 : Int} (P : Int → ab_H → ab_H → Prop) (hr : SI r) (hK : 186 ≤ K) (h : ((wr l2 ≤ wr l6 → ab_RV m_M_replaysAll [(2, 161)] K S g r (fun g1 r' => r' = r ∧ (ab_Rn m_M_chance 107 [some (2, 161), none, none, some (0, l3), none, none, some (0, 0), some (0, l5), none] [] (K, S, g1, r) (ab_Qi K S P)))) ∧ (wr l6 < wr l2 → ab_RI m_M_draw [(2, 161), (0, 5)] K S g r (fun x4 g3 r' => r' = r ∧ (ab_RI m_M_accounts [(2, 161)] K S g3 r (fun x5 g' r' => g' = g3 ∧ r' = r ∧ (ab_RI m_M_draw [(2, 161), (0, x5)] K S g3 r (fun x7 g6 r' => r' = r ∧ (ab_RI m_M_latestTime [(2, 161)] K S g6 r (fun x8 g' r' => g' = g6 ∧ r' = r ∧ (ab_RV m_M_comes [(2, 161), (0, x4), (0, x7), (0, (-2)), (0, x8), (0, 3)] K S g6 r (fun g9 r' => r' = r ∧ (ab_RI m_M_many [(2, 161)] K S g9 r (fun x11 g' r' => g' = g9 ∧ r' = r ∧ (ab_RI m_M_draw [(2, 161), (0, 1000)] K S g9 r (fun x13 g12 r' => r' = r ∧ (((0 : Int) ≤ 9 * (x11 - 1) + 5 ∧ (9 * (x11 - 1) + 5 : Int) < 1607) ∧ ∀ g14, g14 = ab_up g12 174 (9 * (x11 - 1) + 5) x13 → ab_Rn m_M_chance 65 [some (2, 161), none, some (0, l2), some (0, l3), none, some (0, l5), some (0, l6 + 1), none, none] [] (K, S, g14, r) (ab_Qi K S P)))))))))))))))))) : ab_Rn m_M_chance 65 [some (2, 161), none, some (0, l2), some (0, l3), none, some (0, l5), some (0, l6), none, none] [] (K, S, g, r) (ab_Qi K S P) := by
  refine Rn_pure 2 (i' := 67) (L' := [some (2, 161), none, some (0, l2), some (0, l3), none, some (0, l5), some (0, l6), none, none]) (st' := [(0, l2), (0, l6)]) rfl ?_
  refine Rn_icge rfl (fun hc => ?_) (fun hc => ?_)
  · have h := h.1 hc
    refine Rn_pure 1 (i' := 102) (L' := [some (2, 161), none, some (0, l2), some (0, l3), none, some (0, l5), some (0, l6), none, none]) (st' := [(2, 161)]) rfl ?_
    refine Rn_callV [(2, 161)] [] rfl rfl rfl rfl (ab_rvB_of rfl (⟨rfl, (by omega : (0 : Int) ≤ 161), (by omega : (161 : Int) + 1 < K ∧ 5 < K)⟩)) ?_
    refine h.mono (fun g1 r' h => ?_)
    obtain ⟨hx, h⟩ := h
    replace hx := hx.symm
    subst hx
    refine Rn_pure 4 (i' := 107) (L' := [some (2, 161), none, some (0, l2), some (0, l3), none, some (0, l5), some (0, 0), some (0, l5), none]) (st' := []) rfl ?_
    refine Rn_weak (L' := [some (2, 161), none, none, some (0, l3), none, none, some (0, 0), some (0, l5), none]) ⟨rfl, ⟨rfl, ⟨rfl, ⟨rfl, trivial⟩⟩⟩⟩ ?_
    exact h
  · have h := h.2 hc
    refine Rn_pure 2 (i' := 70) (L' := [some (2, 161), none, some (0, l2), some (0, l3), none, some (0, l5), some (0, l6), none, none]) (st' := [(0, 5), (2, 161)]) rfl ?_
    refine Rn_callI [(2, 161), (0, 5)] [] rfl rfl rfl rfl (ab_rvB_of rfl (⟨rfl, (by omega : (0 : Int) ≤ 161), (by omega : (161 : Int) + 1 < K ∧ 5 < K)⟩)) ?_
    refine h.mono (fun x4 g3 r' h => ?_)
    obtain ⟨hx, h⟩ := h
    replace hx := hx.symm
    subst hx
    refine Rn_pure 3 (i' := 74) (L' := [some (2, 161), none, some (0, l2), some (0, l3), none, some (0, l5), some (0, l6), some (0, x4), none]) (st' := [(2, 161), (2, 161)]) rfl ?_
    refine Rn_callI [(2, 161)] [(2, 161)] rfl rfl rfl rfl (ab_rvB_of rfl (⟨rfl, (by omega : (0 : Int) ≤ 161), (by omega : (161 : Int) + 1 < K ∧ 5 < K)⟩)) ?_
    refine h.mono (fun x5 g' r' h => ?_)
    obtain ⟨hx, h⟩ := h
    replace hx := hx.symm
    subst hx
    obtain ⟨hx, h⟩ := h
    replace hx := hx.symm
    subst hx
    refine Rn_callI [(2, 161), (0, x5)] [] rfl rfl rfl rfl (ab_rvB_of rfl (⟨rfl, (by omega : (0 : Int) ≤ 161), (by omega : (161 : Int) + 1 < K ∧ 5 < K)⟩)) ?_
    refine h.mono (fun x7 g6 r' h => ?_)
    obtain ⟨hx, h⟩ := h
    replace hx := hx.symm
    subst hx
    refine Rn_pure 6 (i' := 82) (L' := [some (2, 161), none, some (0, l2), some (0, l3), none, some (0, l5), some (0, l6), some (0, x4), some (0, x7)]) (st' := [(2, 161), (0, (-2)), (0, x7), (0, x4), (2, 161)]) rfl ?_
    refine Rn_callI [(2, 161)] [(0, (-2)), (0, x7), (0, x4), (2, 161)] rfl rfl rfl rfl (ab_rvB_of rfl (⟨rfl, (by omega : (0 : Int) ≤ 161), (by omega : (161 : Int) + 1 < K ∧ 5 < K)⟩)) ?_
    refine h.mono (fun x8 g' r' h => ?_)
    obtain ⟨hx, h⟩ := h
    replace hx := hx.symm
    subst hx
    obtain ⟨hx, h⟩ := h
    replace hx := hx.symm
    subst hx
    refine Rn_pure 1 (i' := 84) (L' := [some (2, 161), none, some (0, l2), some (0, l3), none, some (0, l5), some (0, l6), some (0, x4), some (0, x7)]) (st' := [(0, 3), (0, x8), (0, (-2)), (0, x7), (0, x4), (2, 161)]) rfl ?_
    refine Rn_callV [(2, 161), (0, x4), (0, x7), (0, (-2)), (0, x8), (0, 3)] [] rfl rfl rfl rfl (ab_rvB_of rfl (⟨rfl, (by omega : (0 : Int) ≤ 161), (by omega : (161 : Int) + 1 < K ∧ 5 < K)⟩)) ?_
    refine h.mono (fun g9 r' h => ?_)
    obtain ⟨hx, h⟩ := h
    replace hx := hx.symm
    subst hx
    refine Rn_pure 1 (i' := 86) (L' := [some (2, 161), none, some (0, l2), some (0, l3), none, some (0, l5), some (0, l6), some (0, x4), some (0, x7)]) (st' := [(2, 161)]) rfl ?_
    refine Rn_getR rfl (⟨rfl, (by omega : (0 : Int) ≤ 161), (by omega : (161 : Int) + 1 < K ∧ 5 < K)⟩) (hr 149 _ rfl) (by decide) ?_
    refine Rn_pure 2 (i' := 89) (L' := [some (2, 161), none, some (0, l2), some (0, l3), none, some (0, l5), some (0, l6), some (0, x4), some (0, x7)]) (st' := [(2, 161), (0, 9), (2, 174)]) rfl ?_
    refine Rn_callI [(2, 161)] [(0, 9), (2, 174)] rfl rfl rfl rfl (ab_rvB_of rfl (⟨rfl, (by omega : (0 : Int) ≤ 161), (by omega : (161 : Int) + 1 < K ∧ 5 < K)⟩)) ?_
    refine h.mono (fun x11 g' r' h => ?_)
    obtain ⟨hx, h⟩ := h
    replace hx := hx.symm
    subst hx
    obtain ⟨hx, h⟩ := h
    replace hx := hx.symm
    subst hx
    refine Rn_pure 7 (i' := 97) (L' := [some (2, 161), none, some (0, l2), some (0, l3), none, some (0, l5), some (0, l6), some (0, x4), some (0, x7)]) (st' := [(0, 1000), (2, 161), (0, 9 * (x11 - 1) + 5), (2, 174)]) rfl ?_
    refine Rn_callI [(2, 161), (0, 1000)] [(0, 9 * (x11 - 1) + 5), (2, 174)] rfl rfl rfl rfl (ab_rvB_of rfl (⟨rfl, (by omega : (0 : Int) ≤ 161), (by omega : (161 : Int) + 1 < K ∧ 5 < K)⟩)) ?_
    refine h.mono (fun x13 g12 r' h => ?_)
    obtain ⟨hx, h⟩ := h
    replace hx := hx.symm
    subst hx
    obtain ⟨hg, h⟩ := h
    refine Rn_iast rfl (⟨rfl, (by omega : (0 : Int) ≤ 174), (by omega : (174 : Int) + 1 < K ∧ 5 < K)⟩) hg (fun g14 he_g14 => ?_)
    have h := h g14 he_g14
    refine Rn_pure 2 (i' := 65) (L' := [some (2, 161), none, some (0, l2), some (0, l3), none, some (0, l5), some (0, l6 + 1), some (0, x4), some (0, x7)]) (st' := []) rfl ?_
    refine Rn_weak (L' := [some (2, 161), none, some (0, l2), some (0, l3), none, some (0, l5), some (0, l6 + 1), none, none]) ⟨rfl, ⟨rfl, ⟨rfl, ⟨rfl, ⟨rfl, trivial⟩⟩⟩⟩⟩ ?_
    exact h
theorem v_M_chance_107 {K : Int} {S : Nat} {g r : ab_H} {l3 l6 l7 : Int} (P : Int → ab_H → ab_H → Prop) (hr : SI r) (hK : 186 ≤ K) (h : ab_RI m_M_many [(2, 161)] K S g r (fun x1 g' r' => g' = g ∧ r' = r ∧ (((wr x1 ≤ wr l7 → ((¬ wr l3 = wr 0 → ((¬ wr l3 = wr 1 → ab_RV m_M_copies [(2, 175), (0, 0), (2, 174), (0, 0)] K S g r (fun g2 r' => r' = r ∧ (P (g 161 32) g2 r))) ∧ (wr l3 = wr 1 → ab_RI m_M_balances [(2, 161)] K S g r (fun x4 g' r' => g' = g ∧ r' = r ∧ (ab_RV m_M_copies [(2, 175), (0, 0), (2, 174), (0, 0)] K S g r (fun g5 r' => r' = r ∧ (P x4 g5 r))))))) ∧ (wr l3 = wr 0 → ab_RV m_M_copies [(2, 175), (0, 0), (2, 174), (0, 0)] K S g r (fun g7 r' => r' = r ∧ (P l6 g7 r))))) ∧ (wr l7 < wr x1 → ((0 : Int) ≤ l7 ∧ (l7 : Int) < 120) ∧ ((wr (g 183 l7) = wr 0 → ab_Rn m_M_chance 107 [some (2, 161), none, none, some (0, l3), none, none, some (0, l6 + 0), some (0, l7 + 1), none] [] (K, S, g, r) (ab_Qi K S P)) ∧ (¬ wr (g 183 l7) = wr 0 → ab_Rn m_M_chance 107 [some (2, 161), none, none, some (0, l3), none, none, some (0, l6 + 1), some (0, l7 + 1), none] [] (K, S, g, r) (ab_Qi K S P)))))))) : ab_Rn m_M_chance 107 [some (2, 161), none, none, some (0, l3), none, none, some (0, l6), some (0, l7), none] [] (K, S, g, r) (ab_Qi K S P) := by
  refine Rn_pure 2 (i' := 109) (L' := [some (2, 161), none, none, some (0, l3), none, none, some (0, l6), some (0, l7), none]) (st' := [(2, 161), (0, l7)]) rfl ?_
  refine Rn_callI [(2, 161)] [(0, l7)] rfl rfl rfl rfl (ab_rvB_of rfl (⟨rfl, (by omega : (0 : Int) ≤ 161), (by omega : (161 : Int) + 1 < K ∧ 5 < K)⟩)) ?_
  refine h.mono (fun x1 g' r' h => ?_)
  obtain ⟨hx, h⟩ := h
  replace hx := hx.symm
  subst hx
  obtain ⟨hx, h⟩ := h
  replace hx := hx.symm
  subst hx
  refine Rn_icge rfl (fun hc => ?_) (fun hc => ?_)
  · have h := h.1 hc
    refine Rn_pure 1 (i' := 125) (L' := [some (2, 161), none, none, some (0, l3), none, none, some (0, l6), some (0, l7), none]) (st' := [(0, l3)]) rfl ?_
    refine Rn_ifne rfl (fun hc => ?_) (fun hc => ?_)
    · have h := h.1 hc
      refine Rn_pure 2 (i' := 130) (L' := [some (2, 161), none, none, some (0, l3), none, none, some (0, l6), some (0, l7), none]) (st' := [(0, 1), (0, l3)]) rfl ?_
      refine Rn_icne rfl (fun hc => ?_) (fun hc => ?_)
      · have h := h.1 hc
        refine Rn_pure 1 (i' := 135) (L' := [some (2, 161), none, none, some (0, l3), none, none, some (0, l6), some (0, l7), none]) (st' := [(2, 161)]) rfl ?_
        refine Rn_getI rfl (⟨rfl, (by omega : (0 : Int) ≤ 161), (by omega : (161 : Int) + 1 < K ∧ 5 < K)⟩) ?_
        refine Rn_pure 2 (i' := 138) (L' := [some (2, 161), none, none, some (0, l3), none, none, some (0, l6), some (0, g 161 32), none]) (st' := [(2, 161)]) rfl ?_
        refine Rn_getR rfl (⟨rfl, (by omega : (0 : Int) ≤ 161), (by omega : (161 : Int) + 1 < K ∧ 5 < K)⟩) (hr 150 _ rfl) (by decide) ?_
        refine Rn_pure 2 (i' := 141) (L' := [some (2, 161), none, none, some (0, l3), none, none, some (0, l6), some (0, g 161 32), none]) (st' := [(2, 161), (0, 0), (2, 175)]) rfl ?_
        refine Rn_getR rfl (⟨rfl, (by omega : (0 : Int) ≤ 161), (by omega : (161 : Int) + 1 < K ∧ 5 < K)⟩) (hr 149 _ rfl) (by decide) ?_
        refine Rn_pure 1 (i' := 143) (L' := [some (2, 161), none, none, some (0, l3), none, none, some (0, l6), some (0, g 161 32), none]) (st' := [(0, 0), (2, 174), (0, 0), (2, 175)]) rfl ?_
        refine Rn_callV [(2, 175), (0, 0), (2, 174), (0, 0)] [] rfl rfl rfl rfl (rfl) ?_
        refine h.mono (fun g2 r' h => ?_)
        obtain ⟨hx, h⟩ := h
        replace hx := hx.symm
        subst hx
        refine Rn_pure 1 (i' := 145) (L' := [some (2, 161), none, none, some (0, l3), none, none, some (0, l6), some (0, g 161 32), none]) (st' := [(0, g 161 32)]) rfl ?_
        exact Rn_ret1 rfl h
      · have h := h.2 hc
        refine Rn_pure 1 (i' := 132) (L' := [some (2, 161), none, none, some (0, l3), none, none, some (0, l6), some (0, l7), none]) (st' := [(2, 161)]) rfl ?_
        refine Rn_callI [(2, 161)] [] rfl rfl rfl rfl (ab_rvB_of rfl (⟨rfl, (by omega : (0 : Int) ≤ 161), (by omega : (161 : Int) + 1 < K ∧ 5 < K)⟩)) ?_
        refine h.mono (fun x4 g' r' h => ?_)
        obtain ⟨hx, h⟩ := h
        replace hx := hx.symm
        subst hx
        obtain ⟨hx, h⟩ := h
        replace hx := hx.symm
        subst hx
        refine Rn_pure 3 (i' := 138) (L' := [some (2, 161), none, none, some (0, l3), none, none, some (0, l6), some (0, x4), none]) (st' := [(2, 161)]) rfl ?_
        refine Rn_getR rfl (⟨rfl, (by omega : (0 : Int) ≤ 161), (by omega : (161 : Int) + 1 < K ∧ 5 < K)⟩) (hr 150 _ rfl) (by decide) ?_
        refine Rn_pure 2 (i' := 141) (L' := [some (2, 161), none, none, some (0, l3), none, none, some (0, l6), some (0, x4), none]) (st' := [(2, 161), (0, 0), (2, 175)]) rfl ?_
        refine Rn_getR rfl (⟨rfl, (by omega : (0 : Int) ≤ 161), (by omega : (161 : Int) + 1 < K ∧ 5 < K)⟩) (hr 149 _ rfl) (by decide) ?_
        refine Rn_pure 1 (i' := 143) (L' := [some (2, 161), none, none, some (0, l3), none, none, some (0, l6), some (0, x4), none]) (st' := [(0, 0), (2, 174), (0, 0), (2, 175)]) rfl ?_
        refine Rn_callV [(2, 175), (0, 0), (2, 174), (0, 0)] [] rfl rfl rfl rfl (rfl) ?_
        refine h.mono (fun g5 r' h => ?_)
        obtain ⟨hx, h⟩ := h
        replace hx := hx.symm
        subst hx
        refine Rn_pure 1 (i' := 145) (L' := [some (2, 161), none, none, some (0, l3), none, none, some (0, l6), some (0, x4), none]) (st' := [(0, x4)]) rfl ?_
        exact Rn_ret1 rfl h
    · have h := h.2 hc
      refine Rn_pure 4 (i' := 138) (L' := [some (2, 161), none, none, some (0, l3), none, none, some (0, l6), some (0, l6), none]) (st' := [(2, 161)]) rfl ?_
      refine Rn_getR rfl (⟨rfl, (by omega : (0 : Int) ≤ 161), (by omega : (161 : Int) + 1 < K ∧ 5 < K)⟩) (hr 150 _ rfl) (by decide) ?_
      refine Rn_pure 2 (i' := 141) (L' := [some (2, 161), none, none, some (0, l3), none, none, some (0, l6), some (0, l6), none]) (st' := [(2, 161), (0, 0), (2, 175)]) rfl ?_
      refine Rn_getR rfl (⟨rfl, (by omega : (0 : Int) ≤ 161), (by omega : (161 : Int) + 1 < K ∧ 5 < K)⟩) (hr 149 _ rfl) (by decide) ?_
      refine Rn_pure 1 (i' := 143) (L' := [some (2, 161), none, none, some (0, l3), none, none, some (0, l6), some (0, l6), none]) (st' := [(0, 0), (2, 174), (0, 0), (2, 175)]) rfl ?_
      refine Rn_callV [(2, 175), (0, 0), (2, 174), (0, 0)] [] rfl rfl rfl rfl (rfl) ?_
      refine h.mono (fun g7 r' h => ?_)
      obtain ⟨hx, h⟩ := h
      replace hx := hx.symm
      subst hx
      refine Rn_pure 1 (i' := 145) (L' := [some (2, 161), none, none, some (0, l3), none, none, some (0, l6), some (0, l6), none]) (st' := [(0, l6)]) rfl ?_
      exact Rn_ret1 rfl h
  · have h := h.2 hc
    refine Rn_pure 2 (i' := 113) (L' := [some (2, 161), none, none, some (0, l3), none, none, some (0, l6), some (0, l7), none]) (st' := [(2, 161), (0, l6)]) rfl ?_
    refine Rn_getR rfl (⟨rfl, (by omega : (0 : Int) ≤ 161), (by omega : (161 : Int) + 1 < K ∧ 5 < K)⟩) (hr 158 _ rfl) (by decide) ?_
    refine Rn_pure 1 (i' := 115) (L' := [some (2, 161), none, none, some (0, l3), none, none, some (0, l6), some (0, l7), none]) (st' := [(0, l7), (2, 183), (0, l6)]) rfl ?_
    obtain ⟨hg, h⟩ := h
    refine Rn_iald rfl (⟨rfl, (by omega : (0 : Int) ≤ 183), (by omega : (183 : Int) + 1 < K ∧ 5 < K)⟩) hg ?_
    refine Rn_ifeq rfl (fun hc => ?_) (fun hc => ?_)
    · have h := h.1 hc
      refine Rn_pure 5 (i' := 107) (L' := [some (2, 161), none, none, some (0, l3), none, none, some (0, l6 + 0), some (0, l7 + 1), none]) (st' := []) rfl ?_
      exact h
    · have h := h.2 hc
      refine Rn_pure 6 (i' := 107) (L' := [some (2, 161), none, none, some (0, l3), none, none, some (0, l6 + 1), some (0, l7 + 1), none]) (st' := []) rfl ?_
      exact h
-- EventLedgerModel.voidedMany ()I
theorem v_M_voidedMany {K : Int} {S : Nat} {g r : ab_H} (P : Int → ab_H → ab_H → Prop) (hr : SI r) (hK : 186 ≤ K) (h : ab_Rn m_M_voidedMany 4 [some (2, 161), some (0, 0), some (0, 0)] [] (K, S, g, r) (ab_Qi K S P)) : ab_RI m_M_voidedMany [(2, 161)] K S g r P := by
  show ab_Rn m_M_voidedMany 0 [some (2, 161), none, none] [] (K, S, g, r) (ab_Qi K S P)
  refine Rn_pure 4 (i' := 4) (L' := [some (2, 161), some (0, 0), some (0, 0)]) (st' := []) rfl ?_
  exact h
theorem v_M_voidedMany_4 {K : Int} {S : Nat} {g r : ab_H} {l1 l2 : Int} (P : Int → ab_H → ab_H → Prop) (hr : SI r) (hK : 186 ≤ K) (h : ab_RI m_M_many [(2, 161)] K S g r (fun x1 g' r' => g' = g ∧ r' = r ∧ (((wr x1 ≤ wr l2 → P l1 g r) ∧ (wr l2 < wr x1 → ab_RI m_M_isVoided [(2, 161), (0, l2)] K S g r (fun x2 g' r' => g' = g ∧ r' = r ∧ (((wr x2 = wr 0 → ab_Rn m_M_voidedMany 4 [some (2, 161), some (0, l1 + 0), some (0, l2 + 1)] [] (K, S, g, r) (ab_Qi K S P)) ∧ (¬ wr x2 = wr 0 → ab_Rn m_M_voidedMany 4 [some (2, 161), some (0, l1 + 1), some (0, l2 + 1)] [] (K, S, g, r) (ab_Qi K S P)))))))))) : ab_Rn m_M_voidedMany 4 [some (2, 161), some (0, l1), some (0, l2)] [] (K, S, g, r) (ab_Qi K S P) := by
  refine Rn_pure 2 (i' := 6) (L' := [some (2, 161), some (0, l1), some (0, l2)]) (st' := [(2, 161), (0, l2)]) rfl ?_
  refine Rn_callI [(2, 161)] [(0, l2)] rfl rfl rfl rfl (ab_rvB_of rfl (⟨rfl, (by omega : (0 : Int) ≤ 161), (by omega : (161 : Int) + 1 < K ∧ 5 < K)⟩)) ?_
  refine h.mono (fun x1 g' r' h => ?_)
  obtain ⟨hx, h⟩ := h
  replace hx := hx.symm
  subst hx
  obtain ⟨hx, h⟩ := h
  replace hx := hx.symm
  subst hx
  refine Rn_icge rfl (fun hc => ?_) (fun hc => ?_)
  · have h := h.1 hc
    refine Rn_pure 1 (i' := 21) (L' := [some (2, 161), some (0, l1), some (0, l2)]) (st' := [(0, l1)]) rfl ?_
    exact Rn_ret1 rfl h
  · have h := h.2 hc
    refine Rn_pure 3 (i' := 11) (L' := [some (2, 161), some (0, l1), some (0, l2)]) (st' := [(0, l2), (2, 161), (0, l1)]) rfl ?_
    refine Rn_callI [(2, 161), (0, l2)] [(0, l1)] rfl rfl rfl rfl (ab_rvB_of rfl (⟨rfl, (by omega : (0 : Int) ≤ 161), (by omega : (161 : Int) + 1 < K ∧ 5 < K)⟩)) ?_
    refine h.mono (fun x2 g' r' h => ?_)
    obtain ⟨hx, h⟩ := h
    replace hx := hx.symm
    subst hx
    obtain ⟨hx, h⟩ := h
    replace hx := hx.symm
    subst hx
    refine Rn_ifeq rfl (fun hc => ?_) (fun hc => ?_)
    · have h := h.1 hc
      refine Rn_pure 5 (i' := 4) (L' := [some (2, 161), some (0, l1 + 0), some (0, l2 + 1)]) (st' := []) rfl ?_
      exact h
    · have h := h.2 hc
      refine Rn_pure 6 (i' := 4) (L' := [some (2, 161), some (0, l1 + 1), some (0, l2 + 1)]) (st' := []) rfl ?_
      exact h
-- EventLedgerModel.openMany ()I
theorem v_M_openMany {K : Int} {S : Nat} {g r : ab_H} (P : Int → ab_H → ab_H → Prop) (hr : SI r) (hK : 186 ≤ K) (h : ab_RV m_M_replaysAll [(2, 161)] K S g r (fun g1 r' => r' = r ∧ (ab_Rn m_M_openMany 6 [some (2, 161), some (0, 0), some (0, 0)] [] (K, S, g1, r) (ab_Qi K S P)))) : ab_RI m_M_openMany [(2, 161)] K S g r P := by
  show ab_Rn m_M_openMany 0 [some (2, 161), none, none] [] (K, S, g, r) (ab_Qi K S P)
  refine Rn_pure 1 (i' := 1) (L' := [some (2, 161), none, none]) (st' := [(2, 161)]) rfl ?_
  refine Rn_callV [(2, 161)] [] rfl rfl rfl rfl (ab_rvB_of rfl (⟨rfl, (by omega : (0 : Int) ≤ 161), (by omega : (161 : Int) + 1 < K ∧ 5 < K)⟩)) ?_
  refine h.mono (fun g1 r' h => ?_)
  obtain ⟨hx, h⟩ := h
  replace hx := hx.symm
  subst hx
  refine Rn_pure 4 (i' := 6) (L' := [some (2, 161), some (0, 0), some (0, 0)]) (st' := []) rfl ?_
  exact h
theorem v_M_openMany_6 {K : Int} {S : Nat} {g r : ab_H} {l1 l2 : Int} (P : Int → ab_H → ab_H → Prop) (hr : SI r) (hK : 186 ≤ K) (h : ab_RI m_M_accounts [(2, 161)] K S g r (fun x1 g' r' => g' = g ∧ r' = r ∧ (((wr x1 ≤ wr l2 → P l1 g r) ∧ (wr l2 < wr x1 → ((0 : Int) ≤ l2 ∧ (l2 : Int) < 8) ∧ ((wr (g 182 l2) = wr 0 → ab_Rn m_M_openMany 6 [some (2, 161), some (0, l1 + 0), some (0, l2 + 1)] [] (K, S, g, r) (ab_Qi K S P)) ∧ (¬ wr (g 182 l2) = wr 0 → ab_Rn m_M_openMany 6 [some (2, 161), some (0, l1 + 1), some (0, l2 + 1)] [] (K, S, g, r) (ab_Qi K S P)))))))) : ab_Rn m_M_openMany 6 [some (2, 161), some (0, l1), some (0, l2)] [] (K, S, g, r) (ab_Qi K S P) := by
  refine Rn_pure 2 (i' := 8) (L' := [some (2, 161), some (0, l1), some (0, l2)]) (st' := [(2, 161), (0, l2)]) rfl ?_
  refine Rn_callI [(2, 161)] [(0, l2)] rfl rfl rfl rfl (ab_rvB_of rfl (⟨rfl, (by omega : (0 : Int) ≤ 161), (by omega : (161 : Int) + 1 < K ∧ 5 < K)⟩)) ?_
  refine h.mono (fun x1 g' r' h => ?_)
  obtain ⟨hx, h⟩ := h
  replace hx := hx.symm
  subst hx
  obtain ⟨hx, h⟩ := h
  replace hx := hx.symm
  subst hx
  refine Rn_icge rfl (fun hc => ?_) (fun hc => ?_)
  · have h := h.1 hc
    refine Rn_pure 1 (i' := 24) (L' := [some (2, 161), some (0, l1), some (0, l2)]) (st' := [(0, l1)]) rfl ?_
    exact Rn_ret1 rfl h
  · have h := h.2 hc
    refine Rn_pure 2 (i' := 12) (L' := [some (2, 161), some (0, l1), some (0, l2)]) (st' := [(2, 161), (0, l1)]) rfl ?_
    refine Rn_getR rfl (⟨rfl, (by omega : (0 : Int) ≤ 161), (by omega : (161 : Int) + 1 < K ∧ 5 < K)⟩) (hr 157 _ rfl) (by decide) ?_
    refine Rn_pure 1 (i' := 14) (L' := [some (2, 161), some (0, l1), some (0, l2)]) (st' := [(0, l2), (2, 182), (0, l1)]) rfl ?_
    obtain ⟨hg, h⟩ := h
    refine Rn_zald rfl (⟨rfl, (by omega : (0 : Int) ≤ 182), (by omega : (182 : Int) + 1 < K ∧ 5 < K)⟩) hg ?_
    refine Rn_ifeq rfl (fun hc => ?_) (fun hc => ?_)
    · have h := h.1 hc
      refine Rn_pure 5 (i' := 6) (L' := [some (2, 161), some (0, l1 + 0), some (0, l2 + 1)]) (st' := []) rfl ?_
      exact h
    · have h := h.2 hc
      refine Rn_pure 6 (i' := 6) (L' := [some (2, 161), some (0, l1 + 1), some (0, l2 + 1)]) (st' := []) rfl ?_
      exact h
-- EventLedgerModel.asideMany ()I
theorem v_M_asideMany {K : Int} {S : Nat} {g r : ab_H} (P : Int → ab_H → ab_H → Prop) (hr : SI r) (hK : 186 ≤ K) (h : ab_RV m_M_replaysAll [(2, 161)] K S g r (fun g1 r' => r' = r ∧ (ab_RI m_M_asidesNow [(2, 161)] K S g1 r (fun x3 g' r' => g' = g1 ∧ r' = r ∧ (P x3 g1 r))))) : ab_RI m_M_asideMany [(2, 161)] K S g r P := by
  show ab_Rn m_M_asideMany 0 [some (2, 161)] [] (K, S, g, r) (ab_Qi K S P)
  refine Rn_pure 1 (i' := 1) (L' := [some (2, 161)]) (st' := [(2, 161)]) rfl ?_
  refine Rn_callV [(2, 161)] [] rfl rfl rfl rfl (ab_rvB_of rfl (⟨rfl, (by omega : (0 : Int) ≤ 161), (by omega : (161 : Int) + 1 < K ∧ 5 < K)⟩)) ?_
  refine h.mono (fun g1 r' h => ?_)
  obtain ⟨hx, h⟩ := h
  replace hx := hx.symm
  subst hx
  refine Rn_pure 1 (i' := 3) (L' := [some (2, 161)]) (st' := [(2, 161)]) rfl ?_
  refine Rn_callI [(2, 161)] [] rfl rfl rfl rfl (ab_rvB_of rfl (⟨rfl, (by omega : (0 : Int) ≤ 161), (by omega : (161 : Int) + 1 < K ∧ 5 < K)⟩)) ?_
  refine h.mono (fun x3 g' r' h => ?_)
  obtain ⟨hx, h⟩ := h
  replace hx := hx.symm
  subst hx
  obtain ⟨hx, h⟩ := h
  replace hx := hx.symm
  subst hx
  exact Rn_ret1 rfl h
-- EventLedgerModel.count (I)I
theorem v_M_count {K : Int} {S : Nat} {g r : ab_H} {p1 : Int} (P : Int → ab_H → ab_H → Prop) (hr : SI r) (hK : 186 ≤ K) (h : ∀ g1, g1 = ab_up g 161 0 0 → ((wr p1 = 0 → ab_RI m_M_accounts [(2, 161)] K S g1 r (fun x2 g' r' => g' = g1 ∧ r' = r ∧ (P x2 g1 r))) ∧ (wr p1 = 1 → ab_RI m_M_many [(2, 161)] K S g1 r (fun x3 g' r' => g' = g1 ∧ r' = r ∧ (P x3 g1 r))) ∧ (wr p1 = 2 → ab_RI m_M_tallies [(2, 161)] K S g1 r (fun x4 g' r' => g' = g1 ∧ r' = r ∧ (P x4 g1 r))) ∧ (wr p1 = 3 → ((0 : Int) ≤ 1081 ∧ (1081 : Int) < 1607) ∧ P (g1 174 1081) g1 r) ∧ (wr p1 = 4 → ab_RI m_M_asideMany [(2, 161)] K S g1 r (fun x6 g5 r' => r' = r ∧ (P x6 g5 r))) ∧ (wr p1 = 5 → ab_RI m_M_voidedMany [(2, 161)] K S g1 r (fun x7 g' r' => g' = g1 ∧ r' = r ∧ (P x7 g1 r))) ∧ (wr p1 = 6 → ab_RI m_M_many [(2, 161)] K S g1 r (fun x8 g' r' => g' = g1 ∧ r' = r ∧ (((¬ wr x8 = wr 0 → ab_RI m_M_latestTime [(2, 161)] K S g1 r (fun x9 g' r' => g' = g1 ∧ r' = r ∧ (P x9 g1 r))) ∧ (wr x8 = wr 0 → P (-2) g1 r))))) ∧ (wr p1 = 7 → ab_RI m_M_openMany [(2, 161)] K S g1 r (fun x11 g10 r' => r' = r ∧ (P x11 g10 r))) ∧ (wr p1 = 8 → ab_RI m_M_many [(2, 161)] K S g1 r (fun x12 g' r' => g' = g1 ∧ r' = r ∧ (ab_RI m_M_weights [(2, 161), (0, 0), (0, x12)] K S g1 r (fun x13 g' r' => g' = g1 ∧ r' = r ∧ (P x13 g1 r))))) ∧ (wr p1 = 9 → P (g1 161 30) g1 r) ∧ (wr p1 = 10 → P (g1 161 2) g1 r) ∧ (wr p1 = 11 → ((0 : Int) ≤ 1089 ∧ (1089 : Int) < 1607) ∧ P (g1 174 1089) g1 r) ∧ (wr p1 = 12 → ((0 : Int) ≤ 1090 ∧ (1090 : Int) < 1607) ∧ P (g1 174 1090) g1 r) ∧ (wr p1 < 0 ∨ 13 ≤ wr p1 → P (-1) g1 r))) : ab_RI m_M_count [(2, 161), (0, p1)] K S g r P := by
  show ab_Rn m_M_count 0 [some (2, 161), some (0, p1)] [] (K, S, g, r) (ab_Qi K S P)
  refine Rn_pure 2 (i' := 2) (L' := [some (2, 161), some (0, p1)]) (st' := [(0, 0), (2, 161)]) rfl ?_
  refine Rn_putI rfl (⟨rfl, (by omega : (0 : Int) ≤ 161), (by omega : (161 : Int) + 1 < K ∧ 5 < K)⟩) (fun g1 he_g1 => ?_)
  have h := h g1 he_g1
  refine Rn_pure 1 (i' := 4) (L' := [some (2, 161), some (0, p1)]) (st' := [(0, p1)]) rfl ?_
  refine Rn_ts rfl ?_
  have ht5 : (wr p1 = 0) → ab_Rn m_M_count 5 [some (2, 161), some (0, p1)] [] (K, S, g1, r) (ab_Qi K S P) := by
    intro hc
    have h := h.1 hc
    refine Rn_pure 1 (i' := 6) (L' := [some (2, 161), some (0, p1)]) (st' := [(2, 161)]) rfl ?_
    refine Rn_callI [(2, 161)] [] rfl rfl rfl rfl (ab_rvB_of rfl (⟨rfl, (by omega : (0 : Int) ≤ 161), (by omega : (161 : Int) + 1 < K ∧ 5 < K)⟩)) ?_
    refine h.mono (fun x2 g' r' h => ?_)
    obtain ⟨hx, h⟩ := h
    replace hx := hx.symm
    subst hx
    obtain ⟨hx, h⟩ := h
    replace hx := hx.symm
    subst hx
    exact Rn_ret1 rfl h
  have ht8 : (wr p1 = 1) → ab_Rn m_M_count 8 [some (2, 161), some (0, p1)] [] (K, S, g1, r) (ab_Qi K S P) := by
    intro hc
    have h := h.2.1 hc
    refine Rn_pure 1 (i' := 9) (L' := [some (2, 161), some (0, p1)]) (st' := [(2, 161)]) rfl ?_
    refine Rn_callI [(2, 161)] [] rfl rfl rfl rfl (ab_rvB_of rfl (⟨rfl, (by omega : (0 : Int) ≤ 161), (by omega : (161 : Int) + 1 < K ∧ 5 < K)⟩)) ?_
    refine h.mono (fun x3 g' r' h => ?_)
    obtain ⟨hx, h⟩ := h
    replace hx := hx.symm
    subst hx
    obtain ⟨hx, h⟩ := h
    replace hx := hx.symm
    subst hx
    exact Rn_ret1 rfl h
  have ht11 : (wr p1 = 2) → ab_Rn m_M_count 11 [some (2, 161), some (0, p1)] [] (K, S, g1, r) (ab_Qi K S P) := by
    intro hc
    have h := h.2.2.1 hc
    refine Rn_pure 1 (i' := 12) (L' := [some (2, 161), some (0, p1)]) (st' := [(2, 161)]) rfl ?_
    refine Rn_callI [(2, 161)] [] rfl rfl rfl rfl (ab_rvB_of rfl (⟨rfl, (by omega : (0 : Int) ≤ 161), (by omega : (161 : Int) + 1 < K ∧ 5 < K)⟩)) ?_
    refine h.mono (fun x4 g' r' h => ?_)
    obtain ⟨hx, h⟩ := h
    replace hx := hx.symm
    subst hx
    obtain ⟨hx, h⟩ := h
    replace hx := hx.symm
    subst hx
    exact Rn_ret1 rfl h
  have ht14 : (wr p1 = 3) → ab_Rn m_M_count 14 [some (2, 161), some (0, p1)] [] (K, S, g1, r) (ab_Qi K S P) := by
    intro hc
    have h := h.2.2.2.1 hc
    refine Rn_pure 1 (i' := 15) (L' := [some (2, 161), some (0, p1)]) (st' := [(2, 161)]) rfl ?_
    refine Rn_getR rfl (⟨rfl, (by omega : (0 : Int) ≤ 161), (by omega : (161 : Int) + 1 < K ∧ 5 < K)⟩) (hr 149 _ rfl) (by decide) ?_
    refine Rn_pure 1 (i' := 17) (L' := [some (2, 161), some (0, p1)]) (st' := [(0, 1081), (2, 174)]) rfl ?_
    obtain ⟨hg, h⟩ := h
    refine Rn_iald rfl (⟨rfl, (by omega : (0 : Int) ≤ 174), (by omega : (174 : Int) + 1 < K ∧ 5 < K)⟩) hg ?_
    exact Rn_ret1 rfl h
  have ht19 : (wr p1 = 4) → ab_Rn m_M_count 19 [some (2, 161), some (0, p1)] [] (K, S, g1, r) (ab_Qi K S P) := by
    intro hc
    have h := h.2.2.2.2.1 hc
    refine Rn_pure 1 (i' := 20) (L' := [some (2, 161), some (0, p1)]) (st' := [(2, 161)]) rfl ?_
    refine Rn_callI [(2, 161)] [] rfl rfl rfl rfl (ab_rvB_of rfl (⟨rfl, (by omega : (0 : Int) ≤ 161), (by omega : (161 : Int) + 1 < K ∧ 5 < K)⟩)) ?_
    refine h.mono (fun x6 g5 r' h => ?_)
    obtain ⟨hx, h⟩ := h
    replace hx := hx.symm
    subst hx
    exact Rn_ret1 rfl h
  have ht22 : (wr p1 = 5) → ab_Rn m_M_count 22 [some (2, 161), some (0, p1)] [] (K, S, g1, r) (ab_Qi K S P) := by
    intro hc
    have h := h.2.2.2.2.2.1 hc
    refine Rn_pure 1 (i' := 23) (L' := [some (2, 161), some (0, p1)]) (st' := [(2, 161)]) rfl ?_
    refine Rn_callI [(2, 161)] [] rfl rfl rfl rfl (ab_rvB_of rfl (⟨rfl, (by omega : (0 : Int) ≤ 161), (by omega : (161 : Int) + 1 < K ∧ 5 < K)⟩)) ?_
    refine h.mono (fun x7 g' r' h => ?_)
    obtain ⟨hx, h⟩ := h
    replace hx := hx.symm
    subst hx
    obtain ⟨hx, h⟩ := h
    replace hx := hx.symm
    subst hx
    exact Rn_ret1 rfl h
  have ht25 : (wr p1 = 6) → ab_Rn m_M_count 25 [some (2, 161), some (0, p1)] [] (K, S, g1, r) (ab_Qi K S P) := by
    intro hc
    have h := h.2.2.2.2.2.2.1 hc
    refine Rn_pure 1 (i' := 26) (L' := [some (2, 161), some (0, p1)]) (st' := [(2, 161)]) rfl ?_
    refine Rn_callI [(2, 161)] [] rfl rfl rfl rfl (ab_rvB_of rfl (⟨rfl, (by omega : (0 : Int) ≤ 161), (by omega : (161 : Int) + 1 < K ∧ 5 < K)⟩)) ?_
    refine h.mono (fun x8 g' r' h => ?_)
    obtain ⟨hx, h⟩ := h
    replace hx := hx.symm
    subst hx
    obtain ⟨hx, h⟩ := h
    replace hx := hx.symm
    subst hx
    refine Rn_ifne rfl (fun hc => ?_) (fun hc => ?_)
    · have h := h.1 hc
      refine Rn_pure 1 (i' := 31) (L' := [some (2, 161), some (0, p1)]) (st' := [(2, 161)]) rfl ?_
      refine Rn_callI [(2, 161)] [] rfl rfl rfl rfl (ab_rvB_of rfl (⟨rfl, (by omega : (0 : Int) ≤ 161), (by omega : (161 : Int) + 1 < K ∧ 5 < K)⟩)) ?_
      refine h.mono (fun x9 g' r' h => ?_)
      obtain ⟨hx, h⟩ := h
      replace hx := hx.symm
      subst hx
      obtain ⟨hx, h⟩ := h
      replace hx := hx.symm
      subst hx
      exact Rn_ret1 rfl h
    · have h := h.2 hc
      refine Rn_pure 2 (i' := 32) (L' := [some (2, 161), some (0, p1)]) (st' := [(0, (-2))]) rfl ?_
      exact Rn_ret1 rfl h
  have ht33 : (wr p1 = 7) → ab_Rn m_M_count 33 [some (2, 161), some (0, p1)] [] (K, S, g1, r) (ab_Qi K S P) := by
    intro hc
    have h := h.2.2.2.2.2.2.2.1 hc
    refine Rn_pure 1 (i' := 34) (L' := [some (2, 161), some (0, p1)]) (st' := [(2, 161)]) rfl ?_
    refine Rn_callI [(2, 161)] [] rfl rfl rfl rfl (ab_rvB_of rfl (⟨rfl, (by omega : (0 : Int) ≤ 161), (by omega : (161 : Int) + 1 < K ∧ 5 < K)⟩)) ?_
    refine h.mono (fun x11 g10 r' h => ?_)
    obtain ⟨hx, h⟩ := h
    replace hx := hx.symm
    subst hx
    exact Rn_ret1 rfl h
  have ht36 : (wr p1 = 8) → ab_Rn m_M_count 36 [some (2, 161), some (0, p1)] [] (K, S, g1, r) (ab_Qi K S P) := by
    intro hc
    have h := h.2.2.2.2.2.2.2.2.1 hc
    refine Rn_pure 3 (i' := 39) (L' := [some (2, 161), some (0, p1)]) (st' := [(2, 161), (0, 0), (2, 161)]) rfl ?_
    refine Rn_callI [(2, 161)] [(0, 0), (2, 161)] rfl rfl rfl rfl (ab_rvB_of rfl (⟨rfl, (by omega : (0 : Int) ≤ 161), (by omega : (161 : Int) + 1 < K ∧ 5 < K)⟩)) ?_
    refine h.mono (fun x12 g' r' h => ?_)
    obtain ⟨hx, h⟩ := h
    replace hx := hx.symm
    subst hx
    obtain ⟨hx, h⟩ := h
    replace hx := hx.symm
    subst hx
    refine Rn_callI [(2, 161), (0, 0), (0, x12)] [] rfl rfl rfl rfl (ab_rvB_of rfl (⟨rfl, (by omega : (0 : Int) ≤ 161), (by omega : (161 : Int) + 1 < K ∧ 5 < K)⟩)) ?_
    refine h.mono (fun x13 g' r' h => ?_)
    obtain ⟨hx, h⟩ := h
    replace hx := hx.symm
    subst hx
    obtain ⟨hx, h⟩ := h
    replace hx := hx.symm
    subst hx
    exact Rn_ret1 rfl h
  have ht42 : (wr p1 = 9) → ab_Rn m_M_count 42 [some (2, 161), some (0, p1)] [] (K, S, g1, r) (ab_Qi K S P) := by
    intro hc
    have h := h.2.2.2.2.2.2.2.2.2.1 hc
    refine Rn_pure 1 (i' := 43) (L' := [some (2, 161), some (0, p1)]) (st' := [(2, 161)]) rfl ?_
    refine Rn_getI rfl (⟨rfl, (by omega : (0 : Int) ≤ 161), (by omega : (161 : Int) + 1 < K ∧ 5 < K)⟩) ?_
    exact Rn_ret1 rfl h
  have ht45 : (wr p1 = 10) → ab_Rn m_M_count 45 [some (2, 161), some (0, p1)] [] (K, S, g1, r) (ab_Qi K S P) := by
    intro hc
    have h := h.2.2.2.2.2.2.2.2.2.2.1 hc
    refine Rn_pure 1 (i' := 46) (L' := [some (2, 161), some (0, p1)]) (st' := [(2, 161)]) rfl ?_
    refine Rn_getI rfl (⟨rfl, (by omega : (0 : Int) ≤ 161), (by omega : (161 : Int) + 1 < K ∧ 5 < K)⟩) ?_
    exact Rn_ret1 rfl h
  have ht48 : (wr p1 = 11) → ab_Rn m_M_count 48 [some (2, 161), some (0, p1)] [] (K, S, g1, r) (ab_Qi K S P) := by
    intro hc
    have h := h.2.2.2.2.2.2.2.2.2.2.2.1 hc
    refine Rn_pure 1 (i' := 49) (L' := [some (2, 161), some (0, p1)]) (st' := [(2, 161)]) rfl ?_
    refine Rn_getR rfl (⟨rfl, (by omega : (0 : Int) ≤ 161), (by omega : (161 : Int) + 1 < K ∧ 5 < K)⟩) (hr 149 _ rfl) (by decide) ?_
    refine Rn_pure 1 (i' := 51) (L' := [some (2, 161), some (0, p1)]) (st' := [(0, 1089), (2, 174)]) rfl ?_
    obtain ⟨hg, h⟩ := h
    refine Rn_iald rfl (⟨rfl, (by omega : (0 : Int) ≤ 174), (by omega : (174 : Int) + 1 < K ∧ 5 < K)⟩) hg ?_
    exact Rn_ret1 rfl h
  have ht53 : (wr p1 = 12) → ab_Rn m_M_count 53 [some (2, 161), some (0, p1)] [] (K, S, g1, r) (ab_Qi K S P) := by
    intro hc
    have h := h.2.2.2.2.2.2.2.2.2.2.2.2.1 hc
    refine Rn_pure 1 (i' := 54) (L' := [some (2, 161), some (0, p1)]) (st' := [(2, 161)]) rfl ?_
    refine Rn_getR rfl (⟨rfl, (by omega : (0 : Int) ≤ 161), (by omega : (161 : Int) + 1 < K ∧ 5 < K)⟩) (hr 149 _ rfl) (by decide) ?_
    refine Rn_pure 1 (i' := 56) (L' := [some (2, 161), some (0, p1)]) (st' := [(0, 1090), (2, 174)]) rfl ?_
    obtain ⟨hg, h⟩ := h
    refine Rn_iald rfl (⟨rfl, (by omega : (0 : Int) ≤ 174), (by omega : (174 : Int) + 1 < K ∧ 5 < K)⟩) hg ?_
    exact Rn_ret1 rfl h
  have htd : (wr p1 < 0 ∨ 13 ≤ wr p1) → ab_Rn m_M_count 58 [some (2, 161), some (0, p1)] [] (K, S, g1, r) (ab_Qi K S P) := by
    intro hc
    have h := h.2.2.2.2.2.2.2.2.2.2.2.2.2 hc
    refine Rn_pure 1 (i' := 59) (L' := [some (2, 161), some (0, p1)]) (st' := [(0, (-1))]) rfl ?_
    exact Rn_ret1 rfl h
  have hsp : wr p1 < 0 ∨ 13 ≤ wr p1 ∨ wr p1 = 0 ∨ wr p1 = 1 ∨ wr p1 = 2 ∨ wr p1 = 3 ∨ wr p1 = 4 ∨ wr p1 = 5 ∨ wr p1 = 6 ∨ wr p1 = 7 ∨ wr p1 = 8 ∨ wr p1 = 9 ∨ wr p1 = 10 ∨ wr p1 = 11 ∨ wr p1 = 12 := by omega
  rcases hsp with hc | hc | hc | hc | hc | hc | hc | hc | hc | hc | hc | hc | hc | hc | hc
  · rw [ab_ts_out (hT := (rfl : ab_nth ab_tsL 9 = some (0, 58, [5, 8, 11, 14, 19, 22, 25, 33, 36, 42, 45, 48, 53]))) rfl (Or.inl hc)]; exact htd (by simp only [hc, true_or, or_true])
  · rw [ab_ts_out (hT := (rfl : ab_nth ab_tsL 9 = some (0, 58, [5, 8, 11, 14, 19, 22, 25, 33, 36, 42, 45, 48, 53]))) rfl (Or.inr hc)]; exact htd (by simp only [hc, true_or, or_true])
  · rw [ab_ts_in (j := 0) (hT := (rfl : ab_nth ab_tsL 9 = some (0, 58, [5, 8, 11, 14, 19, 22, 25, 33, 36, 42, 45, 48, 53]))) (by rw [hc]; rfl) rfl]; exact ht5 (by simp only [hc, true_or, or_true])
  · rw [ab_ts_in (j := 1) (hT := (rfl : ab_nth ab_tsL 9 = some (0, 58, [5, 8, 11, 14, 19, 22, 25, 33, 36, 42, 45, 48, 53]))) (by rw [hc]; rfl) rfl]; exact ht8 (by simp only [hc, true_or, or_true])
  · rw [ab_ts_in (j := 2) (hT := (rfl : ab_nth ab_tsL 9 = some (0, 58, [5, 8, 11, 14, 19, 22, 25, 33, 36, 42, 45, 48, 53]))) (by rw [hc]; rfl) rfl]; exact ht11 (by simp only [hc, true_or, or_true])
  · rw [ab_ts_in (j := 3) (hT := (rfl : ab_nth ab_tsL 9 = some (0, 58, [5, 8, 11, 14, 19, 22, 25, 33, 36, 42, 45, 48, 53]))) (by rw [hc]; rfl) rfl]; exact ht14 (by simp only [hc, true_or, or_true])
  · rw [ab_ts_in (j := 4) (hT := (rfl : ab_nth ab_tsL 9 = some (0, 58, [5, 8, 11, 14, 19, 22, 25, 33, 36, 42, 45, 48, 53]))) (by rw [hc]; rfl) rfl]; exact ht19 (by simp only [hc, true_or, or_true])
  · rw [ab_ts_in (j := 5) (hT := (rfl : ab_nth ab_tsL 9 = some (0, 58, [5, 8, 11, 14, 19, 22, 25, 33, 36, 42, 45, 48, 53]))) (by rw [hc]; rfl) rfl]; exact ht22 (by simp only [hc, true_or, or_true])
  · rw [ab_ts_in (j := 6) (hT := (rfl : ab_nth ab_tsL 9 = some (0, 58, [5, 8, 11, 14, 19, 22, 25, 33, 36, 42, 45, 48, 53]))) (by rw [hc]; rfl) rfl]; exact ht25 (by simp only [hc, true_or, or_true])
  · rw [ab_ts_in (j := 7) (hT := (rfl : ab_nth ab_tsL 9 = some (0, 58, [5, 8, 11, 14, 19, 22, 25, 33, 36, 42, 45, 48, 53]))) (by rw [hc]; rfl) rfl]; exact ht33 (by simp only [hc, true_or, or_true])
  · rw [ab_ts_in (j := 8) (hT := (rfl : ab_nth ab_tsL 9 = some (0, 58, [5, 8, 11, 14, 19, 22, 25, 33, 36, 42, 45, 48, 53]))) (by rw [hc]; rfl) rfl]; exact ht36 (by simp only [hc, true_or, or_true])
  · rw [ab_ts_in (j := 9) (hT := (rfl : ab_nth ab_tsL 9 = some (0, 58, [5, 8, 11, 14, 19, 22, 25, 33, 36, 42, 45, 48, 53]))) (by rw [hc]; rfl) rfl]; exact ht42 (by simp only [hc, true_or, or_true])
  · rw [ab_ts_in (j := 10) (hT := (rfl : ab_nth ab_tsL 9 = some (0, 58, [5, 8, 11, 14, 19, 22, 25, 33, 36, 42, 45, 48, 53]))) (by rw [hc]; rfl) rfl]; exact ht45 (by simp only [hc, true_or, or_true])
  · rw [ab_ts_in (j := 11) (hT := (rfl : ab_nth ab_tsL 9 = some (0, 58, [5, 8, 11, 14, 19, 22, 25, 33, 36, 42, 45, 48, 53]))) (by rw [hc]; rfl) rfl]; exact ht48 (by simp only [hc, true_or, or_true])
  · rw [ab_ts_in (j := 12) (hT := (rfl : ab_nth ab_tsL 9 = some (0, 58, [5, 8, 11, 14, 19, 22, 25, 33, 36, 42, 45, 48, 53]))) (by rw [hc]; rfl) rfl]; exact ht53 (by simp only [hc, true_or, or_true])
