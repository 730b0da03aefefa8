-- EventLedgerModel.asidesNow ()I
theorem v_M_asidesNow {K : Int} {S : Nat} {g r : ab_H} (P : Int → ab_H → ab_H → Prop) (hr : SI r) (hK : 186 ≤ K) (h : ab_Rn m_M_asidesNow 4 [some (2, 161), some (0, 0), some (0, 0)] [] (K, S, g, r) (ab_Qi K S P)) : ab_RI m_M_asidesNow [(2, 161)] K S g r P := by
  show ab_Rn m_M_asidesNow 0 [some (2, 161), none, none] [] (K, S, g, r) (ab_Qi K S P)
  refine Rn_pure 4 (i' := 4) (L' := [some (2, 161), some (0, 0), some (0, 0)]) (st' := []) rfl ?_
  exact h
theorem v_M_asidesNow_4 {K : Int} {S : Nat} {g r : ab_H} {l1 l2 : Int} (P : Int → ab_H → ab_H → Prop) (hr : SI r) (hK : 186 ≤ K) (h : ab_RI m_M_many [(2, 161)] K S g r (fun x1 g' r' => g' = g ∧ r' = r ∧ (((wr x1 ≤ wr l2 → P l1 g r) ∧ (wr l2 < wr x1 → ((0 : Int) ≤ l2 ∧ (l2 : Int) < 120) ∧ ((wr (g 183 l2) = wr 0 → ab_Rn m_M_asidesNow 4 [some (2, 161), some (0, l1 + 0), some (0, l2 + 1)] [] (K, S, g, r) (ab_Qi K S P)) ∧ (¬ wr (g 183 l2) = wr 0 → ab_Rn m_M_asidesNow 4 [some (2, 161), some (0, l1 + 1), some (0, l2 + 1)] [] (K, S, g, r) (ab_Qi K S P)))))))) : ab_Rn m_M_asidesNow 4 [some (2, 161), some (0, l1), some (0, l2)] [] (K, S, g, r) (ab_Qi K S P) := by
  refine Rn_pure 2 (i' := 6) (L' := [some (2, 161), some (0, l1), some (0, l2)]) (st' := [(2, 161), (0, l2)]) rfl ?_
  refine Rn_callI [(2, 161)] [(0, l2)] rfl rfl rfl rfl (ab_rvB_of rfl (⟨rfl, (by omega : (0 : Int) ≤ 161), (by omega : (161 : Int) + 1 < K ∧ 5 < K)⟩)) ?_
  refine h.mono (fun x1 g' r' h => ?_)
  obtain ⟨hx, h⟩ := h
  replace hx := hx.symm
  subst hx
  obtain ⟨hx, h⟩ := h
  replace hx := hx.symm
  subst hx
  refine Rn_icge rfl (fun hc => ?_) (fun hc => ?_)
  · have h := h.1 hc
    refine Rn_pure 1 (i' := 22) (L' := [some (2, 161), some (0, l1), some (0, l2)]) (st' := [(0, l1)]) rfl ?_
    exact Rn_ret1 rfl h
  · have h := h.2 hc
    refine Rn_pure 2 (i' := 10) (L' := [some (2, 161), some (0, l1), some (0, l2)]) (st' := [(2, 161), (0, l1)]) rfl ?_
    refine Rn_getR rfl (⟨rfl, (by omega : (0 : Int) ≤ 161), (by omega : (161 : Int) + 1 < K ∧ 5 < K)⟩) (hr 158 _ rfl) (by decide) ?_
    refine Rn_pure 1 (i' := 12) (L' := [some (2, 161), some (0, l1), some (0, l2)]) (st' := [(0, l2), (2, 183), (0, l1)]) rfl ?_
    obtain ⟨hg, h⟩ := h
    refine Rn_iald rfl (⟨rfl, (by omega : (0 : Int) ≤ 183), (by omega : (183 : Int) + 1 < K ∧ 5 < K)⟩) hg ?_
    refine Rn_ifeq rfl (fun hc => ?_) (fun hc => ?_)
    · have h := h.1 hc
      refine Rn_pure 5 (i' := 4) (L' := [some (2, 161), some (0, l1 + 0), some (0, l2 + 1)]) (st' := []) rfl ?_
      exact h
    · have h := h.2 hc
      refine Rn_pure 6 (i' := 4) (L' := [some (2, 161), some (0, l1 + 1), some (0, l2 + 1)]) (st' := []) rfl ?_
      exact h
-- EventLedgerModel.isAccount (I)Z
theorem v_M_isAccount {K : Int} {S : Nat} {g r : ab_H} {p1 : Int} (P : Int → ab_H → ab_H → Prop) (hr : SI r) (hK : 186 ≤ K) (h : ((wr p1 < wr 0 → P 0 g r) ∧ (wr 0 ≤ wr p1 → ab_RI m_M_accounts [(2, 161)] K S g r (fun x1 g' r' => g' = g ∧ r' = r ∧ (((wr x1 ≤ wr p1 → P 0 g r) ∧ (wr p1 < wr x1 → P 1 g r))))))) : ab_RI m_M_isAccount [(2, 161), (0, p1)] K S g r P := by
  show ab_Rn m_M_isAccount 0 [some (2, 161), some (0, p1)] [] (K, S, g, r) (ab_Qi K S P)
  refine Rn_pure 1 (i' := 1) (L' := [some (2, 161), some (0, p1)]) (st' := [(0, p1)]) rfl ?_
  refine Rn_iflt rfl (fun hc => ?_) (fun hc => ?_)
  · have h := h.1 hc
    refine Rn_pure 1 (i' := 9) (L' := [some (2, 161), some (0, p1)]) (st' := [(0, 0)]) rfl ?_
    exact Rn_ret2 rfl (by decide) h
  · have h := h.2 hc
    refine Rn_pure 2 (i' := 4) (L' := [some (2, 161), some (0, p1)]) (st' := [(2, 161), (0, p1)]) rfl ?_
    refine Rn_callI [(2, 161)] [(0, p1)] rfl rfl rfl rfl (ab_rvB_of rfl (⟨rfl, (by omega : (0 : Int) ≤ 161), (by omega : (161 : Int) + 1 < K ∧ 5 < K)⟩)) ?_
    refine h.mono (fun x1 g' r' h => ?_)
    obtain ⟨hx, h⟩ := h
    replace hx := hx.symm
    subst hx
    obtain ⟨hx, h⟩ := h
    replace hx := hx.symm
    subst hx
    refine Rn_icge rfl (fun hc => ?_) (fun hc => ?_)
    · have h := h.1 hc
      refine Rn_pure 1 (i' := 9) (L' := [some (2, 161), some (0, p1)]) (st' := [(0, 0)]) rfl ?_
      exact Rn_ret2 rfl (by decide) h
    · have h := h.2 hc
      refine Rn_pure 2 (i' := 9) (L' := [some (2, 161), some (0, p1)]) (st' := [(0, 1)]) rfl ?_
      exact Rn_ret2 rfl (by decide) h
-- EventLedgerModel.isTime (I)Z
theorem v_M_isTime {K : Int} {S : Nat} {g r : ab_H} {p0 : Int} (P : Int → ab_H → ab_H → Prop) (hr : SI r) (hK : 186 ≤ K) (h : ((wr p0 < wr 0 → P 0 g r) ∧ (wr 0 ≤ wr p0 → ((wr 9999 < wr p0 → P 0 g r) ∧ (wr p0 ≤ wr 9999 → P 1 g r))))) : ab_RI m_M_isTime [(0, p0)] K S g r P := by
  show ab_Rn m_M_isTime 0 [some (0, p0)] [] (K, S, g, r) (ab_Qi K S P)
  refine Rn_pure 1 (i' := 1) (L' := [some (0, p0)]) (st' := [(0, p0)]) rfl ?_
  refine Rn_iflt rfl (fun hc => ?_) (fun hc => ?_)
  · have h := h.1 hc
    refine Rn_pure 1 (i' := 8) (L' := [some (0, p0)]) (st' := [(0, 0)]) rfl ?_
    exact Rn_ret2 rfl (by decide) h
  · have h := h.2 hc
    refine Rn_pure 2 (i' := 4) (L' := [some (0, p0)]) (st' := [(0, 9999), (0, p0)]) rfl ?_
    refine Rn_icgt rfl (fun hc => ?_) (fun hc => ?_)
    · have h := h.1 hc
      refine Rn_pure 1 (i' := 8) (L' := [some (0, p0)]) (st' := [(0, 0)]) rfl ?_
      exact Rn_ret2 rfl (by decide) h
    · have h := h.2 hc
      refine Rn_pure 2 (i' := 8) (L' := [some (0, p0)]) (st' := [(0, 1)]) rfl ?_
      exact Rn_ret2 rfl (by decide) h
-- EventLedgerModel.has (II)I
theorem v_M_has {K : Int} {S : Nat} {g r : ab_H} {p1 p2 : Int} (P : Int → ab_H → ab_H → Prop) (hr : SI r) (hK : 186 ≤ K) (h : ((wr p2 = 0 → ((0 : Int) ≤ p1 ∧ (p1 : Int) < 8) ∧ P (g 179 p1) g r) ∧ (wr p2 = 1 → ((0 : Int) ≤ p1 ∧ (p1 : Int) < 8) ∧ P (g 180 p1) g r) ∧ (wr p2 = 2 → ((0 : Int) ≤ p1 ∧ (p1 : Int) < 8) ∧ P (g 181 p1) g r) ∧ (wr p2 < 0 ∨ 3 ≤ wr p2 → ((0 : Int) ≤ p1 ∧ (p1 : Int) < 8) ∧ ((wr (g 182 p1) = wr 0 → P 0 g r) ∧ (¬ wr (g 182 p1) = wr 0 → P 1 g r))))) : ab_RI m_M_has [(2, 161), (0, p1), (0, p2)] K S g r P := by
  show ab_Rn m_M_has 0 [some (2, 161), some (0, p1), some (0, p2)] [] (K, S, g, r) (ab_Qi K S P)
  refine Rn_pure 1 (i' := 1) (L' := [some (2, 161), some (0, p1), some (0, p2)]) (st' := [(0, p2)]) rfl ?_
  refine Rn_ts rfl ?_
  have ht2 : (wr p2 = 0) → ab_Rn m_M_has 2 [some (2, 161), some (0, p1), some (0, p2)] [] (K, S, g, r) (ab_Qi K S P) := by
    intro hc
    have h := h.1 hc
    refine Rn_pure 1 (i' := 3) (L' := [some (2, 161), some (0, p1), some (0, p2)]) (st' := [(2, 161)]) rfl ?_
    refine Rn_getR rfl (⟨rfl, (by omega : (0 : Int) ≤ 161), (by omega : (161 : Int) + 1 < K ∧ 5 < K)⟩) (hr 154 _ rfl) (by decide) ?_
    refine Rn_pure 1 (i' := 5) (L' := [some (2, 161), some (0, p1), some (0, p2)]) (st' := [(0, p1), (2, 179)]) rfl ?_
    obtain ⟨hg, h⟩ := h
    refine Rn_iald rfl (⟨rfl, (by omega : (0 : Int) ≤ 179), (by omega : (179 : Int) + 1 < K ∧ 5 < K)⟩) hg ?_
    exact Rn_ret1 rfl h
  have ht7 : (wr p2 = 1) → ab_Rn m_M_has 7 [some (2, 161), some (0, p1), some (0, p2)] [] (K, S, g, r) (ab_Qi K S P) := by
    intro hc
    have h := h.2.1 hc
    refine Rn_pure 1 (i' := 8) (L' := [some (2, 161), some (0, p1), some (0, p2)]) (st' := [(2, 161)]) rfl ?_
    refine Rn_getR rfl (⟨rfl, (by omega : (0 : Int) ≤ 161), (by omega : (161 : Int) + 1 < K ∧ 5 < K)⟩) (hr 155 _ rfl) (by decide) ?_
    refine Rn_pure 1 (i' := 10) (L' := [some (2, 161), some (0, p1), some (0, p2)]) (st' := [(0, p1), (2, 180)]) rfl ?_
    obtain ⟨hg, h⟩ := h
    refine Rn_iald rfl (⟨rfl, (by omega : (0 : Int) ≤ 180), (by omega : (180 : Int) + 1 < K ∧ 5 < K)⟩) hg ?_
    exact Rn_ret1 rfl h
  have ht12 : (wr p2 = 2) → ab_Rn m_M_has 12 [some (2, 161), some (0, p1), some (0, p2)] [] (K, S, g, r) (ab_Qi K S P) := by
    intro hc
    have h := h.2.2.1 hc
    refine Rn_pure 1 (i' := 13) (L' := [some (2, 161), some (0, p1), some (0, p2)]) (st' := [(2, 161)]) rfl ?_
    refine Rn_getR rfl (⟨rfl, (by omega : (0 : Int) ≤ 161), (by omega : (161 : Int) + 1 < K ∧ 5 < K)⟩) (hr 156 _ rfl) (by decide) ?_
    refine Rn_pure 1 (i' := 15) (L' := [some (2, 161), some (0, p1), some (0, p2)]) (st' := [(0, p1), (2, 181)]) rfl ?_
    obtain ⟨hg, h⟩ := h
    refine Rn_iald rfl (⟨rfl, (by omega : (0 : Int) ≤ 181), (by omega : (181 : Int) + 1 < K ∧ 5 < K)⟩) hg ?_
    exact Rn_ret1 rfl h
  have htd : (wr p2 < 0 ∨ 3 ≤ wr p2) → ab_Rn m_M_has 17 [some (2, 161), some (0, p1), some (0, p2)] [] (K, S, g, r) (ab_Qi K S P) := by
    intro hc
    have h := h.2.2.2 hc
    refine Rn_pure 1 (i' := 18) (L' := [some (2, 161), some (0, p1), some (0, p2)]) (st' := [(2, 161)]) rfl ?_
    refine Rn_getR rfl (⟨rfl, (by omega : (0 : Int) ≤ 161), (by omega : (161 : Int) + 1 < K ∧ 5 < K)⟩) (hr 157 _ rfl) (by decide) ?_
    refine Rn_pure 1 (i' := 20) (L' := [some (2, 161), some (0, p1), some (0, p2)]) (st' := [(0, p1), (2, 182)]) rfl ?_
    obtain ⟨hg, h⟩ := h
    refine Rn_zald rfl (⟨rfl, (by omega : (0 : Int) ≤ 182), (by omega : (182 : Int) + 1 < K ∧ 5 < K)⟩) hg ?_
    refine Rn_ifeq rfl (fun hc => ?_) (fun hc => ?_)
    · have h := h.1 hc
      refine Rn_pure 1 (i' := 25) (L' := [some (2, 161), some (0, p1), some (0, p2)]) (st' := [(0, 0)]) rfl ?_
      exact Rn_ret1 rfl h
    · have h := h.2 hc
      refine Rn_pure 2 (i' := 25) (L' := [some (2, 161), some (0, p1), some (0, p2)]) (st' := [(0, 1)]) rfl ?_
      exact Rn_ret1 rfl h
  have hsp : wr p2 < 0 ∨ 3 ≤ wr p2 ∨ wr p2 = 0 ∨ wr p2 = 1 ∨ wr p2 = 2 := by omega
  rcases hsp with hc | hc | hc | hc | hc
  · rw [ab_ts_out (hT := (rfl : ab_nth ab_tsL 6 = some (0, 17, [2, 7, 12]))) rfl (Or.inl hc)]; exact htd (by simp only [hc, true_or, or_true])
  · rw [ab_ts_out (hT := (rfl : ab_nth ab_tsL 6 = some (0, 17, [2, 7, 12]))) rfl (Or.inr hc)]; exact htd (by simp only [hc, true_or, or_true])
  · rw [ab_ts_in (j := 0) (hT := (rfl : ab_nth ab_tsL 6 = some (0, 17, [2, 7, 12]))) (by rw [hc]; rfl) rfl]; exact ht2 (by simp only [hc, true_or, or_true])
  · rw [ab_ts_in (j := 1) (hT := (rfl : ab_nth ab_tsL 6 = some (0, 17, [2, 7, 12]))) (by rw [hc]; rfl) rfl]; exact ht7 (by simp only [hc, true_or, or_true])
  · rw [ab_ts_in (j := 2) (hT := (rfl : ab_nth ab_tsL 6 = some (0, 17, [2, 7, 12]))) (by rw [hc]; rfl) rfl]; exact ht12 (by simp only [hc, true_or, or_true])
-- EventLedgerModel.placeAt (I)I
theorem v_M_placeAt {K : Int} {S : Nat} {g r : ab_H} {p1 : Int} (P : Int → ab_H → ab_H → Prop) (hr : SI r) (hK : 186 ≤ K) (h : ab_Rn m_M_placeAt 2 [some (2, 161), some (0, p1), some (0, 0)] [] (K, S, g, r) (ab_Qi K S P)) : ab_RI m_M_placeAt [(2, 161), (0, p1)] K S g r P := by
  show ab_Rn m_M_placeAt 0 [some (2, 161), some (0, p1), none] [] (K, S, g, r) (ab_Qi K S P)
  refine Rn_pure 2 (i' := 2) (L' := [some (2, 161), some (0, p1), some (0, 0)]) (st' := []) rfl ?_
  exact h
theorem v_M_placeAt_2 {K : Int} {S : Nat} {g r : ab_H} {l1 l2 : Int} (P : Int → ab_H → ab_H → Prop) (hr : SI r) (hK : 186 ≤ K) (h : ab_RI m_M_many [(2, 161)] K S g r (fun x1 g' r' => g' = g ∧ r' = r ∧ (((wr x1 ≤ wr l2 → P l2 g r) ∧ (wr l2 < wr x1 → ((0 : Int) ≤ 9 * l2 + 3 ∧ (9 * l2 + 3 : Int) < 1607) ∧ ((wr l1 < wr (g 174 (9 * l2 + 3)) → P l2 g r) ∧ (wr (g 174 (9 * l2 + 3)) ≤ wr l1 → ab_Rn m_M_placeAt 2 [some (2, 161), some (0, l1), some (0, l2 + 1)] [] (K, S, g, r) (ab_Qi K S P)))))))) : ab_Rn m_M_placeAt 2 [some (2, 161), some (0, l1), some (0, l2)] [] (K, S, g, r) (ab_Qi K S P) := by
  refine Rn_pure 2 (i' := 4) (L' := [some (2, 161), some (0, l1), some (0, l2)]) (st' := [(2, 161), (0, l2)]) rfl ?_
  refine Rn_callI [(2, 161)] [(0, l2)] rfl rfl rfl rfl (ab_rvB_of rfl (⟨rfl, (by omega : (0 : Int) ≤ 161), (by omega : (161 : Int) + 1 < K ∧ 5 < K)⟩)) ?_
  refine h.mono (fun x1 g' r' h => ?_)
  obtain ⟨hx, h⟩ := h
  replace hx := hx.symm
  subst hx
  obtain ⟨hx, h⟩ := h
  replace hx := hx.symm
  subst hx
  refine Rn_icge rfl (fun hc => ?_) (fun hc => ?_)
  · have h := h.1 hc
    refine Rn_pure 1 (i' := 19) (L' := [some (2, 161), some (0, l1), some (0, l2)]) (st' := [(0, l2)]) rfl ?_
    exact Rn_ret1 rfl h
  · have h := h.2 hc
    refine Rn_pure 1 (i' := 7) (L' := [some (2, 161), some (0, l1), some (0, l2)]) (st' := [(2, 161)]) rfl ?_
    refine Rn_getR rfl (⟨rfl, (by omega : (0 : Int) ≤ 161), (by omega : (161 : Int) + 1 < K ∧ 5 < K)⟩) (hr 149 _ rfl) (by decide) ?_
    refine Rn_pure 5 (i' := 13) (L' := [some (2, 161), some (0, l1), some (0, l2)]) (st' := [(0, 9 * l2 + 3), (2, 174)]) rfl ?_
    obtain ⟨hg, h⟩ := h
    refine Rn_iald rfl (⟨rfl, (by omega : (0 : Int) ≤ 174), (by omega : (174 : Int) + 1 < K ∧ 5 < K)⟩) hg ?_
    refine Rn_pure 1 (i' := 15) (L' := [some (2, 161), some (0, l1), some (0, l2)]) (st' := [(0, l1), (0, g 174 (9 * l2 + 3))]) rfl ?_
    refine Rn_icgt rfl (fun hc => ?_) (fun hc => ?_)
    · have h := h.1 hc
      refine Rn_pure 1 (i' := 19) (L' := [some (2, 161), some (0, l1), some (0, l2)]) (st' := [(0, l2)]) rfl ?_
      exact Rn_ret1 rfl h
    · have h := h.2 hc
      refine Rn_pure 2 (i' := 2) (L' := [some (2, 161), some (0, l1), some (0, l2 + 1)]) (st' := []) rfl ?_
      exact h
-- EventLedgerModel.latestTime ()I
theorem v_M_latestTime {K : Int} {S : Nat} {g r : ab_H} (P : Int → ab_H → ab_H → Prop) (hr : SI r) (hK : 186 ≤ K) (h : ab_RI m_M_many [(2, 161)] K S g r (fun x1 g' r' => g' = g ∧ r' = r ∧ (((¬ wr x1 = wr 0 → ab_RI m_M_many [(2, 161)] K S g r (fun x2 g' r' => g' = g ∧ r' = r ∧ (((0 : Int) ≤ 9 * (x2 - 1) + 3 ∧ (9 * (x2 - 1) + 3 : Int) < 1607) ∧ P (g 174 (9 * (x2 - 1) + 3)) g r))) ∧ (wr x1 = wr 0 → P 0 g r))))) : ab_RI m_M_latestTime [(2, 161)] K S g r P := by
  show ab_Rn m_M_latestTime 0 [some (2, 161)] [] (K, S, g, r) (ab_Qi K S P)
  refine Rn_pure 1 (i' := 1) (L' := [some (2, 161)]) (st' := [(2, 161)]) rfl ?_
  refine Rn_callI [(2, 161)] [] rfl rfl rfl rfl (ab_rvB_of rfl (⟨rfl, (by omega : (0 : Int) ≤ 161), (by omega : (161 : Int) + 1 < K ∧ 5 < K)⟩)) ?_
  refine h.mono (fun x1 g' r' h => ?_)
  obtain ⟨hx, h⟩ := h
  replace hx := hx.symm
  subst hx
  obtain ⟨hx, h⟩ := h
  replace hx := hx.symm
  subst hx
  refine Rn_ifne rfl (fun hc => ?_) (fun hc => ?_)
  · have h := h.1 hc
    refine Rn_pure 1 (i' := 6) (L' := [some (2, 161)]) (st' := [(2, 161)]) rfl ?_
    refine Rn_getR rfl (⟨rfl, (by omega : (0 : Int) ≤ 161), (by omega : (161 : Int) + 1 < K ∧ 5 < K)⟩) (hr 149 _ rfl) (by decide) ?_
    refine Rn_pure 2 (i' := 9) (L' := [some (2, 161)]) (st' := [(2, 161), (0, 9), (2, 174)]) rfl ?_
    refine Rn_callI [(2, 161)] [(0, 9), (2, 174)] rfl rfl rfl rfl (ab_rvB_of rfl (⟨rfl, (by omega : (0 : Int) ≤ 161), (by omega : (161 : Int) + 1 < K ∧ 5 < K)⟩)) ?_
    refine h.mono (fun x2 g' r' h => ?_)
    obtain ⟨hx, h⟩ := h
    replace hx := hx.symm
    subst hx
    obtain ⟨hx, h⟩ := h
    replace hx := hx.symm
    subst hx
    refine Rn_pure 5 (i' := 15) (L' := [some (2, 161)]) (st' := [(0, 9 * (x2 - 1) + 3), (2, 174)]) rfl ?_
    obtain ⟨hg, h⟩ := h
    refine Rn_iald rfl (⟨rfl, (by omega : (0 : Int) ≤ 174), (by omega : (174 : Int) + 1 < K ∧ 5 < K)⟩) hg ?_
    exact Rn_ret1 rfl h
  · have h := h.2 hc
    refine Rn_pure 2 (i' := 16) (L' := [some (2, 161)]) (st' := [(0, 0)]) rfl ?_
    exact Rn_ret1 rfl h
-- EventLedgerModel.eventOf (IIIIIII)I
theorem v_M_eventOf {K : Int} {S : Nat} {g r : ab_H} {p1 p2 p3 p4 p5 p6 p7 : Int} (P : Int → ab_H → ab_H → Prop) (hr : SI r) (hK : 186 ≤ K) (h : ((¬ wr p1 = wr 6 → ((wr p1 < wr 0 → ab_Rn m_M_eventOf 25 [none, none, none, none, none, none, none, none, none, none] [] (K, S, g, r) (ab_Qi K S P)) ∧ (wr 0 ≤ wr p1 → ((wr 6 < wr p1 → ab_Rn m_M_eventOf 25 [none, none, none, none, none, none, none, none, none, none] [] (K, S, g, r) (ab_Qi K S P)) ∧ (wr p1 ≤ wr 6 → ab_RI m_M_isAccount [(2, 161), (0, p2)] K S g r (fun x1 g' r' => g' = g ∧ r' = r ∧ (((wr x1 = wr 0 → ab_Rn m_M_eventOf 25 [none, none, none, none, none, none, none, none, none, none] [] (K, S, g, r) (ab_Qi K S P)) ∧ (¬ wr x1 = wr 0 → ((wr 0 = wr 0 → ab_Rn m_M_eventOf 27 [some (2, 161), some (0, p1), some (0, p2), some (0, p3), some (0, p4), some (0, p5), some (0, p6), some (0, p7), some (0, 0), none] [] (K, S, g, r) (ab_Qi K S P)) ∧ (¬ wr 0 = wr 0 → ab_RI m_M_isAccount [(2, 161), (0, p3)] K S g r (fun x2 g' r' => g' = g ∧ r' = r ∧ (((wr x2 = wr 0 → ab_Rn m_M_eventOf 25 [none, none, none, none, none, none, none, none, none, none] [] (K, S, g, r) (ab_Qi K S P)) ∧ (¬ wr x2 = wr 0 → ((¬ wr p3 = wr p2 → ab_Rn m_M_eventOf 27 [some (2, 161), some (0, p1), some (0, p2), some (0, p3), some (0, p4), some (0, p5), some (0, p6), some (0, p7), some (0, 0), none] [] (K, S, g, r) (ab_Qi K S P)) ∧ (wr p3 = wr p2 → ab_Rn m_M_eventOf 25 [none, none, none, none, none, none, none, none, none, none] [] (K, S, g, r) (ab_Qi K S P)))))))))))))))))) ∧ (wr p1 = wr 6 → ((wr p1 < wr 0 → ab_Rn m_M_eventOf 25 [none, none, none, none, none, none, none, none, none, none] [] (K, S, g, r) (ab_Qi K S P)) ∧ (wr 0 ≤ wr p1 → ((wr 6 < wr p1 → ab_Rn m_M_eventOf 25 [none, none, none, none, none, none, none, none, none, none] [] (K, S, g, r) (ab_Qi K S P)) ∧ (wr p1 ≤ wr 6 → ab_RI m_M_isAccount [(2, 161), (0, p2)] K S g r (fun x3 g' r' => g' = g ∧ r' = r ∧ (((wr x3 = wr 0 → ab_Rn m_M_eventOf 25 [none, none, none, none, none, none, none, none, none, none] [] (K, S, g, r) (ab_Qi K S P)) ∧ (¬ wr x3 = wr 0 → ((wr 1 = wr 0 → ab_Rn m_M_eventOf 27 [some (2, 161), some (0, p1), some (0, p2), some (0, p3), some (0, p4), some (0, p5), some (0, p6), some (0, p7), some (0, 1), none] [] (K, S, g, r) (ab_Qi K S P)) ∧ (¬ wr 1 = wr 0 → ab_RI m_M_isAccount [(2, 161), (0, p3)] K S g r (fun x4 g' r' => g' = g ∧ r' = r ∧ (((wr x4 = wr 0 → ab_Rn m_M_eventOf 25 [none, none, none, none, none, none, none, none, none, none] [] (K, S, g, r) (ab_Qi K S P)) ∧ (¬ wr x4 = wr 0 → ((¬ wr p3 = wr p2 → ab_Rn m_M_eventOf 27 [some (2, 161), some (0, p1), some (0, p2), some (0, p3), some (0, p4), some (0, p5), some (0, p6), some (0, p7), some (0, 1), none] [] (K, S, g, r) (ab_Qi K S P)) ∧ (wr p3 = wr p2 → ab_Rn m_M_eventOf 25 [none, none, none, none, none, none, none, none, none, none] [] (K, S, g, r) (ab_Qi K S P)))))))))))))))))))) : ab_RI m_M_eventOf [(2, 161), (0, p1), (0, p2), (0, p3), (0, p4), (0, p5), (0, p6), (0, p7)] K S g r P := by
  show ab_Rn m_M_eventOf 0 [some (2, 161), some (0, p1), some (0, p2), some (0, p3), some (0, p4), some (0, p5), some (0, p6), some (0, p7), none, none] [] (K, S, g, r) (ab_Qi K S P)
  refine Rn_pure 2 (i' := 2) (L' := [some (2, 161), some (0, p1), some (0, p2), some (0, p3), some (0, p4), some (0, p5), some (0, p6), some (0, p7), none, none]) (st' := [(0, 6), (0, p1)]) rfl ?_
  refine Rn_icne rfl (fun hc => ?_) (fun hc => ?_)
  · have h := h.1 hc
    refine Rn_pure 3 (i' := 8) (L' := [some (2, 161), some (0, p1), some (0, p2), some (0, p3), some (0, p4), some (0, p5), some (0, p6), some (0, p7), some (0, 0), none]) (st' := [(0, p1)]) rfl ?_
    refine Rn_iflt rfl (fun hc => ?_) (fun hc => ?_)
    · have h := h.1 hc
      refine Rn_weak (L' := [none, none, none, none, none, none, none, none, none, none]) trivial ?_
      exact h
    · have h := h.2 hc
      refine Rn_pure 2 (i' := 11) (L' := [some (2, 161), some (0, p1), some (0, p2), some (0, p3), some (0, p4), some (0, p5), some (0, p6), some (0, p7), some (0, 0), none]) (st' := [(0, 6), (0, p1)]) rfl ?_
      refine Rn_icgt rfl (fun hc => ?_) (fun hc => ?_)
      · have h := h.1 hc
        refine Rn_weak (L' := [none, none, none, none, none, none, none, none, none, none]) trivial ?_
        exact h
      · have h := h.2 hc
        refine Rn_pure 2 (i' := 14) (L' := [some (2, 161), some (0, p1), some (0, p2), some (0, p3), some (0, p4), some (0, p5), some (0, p6), some (0, p7), some (0, 0), none]) (st' := [(0, p2), (2, 161)]) rfl ?_
        refine Rn_callI [(2, 161), (0, p2)] [] rfl rfl rfl rfl (ab_rvB_of rfl (⟨rfl, (by omega : (0 : Int) ≤ 161), (by omega : (161 : Int) + 1 < K ∧ 5 < K)⟩)) ?_
        refine h.mono (fun x1 g' r' h => ?_)
        obtain ⟨hx, h⟩ := h
        replace hx := hx.symm
        subst hx
        obtain ⟨hx, h⟩ := h
        replace hx := hx.symm
        subst hx
        refine Rn_ifeq rfl (fun hc => ?_) (fun hc => ?_)
        · have h := h.1 hc
          refine Rn_weak (L' := [none, none, none, none, none, none, none, none, none, none]) trivial ?_
          exact h
        · have h := h.2 hc
          refine Rn_pure 1 (i' := 17) (L' := [some (2, 161), some (0, p1), some (0, p2), some (0, p3), some (0, p4), some (0, p5), some (0, p6), some (0, p7), some (0, 0), none]) (st' := [(0, 0)]) rfl ?_
          refine Rn_ifeq rfl (fun hc => ?_) (fun hc => ?_)
          · have h := h.1 hc
            exact h
          · have h := h.2 hc
            refine Rn_pure 2 (i' := 20) (L' := [some (2, 161), some (0, p1), some (0, p2), some (0, p3), some (0, p4), some (0, p5), some (0, p6), some (0, p7), some (0, 0), none]) (st' := [(0, p3), (2, 161)]) rfl ?_
            refine Rn_callI [(2, 161), (0, p3)] [] rfl rfl rfl rfl (ab_rvB_of rfl (⟨rfl, (by omega : (0 : Int) ≤ 161), (by omega : (161 : Int) + 1 < K ∧ 5 < K)⟩)) ?_
            refine h.mono (fun x2 g' r' h => ?_)
            obtain ⟨hx, h⟩ := h
            replace hx := hx.symm
            subst hx
            obtain ⟨hx, h⟩ := h
            replace hx := hx.symm
            subst hx
            refine Rn_ifeq rfl (fun hc => ?_) (fun hc => ?_)
            · have h := h.1 hc
              refine Rn_weak (L' := [none, none, none, none, none, none, none, none, none, none]) trivial ?_
              exact h
            · have h := h.2 hc
              refine Rn_pure 2 (i' := 24) (L' := [some (2, 161), some (0, p1), some (0, p2), some (0, p3), some (0, p4), some (0, p5), some (0, p6), some (0, p7), some (0, 0), none]) (st' := [(0, p2), (0, p3)]) rfl ?_
              refine Rn_icne rfl (fun hc => ?_) (fun hc => ?_)
              · have h := h.1 hc
                exact h
              · have h := h.2 hc
                refine Rn_weak (L' := [none, none, none, none, none, none, none, none, none, none]) trivial ?_
                exact h
  · have h := h.2 hc
    refine Rn_pure 4 (i' := 8) (L' := [some (2, 161), some (0, p1), some (0, p2), some (0, p3), some (0, p4), some (0, p5), some (0, p6), some (0, p7), some (0, 1), none]) (st' := [(0, p1)]) rfl ?_
    refine Rn_iflt rfl (fun hc => ?_) (fun hc => ?_)
    · have h := h.1 hc
      refine Rn_weak (L' := [none, none, none, none, none, none, none, none, none, none]) trivial ?_
      exact h
    · have h := h.2 hc
      refine Rn_pure 2 (i' := 11) (L' := [some (2, 161), some (0, p1), some (0, p2), some (0, p3), some (0, p4), some (0, p5), some (0, p6), some (0, p7), some (0, 1), none]) (st' := [(0, 6), (0, p1)]) rfl ?_
      refine Rn_icgt rfl (fun hc => ?_) (fun hc => ?_)
      · have h := h.1 hc
        refine Rn_weak (L' := [none, none, none, none, none, none, none, none, none, none]) trivial ?_
        exact h
      · have h := h.2 hc
        refine Rn_pure 2 (i' := 14) (L' := [some (2, 161), some (0, p1), some (0, p2), some (0, p3), some (0, p4), some (0, p5), some (0, p6), some (0, p7), some (0, 1), none]) (st' := [(0, p2), (2, 161)]) rfl ?_
        refine Rn_callI [(2, 161), (0, p2)] [] rfl rfl rfl rfl (ab_rvB_of rfl (⟨rfl, (by omega : (0 : Int) ≤ 161), (by omega : (161 : Int) + 1 < K ∧ 5 < K)⟩)) ?_
        refine h.mono (fun x3 g' r' h => ?_)
        obtain ⟨hx, h⟩ := h
        replace hx := hx.symm
        subst hx
        obtain ⟨hx, h⟩ := h
        replace hx := hx.symm
        subst hx
        refine Rn_ifeq rfl (fun hc => ?_) (fun hc => ?_)
        · have h := h.1 hc
          refine Rn_weak (L' := [none, none, none, none, none, none, none, none, none, none]) trivial ?_
          exact h
        · have h := h.2 hc
          refine Rn_pure 1 (i' := 17) (L' := [some (2, 161), some (0, p1), some (0, p2), some (0, p3), some (0, p4), some (0, p5), some (0, p6), some (0, p7), some (0, 1), none]) (st' := [(0, 1)]) rfl ?_
          refine Rn_ifeq rfl (fun hc => ?_) (fun hc => ?_)
          · have h := h.1 hc
            exact h
          · have h := h.2 hc
            refine Rn_pure 2 (i' := 20) (L' := [some (2, 161), some (0, p1), some (0, p2), some (0, p3), some (0, p4), some (0, p5), some (0, p6), some (0, p7), some (0, 1), none]) (st' := [(0, p3), (2, 161)]) rfl ?_
            refine Rn_callI [(2, 161), (0, p3)] [] rfl rfl rfl rfl (ab_rvB_of rfl (⟨rfl, (by omega : (0 : Int) ≤ 161), (by omega : (161 : Int) + 1 < K ∧ 5 < K)⟩)) ?_
            refine h.mono (fun x4 g' r' h => ?_)
            obtain ⟨hx, h⟩ := h
            replace hx := hx.symm
            subst hx
            obtain ⟨hx, h⟩ := h
            replace hx := hx.symm
            subst hx
            refine Rn_ifeq rfl (fun hc => ?_) (fun hc => ?_)
            · have h := h.1 hc
              refine Rn_weak (L' := [none, none, none, none, none, none, none, none, none, none]) trivial ?_
              exact h
            · have h := h.2 hc
              refine Rn_pure 2 (i' := 24) (L' := [some (2, 161), some (0, p1), some (0, p2), some (0, p3), some (0, p4), some (0, p5), some (0, p6), some (0, p7), some (0, 1), none]) (st' := [(0, p2), (0, p3)]) rfl ?_
              refine Rn_icne rfl (fun hc => ?_) (fun hc => ?_)
              · have h := h.1 hc
                exact h
              · have h := h.2 hc
                refine Rn_weak (L' := [none, none, none, none, none, none, none, none, none, none]) trivial ?_
                exact h
theorem v_M_eventOf_25 {K : Int} {S : Nat} {g r : ab_H} (P : Int → ab_H → ab_H → Prop) (hr : SI r) (hK : 186 ≤ K) (h : P (-1) g r) : ab_Rn m_M_eventOf 25 [none, none, none, none, none, none, none, none, none, none] [] (K, S, g, r) (ab_Qi K S P) := by
  refine Rn_pure 1 (i' := 26) (L' := [none, none, none, none, none, none, none, none, none, none]) (st' := [(0, (-1))]) rfl ?_
  exact Rn_ret1 rfl h
theorem v_M_eventOf_27 {K : Int} {S : Nat} {g r : ab_H} {l1 l2 l3 l4 l5 l6 l7 l8 : Int} (P : Int → ab_H → ab_H → Prop) (hr : SI r) (hK : 186 ≤ K) (h : ab_RI m_M_isTime [(0, l4)] K S g r (fun x1 g' r' => g' = g ∧ r' = r ∧ (((wr x1 = wr 0 → ab_Rn m_M_eventOf 40 [none, none, none, none, none, none, none, none, none, none] [] (K, S, g, r) (ab_Qi K S P)) ∧ (¬ wr x1 = wr 0 → ((wr l6 < wr 0 → ab_Rn m_M_eventOf 40 [none, none, none, none, none, none, none, none, none, none] [] (K, S, g, r) (ab_Qi K S P)) ∧ (wr 0 ≤ wr l6 → ((wr 99999 < wr l6 → ab_Rn m_M_eventOf 40 [none, none, none, none, none, none, none, none, none, none] [] (K, S, g, r) (ab_Qi K S P)) ∧ (wr l6 ≤ wr 99999 → ((wr l7 < wr 0 → ab_Rn m_M_eventOf 40 [none, none, none, none, none, none, none, none, none, none] [] (K, S, g, r) (ab_Qi K S P)) ∧ (wr 0 ≤ wr l7 → ((wr l7 ≤ wr 99999 → ab_RI m_M_latestTime [(2, 161)] K S g r (fun x2 g' r' => g' = g ∧ r' = r ∧ (((wr x2 ≤ wr l4 → ab_RI m_M_many [(2, 161)] K S g r (fun x3 g' r' => g' = g ∧ r' = r ∧ (((¬ wr x3 = wr 120 → ab_RV m_M_remembers [(2, 161)] K S g r (fun g4 r' => r' = r ∧ (((wr l8 = wr 0 → ab_RV m_M_comes [(2, 161), (0, l1), (0, l2), (0, (-2)), (0, l4), (0, l5)] K S g4 r (fun g6 r' => r' = r ∧ (ab_RI m_M_many [(2, 161)] K S g6 r (fun x8 g' r' => g' = g6 ∧ r' = r ∧ (((0 : Int) ≤ 9 * (x8 - 1) + 5 ∧ (9 * (x8 - 1) + 5 : Int) < 1607) ∧ ∀ g9, g9 = ab_up g6 174 (9 * (x8 - 1) + 5) l6 → ((0 : Int) ≤ 9 * (x8 - 1) + 5 + 1 ∧ (9 * (x8 - 1) + 5 + 1 : Int) < 1607) ∧ ∀ g10, g10 = ab_up g9 174 (9 * (x8 - 1) + 5 + 1) l7 → P (x8 - 1) g10 r))))) ∧ (¬ wr l8 = wr 0 → ab_RV m_M_comes [(2, 161), (0, l1), (0, l2), (0, l3), (0, l4), (0, l5)] K S g4 r (fun g11 r' => r' = r ∧ (ab_RI m_M_many [(2, 161)] K S g11 r (fun x13 g' r' => g' = g11 ∧ r' = r ∧ (((0 : Int) ≤ 9 * (x13 - 1) + 5 ∧ (9 * (x13 - 1) + 5 : Int) < 1607) ∧ ∀ g14, g14 = ab_up g11 174 (9 * (x13 - 1) + 5) l6 → ((0 : Int) ≤ 9 * (x13 - 1) + 5 + 1 ∧ (9 * (x13 - 1) + 5 + 1 : Int) < 1607) ∧ ∀ g15, g15 = ab_up g14 174 (9 * (x13 - 1) + 5 + 1) l7 → P (x13 - 1) g15 r))))))))) ∧ (wr x3 = wr 120 → P (-3) g r))))) ∧ (wr l4 < wr x2 → P (-2) g r))))) ∧ (wr 99999 < wr l7 → ab_Rn m_M_eventOf 40 [none, none, none, none, none, none, none, none, none, none] [] (K, S, g, r) (ab_Qi K S P)))))))))))))) : ab_Rn m_M_eventOf 27 [some (2, 161), some (0, l1), some (0, l2), some (0, l3), some (0, l4), some (0, l5), some (0, l6), some (0, l7), some (0, l8), none] [] (K, S, g, r) (ab_Qi K S P) := by
  refine Rn_pure 1 (i' := 28) (L' := [some (2, 161), some (0, l1), some (0, l2), some (0, l3), some (0, l4), some (0, l5), some (0, l6), some (0, l7), some (0, l8), none]) (st' := [(0, l4)]) rfl ?_
  refine Rn_callI [(0, l4)] [] rfl rfl rfl rfl (rfl) ?_
  refine h.mono (fun x1 g' r' h => ?_)
  obtain ⟨hx, h⟩ := h
  replace hx := hx.symm
  subst hx
  obtain ⟨hx, h⟩ := h
  replace hx := hx.symm
  subst hx
  refine Rn_ifeq rfl (fun hc => ?_) (fun hc => ?_)
  · have h := h.1 hc
    refine Rn_weak (L' := [none, none, none, none, none, none, none, none, none, none]) trivial ?_
    exact h
  · have h := h.2 hc
    refine Rn_pure 1 (i' := 31) (L' := [some (2, 161), some (0, l1), some (0, l2), some (0, l3), some (0, l4), some (0, l5), some (0, l6), some (0, l7), some (0, l8), none]) (st' := [(0, l6)]) rfl ?_
    refine Rn_iflt rfl (fun hc => ?_) (fun hc => ?_)
    · have h := h.1 hc
      refine Rn_weak (L' := [none, none, none, none, none, none, none, none, none, none]) trivial ?_
      exact h
    · have h := h.2 hc
      refine Rn_pure 2 (i' := 34) (L' := [some (2, 161), some (0, l1), some (0, l2), some (0, l3), some (0, l4), some (0, l5), some (0, l6), some (0, l7), some (0, l8), none]) (st' := [(0, 99999), (0, l6)]) rfl ?_
      refine Rn_icgt rfl (fun hc => ?_) (fun hc => ?_)
      · have h := h.1 hc
        refine Rn_weak (L' := [none, none, none, none, none, none, none, none, none, none]) trivial ?_
        exact h
      · have h := h.2 hc
        refine Rn_pure 1 (i' := 36) (L' := [some (2, 161), some (0, l1), some (0, l2), some (0, l3), some (0, l4), some (0, l5), some (0, l6), some (0, l7), some (0, l8), none]) (st' := [(0, l7)]) rfl ?_
        refine Rn_iflt rfl (fun hc => ?_) (fun hc => ?_)
        · have h := h.1 hc
          refine Rn_weak (L' := [none, none, none, none, none, none, none, none, none, none]) trivial ?_
          exact h
        · have h := h.2 hc
          refine Rn_pure 2 (i' := 39) (L' := [some (2, 161), some (0, l1), some (0, l2), some (0, l3), some (0, l4), some (0, l5), some (0, l6), some (0, l7), some (0, l8), none]) (st' := [(0, 99999), (0, l7)]) rfl ?_
          refine Rn_icle rfl (fun hc => ?_) (fun hc => ?_)
          · have h := h.1 hc
            refine Rn_pure 2 (i' := 44) (L' := [some (2, 161), some (0, l1), some (0, l2), some (0, l3), some (0, l4), some (0, l5), some (0, l6), some (0, l7), some (0, l8), none]) (st' := [(2, 161), (0, l4)]) rfl ?_
            refine Rn_callI [(2, 161)] [(0, l4)] rfl rfl rfl rfl (ab_rvB_of rfl (⟨rfl, (by omega : (0 : Int) ≤ 161), (by omega : (161 : Int) + 1 < K ∧ 5 < K)⟩)) ?_
            refine h.mono (fun x2 g' r' h => ?_)
            obtain ⟨hx, h⟩ := h
            replace hx := hx.symm
            subst hx
            obtain ⟨hx, h⟩ := h
            replace hx := hx.symm
            subst hx
            refine Rn_icge rfl (fun hc => ?_) (fun hc => ?_)
            · have h := h.1 hc
              refine Rn_pure 1 (i' := 49) (L' := [some (2, 161), some (0, l1), some (0, l2), some (0, l3), some (0, l4), some (0, l5), some (0, l6), some (0, l7), some (0, l8), none]) (st' := [(2, 161)]) rfl ?_
              refine Rn_callI [(2, 161)] [] rfl rfl rfl rfl (ab_rvB_of rfl (⟨rfl, (by omega : (0 : Int) ≤ 161), (by omega : (161 : Int) + 1 < K ∧ 5 < K)⟩)) ?_
              refine h.mono (fun x3 g' r' h => ?_)
              obtain ⟨hx, h⟩ := h
              replace hx := hx.symm
              subst hx
              obtain ⟨hx, h⟩ := h
              replace hx := hx.symm
              subst hx
              refine Rn_pure 1 (i' := 51) (L' := [some (2, 161), some (0, l1), some (0, l2), some (0, l3), some (0, l4), some (0, l5), some (0, l6), some (0, l7), some (0, l8), none]) (st' := [(0, 120), (0, x3)]) rfl ?_
              refine Rn_icne rfl (fun hc => ?_) (fun hc => ?_)
              · have h := h.1 hc
                refine Rn_pure 1 (i' := 55) (L' := [some (2, 161), some (0, l1), some (0, l2), some (0, l3), some (0, l4), some (0, l5), some (0, l6), some (0, l7), some (0, l8), none]) (st' := [(2, 161)]) rfl ?_
                refine Rn_callV [(2, 161)] [] rfl rfl rfl rfl (ab_rvB_of rfl (⟨rfl, (by omega : (0 : Int) ≤ 161), (by omega : (161 : Int) + 1 < K ∧ 5 < K)⟩)) ?_
                refine h.mono (fun g4 r' h => ?_)
                obtain ⟨hx, h⟩ := h
                replace hx := hx.symm
                subst hx
                refine Rn_pure 4 (i' := 60) (L' := [some (2, 161), some (0, l1), some (0, l2), some (0, l3), some (0, l4), some (0, l5), some (0, l6), some (0, l7), some (0, l8), none]) (st' := [(0, l8), (0, l2), (0, l1), (2, 161)]) rfl ?_
                refine Rn_ifeq rfl (fun hc => ?_) (fun hc => ?_)
                · have h := h.1 hc
                  refine Rn_pure 3 (i' := 66) (L' := [some (2, 161), some (0, l1), some (0, l2), some (0, l3), some (0, l4), some (0, l5), some (0, l6), some (0, l7), some (0, l8), none]) (st' := [(0, l5), (0, l4), (0, (-2)), (0, l2), (0, l1), (2, 161)]) rfl ?_
                  refine Rn_callV [(2, 161), (0, l1), (0, l2), (0, (-2)), (0, l4), (0, l5)] [] rfl rfl rfl rfl (ab_rvB_of rfl (⟨rfl, (by omega : (0 : Int) ≤ 161), (by omega : (161 : Int) + 1 < K ∧ 5 < K)⟩)) ?_
                  refine h.mono (fun g6 r' h => ?_)
                  obtain ⟨hx, h⟩ := h
                  replace hx := hx.symm
                  subst hx
                  refine Rn_pure 1 (i' := 68) (L' := [some (2, 161), some (0, l1), some (0, l2), some (0, l3), some (0, l4), some (0, l5), some (0, l6), some (0, l7), some (0, l8), none]) (st' := [(2, 161)]) rfl ?_
                  refine Rn_callI [(2, 161)] [] rfl rfl rfl rfl (ab_rvB_of rfl (⟨rfl, (by omega : (0 : Int) ≤ 161), (by omega : (161 : Int) + 1 < K ∧ 5 < K)⟩)) ?_
                  refine h.mono (fun x8 g' r' h => ?_)
                  obtain ⟨hx, h⟩ := h
                  replace hx := hx.symm
                  subst hx
                  obtain ⟨hx, h⟩ := h
                  replace hx := hx.symm
                  subst hx
                  refine Rn_pure 4 (i' := 73) (L' := [some (2, 161), some (0, l1), some (0, l2), some (0, l3), some (0, l4), some (0, l5), some (0, l6), some (0, l7), some (0, l8), some (0, x8 - 1)]) (st' := [(2, 161)]) rfl ?_
                  refine Rn_getR rfl (⟨rfl, (by omega : (0 : Int) ≤ 161), (by omega : (161 : Int) + 1 < K ∧ 5 < K)⟩) (hr 149 _ rfl) (by decide) ?_
                  refine Rn_pure 6 (i' := 80) (L' := [some (2, 161), some (0, l1), some (0, l2), some (0, l3), some (0, l4), some (0, l5), some (0, l6), some (0, l7), some (0, l8), some (0, x8 - 1)]) (st' := [(0, l6), (0, 9 * (x8 - 1) + 5), (2, 174)]) rfl ?_
                  obtain ⟨hg, h⟩ := h
                  refine Rn_iast rfl (⟨rfl, (by omega : (0 : Int) ≤ 174), (by omega : (174 : Int) + 1 < K ∧ 5 < K)⟩) hg (fun g9 he_g9 => ?_)
                  have h := h g9 he_g9
                  refine Rn_pure 1 (i' := 82) (L' := [some (2, 161), some (0, l1), some (0, l2), some (0, l3), some (0, l4), some (0, l5), some (0, l6), some (0, l7), some (0, l8), some (0, x8 - 1)]) (st' := [(2, 161)]) rfl ?_
                  refine Rn_getR rfl (⟨rfl, (by omega : (0 : Int) ≤ 161), (by omega : (161 : Int) + 1 < K ∧ 5 < K)⟩) (hr 149 _ rfl) (by decide) ?_
                  refine Rn_pure 8 (i' := 91) (L' := [some (2, 161), some (0, l1), some (0, l2), some (0, l3), some (0, l4), some (0, l5), some (0, l6), some (0, l7), some (0, l8), some (0, x8 - 1)]) (st' := [(0, l7), (0, 9 * (x8 - 1) + 5 + 1), (2, 174)]) rfl ?_
                  obtain ⟨hg, h⟩ := h
                  refine Rn_iast rfl (⟨rfl, (by omega : (0 : Int) ≤ 174), (by omega : (174 : Int) + 1 < K ∧ 5 < K)⟩) hg (fun g10 he_g10 => ?_)
                  have h := h g10 he_g10
                  refine Rn_pure 1 (i' := 93) (L' := [some (2, 161), some (0, l1), some (0, l2), some (0, l3), some (0, l4), some (0, l5), some (0, l6), some (0, l7), some (0, l8), some (0, x8 - 1)]) (st' := [(0, x8 - 1)]) rfl ?_
                  exact Rn_ret1 rfl h
                · have h := h.2 hc
                  refine Rn_pure 4 (i' := 66) (L' := [some (2, 161), some (0, l1), some (0, l2), some (0, l3), some (0, l4), some (0, l5), some (0, l6), some (0, l7), some (0, l8), none]) (st' := [(0, l5), (0, l4), (0, l3), (0, l2), (0, l1), (2, 161)]) rfl ?_
                  refine Rn_callV [(2, 161), (0, l1), (0, l2), (0, l3), (0, l4), (0, l5)] [] rfl rfl rfl rfl (ab_rvB_of rfl (⟨rfl, (by omega : (0 : Int) ≤ 161), (by omega : (161 : Int) + 1 < K ∧ 5 < K)⟩)) ?_
                  refine h.mono (fun g11 r' h => ?_)
                  obtain ⟨hx, h⟩ := h
                  replace hx := hx.symm
                  subst hx
                  refine Rn_pure 1 (i' := 68) (L' := [some (2, 161), some (0, l1), some (0, l2), some (0, l3), some (0, l4), some (0, l5), some (0, l6), some (0, l7), some (0, l8), none]) (st' := [(2, 161)]) rfl ?_
                  refine Rn_callI [(2, 161)] [] rfl rfl rfl rfl (ab_rvB_of rfl (⟨rfl, (by omega : (0 : Int) ≤ 161), (by omega : (161 : Int) + 1 < K ∧ 5 < K)⟩)) ?_
                  refine h.mono (fun x13 g' r' h => ?_)
                  obtain ⟨hx, h⟩ := h
                  replace hx := hx.symm
                  subst hx
                  obtain ⟨hx, h⟩ := h
                  replace hx := hx.symm
                  subst hx
                  refine Rn_pure 4 (i' := 73) (L' := [some (2, 161), some (0, l1), some (0, l2), some (0, l3), some (0, l4), some (0, l5), some (0, l6), some (0, l7), some (0, l8), some (0, x13 - 1)]) (st' := [(2, 161)]) rfl ?_
                  refine Rn_getR rfl (⟨rfl, (by omega : (0 : Int) ≤ 161), (by omega : (161 : Int) + 1 < K ∧ 5 < K)⟩) (hr 149 _ rfl) (by decide) ?_
                  refine Rn_pure 6 (i' := 80) (L' := [some (2, 161), some (0, l1), some (0, l2), some (0, l3), some (0, l4), some (0, l5), some (0, l6), some (0, l7), some (0, l8), some (0, x13 - 1)]) (st' := [(0, l6), (0, 9 * (x13 - 1) + 5), (2, 174)]) rfl ?_
                  obtain ⟨hg, h⟩ := h
                  refine Rn_iast rfl (⟨rfl, (by omega : (0 : Int) ≤ 174), (by omega : (174 : Int) + 1 < K ∧ 5 < K)⟩) hg (fun g14 he_g14 => ?_)
                  have h := h g14 he_g14
                  refine Rn_pure 1 (i' := 82) (L' := [some (2, 161), some (0, l1), some (0, l2), some (0, l3), some (0, l4), some (0, l5), some (0, l6), some (0, l7), some (0, l8), some (0, x13 - 1)]) (st' := [(2, 161)]) rfl ?_
                  refine Rn_getR rfl (⟨rfl, (by omega : (0 : Int) ≤ 161), (by omega : (161 : Int) + 1 < K ∧ 5 < K)⟩) (hr 149 _ rfl) (by decide) ?_
                  refine Rn_pure 8 (i' := 91) (L' := [some (2, 161), some (0, l1), some (0, l2), some (0, l3), some (0, l4), some (0, l5), some (0, l6), some (0, l7), some (0, l8), some (0, x13 - 1)]) (st' := [(0, l7), (0, 9 * (x13 - 1) + 5 + 1), (2, 174)]) rfl ?_
                  obtain ⟨hg, h⟩ := h
                  refine Rn_iast rfl (⟨rfl, (by omega : (0 : Int) ≤ 174), (by omega : (174 : Int) + 1 < K ∧ 5 < K)⟩) hg (fun g15 he_g15 => ?_)
                  have h := h g15 he_g15
                  refine Rn_pure 1 (i' := 93) (L' := [some (2, 161), some (0, l1), some (0, l2), some (0, l3), some (0, l4), some (0, l5), some (0, l6), some (0, l7), some (0, l8), some (0, x13 - 1)]) (st' := [(0, x13 - 1)]) rfl ?_
                  exact Rn_ret1 rfl h
              · have h := h.2 hc
                refine Rn_pure 1 (i' := 53) (L' := [some (2, 161), some (0, l1), some (0, l2), some (0, l3), some (0, l4), some (0, l5), some (0, l6), some (0, l7), some (0, l8), none]) (st' := [(0, (-3))]) rfl ?_
                exact Rn_ret1 rfl h
            · have h := h.2 hc
              refine Rn_pure 1 (i' := 47) (L' := [some (2, 161), some (0, l1), some (0, l2), some (0, l3), some (0, l4), some (0, l5), some (0, l6), some (0, l7), some (0, l8), none]) (st' := [(0, (-2))]) rfl ?_
              exact Rn_ret1 rfl h
          · have h := h.2 hc
            refine Rn_weak (L' := [none, none, none, none, none, none, none, none, none, none]) trivial ?_
            exact h
theorem v_M_eventOf_40 {K : Int} {S : Nat} {g r : ab_H} (P : Int → ab_H → ab_H → Prop) (hr : SI r) (hK : 186 ≤ K) (h : P (-1) g r) : ab_Rn m_M_eventOf 40 [none, none, none, none, none, none, none, none, none, none] [] (K, S, g, r) (ab_Qi K S P) := by
  refine Rn_pure 1 (i' := 41) (L' := [none, none, none, none, none, none, none, none, none, none]) (st' := [(0, (-1))]) rfl ?_
  exact Rn_ret1 rfl h
-- EventLedgerModel.event (IIIIII)I
theorem v_M_event {K : Int} {S : Nat} {g r : ab_H} {p1 p2 p3 p4 p5 p6 : Int} (P : Int → ab_H → ab_H → Prop) (hr : SI r) (hK : 186 ≤ K) (h : ∀ g1, g1 = ab_up g 161 0 0 → ab_RI m_M_eventOf [(2, 161), (0, p1), (0, p2), (0, p3), (0, p4), (0, 3), (0, p5), (0, p6)] K S g1 r (fun x3 g2 r' => r' = r ∧ (P x3 g2 r))) : ab_RI m_M_event [(2, 161), (0, p1), (0, p2), (0, p3), (0, p4), (0, p5), (0, p6)] K S g r P := by
  show ab_Rn m_M_event 0 [some (2, 161), some (0, p1), some (0, p2), some (0, p3), some (0, p4), some (0, p5), some (0, p6)] [] (K, S, g, r) (ab_Qi K S P)
  refine Rn_pure 2 (i' := 2) (L' := [some (2, 161), some (0, p1), some (0, p2), some (0, p3), some (0, p4), some (0, p5), some (0, p6)]) (st' := [(0, 0), (2, 161)]) rfl ?_
  refine Rn_putI rfl (⟨rfl, (by omega : (0 : Int) ≤ 161), (by omega : (161 : Int) + 1 < K ∧ 5 < K)⟩) (fun g1 he_g1 => ?_)
  have h := h g1 he_g1
  refine Rn_pure 8 (i' := 11) (L' := [some (2, 161), some (0, p1), some (0, p2), some (0, p3), some (0, p4), some (0, p5), some (0, p6)]) (st' := [(0, p6), (0, p5), (0, 3), (0, p4), (0, p3), (0, p2), (0, p1), (2, 161)]) rfl ?_
  refine Rn_callI [(2, 161), (0, p1), (0, p2), (0, p3), (0, p4), (0, 3), (0, p5), (0, p6)] [] rfl rfl rfl rfl (ab_rvB_of rfl (⟨rfl, (by omega : (0 : Int) ≤ 161), (by omega : (161 : Int) + 1 < K ∧ 5 < K)⟩)) ?_
  refine h.mono (fun x3 g2 r' h => ?_)
  obtain ⟨hx, h⟩ := h
  replace hx := hx.symm
  subst hx
  exact Rn_ret1 rfl h
-- EventLedgerModel.old (IIIII)I
theorem v_M_old {K : Int} {S : Nat} {g r : ab_H} {p1 p2 p3 p4 p5 : Int} (P : Int → ab_H → ab_H → Prop) (hr : SI r) (hK : 186 ≤ K) (h : ∀ g1, g1 = ab_up g 161 0 0 → ab_RI m_M_eventOf [(2, 161), (0, p1), (0, p2), (0, p3), (0, p4), (0, 1), (0, p5), (0, 0)] K S g1 r (fun x3 g2 r' => r' = r ∧ (P x3 g2 r))) : ab_RI m_M_old [(2, 161), (0, p1), (0, p2), (0, p3), (0, p4), (0, p5)] K S g r P := by
  show ab_Rn m_M_old 0 [some (2, 161), some (0, p1), some (0, p2), some (0, p3), some (0, p4), some (0, p5)] [] (K, S, g, r) (ab_Qi K S P)
  refine Rn_pure 2 (i' := 2) (L' := [some (2, 161), some (0, p1), some (0, p2), some (0, p3), some (0, p4), some (0, p5)]) (st' := [(0, 0), (2, 161)]) rfl ?_
  refine Rn_putI rfl (⟨rfl, (by omega : (0 : Int) ≤ 161), (by omega : (161 : Int) + 1 < K ∧ 5 < K)⟩) (fun g1 he_g1 => ?_)
  have h := h g1 he_g1
  refine Rn_pure 8 (i' := 11) (L' := [some (2, 161), some (0, p1), some (0, p2), some (0, p3), some (0, p4), some (0, p5)]) (st' := [(0, 0), (0, p5), (0, 1), (0, p4), (0, p3), (0, p2), (0, p1), (2, 161)]) rfl ?_
  refine Rn_callI [(2, 161), (0, p1), (0, p2), (0, p3), (0, p4), (0, 1), (0, p5), (0, 0)] [] rfl rfl rfl rfl (ab_rvB_of rfl (⟨rfl, (by omega : (0 : Int) ≤ 161), (by omega : (161 : Int) + 1 < K ∧ 5 < K)⟩)) ?_
  refine h.mono (fun x3 g2 r' h => ?_)
  obtain ⟨hx, h⟩ := h
  replace hx := hx.symm
  subst hx
  exact Rn_ret1 rfl h
-- EventLedgerModel.isEvent (I)Z
theorem v_M_isEvent {K : Int} {S : Nat} {g r : ab_H} {p1 : Int} (P : Int → ab_H → ab_H → Prop) (hr : SI r) (hK : 186 ≤ K) (h : ((wr p1 < wr 0 → P 0 g r) ∧ (wr 0 ≤ wr p1 → ab_RI m_M_many [(2, 161)] K S g r (fun x1 g' r' => g' = g ∧ r' = r ∧ (((wr x1 ≤ wr p1 → P 0 g r) ∧ (wr p1 < wr x1 → P 1 g r))))))) : ab_RI m_M_isEvent [(2, 161), (0, p1)] K S g r P := by
  show ab_Rn m_M_isEvent 0 [some (2, 161), some (0, p1)] [] (K, S, g, r) (ab_Qi K S P)
  refine Rn_pure 1 (i' := 1) (L' := [some (2, 161), some (0, p1)]) (st' := [(0, p1)]) rfl ?_
  refine Rn_iflt rfl (fun hc => ?_) (fun hc => ?_)
  · have h := h.1 hc
    refine Rn_pure 1 (i' := 9) (L' := [some (2, 161), some (0, p1)]) (st' := [(0, 0)]) rfl ?_
    exact Rn_ret2 rfl (by decide) h
  · have h := h.2 hc
    refine Rn_pure 2 (i' := 4) (L' := [some (2, 161), some (0, p1)]) (st' := [(2, 161), (0, p1)]) rfl ?_
    refine Rn_callI [(2, 161)] [(0, p1)] rfl rfl rfl rfl (ab_rvB_of rfl (⟨rfl, (by omega : (0 : Int) ≤ 161), (by omega : (161 : Int) + 1 < K ∧ 5 < K)⟩)) ?_
    refine h.mono (fun x1 g' r' h => ?_)
    obtain ⟨hx, h⟩ := h
    replace hx := hx.symm
    subst hx
    obtain ⟨hx, h⟩ := h
    replace hx := hx.symm
    subst hx
    refine Rn_icge rfl (fun hc => ?_) (fun hc => ?_)
    · have h := h.1 hc
      refine Rn_pure 1 (i' := 9) (L' := [some (2, 161), some (0, p1)]) (st' := [(0, 0)]) rfl ?_
      exact Rn_ret2 rfl (by decide) h
    · have h := h.2 hc
      refine Rn_pure 2 (i' := 9) (L' := [some (2, 161), some (0, p1)]) (st' := [(0, 1)]) rfl ?_
      exact Rn_ret2 rfl (by decide) h
-- EventLedgerModel.revoke (II)I
theorem v_M_revoke {K : Int} {S : Nat} {g r : ab_H} {p1 p2 : Int} (P : Int → ab_H → ab_H → Prop) (hr : SI r) (hK : 186 ≤ K) (h : ∀ g1, g1 = ab_up g 161 0 0 → ab_RI m_M_isEvent [(2, 161), (0, p1)] K S g1 r (fun x2 g' r' => g' = g1 ∧ r' = r ∧ (((wr x2 = wr 0 → P (-1) g1 r) ∧ (¬ wr x2 = wr 0 → ab_RI m_M_isTime [(0, p2)] K S g1 r (fun x3 g' r' => g' = g1 ∧ r' = r ∧ (((wr x3 = wr 0 → P (-1) g1 r) ∧ (¬ wr x3 = wr 0 → ab_RI m_M_isVoid [(2, 161), (0, p1)] K S g1 r (fun x4 g' r' => g' = g1 ∧ r' = r ∧ (((¬ wr x4 = wr 0 → P (-1) g1 r) ∧ (wr x4 = wr 0 → ab_RI m_M_isVoided [(2, 161), (0, p1)] K S g1 r (fun x5 g' r' => g' = g1 ∧ r' = r ∧ (((wr x5 = wr 0 → ab_RI m_M_latestTime [(2, 161)] K S g1 r (fun x6 g' r' => g' = g1 ∧ r' = r ∧ (((wr x6 ≤ wr p2 → ab_RI m_M_many [(2, 161)] K S g1 r (fun x7 g' r' => g' = g1 ∧ r' = r ∧ (((¬ wr x7 = wr 120 → ab_RV m_M_remembers [(2, 161)] K S g1 r (fun g8 r' => r' = r ∧ (ab_RV m_M_comes [(2, 161), (0, 7), (0, (-2)), (0, p1), (0, p2), (0, 0)] K S g8 r (fun g10 r' => r' = r ∧ (ab_RI m_M_many [(2, 161)] K S g10 r (fun x12 g' r' => g' = g10 ∧ r' = r ∧ (P (x12 - 1) g10 r))))))) ∧ (wr x7 = wr 120 → P (-3) g1 r))))) ∧ (wr p2 < wr x6 → P (-2) g1 r))))) ∧ (¬ wr x5 = wr 0 → P (-1) g1 r))))))))))))))))) : ab_RI m_M_revoke [(2, 161), (0, p1), (0, p2)] K S g r P := by
  show ab_Rn m_M_revoke 0 [some (2, 161), some (0, p1), some (0, p2)] [] (K, S, g, r) (ab_Qi K S P)
  refine Rn_pure 2 (i' := 2) (L' := [some (2, 161), some (0, p1), some (0, p2)]) (st' := [(0, 0), (2, 161)]) rfl ?_
  refine Rn_putI rfl (⟨rfl, (by omega : (0 : Int) ≤ 161), (by omega : (161 : Int) + 1 < K ∧ 5 < K)⟩) (fun g1 he_g1 => ?_)
  have h := h g1 he_g1
  refine Rn_pure 2 (i' := 5) (L' := [some (2, 161), some (0, p1), some (0, p2)]) (st' := [(0, p1), (2, 161)]) rfl ?_
  refine Rn_callI [(2, 161), (0, p1)] [] rfl rfl rfl rfl (ab_rvB_of rfl (⟨rfl, (by omega : (0 : Int) ≤ 161), (by omega : (161 : Int) + 1 < K ∧ 5 < K)⟩)) ?_
  refine h.mono (fun x2 g' r' h => ?_)
  obtain ⟨hx, h⟩ := h
  replace hx := hx.symm
  subst hx
  obtain ⟨hx, h⟩ := h
  replace hx := hx.symm
  subst hx
  refine Rn_ifeq rfl (fun hc => ?_) (fun hc => ?_)
  · have h := h.1 hc
    refine Rn_pure 1 (i' := 19) (L' := [some (2, 161), some (0, p1), some (0, p2)]) (st' := [(0, (-1))]) rfl ?_
    exact Rn_ret1 rfl h
  · have h := h.2 hc
    refine Rn_pure 1 (i' := 8) (L' := [some (2, 161), some (0, p1), some (0, p2)]) (st' := [(0, p2)]) rfl ?_
    refine Rn_callI [(0, p2)] [] rfl rfl rfl rfl (rfl) ?_
    refine h.mono (fun x3 g' r' h => ?_)
    obtain ⟨hx, h⟩ := h
    replace hx := hx.symm
    subst hx
    obtain ⟨hx, h⟩ := h
    replace hx := hx.symm
    subst hx
    refine Rn_ifeq rfl (fun hc => ?_) (fun hc => ?_)
    · have h := h.1 hc
      refine Rn_pure 1 (i' := 19) (L' := [some (2, 161), some (0, p1), some (0, p2)]) (st' := [(0, (-1))]) rfl ?_
      exact Rn_ret1 rfl h
    · have h := h.2 hc
      refine Rn_pure 2 (i' := 12) (L' := [some (2, 161), some (0, p1), some (0, p2)]) (st' := [(0, p1), (2, 161)]) rfl ?_
      refine Rn_callI [(2, 161), (0, p1)] [] rfl rfl rfl rfl (ab_rvB_of rfl (⟨rfl, (by omega : (0 : Int) ≤ 161), (by omega : (161 : Int) + 1 < K ∧ 5 < K)⟩)) ?_
      refine h.mono (fun x4 g' r' h => ?_)
      obtain ⟨hx, h⟩ := h
      replace hx := hx.symm
      subst hx
      obtain ⟨hx, h⟩ := h
      replace hx := hx.symm
      subst hx
      refine Rn_ifne rfl (fun hc => ?_) (fun hc => ?_)
      · have h := h.1 hc
        refine Rn_pure 1 (i' := 19) (L' := [some (2, 161), some (0, p1), some (0, p2)]) (st' := [(0, (-1))]) rfl ?_
        exact Rn_ret1 rfl h
      · have h := h.2 hc
        refine Rn_pure 2 (i' := 16) (L' := [some (2, 161), some (0, p1), some (0, p2)]) (st' := [(0, p1), (2, 161)]) rfl ?_
        refine Rn_callI [(2, 161), (0, p1)] [] rfl rfl rfl rfl (ab_rvB_of rfl (⟨rfl, (by omega : (0 : Int) ≤ 161), (by omega : (161 : Int) + 1 < K ∧ 5 < K)⟩)) ?_
        refine h.mono (fun x5 g' r' h => ?_)
        obtain ⟨hx, h⟩ := h
        replace hx := hx.symm
        subst hx
        obtain ⟨hx, h⟩ := h
        replace hx := hx.symm
        subst hx
        refine Rn_ifeq rfl (fun hc => ?_) (fun hc => ?_)
        · have h := h.1 hc
          refine Rn_pure 2 (i' := 22) (L' := [some (2, 161), some (0, p1), some (0, p2)]) (st' := [(2, 161), (0, p2)]) rfl ?_
          refine Rn_callI [(2, 161)] [(0, p2)] rfl rfl rfl rfl (ab_rvB_of rfl (⟨rfl, (by omega : (0 : Int) ≤ 161), (by omega : (161 : Int) + 1 < K ∧ 5 < K)⟩)) ?_
          refine h.mono (fun x6 g' r' h => ?_)
          obtain ⟨hx, h⟩ := h
          replace hx := hx.symm
          subst hx
          obtain ⟨hx, h⟩ := h
          replace hx := hx.symm
          subst hx
          refine Rn_icge rfl (fun hc => ?_) (fun hc => ?_)
          · have h := h.1 hc
            refine Rn_pure 1 (i' := 27) (L' := [some (2, 161), some (0, p1), some (0, p2)]) (st' := [(2, 161)]) rfl ?_
            refine Rn_callI [(2, 161)] [] rfl rfl rfl rfl (ab_rvB_of rfl (⟨rfl, (by omega : (0 : Int) ≤ 161), (by omega : (161 : Int) + 1 < K ∧ 5 < K)⟩)) ?_
            refine h.mono (fun x7 g' r' h => ?_)
            obtain ⟨hx, h⟩ := h
            replace hx := hx.symm
            subst hx
            obtain ⟨hx, h⟩ := h
            replace hx := hx.symm
            subst hx
            refine Rn_pure 1 (i' := 29) (L' := [some (2, 161), some (0, p1), some (0, p2)]) (st' := [(0, 120), (0, x7)]) rfl ?_
            refine Rn_icne rfl (fun hc => ?_) (fun hc => ?_)
            · have h := h.1 hc
              refine Rn_pure 1 (i' := 33) (L' := [some (2, 161), some (0, p1), some (0, p2)]) (st' := [(2, 161)]) rfl ?_
              refine Rn_callV [(2, 161)] [] rfl rfl rfl rfl (ab_rvB_of rfl (⟨rfl, (by omega : (0 : Int) ≤ 161), (by omega : (161 : Int) + 1 < K ∧ 5 < K)⟩)) ?_
              refine h.mono (fun g8 r' h => ?_)
              obtain ⟨hx, h⟩ := h
              replace hx := hx.symm
              subst hx
              refine Rn_pure 6 (i' := 40) (L' := [some (2, 161), some (0, p1), some (0, p2)]) (st' := [(0, 0), (0, p2), (0, p1), (0, (-2)), (0, 7), (2, 161)]) rfl ?_
              refine Rn_callV [(2, 161), (0, 7), (0, (-2)), (0, p1), (0, p2), (0, 0)] [] rfl rfl rfl rfl (ab_rvB_of rfl (⟨rfl, (by omega : (0 : Int) ≤ 161), (by omega : (161 : Int) + 1 < K ∧ 5 < K)⟩)) ?_
              refine h.mono (fun g10 r' h => ?_)
              obtain ⟨hx, h⟩ := h
              replace hx := hx.symm
              subst hx
              refine Rn_pure 1 (i' := 42) (L' := [some (2, 161), some (0, p1), some (0, p2)]) (st' := [(2, 161)]) rfl ?_
              refine Rn_callI [(2, 161)] [] rfl rfl rfl rfl (ab_rvB_of rfl (⟨rfl, (by omega : (0 : Int) ≤ 161), (by omega : (161 : Int) + 1 < K ∧ 5 < K)⟩)) ?_
              refine h.mono (fun x12 g' r' h => ?_)
              obtain ⟨hx, h⟩ := h
              replace hx := hx.symm
              subst hx
              obtain ⟨hx, h⟩ := h
              replace hx := hx.symm
              subst hx
              refine Rn_pure 2 (i' := 45) (L' := [some (2, 161), some (0, p1), some (0, p2)]) (st' := [(0, x12 - 1)]) rfl ?_
              exact Rn_ret1 rfl h
            · have h := h.2 hc
              refine Rn_pure 1 (i' := 31) (L' := [some (2, 161), some (0, p1), some (0, p2)]) (st' := [(0, (-3))]) rfl ?_
              exact Rn_ret1 rfl h
          · have h := h.2 hc
            refine Rn_pure 1 (i' := 25) (L' := [some (2, 161), some (0, p1), some (0, p2)]) (st' := [(0, (-2))]) rfl ?_
            exact Rn_ret1 rfl h
        · have h := h.2 hc
          refine Rn_pure 1 (i' := 19) (L' := [some (2, 161), some (0, p1), some (0, p2)]) (st' := [(0, (-1))]) rfl ?_
          exact Rn_ret1 rfl h
-- EventLedgerModel.of (II)I
theorem v_M_of {K : Int} {S : Nat} {g r : ab_H} {p1 p2 : Int} (P : Int → ab_H → ab_H → Prop) (hr : SI r) (hK : 186 ≤ K) (h : ∀ g1, g1 = ab_up g 161 0 0 → ab_RI m_M_isEvent [(2, 161), (0, p1)] K S g1 r (fun x2 g' r' => g' = g1 ∧ r' = r ∧ (((¬ wr x2 = wr 0 → ((wr p2 = 0 → ((0 : Int) ≤ 9 * p1 + 0 ∧ (9 * p1 + 0 : Int) < 1607) ∧ P (g1 174 (9 * p1 + 0)) g1 r) ∧ (wr p2 = 1 → ((0 : Int) ≤ 9 * p1 + 1 ∧ (9 * p1 + 1 : Int) < 1607) ∧ P (g1 174 (9 * p1 + 1)) g1 r) ∧ (wr p2 = 2 → ((0 : Int) ≤ 9 * p1 + 2 ∧ (9 * p1 + 2 : Int) < 1607) ∧ P (g1 174 (9 * p1 + 2)) g1 r) ∧ (wr p2 = 3 → ((0 : Int) ≤ 9 * p1 + 3 ∧ (9 * p1 + 3 : Int) < 1607) ∧ P (g1 174 (9 * p1 + 3)) g1 r) ∧ (wr p2 = 4 → ((0 : Int) ≤ 9 * p1 + 4 ∧ (9 * p1 + 4 : Int) < 1607) ∧ P (g1 174 (9 * p1 + 4)) g1 r) ∧ (wr p2 = 5 → ab_RV m_M_replaysAll [(2, 161)] K S g1 r (fun g3 r' => r' = r ∧ (((0 : Int) ≤ p1 ∧ (p1 : Int) < 120) ∧ P (g3 183 p1) g3 r))) ∧ (wr p2 = 6 → ab_RI m_M_isVoided [(2, 161), (0, p1)] K S g1 r (fun x5 g' r' => g' = g1 ∧ r' = r ∧ (((wr x5 = wr 0 → P 0 g1 r) ∧ (¬ wr x5 = wr 0 → P 1 g1 r))))) ∧ (wr p2 = 7 → ab_RI m_M_weightOf [(2, 161), (0, p1)] K S g1 r (fun x6 g' r' => g' = g1 ∧ r' = r ∧ (P x6 g1 r))) ∧ (wr p2 < 0 ∨ 8 ≤ wr p2 → ∀ g7, g7 = ab_up g1 161 0 2 → P 0 g7 r))) ∧ (wr x2 = wr 0 → ∀ g8, g8 = ab_up g1 161 0 1 → P 0 g8 r))))) : ab_RI m_M_of [(2, 161), (0, p1), (0, p2)] K S g r P := by
  show ab_Rn m_M_of 0 [some (2, 161), some (0, p1), some (0, p2), none] [] (K, S, g, r) (ab_Qi K S P)
  refine Rn_pure 2 (i' := 2) (L' := [some (2, 161), some (0, p1), some (0, p2), none]) (st' := [(0, 0), (2, 161)]) rfl ?_
  refine Rn_putI rfl (⟨rfl, (by omega : (0 : Int) ≤ 161), (by omega : (161 : Int) + 1 < K ∧ 5 < K)⟩) (fun g1 he_g1 => ?_)
  have h := h g1 he_g1
  refine Rn_pure 2 (i' := 5) (L' := [some (2, 161), some (0, p1), some (0, p2), none]) (st' := [(0, p1), (2, 161)]) rfl ?_
  refine Rn_callI [(2, 161), (0, p1)] [] rfl rfl rfl rfl (ab_rvB_of rfl (⟨rfl, (by omega : (0 : Int) ≤ 161), (by omega : (161 : Int) + 1 < K ∧ 5 < K)⟩)) ?_
  refine h.mono (fun x2 g' r' h => ?_)
  obtain ⟨hx, h⟩ := h
  replace hx := hx.symm
  subst hx
  obtain ⟨hx, h⟩ := h
  replace hx := hx.symm
  subst hx
  refine Rn_ifne rfl (fun hc => ?_) (fun hc => ?_)
  · have h := h.1 hc
    refine Rn_pure 5 (i' := 17) (L' := [some (2, 161), some (0, p1), some (0, p2), some (0, 9 * p1)]) (st' := [(0, p2)]) rfl ?_
    refine Rn_ts rfl ?_
    have ht18 : (wr p2 = 0) → ab_Rn m_M_of 18 [some (2, 161), some (0, p1), some (0, p2), some (0, 9 * p1)] [] (K, S, g1, r) (ab_Qi K S P) := by
      intro hc
      have h := h.1 hc
      refine Rn_pure 1 (i' := 19) (L' := [some (2, 161), some (0, p1), some (0, p2), some (0, 9 * p1)]) (st' := [(2, 161)]) rfl ?_
      refine Rn_getR rfl (⟨rfl, (by omega : (0 : Int) ≤ 161), (by omega : (161 : Int) + 1 < K ∧ 5 < K)⟩) (hr 149 _ rfl) (by decide) ?_
      refine Rn_pure 3 (i' := 23) (L' := [some (2, 161), some (0, p1), some (0, p2), some (0, 9 * p1)]) (st' := [(0, 9 * p1 + 0), (2, 174)]) rfl ?_
      obtain ⟨hg, h⟩ := h
      refine Rn_iald rfl (⟨rfl, (by omega : (0 : Int) ≤ 174), (by omega : (174 : Int) + 1 < K ∧ 5 < K)⟩) hg ?_
      exact Rn_ret1 rfl h
    have ht25 : (wr p2 = 1) → ab_Rn m_M_of 25 [some (2, 161), some (0, p1), some (0, p2), some (0, 9 * p1)] [] (K, S, g1, r) (ab_Qi K S P) := by
      intro hc
      have h := h.2.1 hc
      refine Rn_pure 1 (i' := 26) (L' := [some (2, 161), some (0, p1), some (0, p2), some (0, 9 * p1)]) (st' := [(2, 161)]) rfl ?_
      refine Rn_getR rfl (⟨rfl, (by omega : (0 : Int) ≤ 161), (by omega : (161 : Int) + 1 < K ∧ 5 < K)⟩) (hr 149 _ rfl) (by decide) ?_
      refine Rn_pure 3 (i' := 30) (L' := [some (2, 161), some (0, p1), some (0, p2), some (0, 9 * p1)]) (st' := [(0, 9 * p1 + 1), (2, 174)]) rfl ?_
      obtain ⟨hg, h⟩ := h
      refine Rn_iald rfl (⟨rfl, (by omega : (0 : Int) ≤ 174), (by omega : (174 : Int) + 1 < K ∧ 5 < K)⟩) hg ?_
      exact Rn_ret1 rfl h
    have ht32 : (wr p2 = 2) → ab_Rn m_M_of 32 [some (2, 161), some (0, p1), some (0, p2), some (0, 9 * p1)] [] (K, S, g1, r) (ab_Qi K S P) := by
      intro hc
      have h := h.2.2.1 hc
      refine Rn_pure 1 (i' := 33) (L' := [some (2, 161), some (0, p1), some (0, p2), some (0, 9 * p1)]) (st' := [(2, 161)]) rfl ?_
      refine Rn_getR rfl (⟨rfl, (by omega : (0 : Int) ≤ 161), (by omega : (161 : Int) + 1 < K ∧ 5 < K)⟩) (hr 149 _ rfl) (by decide) ?_
      refine Rn_pure 3 (i' := 37) (L' := [some (2, 161), some (0, p1), some (0, p2), some (0, 9 * p1)]) (st' := [(0, 9 * p1 + 2), (2, 174)]) rfl ?_
      obtain ⟨hg, h⟩ := h
      refine Rn_iald rfl (⟨rfl, (by omega : (0 : Int) ≤ 174), (by omega : (174 : Int) + 1 < K ∧ 5 < K)⟩) hg ?_
      exact Rn_ret1 rfl h
    have ht39 : (wr p2 = 3) → ab_Rn m_M_of 39 [some (2, 161), some (0, p1), some (0, p2), some (0, 9 * p1)] [] (K, S, g1, r) (ab_Qi K S P) := by
      intro hc
      have h := h.2.2.2.1 hc
      refine Rn_pure 1 (i' := 40) (L' := [some (2, 161), some (0, p1), some (0, p2), some (0, 9 * p1)]) (st' := [(2, 161)]) rfl ?_
      refine Rn_getR rfl (⟨rfl, (by omega : (0 : Int) ≤ 161), (by omega : (161 : Int) + 1 < K ∧ 5 < K)⟩) (hr 149 _ rfl) (by decide) ?_
      refine Rn_pure 3 (i' := 44) (L' := [some (2, 161), some (0, p1), some (0, p2), some (0, 9 * p1)]) (st' := [(0, 9 * p1 + 3), (2, 174)]) rfl ?_
      obtain ⟨hg, h⟩ := h
      refine Rn_iald rfl (⟨rfl, (by omega : (0 : Int) ≤ 174), (by omega : (174 : Int) + 1 < K ∧ 5 < K)⟩) hg ?_
      exact Rn_ret1 rfl h
    have ht46 : (wr p2 = 4) → ab_Rn m_M_of 46 [some (2, 161), some (0, p1), some (0, p2), some (0, 9 * p1)] [] (K, S, g1, r) (ab_Qi K S P) := by
      intro hc
      have h := h.2.2.2.2.1 hc
      refine Rn_pure 1 (i' := 47) (L' := [some (2, 161), some (0, p1), some (0, p2), some (0, 9 * p1)]) (st' := [(2, 161)]) rfl ?_
      refine Rn_getR rfl (⟨rfl, (by omega : (0 : Int) ≤ 161), (by omega : (161 : Int) + 1 < K ∧ 5 < K)⟩) (hr 149 _ rfl) (by decide) ?_
      refine Rn_pure 3 (i' := 51) (L' := [some (2, 161), some (0, p1), some (0, p2), some (0, 9 * p1)]) (st' := [(0, 9 * p1 + 4), (2, 174)]) rfl ?_
      obtain ⟨hg, h⟩ := h
      refine Rn_iald rfl (⟨rfl, (by omega : (0 : Int) ≤ 174), (by omega : (174 : Int) + 1 < K ∧ 5 < K)⟩) hg ?_
      exact Rn_ret1 rfl h
    have ht53 : (wr p2 = 5) → ab_Rn m_M_of 53 [some (2, 161), some (0, p1), some (0, p2), some (0, 9 * p1)] [] (K, S, g1, r) (ab_Qi K S P) := by
      intro hc
      have h := h.2.2.2.2.2.1 hc
      refine Rn_pure 1 (i' := 54) (L' := [some (2, 161), some (0, p1), some (0, p2), some (0, 9 * p1)]) (st' := [(2, 161)]) rfl ?_
      refine Rn_callV [(2, 161)] [] rfl rfl rfl rfl (ab_rvB_of rfl (⟨rfl, (by omega : (0 : Int) ≤ 161), (by omega : (161 : Int) + 1 < K ∧ 5 < K)⟩)) ?_
      refine h.mono (fun g3 r' h => ?_)
      obtain ⟨hx, h⟩ := h
      replace hx := hx.symm
      subst hx
      refine Rn_pure 1 (i' := 56) (L' := [some (2, 161), some (0, p1), some (0, p2), some (0, 9 * p1)]) (st' := [(2, 161)]) rfl ?_
      refine Rn_getR rfl (⟨rfl, (by omega : (0 : Int) ≤ 161), (by omega : (161 : Int) + 1 < K ∧ 5 < K)⟩) (hr 158 _ rfl) (by decide) ?_
      refine Rn_pure 1 (i' := 58) (L' := [some (2, 161), some (0, p1), some (0, p2), some (0, 9 * p1)]) (st' := [(0, p1), (2, 183)]) rfl ?_
      obtain ⟨hg, h⟩ := h
      refine Rn_iald rfl (⟨rfl, (by omega : (0 : Int) ≤ 183), (by omega : (183 : Int) + 1 < K ∧ 5 < K)⟩) hg ?_
      exact Rn_ret1 rfl h
    have ht60 : (wr p2 = 6) → ab_Rn m_M_of 60 [some (2, 161), some (0, p1), some (0, p2), some (0, 9 * p1)] [] (K, S, g1, r) (ab_Qi K S P) := by
      intro hc
      have h := h.2.2.2.2.2.2.1 hc
      refine Rn_pure 2 (i' := 62) (L' := [some (2, 161), some (0, p1), some (0, p2), some (0, 9 * p1)]) (st' := [(0, p1), (2, 161)]) rfl ?_
      refine Rn_callI [(2, 161), (0, p1)] [] rfl rfl rfl rfl (ab_rvB_of rfl (⟨rfl, (by omega : (0 : Int) ≤ 161), (by omega : (161 : Int) + 1 < K ∧ 5 < K)⟩)) ?_
      refine h.mono (fun x5 g' r' h => ?_)
      obtain ⟨hx, h⟩ := h
      replace hx := hx.symm
      subst hx
      obtain ⟨hx, h⟩ := h
      replace hx := hx.symm
      subst hx
      refine Rn_ifeq rfl (fun hc => ?_) (fun hc => ?_)
      · have h := h.1 hc
        refine Rn_pure 1 (i' := 67) (L' := [some (2, 161), some (0, p1), some (0, p2), some (0, 9 * p1)]) (st' := [(0, 0)]) rfl ?_
        exact Rn_ret1 rfl h
      · have h := h.2 hc
        refine Rn_pure 2 (i' := 67) (L' := [some (2, 161), some (0, p1), some (0, p2), some (0, 9 * p1)]) (st' := [(0, 1)]) rfl ?_
        exact Rn_ret1 rfl h
    have ht68 : (wr p2 = 7) → ab_Rn m_M_of 68 [some (2, 161), some (0, p1), some (0, p2), some (0, 9 * p1)] [] (K, S, g1, r) (ab_Qi K S P) := by
      intro hc
      have h := h.2.2.2.2.2.2.2.1 hc
      refine Rn_pure 2 (i' := 70) (L' := [some (2, 161), some (0, p1), some (0, p2), some (0, 9 * p1)]) (st' := [(0, p1), (2, 161)]) rfl ?_
      refine Rn_callI [(2, 161), (0, p1)] [] rfl rfl rfl rfl (ab_rvB_of rfl (⟨rfl, (by omega : (0 : Int) ≤ 161), (by omega : (161 : Int) + 1 < K ∧ 5 < K)⟩)) ?_
      refine h.mono (fun x6 g' r' h => ?_)
      obtain ⟨hx, h⟩ := h
      replace hx := hx.symm
      subst hx
      obtain ⟨hx, h⟩ := h
      replace hx := hx.symm
      subst hx
      exact Rn_ret1 rfl h
    have htd : (wr p2 < 0 ∨ 8 ≤ wr p2) → ab_Rn m_M_of 72 [some (2, 161), some (0, p1), some (0, p2), some (0, 9 * p1)] [] (K, S, g1, r) (ab_Qi K S P) := by
      intro hc
      have h := h.2.2.2.2.2.2.2.2 hc
      refine Rn_pure 2 (i' := 74) (L' := [some (2, 161), some (0, p1), some (0, p2), some (0, 9 * p1)]) (st' := [(0, 2), (2, 161)]) rfl ?_
      refine Rn_putI rfl (⟨rfl, (by omega : (0 : Int) ≤ 161), (by omega : (161 : Int) + 1 < K ∧ 5 < K)⟩) (fun g7 he_g7 => ?_)
      have h := h g7 he_g7
      refine Rn_pure 1 (i' := 76) (L' := [some (2, 161), some (0, p1), some (0, p2), some (0, 9 * p1)]) (st' := [(0, 0)]) rfl ?_
      exact Rn_ret1 rfl h
    have hsp : wr p2 < 0 ∨ 8 ≤ wr p2 ∨ wr p2 = 0 ∨ wr p2 = 1 ∨ wr p2 = 2 ∨ wr p2 = 3 ∨ wr p2 = 4 ∨ wr p2 = 5 ∨ wr p2 = 6 ∨ wr p2 = 7 := by omega
    rcases hsp with hc | hc | hc | hc | hc | hc | hc | hc | hc | hc
    · rw [ab_ts_out (hT := (rfl : ab_nth ab_tsL 7 = some (0, 72, [18, 25, 32, 39, 46, 53, 60, 68]))) rfl (Or.inl hc)]; exact htd (by simp only [hc, true_or, or_true])
    · rw [ab_ts_out (hT := (rfl : ab_nth ab_tsL 7 = some (0, 72, [18, 25, 32, 39, 46, 53, 60, 68]))) rfl (Or.inr hc)]; exact htd (by simp only [hc, true_or, or_true])
    · rw [ab_ts_in (j := 0) (hT := (rfl : ab_nth ab_tsL 7 = some (0, 72, [18, 25, 32, 39, 46, 53, 60, 68]))) (by rw [hc]; rfl) rfl]; exact ht18 (by simp only [hc, true_or, or_true])
    · rw [ab_ts_in (j := 1) (hT := (rfl : ab_nth ab_tsL 7 = some (0, 72, [18, 25, 32, 39, 46, 53, 60, 68]))) (by rw [hc]; rfl) rfl]; exact ht25 (by simp only [hc, true_or, or_true])
    · rw [ab_ts_in (j := 2) (hT := (rfl : ab_nth ab_tsL 7 = some (0, 72, [18, 25, 32, 39, 46, 53, 60, 68]))) (by rw [hc]; rfl) rfl]; exact ht32 (by simp only [hc, true_or, or_true])
    · rw [ab_ts_in (j := 3) (hT := (rfl : ab_nth ab_tsL 7 = some (0, 72, [18, 25, 32, 39, 46, 53, 60, 68]))) (by rw [hc]; rfl) rfl]; exact ht39 (by simp only [hc, true_or, or_true])
    · rw [ab_ts_in (j := 4) (hT := (rfl : ab_nth ab_tsL 7 = some (0, 72, [18, 25, 32, 39, 46, 53, 60, 68]))) (by rw [hc]; rfl) rfl]; exact ht46 (by simp only [hc, true_or, or_true])
    · rw [ab_ts_in (j := 5) (hT := (rfl : ab_nth ab_tsL 7 = some (0, 72, [18, 25, 32, 39, 46, 53, 60, 68]))) (by rw [hc]; rfl) rfl]; exact ht53 (by simp only [hc, true_or, or_true])
    · rw [ab_ts_in (j := 6) (hT := (rfl : ab_nth ab_tsL 7 = some (0, 72, [18, 25, 32, 39, 46, 53, 60, 68]))) (by rw [hc]; rfl) rfl]; exact ht60 (by simp only [hc, true_or, or_true])
    · rw [ab_ts_in (j := 7) (hT := (rfl : ab_nth ab_tsL 7 = some (0, 72, [18, 25, 32, 39, 46, 53, 60, 68]))) (by rw [hc]; rfl) rfl]; exact ht68 (by simp only [hc, true_or, or_true])
  · have h := h.2 hc
    refine Rn_pure 2 (i' := 9) (L' := [some (2, 161), some (0, p1), some (0, p2), none]) (st' := [(0, 1), (2, 161)]) rfl ?_
    refine Rn_putI rfl (⟨rfl, (by omega : (0 : Int) ≤ 161), (by omega : (161 : Int) + 1 < K ∧ 5 < K)⟩) (fun g8 he_g8 => ?_)
    have h := h g8 he_g8
    refine Rn_pure 1 (i' := 11) (L' := [some (2, 161), some (0, p1), some (0, p2), none]) (st' := [(0, 0)]) rfl ?_
    exact Rn_ret1 rfl h
-- EventLedgerModel.field (IIZ)I
theorem v_M_field {K : Int} {S : Nat} {g r : ab_H} {p1 p2 p3 : Int} (P : Int → ab_H → ab_H → Prop) (hr : SI r) (hK : 186 ≤ K) (h : ∀ g1, g1 = ab_up g 161 0 0 → ab_RI m_M_isEvent [(2, 161), (0, p1)] K S g1 r (fun x2 g' r' => g' = g1 ∧ r' = r ∧ (((wr x2 = wr 0 → P (-1) g1 r) ∧ (¬ wr x2 = wr 0 → ((wr p2 < wr 1 → P (-1) g1 r) ∧ (wr 1 ≤ wr p2 → ((wr 3 < wr p2 → P (-1) g1 r) ∧ (wr p2 ≤ wr 3 → ab_RI m_M_isVoid [(2, 161), (0, p1)] K S g1 r (fun x3 g' r' => g' = g1 ∧ r' = r ∧ (((wr x3 = wr 0 → ((¬ wr p3 = wr 0 → ab_RI m_M_breaks [(2, 161), (0, p1)] K S g1 r (fun x5 g4 r' => r' = r ∧ (((0 : Int) ≤ p2 - 1 ∧ (p2 - 1 : Int) < 3) ∧ P (g4 178 (p2 - 1)) g4 r))) ∧ (wr p3 = wr 0 → ((0 : Int) ≤ 9 * p1 + 5 + p2 - 1 ∧ (9 * p1 + 5 + p2 - 1 : Int) < 1607) ∧ P (g1 174 (9 * p1 + 5 + p2 - 1)) g1 r))) ∧ (¬ wr x3 = wr 0 → P (-1) g1 r))))))))))))) : ab_RI m_M_field [(2, 161), (0, p1), (0, p2), (0, p3)] K S g r P := by
  show ab_Rn m_M_field 0 [some (2, 161), some (0, p1), some (0, p2), some (0, p3)] [] (K, S, g, r) (ab_Qi K S P)
  refine Rn_pure 2 (i' := 2) (L' := [some (2, 161), some (0, p1), some (0, p2), some (0, p3)]) (st' := [(0, 0), (2, 161)]) rfl ?_
  refine Rn_putI rfl (⟨rfl, (by omega : (0 : Int) ≤ 161), (by omega : (161 : Int) + 1 < K ∧ 5 < K)⟩) (fun g1 he_g1 => ?_)
  have h := h g1 he_g1
  refine Rn_pure 2 (i' := 5) (L' := [some (2, 161), some (0, p1), some (0, p2), some (0, p3)]) (st' := [(0, p1), (2, 161)]) rfl ?_
  refine Rn_callI [(2, 161), (0, p1)] [] rfl rfl rfl rfl (ab_rvB_of rfl (⟨rfl, (by omega : (0 : Int) ≤ 161), (by omega : (161 : Int) + 1 < K ∧ 5 < K)⟩)) ?_
  refine h.mono (fun x2 g' r' h => ?_)
  obtain ⟨hx, h⟩ := h
  replace hx := hx.symm
  subst hx
  obtain ⟨hx, h⟩ := h
  replace hx := hx.symm
  subst hx
  refine Rn_ifeq rfl (fun hc => ?_) (fun hc => ?_)
  · have h := h.1 hc
    refine Rn_pure 1 (i' := 18) (L' := [some (2, 161), some (0, p1), some (0, p2), some (0, p3)]) (st' := [(0, (-1))]) rfl ?_
    exact Rn_ret1 rfl h
  · have h := h.2 hc
    refine Rn_pure 2 (i' := 9) (L' := [some (2, 161), some (0, p1), some (0, p2), some (0, p3)]) (st' := [(0, 1), (0, p2)]) rfl ?_
    refine Rn_iclt rfl (fun hc => ?_) (fun hc => ?_)
    · have h := h.1 hc
      refine Rn_pure 1 (i' := 18) (L' := [some (2, 161), some (0, p1), some (0, p2), some (0, p3)]) (st' := [(0, (-1))]) rfl ?_
      exact Rn_ret1 rfl h
    · have h := h.2 hc
      refine Rn_pure 2 (i' := 12) (L' := [some (2, 161), some (0, p1), some (0, p2), some (0, p3)]) (st' := [(0, 3), (0, p2)]) rfl ?_
      refine Rn_icgt rfl (fun hc => ?_) (fun hc => ?_)
      · have h := h.1 hc
        refine Rn_pure 1 (i' := 18) (L' := [some (2, 161), some (0, p1), some (0, p2), some (0, p3)]) (st' := [(0, (-1))]) rfl ?_
        exact Rn_ret1 rfl h
      · have h := h.2 hc
        refine Rn_pure 2 (i' := 15) (L' := [some (2, 161), some (0, p1), some (0, p2), some (0, p3)]) (st' := [(0, p1), (2, 161)]) rfl ?_
        refine Rn_callI [(2, 161), (0, p1)] [] rfl rfl rfl rfl (ab_rvB_of rfl (⟨rfl, (by omega : (0 : Int) ≤ 161), (by omega : (161 : Int) + 1 < K ∧ 5 < K)⟩)) ?_
        refine h.mono (fun x3 g' r' h => ?_)
        obtain ⟨hx, h⟩ := h
        replace hx := hx.symm
        subst hx
        obtain ⟨hx, h⟩ := h
        replace hx := hx.symm
        subst hx
        refine Rn_ifeq rfl (fun hc => ?_) (fun hc => ?_)
        · have h := h.1 hc
          refine Rn_pure 1 (i' := 20) (L' := [some (2, 161), some (0, p1), some (0, p2), some (0, p3)]) (st' := [(0, p3)]) rfl ?_
          refine Rn_ifne rfl (fun hc => ?_) (fun hc => ?_)
          · have h := h.1 hc
            refine Rn_pure 2 (i' := 36) (L' := [some (2, 161), some (0, p1), some (0, p2), some (0, p3)]) (st' := [(0, p1), (2, 161)]) rfl ?_
            refine Rn_callI [(2, 161), (0, p1)] [] rfl rfl rfl rfl (ab_rvB_of rfl (⟨rfl, (by omega : (0 : Int) ≤ 161), (by omega : (161 : Int) + 1 < K ∧ 5 < K)⟩)) ?_
            refine h.mono (fun x5 g4 r' h => ?_)
            obtain ⟨hx, h⟩ := h
            replace hx := hx.symm
            subst hx
            refine Rn_pure 2 (i' := 39) (L' := [some (2, 161), some (0, p1), some (0, p2), some (0, p3)]) (st' := [(2, 161)]) rfl ?_
            refine Rn_getR rfl (⟨rfl, (by omega : (0 : Int) ≤ 161), (by omega : (161 : Int) + 1 < K ∧ 5 < K)⟩) (hr 153 _ rfl) (by decide) ?_
            refine Rn_pure 3 (i' := 43) (L' := [some (2, 161), some (0, p1), some (0, p2), some (0, p3)]) (st' := [(0, p2 - 1), (2, 178)]) rfl ?_
            obtain ⟨hg, h⟩ := h
            refine Rn_iald rfl (⟨rfl, (by omega : (0 : Int) ≤ 178), (by omega : (178 : Int) + 1 < K ∧ 5 < K)⟩) hg ?_
            exact Rn_ret1 rfl h
          · have h := h.2 hc
            refine Rn_pure 1 (i' := 22) (L' := [some (2, 161), some (0, p1), some (0, p2), some (0, p3)]) (st' := [(2, 161)]) rfl ?_
            refine Rn_getR rfl (⟨rfl, (by omega : (0 : Int) ≤ 161), (by omega : (161 : Int) + 1 < K ∧ 5 < K)⟩) (hr 149 _ rfl) (by decide) ?_
            refine Rn_pure 9 (i' := 32) (L' := [some (2, 161), some (0, p1), some (0, p2), some (0, p3)]) (st' := [(0, 9 * p1 + 5 + p2 - 1), (2, 174)]) rfl ?_
            obtain ⟨hg, h⟩ := h
            refine Rn_iald rfl (⟨rfl, (by omega : (0 : Int) ≤ 174), (by omega : (174 : Int) + 1 < K ∧ 5 < K)⟩) hg ?_
            exact Rn_ret1 rfl h
        · have h := h.2 hc
          refine Rn_pure 1 (i' := 18) (L' := [some (2, 161), some (0, p1), some (0, p2), some (0, p3)]) (st' := [(0, (-1))]) rfl ?_
          exact Rn_ret1 rfl h
-- EventLedgerModel.isWhat (I)Z
theorem v_M_isWhat {K : Int} {S : Nat} {g r : ab_H} {p0 : Int} (P : Int → ab_H → ab_H → Prop) (hr : SI r) (hK : 186 ≤ K) (h : ((wr p0 < wr 0 → P 0 g r) ∧ (wr 0 ≤ wr p0 → ((wr 3 < wr p0 → P 0 g r) ∧ (wr p0 ≤ wr 3 → P 1 g r))))) : ab_RI m_M_isWhat [(0, p0)] K S g r P := by
  show ab_Rn m_M_isWhat 0 [some (0, p0)] [] (K, S, g, r) (ab_Qi K S P)
  refine Rn_pure 1 (i' := 1) (L' := [some (0, p0)]) (st' := [(0, p0)]) rfl ?_
  refine Rn_iflt rfl (fun hc => ?_) (fun hc => ?_)
  · have h := h.1 hc
    refine Rn_pure 1 (i' := 8) (L' := [some (0, p0)]) (st' := [(0, 0)]) rfl ?_
    exact Rn_ret2 rfl (by decide) h
  · have h := h.2 hc
    refine Rn_pure 2 (i' := 4) (L' := [some (0, p0)]) (st' := [(0, 3), (0, p0)]) rfl ?_
    refine Rn_icgt rfl (fun hc => ?_) (fun hc => ?_)
    · have h := h.1 hc
      refine Rn_pure 1 (i' := 8) (L' := [some (0, p0)]) (st' := [(0, 0)]) rfl ?_
      exact Rn_ret2 rfl (by decide) h
    · have h := h.2 hc
      refine Rn_pure 2 (i' := 8) (L' := [some (0, p0)]) (st' := [(0, 1)]) rfl ?_
      exact Rn_ret2 rfl (by decide) h
-- EventLedgerModel.account (II)I
theorem v_M_account {K : Int} {S : Nat} {g r : ab_H} {p1 p2 : Int} (P : Int → ab_H → ab_H → Prop) (hr : SI r) (hK : 186 ≤ K) (h : ∀ g1, g1 = ab_up g 161 0 0 → ab_RI m_M_isAccount [(2, 161), (0, p1)] K S g1 r (fun x2 g' r' => g' = g1 ∧ r' = r ∧ (((wr x2 = wr 0 → P (-2147483648) g1 r) ∧ (¬ wr x2 = wr 0 → ab_RI m_M_isWhat [(0, p2)] K S g1 r (fun x3 g' r' => g' = g1 ∧ r' = r ∧ (((¬ wr x3 = wr 0 → ab_RV m_M_replaysAll [(2, 161)] K S g1 r (fun g4 r' => r' = r ∧ (ab_RI m_M_has [(2, 161), (0, p1), (0, p2)] K S g4 r (fun x6 g' r' => g' = g4 ∧ r' = r ∧ (P x6 g4 r))))) ∧ (wr x3 = wr 0 → P (-2147483648) g1 r))))))))) : ab_RI m_M_account [(2, 161), (0, p1), (0, p2)] K S g r P := by
  show ab_Rn m_M_account 0 [some (2, 161), some (0, p1), some (0, p2)] [] (K, S, g, r) (ab_Qi K S P)
  refine Rn_pure 2 (i' := 2) (L' := [some (2, 161), some (0, p1), some (0, p2)]) (st' := [(0, 0), (2, 161)]) rfl ?_
  refine Rn_putI rfl (⟨rfl, (by omega : (0 : Int) ≤ 161), (by omega : (161 : Int) + 1 < K ∧ 5 < K)⟩) (fun g1 he_g1 => ?_)
  have h := h g1 he_g1
  refine Rn_pure 2 (i' := 5) (L' := [some (2, 161), some (0, p1), some (0, p2)]) (st' := [(0, p1), (2, 161)]) rfl ?_
  refine Rn_callI [(2, 161), (0, p1)] [] rfl rfl rfl rfl (ab_rvB_of rfl (⟨rfl, (by omega : (0 : Int) ≤ 161), (by omega : (161 : Int) + 1 < K ∧ 5 < K)⟩)) ?_
  refine h.mono (fun x2 g' r' h => ?_)
  obtain ⟨hx, h⟩ := h
  replace hx := hx.symm
  subst hx
  obtain ⟨hx, h⟩ := h
  replace hx := hx.symm
  subst hx
  refine Rn_ifeq rfl (fun hc => ?_) (fun hc => ?_)
  · have h := h.1 hc
    refine Rn_pure 1 (i' := 11) (L' := [some (2, 161), some (0, p1), some (0, p2)]) (st' := [(0, (-2147483648))]) rfl ?_
    exact Rn_ret1 rfl h
  · have h := h.2 hc
    refine Rn_pure 1 (i' := 8) (L' := [some (2, 161), some (0, p1), some (0, p2)]) (st' := [(0, p2)]) rfl ?_
    refine Rn_callI [(0, p2)] [] rfl rfl rfl rfl (rfl) ?_
    refine h.mono (fun x3 g' r' h => ?_)
    obtain ⟨hx, h⟩ := h
    replace hx := hx.symm
    subst hx
    obtain ⟨hx, h⟩ := h
    replace hx := hx.symm
    subst hx
    refine Rn_ifne rfl (fun hc => ?_) (fun hc => ?_)
    · have h := h.1 hc
      refine Rn_pure 1 (i' := 13) (L' := [some (2, 161), some (0, p1), some (0, p2)]) (st' := [(2, 161)]) rfl ?_
      refine Rn_callV [(2, 161)] [] rfl rfl rfl rfl (ab_rvB_of rfl (⟨rfl, (by omega : (0 : Int) ≤ 161), (by omega : (161 : Int) + 1 < K ∧ 5 < K)⟩)) ?_
      refine h.mono (fun g4 r' h => ?_)
      obtain ⟨hx, h⟩ := h
      replace hx := hx.symm
      subst hx
      refine Rn_pure 3 (i' := 17) (L' := [some (2, 161), some (0, p1), some (0, p2)]) (st' := [(0, p2), (0, p1), (2, 161)]) rfl ?_
      refine Rn_callI [(2, 161), (0, p1), (0, p2)] [] rfl rfl rfl rfl (ab_rvB_of rfl (⟨rfl, (by omega : (0 : Int) ≤ 161), (by omega : (161 : Int) + 1 < K ∧ 5 < K)⟩)) ?_
      refine h.mono (fun x6 g' r' h => ?_)
      obtain ⟨hx, h⟩ := h
      replace hx := hx.symm
      subst hx
      obtain ⟨hx, h⟩ := h
      replace hx := hx.symm
      subst hx
      exact Rn_ret1 rfl h
    · have h := h.2 hc
      refine Rn_pure 1 (i' := 11) (L' := [some (2, 161), some (0, p1), some (0, p2)]) (st' := [(0, (-2147483648))]) rfl ?_
      exact Rn_ret1 rfl h
-- EventLedgerModel.at (III)I
theorem v_M_at {K : Int} {S : Nat} {g r : ab_H} {p1 p2 p3 : Int} (P : Int → ab_H → ab_H → Prop) (hr : SI r) (hK : 186 ≤ K) (h : ∀ g1, g1 = ab_up g 161 0 0 → ab_RI m_M_isTime [(0, p1)] K S g1 r (fun x2 g' r' => g' = g1 ∧ r' = r ∧ (((wr x2 = wr 0 → P (-2147483648) g1 r) ∧ (¬ wr x2 = wr 0 → ab_RI m_M_isAccount [(2, 161), (0, p2)] K S g1 r (fun x3 g' r' => g' = g1 ∧ r' = r ∧ (((wr x3 = wr 0 → P (-2147483648) g1 r) ∧ (¬ wr x3 = wr 0 → ab_RI m_M_isWhat [(0, p3)] K S g1 r (fun x4 g' r' => g' = g1 ∧ r' = r ∧ (((¬ wr x4 = wr 0 → ab_RI m_M_placeAt [(2, 161), (0, p1)] K S g1 r (fun x5 g' r' => g' = g1 ∧ r' = r ∧ (ab_RV m_M_replays [(2, 161), (0, x5), (0, (-1)), (0, 120), (0, (-1))] K S g1 r (fun g6 r' => r' = r ∧ (ab_RI m_M_has [(2, 161), (0, p2), (0, p3)] K S g6 r (fun x8 g' r' => g' = g6 ∧ r' = r ∧ (P x8 g6 r))))))) ∧ (wr x4 = wr 0 → P (-2147483648) g1 r))))))))))))) : ab_RI m_M_at [(2, 161), (0, p1), (0, p2), (0, p3)] K S g r P := by
  show ab_Rn m_M_at 0 [some (2, 161), some (0, p1), some (0, p2), some (0, p3)] [] (K, S, g, r) (ab_Qi K S P)
  refine Rn_pure 2 (i' := 2) (L' := [some (2, 161), some (0, p1), some (0, p2), some (0, p3)]) (st' := [(0, 0), (2, 161)]) rfl ?_
  refine Rn_putI rfl (⟨rfl, (by omega : (0 : Int) ≤ 161), (by omega : (161 : Int) + 1 < K ∧ 5 < K)⟩) (fun g1 he_g1 => ?_)
  have h := h g1 he_g1
  refine Rn_pure 1 (i' := 4) (L' := [some (2, 161), some (0, p1), some (0, p2), some (0, p3)]) (st' := [(0, p1)]) rfl ?_
  refine Rn_callI [(0, p1)] [] rfl rfl rfl rfl (rfl) ?_
  refine h.mono (fun x2 g' r' h => ?_)
  obtain ⟨hx, h⟩ := h
  replace hx := hx.symm
  subst hx
  obtain ⟨hx, h⟩ := h
  replace hx := hx.symm
  subst hx
  refine Rn_ifeq rfl (fun hc => ?_) (fun hc => ?_)
  · have h := h.1 hc
    refine Rn_pure 1 (i' := 14) (L' := [some (2, 161), some (0, p1), some (0, p2), some (0, p3)]) (st' := [(0, (-2147483648))]) rfl ?_
    exact Rn_ret1 rfl h
  · have h := h.2 hc
    refine Rn_pure 2 (i' := 8) (L' := [some (2, 161), some (0, p1), some (0, p2), some (0, p3)]) (st' := [(0, p2), (2, 161)]) rfl ?_
    refine Rn_callI [(2, 161), (0, p2)] [] rfl rfl rfl rfl (ab_rvB_of rfl (⟨rfl, (by omega : (0 : Int) ≤ 161), (by omega : (161 : Int) + 1 < K ∧ 5 < K)⟩)) ?_
    refine h.mono (fun x3 g' r' h => ?_)
    obtain ⟨hx, h⟩ := h
    replace hx := hx.symm
    subst hx
    obtain ⟨hx, h⟩ := h
    replace hx := hx.symm
    subst hx
    refine Rn_ifeq rfl (fun hc => ?_) (fun hc => ?_)
    · have h := h.1 hc
      refine Rn_pure 1 (i' := 14) (L' := [some (2, 161), some (0, p1), some (0, p2), some (0, p3)]) (st' := [(0, (-2147483648))]) rfl ?_
      exact Rn_ret1 rfl h
    · have h := h.2 hc
      refine Rn_pure 1 (i' := 11) (L' := [some (2, 161), some (0, p1), some (0, p2), some (0, p3)]) (st' := [(0, p3)]) rfl ?_
      refine Rn_callI [(0, p3)] [] rfl rfl rfl rfl (rfl) ?_
      refine h.mono (fun x4 g' r' h => ?_)
      obtain ⟨hx, h⟩ := h
      replace hx := hx.symm
      subst hx
      obtain ⟨hx, h⟩ := h
      replace hx := hx.symm
      subst hx
      refine Rn_ifne rfl (fun hc => ?_) (fun hc => ?_)
      · have h := h.1 hc
        refine Rn_pure 3 (i' := 18) (L' := [some (2, 161), some (0, p1), some (0, p2), some (0, p3)]) (st' := [(0, p1), (2, 161), (2, 161)]) rfl ?_
        refine Rn_callI [(2, 161), (0, p1)] [(2, 161)] rfl rfl rfl rfl (ab_rvB_of rfl (⟨rfl, (by omega : (0 : Int) ≤ 161), (by omega : (161 : Int) + 1 < K ∧ 5 < K)⟩)) ?_
        refine h.mono (fun x5 g' r' h => ?_)
        obtain ⟨hx, h⟩ := h
        replace hx := hx.symm
        subst hx
        obtain ⟨hx, h⟩ := h
        replace hx := hx.symm
        subst hx
        refine Rn_pure 3 (i' := 22) (L' := [some (2, 161), some (0, p1), some (0, p2), some (0, p3)]) (st' := [(0, (-1)), (0, 120), (0, (-1)), (0, x5), (2, 161)]) rfl ?_
        refine Rn_callV [(2, 161), (0, x5), (0, (-1)), (0, 120), (0, (-1))] [] rfl rfl rfl rfl (ab_rvB_of rfl (⟨rfl, (by omega : (0 : Int) ≤ 161), (by omega : (161 : Int) + 1 < K ∧ 5 < K)⟩)) ?_
        refine h.mono (fun g6 r' h => ?_)
        obtain ⟨hx, h⟩ := h
        replace hx := hx.symm
        subst hx
        refine Rn_pure 3 (i' := 26) (L' := [some (2, 161), some (0, p1), some (0, p2), some (0, p3)]) (st' := [(0, p3), (0, p2), (2, 161)]) rfl ?_
        refine Rn_callI [(2, 161), (0, p2), (0, p3)] [] rfl rfl rfl rfl (ab_rvB_of rfl (⟨rfl, (by omega : (0 : Int) ≤ 161), (by omega : (161 : Int) + 1 < K ∧ 5 < K)⟩)) ?_
        refine h.mono (fun x8 g' r' h => ?_)
        obtain ⟨hx, h⟩ := h
        replace hx := hx.symm
        subst hx
        obtain ⟨hx, h⟩ := h
        replace hx := hx.symm
        subst hx
        exact Rn_ret1 rfl h
      · have h := h.2 hc
        refine Rn_pure 1 (i' := 14) (L' := [some (2, 161), some (0, p1), some (0, p2), some (0, p3)]) (st' := [(0, (-2147483648))]) rfl ?_
        exact Rn_ret1 rfl h
-- EventLedgerModel.known (III)I
theorem v_M_known {K : Int} {S : Nat} {g r : ab_H} {p1 p2 p3 : Int} (P : Int → ab_H → ab_H → Prop) (hr : SI r) (hK : 186 ≤ K) (h : ∀ g1, g1 = ab_up g 161 0 0 → ab_RI m_M_isTime [(0, p1)] K S g1 r (fun x2 g' r' => g' = g1 ∧ r' = r ∧ (((wr x2 = wr 0 → P (-2147483648) g1 r) ∧ (¬ wr x2 = wr 0 → ab_RI m_M_isAccount [(2, 161), (0, p2)] K S g1 r (fun x3 g' r' => g' = g1 ∧ r' = r ∧ (((wr x3 = wr 0 → P (-2147483648) g1 r) ∧ (¬ wr x3 = wr 0 → ab_RI m_M_isWhat [(0, p3)] K S g1 r (fun x4 g' r' => g' = g1 ∧ r' = r ∧ (((¬ wr x4 = wr 0 → ab_RI m_M_placeAt [(2, 161), (0, p1)] K S g1 r (fun x5 g' r' => g' = g1 ∧ r' = r ∧ (ab_RV m_M_replays [(2, 161), (0, x5), (0, (-1)), (0, x5), (0, (-1))] K S g1 r (fun g6 r' => r' = r ∧ (ab_RI m_M_has [(2, 161), (0, p2), (0, p3)] K S g6 r (fun x8 g' r' => g' = g6 ∧ r' = r ∧ (P x8 g6 r))))))) ∧ (wr x4 = wr 0 → P (-2147483648) g1 r))))))))))))) : ab_RI m_M_known [(2, 161), (0, p1), (0, p2), (0, p3)] K S g r P := by
  show ab_Rn m_M_known 0 [some (2, 161), some (0, p1), some (0, p2), some (0, p3), none] [] (K, S, g, r) (ab_Qi K S P)
  refine Rn_pure 2 (i' := 2) (L' := [some (2, 161), some (0, p1), some (0, p2), some (0, p3), none]) (st' := [(0, 0), (2, 161)]) rfl ?_
  refine Rn_putI rfl (⟨rfl, (by omega : (0 : Int) ≤ 161), (by omega : (161 : Int) + 1 < K ∧ 5 < K)⟩) (fun g1 he_g1 => ?_)
  have h := h g1 he_g1
  refine Rn_pure 1 (i' := 4) (L' := [some (2, 161), some (0, p1), some (0, p2), some (0, p3), none]) (st' := [(0, p1)]) rfl ?_
  refine Rn_callI [(0, p1)] [] rfl rfl rfl rfl (rfl) ?_
  refine h.mono (fun x2 g' r' h => ?_)
  obtain ⟨hx, h⟩ := h
  replace hx := hx.symm
  subst hx
  obtain ⟨hx, h⟩ := h
  replace hx := hx.symm
  subst hx
  refine Rn_ifeq rfl (fun hc => ?_) (fun hc => ?_)
  · have h := h.1 hc
    refine Rn_pure 1 (i' := 14) (L' := [some (2, 161), some (0, p1), some (0, p2), some (0, p3), none]) (st' := [(0, (-2147483648))]) rfl ?_
    exact Rn_ret1 rfl h
  · have h := h.2 hc
    refine Rn_pure 2 (i' := 8) (L' := [some (2, 161), some (0, p1), some (0, p2), some (0, p3), none]) (st' := [(0, p2), (2, 161)]) rfl ?_
    refine Rn_callI [(2, 161), (0, p2)] [] rfl rfl rfl rfl (ab_rvB_of rfl (⟨rfl, (by omega : (0 : Int) ≤ 161), (by omega : (161 : Int) + 1 < K ∧ 5 < K)⟩)) ?_
    refine h.mono (fun x3 g' r' h => ?_)
    obtain ⟨hx, h⟩ := h
    replace hx := hx.symm
    subst hx
    obtain ⟨hx, h⟩ := h
    replace hx := hx.symm
    subst hx
    refine Rn_ifeq rfl (fun hc => ?_) (fun hc => ?_)
    · have h := h.1 hc
      refine Rn_pure 1 (i' := 14) (L' := [some (2, 161), some (0, p1), some (0, p2), some (0, p3), none]) (st' := [(0, (-2147483648))]) rfl ?_
      exact Rn_ret1 rfl h
    · have h := h.2 hc
      refine Rn_pure 1 (i' := 11) (L' := [some (2, 161), some (0, p1), some (0, p2), some (0, p3), none]) (st' := [(0, p3)]) rfl ?_
      refine Rn_callI [(0, p3)] [] rfl rfl rfl rfl (rfl) ?_
      refine h.mono (fun x4 g' r' h => ?_)
      obtain ⟨hx, h⟩ := h
      replace hx := hx.symm
      subst hx
      obtain ⟨hx, h⟩ := h
      replace hx := hx.symm
      subst hx
      refine Rn_ifne rfl (fun hc => ?_) (fun hc => ?_)
      · have h := h.1 hc
        refine Rn_pure 2 (i' := 17) (L' := [some (2, 161), some (0, p1), some (0, p2), some (0, p3), none]) (st' := [(0, p1), (2, 161)]) rfl ?_
        refine Rn_callI [(2, 161), (0, p1)] [] rfl rfl rfl rfl (ab_rvB_of rfl (⟨rfl, (by omega : (0 : Int) ≤ 161), (by omega : (161 : Int) + 1 < K ∧ 5 < K)⟩)) ?_
        refine h.mono (fun x5 g' r' h => ?_)
        obtain ⟨hx, h⟩ := h
        replace hx := hx.symm
        subst hx
        obtain ⟨hx, h⟩ := h
        replace hx := hx.symm
        subst hx
        refine Rn_pure 6 (i' := 24) (L' := [some (2, 161), some (0, p1), some (0, p2), some (0, p3), some (0, x5)]) (st' := [(0, (-1)), (0, x5), (0, (-1)), (0, x5), (2, 161)]) rfl ?_
        refine Rn_callV [(2, 161), (0, x5), (0, (-1)), (0, x5), (0, (-1))] [] rfl rfl rfl rfl (ab_rvB_of rfl (⟨rfl, (by omega : (0 : Int) ≤ 161), (by omega : (161 : Int) + 1 < K ∧ 5 < K)⟩)) ?_
        refine h.mono (fun g6 r' h => ?_)
        obtain ⟨hx, h⟩ := h
        replace hx := hx.symm
        subst hx
        refine Rn_pure 3 (i' := 28) (L' := [some (2, 161), some (0, p1), some (0, p2), some (0, p3), some (0, x5)]) (st' := [(0, p3), (0, p2), (2, 161)]) rfl ?_
        refine Rn_callI [(2, 161), (0, p2), (0, p3)] [] rfl rfl rfl rfl (ab_rvB_of rfl (⟨rfl, (by omega : (0 : Int) ≤ 161), (by omega : (161 : Int) + 1 < K ∧ 5 < K)⟩)) ?_
        refine h.mono (fun x8 g' r' h => ?_)
        obtain ⟨hx, h⟩ := h
        replace hx := hx.symm
        subst hx
        obtain ⟨hx, h⟩ := h
        replace hx := hx.symm
        subst hx
        exact Rn_ret1 rfl h
      · have h := h.2 hc
        refine Rn_pure 1 (i' := 14) (L' := [some (2, 161), some (0, p1), some (0, p2), some (0, p3), none]) (st' := [(0, (-2147483648))]) rfl ?_
        exact Rn_ret1 rfl h
-- EventLedgerModel.costOf (I)I
theorem v_M_costOf {K : Int} {S : Nat} {g r : ab_H} {p1 : Int} (P : Int → ab_H → ab_H → Prop) (hr : SI r) (hK : 186 ≤ K) (h : ab_Rn m_M_costOf 4 [some (2, 161), some (0, p1), some (0, 0), some (0, 0)] [] (K, S, g, r) (ab_Qi K S P)) : ab_RI m_M_costOf [(2, 161), (0, p1)] K S g r P := by
  show ab_Rn m_M_costOf 0 [some (2, 161), some (0, p1), none, none] [] (K, S, g, r) (ab_Qi K S P)
  refine Rn_pure 4 (i' := 4) (L' := [some (2, 161), some (0, p1), some (0, 0), some (0, 0)]) (st' := []) rfl ?_
  exact h
theorem v_M_costOf_4 {K : Int} {S : Nat} {g r : ab_H} {l1 l2 l3 : Int} (P : Int → ab_H → ab_H → Prop) (hr : SI r) (hK : 186 ≤ K) (h : ((0 : Int) ≤ 1081 ∧ (1081 : Int) < 1607) ∧ ((wr (g 174 1081) ≤ wr l3 → ab_RI m_M_weights [(2, 161), (0, l2), (0, l1)] K S g r (fun x1 g' r' => g' = g ∧ r' = r ∧ (P x1 g r))) ∧ (wr l3 < wr (g 174 1081) → ab_RI m_M_snapAt [(2, 161), (0, l3)] K S g r (fun x2 g' r' => g' = g ∧ r' = r ∧ (((wr l1 < wr x2 → ab_Rn m_M_costOf 4 [some (2, 161), some (0, l1), some (0, l2), some (0, l3 + 1)] [] (K, S, g, r) (ab_Qi K S P)) ∧ (wr x2 ≤ wr l1 → ab_RI m_M_snapAt [(2, 161), (0, l3)] K S g r (fun x3 g' r' => g' = g ∧ r' = r ∧ (ab_Rn m_M_costOf 4 [some (2, 161), some (0, l1), some (0, x3), some (0, l3 + 1)] [] (K, S, g, r) (ab_Qi K S P)))))))))) : ab_Rn m_M_costOf 4 [some (2, 161), some (0, l1), some (0, l2), some (0, l3)] [] (K, S, g, r) (ab_Qi K S P) := by
  refine Rn_pure 2 (i' := 6) (L' := [some (2, 161), some (0, l1), some (0, l2), some (0, l3)]) (st' := [(2, 161), (0, l3)]) rfl ?_
  refine Rn_getR rfl (⟨rfl, (by omega : (0 : Int) ≤ 161), (by omega : (161 : Int) + 1 < K ∧ 5 < K)⟩) (hr 149 _ rfl) (by decide) ?_
  refine Rn_pure 1 (i' := 8) (L' := [some (2, 161), some (0, l1), some (0, l2), some (0, l3)]) (st' := [(0, 1081), (2, 174), (0, l3)]) rfl ?_
  obtain ⟨hg, h⟩ := h
  refine Rn_iald rfl (⟨rfl, (by omega : (0 : Int) ≤ 174), (by omega : (174 : Int) + 1 < K ∧ 5 < K)⟩) hg ?_
  refine Rn_icge rfl (fun hc => ?_) (fun hc => ?_)
  · have h := h.1 hc
    refine Rn_pure 3 (i' := 26) (L' := [some (2, 161), some (0, l1), some (0, l2), some (0, l3)]) (st' := [(0, l1), (0, l2), (2, 161)]) rfl ?_
    refine Rn_callI [(2, 161), (0, l2), (0, l1)] [] rfl rfl rfl rfl (ab_rvB_of rfl (⟨rfl, (by omega : (0 : Int) ≤ 161), (by omega : (161 : Int) + 1 < K ∧ 5 < K)⟩)) ?_
    refine h.mono (fun x1 g' r' h => ?_)
    obtain ⟨hx, h⟩ := h
    replace hx := hx.symm
    subst hx
    obtain ⟨hx, h⟩ := h
    replace hx := hx.symm
    subst hx
    exact Rn_ret1 rfl h
  · have h := h.2 hc
    refine Rn_pure 2 (i' := 12) (L' := [some (2, 161), some (0, l1), some (0, l2), some (0, l3)]) (st' := [(0, l3), (2, 161)]) rfl ?_
    refine Rn_callI [(2, 161), (0, l3)] [] rfl rfl rfl rfl (ab_rvB_of rfl (⟨rfl, (by omega : (0 : Int) ≤ 161), (by omega : (161 : Int) + 1 < K ∧ 5 < K)⟩)) ?_
    refine h.mono (fun x2 g' r' h => ?_)
    obtain ⟨hx, h⟩ := h
    replace hx := hx.symm
    subst hx
    obtain ⟨hx, h⟩ := h
    replace hx := hx.symm
    subst hx
    refine Rn_pure 1 (i' := 14) (L' := [some (2, 161), some (0, l1), some (0, l2), some (0, l3)]) (st' := [(0, l1), (0, x2)]) rfl ?_
    refine Rn_icgt rfl (fun hc => ?_) (fun hc => ?_)
    · have h := h.1 hc
      refine Rn_pure 4 (i' := 4) (L' := [some (2, 161), some (0, l1), some (0, l2), some (0, l3 + 1)]) (st' := []) rfl ?_
      exact h
    · have h := h.2 hc
      refine Rn_pure 2 (i' := 17) (L' := [some (2, 161), some (0, l1), some (0, l2), some (0, l3)]) (st' := [(0, l3), (2, 161)]) rfl ?_
      refine Rn_callI [(2, 161), (0, l3)] [] rfl rfl rfl rfl (ab_rvB_of rfl (⟨rfl, (by omega : (0 : Int) ≤ 161), (by omega : (161 : Int) + 1 < K ∧ 5 < K)⟩)) ?_
      refine h.mono (fun x3 g' r' h => ?_)
      obtain ⟨hx, h⟩ := h
      replace hx := hx.symm
      subst hx
      obtain ⟨hx, h⟩ := h
      replace hx := hx.symm
      subst hx
      refine Rn_pure 4 (i' := 4) (L' := [some (2, 161), some (0, l1), some (0, x3), some (0, l3 + 1)]) (st' := []) rfl ?_
      exact h
