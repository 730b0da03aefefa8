-- EventLedgerModel.readLine ()V
theorem v_M_readLine {K : Int} {S : Nat} {g r : ab_H} (P : ab_H → ab_H → Prop) (hr : SI r) (hK : 186 ≤ K) (h : ((¬ wr (g 161 20) = wr 0 → ab_Rn m_M_readLine 11 [some (2, 161)] [] (K, S, g, r) (ab_Qv K S P)) ∧ (wr (g 161 20) = wr 0 → ((wr (g 161 21) < wr 8 → ab_Rn m_M_readLine 15 [some (2, 161)] [] (K, S, g, r) (ab_Qv K S P)) ∧ (wr 8 ≤ wr (g 161 21) → ((wr 11 < wr (g 161 21) → ab_Rn m_M_readLine 15 [some (2, 161)] [] (K, S, g, r) (ab_Qv K S P)) ∧ (wr (g 161 21) ≤ wr 11 → ab_Rn m_M_readLine 11 [some (2, 161)] [] (K, S, g, r) (ab_Qv K S P)))))))) : ab_RV m_M_readLine [(2, 161)] K S g r P := by
  show ab_Rn m_M_readLine 0 [some (2, 161)] [] (K, S, g, r) (ab_Qv K S P)
  refine Rn_pure 1 (i' := 1) (L' := [some (2, 161)]) (st' := [(2, 161)]) rfl ?_
  refine Rn_getI rfl (⟨rfl, (by omega : (0 : Int) ≤ 161), (by omega : (161 : Int) + 1 < K ∧ 5 < K)⟩) ?_
  refine Rn_ifne rfl (fun hc => ?_) (fun hc => ?_)
  · have h := h.1 hc
    exact h
  · have h := h.2 hc
    refine Rn_pure 1 (i' := 4) (L' := [some (2, 161)]) (st' := [(2, 161)]) rfl ?_
    refine Rn_getI rfl (⟨rfl, (by omega : (0 : Int) ≤ 161), (by omega : (161 : Int) + 1 < K ∧ 5 < K)⟩) ?_
    refine Rn_pure 1 (i' := 6) (L' := [some (2, 161)]) (st' := [(0, 8), (0, g 161 21)]) rfl ?_
    refine Rn_iclt rfl (fun hc => ?_) (fun hc => ?_)
    · have h := h.1 hc
      exact h
    · have h := h.2 hc
      refine Rn_pure 1 (i' := 8) (L' := [some (2, 161)]) (st' := [(2, 161)]) rfl ?_
      refine Rn_getI rfl (⟨rfl, (by omega : (0 : Int) ≤ 161), (by omega : (161 : Int) + 1 < K ∧ 5 < K)⟩) ?_
      refine Rn_pure 1 (i' := 10) (L' := [some (2, 161)]) (st' := [(0, 11), (0, g 161 21)]) rfl ?_
      refine Rn_icgt rfl (fun hc => ?_) (fun hc => ?_)
      · have h := h.1 hc
        exact h
      · have h := h.2 hc
        exact h
theorem v_M_readLine_11 {K : Int} {S : Nat} {g r : ab_H} (P : ab_H → ab_H → Prop) (hr : SI r) (hK : 186 ≤ K) (h : ab_RV m_M_wrong [(2, 161), (0, 1)] K S g r (fun g1 r' => r' = r ∧ (ab_Rn m_M_readLine 61 [some (2, 161)] [] (K, S, g1, r) (ab_Qv K S P)))) : ab_Rn m_M_readLine 11 [some (2, 161)] [] (K, S, g, r) (ab_Qv K S P) := by
  refine Rn_pure 2 (i' := 13) (L' := [some (2, 161)]) (st' := [(0, 1), (2, 161)]) rfl ?_
  refine Rn_callV [(2, 161), (0, 1)] [] rfl rfl rfl rfl (ab_rvB_of rfl (⟨rfl, (by omega : (0 : Int) ≤ 161), (by omega : (161 : Int) + 1 < K ∧ 5 < K)⟩)) ?_
  refine h.mono (fun g1 r' h => ?_)
  obtain ⟨hx, h⟩ := h
  replace hx := hx.symm
  subst hx
  refine Rn_pure 1 (i' := 61) (L' := [some (2, 161)]) (st' := []) rfl ?_
  exact h
theorem v_M_readLine_15 {K : Int} {S : Nat} {g r : ab_H} (P : ab_H → ab_H → Prop) (hr : SI r) (hK : 186 ≤ K) (h : ((wr 6 < wr (g 161 21) → ((¬ wr (g 161 21) = wr 7 → ((¬ wr (g 161 21) = wr 12 → ((¬ wr (g 161 21) = wr 13 → ((¬ wr (g 161 21) = wr 14 → ((¬ wr (g 161 21) = wr 15 → ab_RV m_M_readSeed [(2, 161)] K S g r (fun g1 r' => r' = r ∧ (ab_Rn m_M_readLine 61 [some (2, 161)] [] (K, S, g1, r) (ab_Qv K S P)))) ∧ (wr (g 161 21) = wr 15 → ab_RV m_M_readSnap [(2, 161)] K S g r (fun g3 r' => r' = r ∧ (ab_Rn m_M_readLine 61 [some (2, 161)] [] (K, S, g3, r) (ab_Qv K S P)))))) ∧ (wr (g 161 21) = wr 14 → ab_RV m_M_readTally [(2, 161)] K S g r (fun g5 r' => r' = r ∧ (ab_Rn m_M_readLine 61 [some (2, 161)] [] (K, S, g5, r) (ab_Qv K S P)))))) ∧ (wr (g 161 21) = wr 13 → ab_RV m_M_readLift [(2, 161)] K S g r (fun g7 r' => r' = r ∧ (ab_Rn m_M_readLine 61 [some (2, 161)] [] (K, S, g7, r) (ab_Qv K S P)))))) ∧ (wr (g 161 21) = wr 12 → ab_RV m_M_readAccount [(2, 161)] K S g r (fun g9 r' => r' = r ∧ (ab_Rn m_M_readLine 61 [some (2, 161)] [] (K, S, g9, r) (ab_Qv K S P)))))) ∧ (wr (g 161 21) = wr 7 → ab_RV m_M_readRevoke [(2, 161)] K S g r (fun g11 r' => r' = r ∧ (ab_Rn m_M_readLine 61 [some (2, 161)] [] (K, S, g11, r) (ab_Qv K S P)))))) ∧ (wr (g 161 21) ≤ wr 6 → ab_RV m_M_readEvent [(2, 161), (0, g 161 21)] K S g r (fun g13 r' => r' = r ∧ (ab_Rn m_M_readLine 61 [some (2, 161)] [] (K, S, g13, r) (ab_Qv K S P)))))) : ab_Rn m_M_readLine 15 [some (2, 161)] [] (K, S, g, r) (ab_Qv K S P) := by
  refine Rn_pure 1 (i' := 16) (L' := [some (2, 161)]) (st' := [(2, 161)]) rfl ?_
  refine Rn_getI rfl (⟨rfl, (by omega : (0 : Int) ≤ 161), (by omega : (161 : Int) + 1 < K ∧ 5 < K)⟩) ?_
  refine Rn_pure 1 (i' := 18) (L' := [some (2, 161)]) (st' := [(0, 6), (0, g 161 21)]) rfl ?_
  refine Rn_icgt rfl (fun hc => ?_) (fun hc => ?_)
  · have h := h.1 hc
    refine Rn_pure 1 (i' := 25) (L' := [some (2, 161)]) (st' := [(2, 161)]) rfl ?_
    refine Rn_getI rfl (⟨rfl, (by omega : (0 : Int) ≤ 161), (by omega : (161 : Int) + 1 < K ∧ 5 < K)⟩) ?_
    refine Rn_pure 1 (i' := 27) (L' := [some (2, 161)]) (st' := [(0, 7), (0, g 161 21)]) rfl ?_
    refine Rn_icne rfl (fun hc => ?_) (fun hc => ?_)
    · have h := h.1 hc
      refine Rn_pure 1 (i' := 32) (L' := [some (2, 161)]) (st' := [(2, 161)]) rfl ?_
      refine Rn_getI rfl (⟨rfl, (by omega : (0 : Int) ≤ 161), (by omega : (161 : Int) + 1 < K ∧ 5 < K)⟩) ?_
      refine Rn_pure 1 (i' := 34) (L' := [some (2, 161)]) (st' := [(0, 12), (0, g 161 21)]) rfl ?_
      refine Rn_icne rfl (fun hc => ?_) (fun hc => ?_)
      · have h := h.1 hc
        refine Rn_pure 1 (i' := 39) (L' := [some (2, 161)]) (st' := [(2, 161)]) rfl ?_
        refine Rn_getI rfl (⟨rfl, (by omega : (0 : Int) ≤ 161), (by omega : (161 : Int) + 1 < K ∧ 5 < K)⟩) ?_
        refine Rn_pure 1 (i' := 41) (L' := [some (2, 161)]) (st' := [(0, 13), (0, g 161 21)]) rfl ?_
        refine Rn_icne rfl (fun hc => ?_) (fun hc => ?_)
        · have h := h.1 hc
          refine Rn_pure 1 (i' := 46) (L' := [some (2, 161)]) (st' := [(2, 161)]) rfl ?_
          refine Rn_getI rfl (⟨rfl, (by omega : (0 : Int) ≤ 161), (by omega : (161 : Int) + 1 < K ∧ 5 < K)⟩) ?_
          refine Rn_pure 1 (i' := 48) (L' := [some (2, 161)]) (st' := [(0, 14), (0, g 161 21)]) rfl ?_
          refine Rn_icne rfl (fun hc => ?_) (fun hc => ?_)
          · have h := h.1 hc
            refine Rn_pure 1 (i' := 53) (L' := [some (2, 161)]) (st' := [(2, 161)]) rfl ?_
            refine Rn_getI rfl (⟨rfl, (by omega : (0 : Int) ≤ 161), (by omega : (161 : Int) + 1 < K ∧ 5 < K)⟩) ?_
            refine Rn_pure 1 (i' := 55) (L' := [some (2, 161)]) (st' := [(0, 15), (0, g 161 21)]) rfl ?_
            refine Rn_icne rfl (fun hc => ?_) (fun hc => ?_)
            · have h := h.1 hc
              refine Rn_pure 1 (i' := 60) (L' := [some (2, 161)]) (st' := [(2, 161)]) rfl ?_
              refine Rn_callV [(2, 161)] [] rfl rfl rfl rfl (ab_rvB_of rfl (⟨rfl, (by omega : (0 : Int) ≤ 161), (by omega : (161 : Int) + 1 < K ∧ 5 < K)⟩)) ?_
              refine h.mono (fun g1 r' h => ?_)
              obtain ⟨hx, h⟩ := h
              replace hx := hx.symm
              subst hx
              exact h
            · have h := h.2 hc
              refine Rn_pure 1 (i' := 57) (L' := [some (2, 161)]) (st' := [(2, 161)]) rfl ?_
              refine Rn_callV [(2, 161)] [] rfl rfl rfl rfl (ab_rvB_of rfl (⟨rfl, (by omega : (0 : Int) ≤ 161), (by omega : (161 : Int) + 1 < K ∧ 5 < K)⟩)) ?_
              refine h.mono (fun g3 r' h => ?_)
              obtain ⟨hx, h⟩ := h
              replace hx := hx.symm
              subst hx
              refine Rn_pure 1 (i' := 61) (L' := [some (2, 161)]) (st' := []) rfl ?_
              exact h
          · have h := h.2 hc
            refine Rn_pure 1 (i' := 50) (L' := [some (2, 161)]) (st' := [(2, 161)]) rfl ?_
            refine Rn_callV [(2, 161)] [] rfl rfl rfl rfl (ab_rvB_of rfl (⟨rfl, (by omega : (0 : Int) ≤ 161), (by omega : (161 : Int) + 1 < K ∧ 5 < K)⟩)) ?_
            refine h.mono (fun g5 r' h => ?_)
            obtain ⟨hx, h⟩ := h
            replace hx := hx.symm
            subst hx
            refine Rn_pure 1 (i' := 61) (L' := [some (2, 161)]) (st' := []) rfl ?_
            exact h
        · have h := h.2 hc
          refine Rn_pure 1 (i' := 43) (L' := [some (2, 161)]) (st' := [(2, 161)]) rfl ?_
          refine Rn_callV [(2, 161)] [] rfl rfl rfl rfl (ab_rvB_of rfl (⟨rfl, (by omega : (0 : Int) ≤ 161), (by omega : (161 : Int) + 1 < K ∧ 5 < K)⟩)) ?_
          refine h.mono (fun g7 r' h => ?_)
          obtain ⟨hx, h⟩ := h
          replace hx := hx.symm
          subst hx
          refine Rn_pure 1 (i' := 61) (L' := [some (2, 161)]) (st' := []) rfl ?_
          exact h
      · have h := h.2 hc
        refine Rn_pure 1 (i' := 36) (L' := [some (2, 161)]) (st' := [(2, 161)]) rfl ?_
        refine Rn_callV [(2, 161)] [] rfl rfl rfl rfl (ab_rvB_of rfl (⟨rfl, (by omega : (0 : Int) ≤ 161), (by omega : (161 : Int) + 1 < K ∧ 5 < K)⟩)) ?_
        refine h.mono (fun g9 r' h => ?_)
        obtain ⟨hx, h⟩ := h
        replace hx := hx.symm
        subst hx
        refine Rn_pure 1 (i' := 61) (L' := [some (2, 161)]) (st' := []) rfl ?_
        exact h
    · have h := h.2 hc
      refine Rn_pure 1 (i' := 29) (L' := [some (2, 161)]) (st' := [(2, 161)]) rfl ?_
      refine Rn_callV [(2, 161)] [] rfl rfl rfl rfl (ab_rvB_of rfl (⟨rfl, (by omega : (0 : Int) ≤ 161), (by omega : (161 : Int) + 1 < K ∧ 5 < K)⟩)) ?_
      refine h.mono (fun g11 r' h => ?_)
      obtain ⟨hx, h⟩ := h
      replace hx := hx.symm
      subst hx
      refine Rn_pure 1 (i' := 61) (L' := [some (2, 161)]) (st' := []) rfl ?_
      exact h
  · have h := h.2 hc
    refine Rn_pure 2 (i' := 21) (L' := [some (2, 161)]) (st' := [(2, 161), (2, 161)]) rfl ?_
    refine Rn_getI rfl (⟨rfl, (by omega : (0 : Int) ≤ 161), (by omega : (161 : Int) + 1 < K ∧ 5 < K)⟩) ?_
    refine Rn_callV [(2, 161), (0, g 161 21)] [] rfl rfl rfl rfl (ab_rvB_of rfl (⟨rfl, (by omega : (0 : Int) ≤ 161), (by omega : (161 : Int) + 1 < K ∧ 5 < K)⟩)) ?_
    refine h.mono (fun g13 r' h => ?_)
    obtain ⟨hx, h⟩ := h
    replace hx := hx.symm
    subst hx
    refine Rn_pure 1 (i' := 61) (L' := [some (2, 161)]) (st' := []) rfl ?_
    exact h
theorem v_M_readLine_61 {K : Int} {S : Nat} {g r : ab_H} (P : ab_H → ab_H → Prop) (hr : SI r) (hK : 186 ≤ K) (h : ((¬ wr (g 161 22) = wr 0 → ab_Rn m_M_readLine 71 [some (2, 161)] [] (K, S, g, r) (ab_Qv K S P)) ∧ (wr (g 161 22) = wr 0 → ((wr (g 161 20) = wr 3 → ab_Rn m_M_readLine 71 [some (2, 161)] [] (K, S, g, r) (ab_Qv K S P)) ∧ (¬ wr (g 161 20) = wr 3 → ab_RV m_M_wrong [(2, 161), (0, 1)] K S g r (fun g1 r' => r' = r ∧ (ab_Rn m_M_readLine 71 [some (2, 161)] [] (K, S, g1, r) (ab_Qv K S P)))))))) : ab_Rn m_M_readLine 61 [some (2, 161)] [] (K, S, g, r) (ab_Qv K S P) := by
  refine Rn_pure 1 (i' := 62) (L' := [some (2, 161)]) (st' := [(2, 161)]) rfl ?_
  refine Rn_getI rfl (⟨rfl, (by omega : (0 : Int) ≤ 161), (by omega : (161 : Int) + 1 < K ∧ 5 < K)⟩) ?_
  refine Rn_ifne rfl (fun hc => ?_) (fun hc => ?_)
  · have h := h.1 hc
    exact h
  · have h := h.2 hc
    refine Rn_pure 1 (i' := 65) (L' := [some (2, 161)]) (st' := [(2, 161)]) rfl ?_
    refine Rn_getI rfl (⟨rfl, (by omega : (0 : Int) ≤ 161), (by omega : (161 : Int) + 1 < K ∧ 5 < K)⟩) ?_
    refine Rn_pure 1 (i' := 67) (L' := [some (2, 161)]) (st' := [(0, 3), (0, g 161 20)]) rfl ?_
    refine Rn_iceq rfl (fun hc => ?_) (fun hc => ?_)
    · have h := h.1 hc
      exact h
    · have h := h.2 hc
      refine Rn_pure 2 (i' := 70) (L' := [some (2, 161)]) (st' := [(0, 1), (2, 161)]) rfl ?_
      refine Rn_callV [(2, 161), (0, 1)] [] rfl rfl rfl rfl (ab_rvB_of rfl (⟨rfl, (by omega : (0 : Int) ≤ 161), (by omega : (161 : Int) + 1 < K ∧ 5 < K)⟩)) ?_
      refine h.mono (fun g1 r' h => ?_)
      obtain ⟨hx, h⟩ := h
      replace hx := hx.symm
      subst hx
      exact h
theorem v_M_readLine_71 {K : Int} {S : Nat} {g r : ab_H} (P : ab_H → ab_H → Prop) (hr : SI r) (hK : 186 ≤ K) (h : ab_RV m_M_goOn [(2, 161)] K S g r (fun g1 r' => r' = r ∧ (∀ g3, g3 = ab_up g1 161 16 (g1 161 16 + 1) → P g3 r))) : ab_Rn m_M_readLine 71 [some (2, 161)] [] (K, S, g, r) (ab_Qv K S P) := by
  refine Rn_pure 1 (i' := 72) (L' := [some (2, 161)]) (st' := [(2, 161)]) rfl ?_
  refine Rn_callV [(2, 161)] [] rfl rfl rfl rfl (ab_rvB_of rfl (⟨rfl, (by omega : (0 : Int) ≤ 161), (by omega : (161 : Int) + 1 < K ∧ 5 < K)⟩)) ?_
  refine h.mono (fun g1 r' h => ?_)
  obtain ⟨hx, h⟩ := h
  replace hx := hx.symm
  subst hx
  refine Rn_pure 2 (i' := 75) (L' := [some (2, 161)]) (st' := [(2, 161), (2, 161)]) rfl ?_
  refine Rn_getI rfl (⟨rfl, (by omega : (0 : Int) ≤ 161), (by omega : (161 : Int) + 1 < K ∧ 5 < K)⟩) ?_
  refine Rn_pure 2 (i' := 78) (L' := [some (2, 161)]) (st' := [(0, g1 161 16 + 1), (2, 161)]) rfl ?_
  refine Rn_putI rfl (⟨rfl, (by omega : (0 : Int) ≤ 161), (by omega : (161 : Int) + 1 < K ∧ 5 < K)⟩) (fun g3 he_g3 => ?_)
  have h := h g3 he_g3
  exact Rn_ret0 rfl h
-- EventLedgerModel.freshText ()V
theorem v_M_freshText {K : Int} {S : Nat} {g r : ab_H} (P : ab_H → ab_H → Prop) (hr : SI r) (hK : 186 ≤ K) (h : ab_Rn m_M_freshText 2 [some (2, 161), some (0, 0)] [] (K, S, g, r) (ab_Qv K S P)) : ab_RV m_M_freshText [(2, 161)] K S g r P := by
  show ab_Rn m_M_freshText 0 [some (2, 161), none] [] (K, S, g, r) (ab_Qv K S P)
  refine Rn_pure 2 (i' := 2) (L' := [some (2, 161), some (0, 0)]) (st' := []) rfl ?_
  exact h
theorem v_M_freshText_2 {K : Int} {S : Nat} {g r : ab_H} {l1 : Int} (P : ab_H → ab_H → Prop) (hr : SI r) (hK : 186 ≤ K) (h : ((wr 6 ≤ wr l1 → ab_RV m_M_reads [(2, 161), (0, 2), (0, 20)] K S g r (fun g1 r' => r' = r ∧ (ab_RV m_M_reads [(2, 161), (0, 3), (0, 3)] K S g1 r (fun g3 r' => r' = r ∧ (ab_Rn m_M_freshText 21 [some (2, 161), some (0, 0)] [] (K, S, g3, r) (ab_Qv K S P)))))) ∧ (wr l1 < wr 6 → ab_RV m_M_reads [(2, 161), (0, l1), (0, 0)] K S g r (fun g5 r' => r' = r ∧ (ab_Rn m_M_freshText 2 [some (2, 161), some (0, l1 + 1)] [] (K, S, g5, r) (ab_Qv K S P)))))) : ab_Rn m_M_freshText 2 [some (2, 161), some (0, l1)] [] (K, S, g, r) (ab_Qv K S P) := by
  refine Rn_pure 2 (i' := 4) (L' := [some (2, 161), some (0, l1)]) (st' := [(0, 6), (0, l1)]) rfl ?_
  refine Rn_icge rfl (fun hc => ?_) (fun hc => ?_)
  · have h := h.1 hc
    refine Rn_pure 3 (i' := 14) (L' := [some (2, 161), some (0, l1)]) (st' := [(0, 20), (0, 2), (2, 161)]) rfl ?_
    refine Rn_callV [(2, 161), (0, 2), (0, 20)] [] rfl rfl rfl rfl (ab_rvB_of rfl (⟨rfl, (by omega : (0 : Int) ≤ 161), (by omega : (161 : Int) + 1 < K ∧ 5 < K)⟩)) ?_
    refine h.mono (fun g1 r' h => ?_)
    obtain ⟨hx, h⟩ := h
    replace hx := hx.symm
    subst hx
    refine Rn_pure 3 (i' := 18) (L' := [some (2, 161), some (0, l1)]) (st' := [(0, 3), (0, 3), (2, 161)]) rfl ?_
    refine Rn_callV [(2, 161), (0, 3), (0, 3)] [] rfl rfl rfl rfl (ab_rvB_of rfl (⟨rfl, (by omega : (0 : Int) ≤ 161), (by omega : (161 : Int) + 1 < K ∧ 5 < K)⟩)) ?_
    refine h.mono (fun g3 r' h => ?_)
    obtain ⟨hx, h⟩ := h
    replace hx := hx.symm
    subst hx
    refine Rn_pure 2 (i' := 21) (L' := [some (2, 161), some (0, 0)]) (st' := []) rfl ?_
    exact h
  · have h := h.2 hc
    refine Rn_pure 3 (i' := 8) (L' := [some (2, 161), some (0, l1)]) (st' := [(0, 0), (0, l1), (2, 161)]) rfl ?_
    refine Rn_callV [(2, 161), (0, l1), (0, 0)] [] rfl rfl rfl rfl (ab_rvB_of rfl (⟨rfl, (by omega : (0 : Int) ≤ 161), (by omega : (161 : Int) + 1 < K ∧ 5 < K)⟩)) ?_
    refine h.mono (fun g5 r' h => ?_)
    obtain ⟨hx, h⟩ := h
    replace hx := hx.symm
    subst hx
    refine Rn_pure 2 (i' := 2) (L' := [some (2, 161), some (0, l1 + 1)]) (st' := []) rfl ?_
    exact h
theorem v_M_freshText_21 {K : Int} {S : Nat} {g r : ab_H} {l1 : Int} (P : ab_H → ab_H → Prop) (hr : SI r) (hK : 186 ≤ K) (h : ((wr 14 ≤ wr l1 → ∀ g1, g1 = ab_up g 161 14 0 → ∀ g2, g2 = ab_up g1 161 15 0 → P g2 r) ∧ (wr l1 < wr 14 → ((0 : Int) ≤ 14 + l1 ∧ (14 + l1 : Int) < 28) ∧ ∀ g3, g3 = ab_up g 168 (14 + l1) 0 → ab_Rn m_M_freshText 21 [some (2, 161), some (0, l1 + 1)] [] (K, S, g3, r) (ab_Qv K S P)))) : ab_Rn m_M_freshText 21 [some (2, 161), some (0, l1)] [] (K, S, g, r) (ab_Qv K S P) := by
  refine Rn_pure 2 (i' := 23) (L' := [some (2, 161), some (0, l1)]) (st' := [(0, 14), (0, l1)]) rfl ?_
  refine Rn_icge rfl (fun hc => ?_) (fun hc => ?_)
  · have h := h.1 hc
    refine Rn_pure 2 (i' := 35) (L' := [some (2, 161), some (0, l1)]) (st' := [(0, 0), (2, 161)]) rfl ?_
    refine Rn_putZ rfl (⟨rfl, (by omega : (0 : Int) ≤ 161), (by omega : (161 : Int) + 1 < K ∧ 5 < K)⟩) (by decide) (fun g1 he_g1 => ?_)
    have h := h g1 he_g1
    refine Rn_pure 2 (i' := 38) (L' := [some (2, 161), some (0, l1)]) (st' := [(0, 0), (2, 161)]) rfl ?_
    refine Rn_putZ rfl (⟨rfl, (by omega : (0 : Int) ≤ 161), (by omega : (161 : Int) + 1 < K ∧ 5 < K)⟩) (by decide) (fun g2 he_g2 => ?_)
    have h := h g2 he_g2
    exact Rn_ret0 rfl h
  · have h := h.2 hc
    refine Rn_pure 1 (i' := 25) (L' := [some (2, 161), some (0, l1)]) (st' := [(2, 161)]) rfl ?_
    refine Rn_getR rfl (⟨rfl, (by omega : (0 : Int) ≤ 161), (by omega : (161 : Int) + 1 < K ∧ 5 < K)⟩) (hr 143 _ rfl) (by decide) ?_
    refine Rn_pure 4 (i' := 30) (L' := [some (2, 161), some (0, l1)]) (st' := [(0, 0), (0, 14 + l1), (2, 168)]) rfl ?_
    obtain ⟨hg, h⟩ := h
    refine Rn_iast rfl (⟨rfl, (by omega : (0 : Int) ≤ 168), (by omega : (168 : Int) + 1 < K ∧ 5 < K)⟩) hg (fun g3 he_g3 => ?_)
    have h := h g3 he_g3
    refine Rn_pure 2 (i' := 21) (L' := [some (2, 161), some (0, l1 + 1)]) (st' := []) rfl ?_
    exact h
-- EventLedgerModel.readText (I)V
theorem v_M_readText {K : Int} {S : Nat} {g r : ab_H} {p1 : Int} (P : ab_H → ab_H → Prop) (hr : SI r) (hK : 186 ≤ K) (h : ∀ g1, g1 = ab_up g 161 17 p1 → ∀ g2, g2 = ab_up g1 161 18 0 → ∀ g3, g3 = ab_up g2 161 22 0 → ∀ g4, g4 = ab_up g3 161 16 0 → ab_RV m_M_freshText [(2, 161)] K S g4 r (fun g5 r' => r' = r ∧ (ab_RV m_M_token [(2, 161)] K S g5 r (fun g7 r' => r' = r ∧ (ab_Rn m_M_readText 16 [some (2, 161), none] [] (K, S, g7, r) (ab_Qv K S P)))))) : ab_RV m_M_readText [(2, 161), (0, p1)] K S g r P := by
  show ab_Rn m_M_readText 0 [some (2, 161), some (0, p1)] [] (K, S, g, r) (ab_Qv K S P)
  refine Rn_pure 2 (i' := 2) (L' := [some (2, 161), some (0, p1)]) (st' := [(0, p1), (2, 161)]) rfl ?_
  refine Rn_putI rfl (⟨rfl, (by omega : (0 : Int) ≤ 161), (by omega : (161 : Int) + 1 < K ∧ 5 < K)⟩) (fun g1 he_g1 => ?_)
  have h := h g1 he_g1
  refine Rn_pure 2 (i' := 5) (L' := [some (2, 161), some (0, p1)]) (st' := [(0, 0), (2, 161)]) rfl ?_
  refine Rn_putI rfl (⟨rfl, (by omega : (0 : Int) ≤ 161), (by omega : (161 : Int) + 1 < K ∧ 5 < K)⟩) (fun g2 he_g2 => ?_)
  have h := h g2 he_g2
  refine Rn_pure 2 (i' := 8) (L' := [some (2, 161), some (0, p1)]) (st' := [(0, 0), (2, 161)]) rfl ?_
  refine Rn_putI rfl (⟨rfl, (by omega : (0 : Int) ≤ 161), (by omega : (161 : Int) + 1 < K ∧ 5 < K)⟩) (fun g3 he_g3 => ?_)
  have h := h g3 he_g3
  refine Rn_pure 2 (i' := 11) (L' := [some (2, 161), some (0, p1)]) (st' := [(0, 0), (2, 161)]) rfl ?_
  refine Rn_putI rfl (⟨rfl, (by omega : (0 : Int) ≤ 161), (by omega : (161 : Int) + 1 < K ∧ 5 < K)⟩) (fun g4 he_g4 => ?_)
  have h := h g4 he_g4
  refine Rn_pure 1 (i' := 13) (L' := [some (2, 161), some (0, p1)]) (st' := [(2, 161)]) rfl ?_
  refine Rn_callV [(2, 161)] [] rfl rfl rfl rfl (ab_rvB_of rfl (⟨rfl, (by omega : (0 : Int) ≤ 161), (by omega : (161 : Int) + 1 < K ∧ 5 < K)⟩)) ?_
  refine h.mono (fun g5 r' h => ?_)
  obtain ⟨hx, h⟩ := h
  replace hx := hx.symm
  subst hx
  refine Rn_pure 1 (i' := 15) (L' := [some (2, 161), some (0, p1)]) (st' := [(2, 161)]) rfl ?_
  refine Rn_callV [(2, 161)] [] rfl rfl rfl rfl (ab_rvB_of rfl (⟨rfl, (by omega : (0 : Int) ≤ 161), (by omega : (161 : Int) + 1 < K ∧ 5 < K)⟩)) ?_
  refine h.mono (fun g7 r' h => ?_)
  obtain ⟨hx, h⟩ := h
  replace hx := hx.symm
  subst hx
  refine Rn_weak (L' := [some (2, 161), none]) ⟨rfl, trivial⟩ ?_
  exact h
theorem v_M_readText_16 {K : Int} {S : Nat} {g r : ab_H} (P : ab_H → ab_H → Prop) (hr : SI r) (hK : 186 ≤ K) (h : ((¬ wr (g 161 22) = wr 0 → P g r) ∧ (wr (g 161 22) = wr 0 → ((wr (g 161 20) = wr 4 → P g r) ∧ (¬ wr (g 161 20) = wr 4 → ab_RV m_M_readLine [(2, 161)] K S g r (fun g1 r' => r' = r ∧ (ab_Rn m_M_readText 16 [some (2, 161), none] [] (K, S, g1, r) (ab_Qv K S P)))))))) : ab_Rn m_M_readText 16 [some (2, 161), none] [] (K, S, g, r) (ab_Qv K S P) := by
  refine Rn_pure 1 (i' := 17) (L' := [some (2, 161), none]) (st' := [(2, 161)]) rfl ?_
  refine Rn_getI rfl (⟨rfl, (by omega : (0 : Int) ≤ 161), (by omega : (161 : Int) + 1 < K ∧ 5 < K)⟩) ?_
  refine Rn_ifne rfl (fun hc => ?_) (fun hc => ?_)
  · have h := h.1 hc
    exact Rn_ret0 rfl h
  · have h := h.2 hc
    refine Rn_pure 1 (i' := 20) (L' := [some (2, 161), none]) (st' := [(2, 161)]) rfl ?_
    refine Rn_getI rfl (⟨rfl, (by omega : (0 : Int) ≤ 161), (by omega : (161 : Int) + 1 < K ∧ 5 < K)⟩) ?_
    refine Rn_pure 1 (i' := 22) (L' := [some (2, 161), none]) (st' := [(0, 4), (0, g 161 20)]) rfl ?_
    refine Rn_iceq rfl (fun hc => ?_) (fun hc => ?_)
    · have h := h.1 hc
      exact Rn_ret0 rfl h
    · have h := h.2 hc
      refine Rn_pure 1 (i' := 24) (L' := [some (2, 161), none]) (st' := [(2, 161)]) rfl ?_
      refine Rn_callV [(2, 161)] [] rfl rfl rfl rfl (ab_rvB_of rfl (⟨rfl, (by omega : (0 : Int) ≤ 161), (by omega : (161 : Int) + 1 < K ∧ 5 < K)⟩)) ?_
      refine h.mono (fun g1 r' h => ?_)
      obtain ⟨hx, h⟩ := h
      replace hx := hx.symm
      subst hx
      refine Rn_pure 1 (i' := 16) (L' := [some (2, 161), none]) (st' := []) rfl ?_
      exact h
-- EventLedgerModel.takeText ()V
theorem v_M_takeText {K : Int} {S : Nat} {g r : ab_H} (P : ab_H → ab_H → Prop) (hr : SI r) (hK : 186 ≤ K) (h : ab_Rn m_M_takeText 2 [some (2, 161), some (0, 0)] [] (K, S, g, r) (ab_Qv K S P)) : ab_RV m_M_takeText [(2, 161)] K S g r P := by
  show ab_Rn m_M_takeText 0 [some (2, 161), none] [] (K, S, g, r) (ab_Qv K S P)
  refine Rn_pure 2 (i' := 2) (L' := [some (2, 161), some (0, 0)]) (st' := []) rfl ?_
  exact h
theorem v_M_takeText_2 {K : Int} {S : Nat} {g r : ab_H} {l1 : Int} (P : ab_H → ab_H → Prop) (hr : SI r) (hK : 186 ≤ K) (h : ((wr 6 ≤ wr l1 → ab_Rn m_M_takeText 16 [some (2, 161), some (0, 0)] [] (K, S, g, r) (ab_Qv K S P)) ∧ (wr l1 < wr 6 → ab_RI m_M_reading [(2, 161), (0, l1)] K S g r (fun x1 g' r' => g' = g ∧ r' = r ∧ (((0 : Int) ≤ l1 ∧ (l1 : Int) < 12) ∧ ∀ g2, g2 = ab_up g 163 l1 x1 → ab_Rn m_M_takeText 2 [some (2, 161), some (0, l1 + 1)] [] (K, S, g2, r) (ab_Qv K S P)))))) : ab_Rn m_M_takeText 2 [some (2, 161), some (0, l1)] [] (K, S, g, r) (ab_Qv K S P) := by
  refine Rn_pure 2 (i' := 4) (L' := [some (2, 161), some (0, l1)]) (st' := [(0, 6), (0, l1)]) rfl ?_
  refine Rn_icge rfl (fun hc => ?_) (fun hc => ?_)
  · have h := h.1 hc
    refine Rn_pure 2 (i' := 16) (L' := [some (2, 161), some (0, 0)]) (st' := []) rfl ?_
    exact h
  · have h := h.2 hc
    refine Rn_pure 1 (i' := 6) (L' := [some (2, 161), some (0, l1)]) (st' := [(2, 161)]) rfl ?_
    refine Rn_getR rfl (⟨rfl, (by omega : (0 : Int) ≤ 161), (by omega : (161 : Int) + 1 < K ∧ 5 < K)⟩) (hr 138 _ rfl) (by decide) ?_
    refine Rn_pure 3 (i' := 10) (L' := [some (2, 161), some (0, l1)]) (st' := [(0, l1), (2, 161), (0, l1), (2, 163)]) rfl ?_
    refine Rn_callI [(2, 161), (0, l1)] [(0, l1), (2, 163)] rfl rfl rfl rfl (ab_rvB_of rfl (⟨rfl, (by omega : (0 : Int) ≤ 161), (by omega : (161 : Int) + 1 < K ∧ 5 < K)⟩)) ?_
    refine h.mono (fun x1 g' r' h => ?_)
    obtain ⟨hx, h⟩ := h
    replace hx := hx.symm
    subst hx
    obtain ⟨hx, h⟩ := h
    replace hx := hx.symm
    subst hx
    obtain ⟨hg, h⟩ := h
    refine Rn_iast rfl (⟨rfl, (by omega : (0 : Int) ≤ 163), (by omega : (163 : Int) + 1 < K ∧ 5 < K)⟩) hg (fun g2 he_g2 => ?_)
    have h := h g2 he_g2
    refine Rn_pure 2 (i' := 2) (L' := [some (2, 161), some (0, l1 + 1)]) (st' := []) rfl ?_
    exact h
theorem v_M_takeText_16 {K : Int} {S : Nat} {g r : ab_H} {l1 : Int} (P : ab_H → ab_H → Prop) (hr : SI r) (hK : 186 ≤ K) (h : ((wr 8 ≤ wr l1 → ab_Rn m_M_takeText 33 [some (2, 161), some (0, 0)] [] (K, S, g, r) (ab_Qv K S P)) ∧ (wr l1 < wr 8 → ((0 : Int) ≤ 8 + l1 ∧ (8 + l1 : Int) < 16) ∧ ((0 : Int) ≤ l1 ∧ (l1 : Int) < 16) ∧ ∀ g1, g1 = ab_up g 164 l1 (g 164 (8 + l1)) → ab_Rn m_M_takeText 16 [some (2, 161), some (0, l1 + 1)] [] (K, S, g1, r) (ab_Qv K S P)))) : ab_Rn m_M_takeText 16 [some (2, 161), some (0, l1)] [] (K, S, g, r) (ab_Qv K S P) := by
  refine Rn_pure 2 (i' := 18) (L' := [some (2, 161), some (0, l1)]) (st' := [(0, 8), (0, l1)]) rfl ?_
  refine Rn_icge rfl (fun hc => ?_) (fun hc => ?_)
  · have h := h.1 hc
    refine Rn_pure 2 (i' := 33) (L' := [some (2, 161), some (0, 0)]) (st' := []) rfl ?_
    exact h
  · have h := h.2 hc
    refine Rn_pure 1 (i' := 20) (L' := [some (2, 161), some (0, l1)]) (st' := [(2, 161)]) rfl ?_
    refine Rn_getR rfl (⟨rfl, (by omega : (0 : Int) ≤ 161), (by omega : (161 : Int) + 1 < K ∧ 5 < K)⟩) (hr 139 _ rfl) (by decide) ?_
    refine Rn_pure 2 (i' := 23) (L' := [some (2, 161), some (0, l1)]) (st' := [(2, 161), (0, l1), (2, 164)]) rfl ?_
    refine Rn_getR rfl (⟨rfl, (by omega : (0 : Int) ≤ 161), (by omega : (161 : Int) + 1 < K ∧ 5 < K)⟩) (hr 139 _ rfl) (by decide) ?_
    refine Rn_pure 3 (i' := 27) (L' := [some (2, 161), some (0, l1)]) (st' := [(0, 8 + l1), (2, 164), (0, l1), (2, 164)]) rfl ?_
    obtain ⟨hg, h⟩ := h
    refine Rn_iald rfl (⟨rfl, (by omega : (0 : Int) ≤ 164), (by omega : (164 : Int) + 1 < K ∧ 5 < K)⟩) hg ?_
    obtain ⟨hg, h⟩ := h
    refine Rn_iast rfl (⟨rfl, (by omega : (0 : Int) ≤ 164), (by omega : (164 : Int) + 1 < K ∧ 5 < K)⟩) hg (fun g1 he_g1 => ?_)
    have h := h g1 he_g1
    refine Rn_pure 2 (i' := 16) (L' := [some (2, 161), some (0, l1 + 1)]) (st' := []) rfl ?_
    exact h
theorem v_M_takeText_33 {K : Int} {S : Nat} {g r : ab_H} {l1 : Int} (P : ab_H → ab_H → Prop) (hr : SI r) (hK : 186 ≤ K) (h : ((wr 4 ≤ wr l1 → ab_Rn m_M_takeText 70 [some (2, 161), some (0, 0)] [] (K, S, g, r) (ab_Qv K S P)) ∧ (wr l1 < wr 4 → ((0 : Int) ≤ 4 + l1 ∧ (4 + l1 : Int) < 8) ∧ ((0 : Int) ≤ l1 ∧ (l1 : Int) < 8) ∧ ∀ g1, g1 = ab_up g 165 l1 (g 165 (4 + l1)) → ((0 : Int) ≤ 4 + l1 ∧ (4 + l1 : Int) < 8) ∧ ((0 : Int) ≤ l1 ∧ (l1 : Int) < 8) ∧ ∀ g2, g2 = ab_up g1 166 l1 (g1 166 (4 + l1)) → ((0 : Int) ≤ 4 + l1 ∧ (4 + l1 : Int) < 8) ∧ ((0 : Int) ≤ l1 ∧ (l1 : Int) < 8) ∧ ∀ g3, g3 = ab_up g2 167 l1 (g2 167 (4 + l1)) → ab_Rn m_M_takeText 33 [some (2, 161), some (0, l1 + 1)] [] (K, S, g3, r) (ab_Qv K S P)))) : ab_Rn m_M_takeText 33 [some (2, 161), some (0, l1)] [] (K, S, g, r) (ab_Qv K S P) := by
  refine Rn_pure 2 (i' := 35) (L' := [some (2, 161), some (0, l1)]) (st' := [(0, 4), (0, l1)]) rfl ?_
  refine Rn_icge rfl (fun hc => ?_) (fun hc => ?_)
  · have h := h.1 hc
    refine Rn_pure 2 (i' := 70) (L' := [some (2, 161), some (0, 0)]) (st' := []) rfl ?_
    exact h
  · have h := h.2 hc
    refine Rn_pure 1 (i' := 37) (L' := [some (2, 161), some (0, l1)]) (st' := [(2, 161)]) rfl ?_
    refine Rn_getR rfl (⟨rfl, (by omega : (0 : Int) ≤ 161), (by omega : (161 : Int) + 1 < K ∧ 5 < K)⟩) (hr 140 _ rfl) (by decide) ?_
    refine Rn_pure 2 (i' := 40) (L' := [some (2, 161), some (0, l1)]) (st' := [(2, 161), (0, l1), (2, 165)]) rfl ?_
    refine Rn_getR rfl (⟨rfl, (by omega : (0 : Int) ≤ 161), (by omega : (161 : Int) + 1 < K ∧ 5 < K)⟩) (hr 140 _ rfl) (by decide) ?_
    refine Rn_pure 3 (i' := 44) (L' := [some (2, 161), some (0, l1)]) (st' := [(0, 4 + l1), (2, 165), (0, l1), (2, 165)]) rfl ?_
    obtain ⟨hg, h⟩ := h
    refine Rn_iald rfl (⟨rfl, (by omega : (0 : Int) ≤ 165), (by omega : (165 : Int) + 1 < K ∧ 5 < K)⟩) hg ?_
    obtain ⟨hg, h⟩ := h
    refine Rn_iast rfl (⟨rfl, (by omega : (0 : Int) ≤ 165), (by omega : (165 : Int) + 1 < K ∧ 5 < K)⟩) hg (fun g1 he_g1 => ?_)
    have h := h g1 he_g1
    refine Rn_pure 1 (i' := 47) (L' := [some (2, 161), some (0, l1)]) (st' := [(2, 161)]) rfl ?_
    refine Rn_getR rfl (⟨rfl, (by omega : (0 : Int) ≤ 161), (by omega : (161 : Int) + 1 < K ∧ 5 < K)⟩) (hr 141 _ rfl) (by decide) ?_
    refine Rn_pure 2 (i' := 50) (L' := [some (2, 161), some (0, l1)]) (st' := [(2, 161), (0, l1), (2, 166)]) rfl ?_
    refine Rn_getR rfl (⟨rfl, (by omega : (0 : Int) ≤ 161), (by omega : (161 : Int) + 1 < K ∧ 5 < K)⟩) (hr 141 _ rfl) (by decide) ?_
    refine Rn_pure 3 (i' := 54) (L' := [some (2, 161), some (0, l1)]) (st' := [(0, 4 + l1), (2, 166), (0, l1), (2, 166)]) rfl ?_
    obtain ⟨hg, h⟩ := h
    refine Rn_iald rfl (⟨rfl, (by omega : (0 : Int) ≤ 166), (by omega : (166 : Int) + 1 < K ∧ 5 < K)⟩) hg ?_
    obtain ⟨hg, h⟩ := h
    refine Rn_iast rfl (⟨rfl, (by omega : (0 : Int) ≤ 166), (by omega : (166 : Int) + 1 < K ∧ 5 < K)⟩) hg (fun g2 he_g2 => ?_)
    have h := h g2 he_g2
    refine Rn_pure 1 (i' := 57) (L' := [some (2, 161), some (0, l1)]) (st' := [(2, 161)]) rfl ?_
    refine Rn_getR rfl (⟨rfl, (by omega : (0 : Int) ≤ 161), (by omega : (161 : Int) + 1 < K ∧ 5 < K)⟩) (hr 142 _ rfl) (by decide) ?_
    refine Rn_pure 2 (i' := 60) (L' := [some (2, 161), some (0, l1)]) (st' := [(2, 161), (0, l1), (2, 167)]) rfl ?_
    refine Rn_getR rfl (⟨rfl, (by omega : (0 : Int) ≤ 161), (by omega : (161 : Int) + 1 < K ∧ 5 < K)⟩) (hr 142 _ rfl) (by decide) ?_
    refine Rn_pure 3 (i' := 64) (L' := [some (2, 161), some (0, l1)]) (st' := [(0, 4 + l1), (2, 167), (0, l1), (2, 167)]) rfl ?_
    obtain ⟨hg, h⟩ := h
    refine Rn_iald rfl (⟨rfl, (by omega : (0 : Int) ≤ 167), (by omega : (167 : Int) + 1 < K ∧ 5 < K)⟩) hg ?_
    obtain ⟨hg, h⟩ := h
    refine Rn_iast rfl (⟨rfl, (by omega : (0 : Int) ≤ 167), (by omega : (167 : Int) + 1 < K ∧ 5 < K)⟩) hg (fun g3 he_g3 => ?_)
    have h := h g3 he_g3
    refine Rn_pure 2 (i' := 33) (L' := [some (2, 161), some (0, l1 + 1)]) (st' := []) rfl ?_
    exact h
theorem v_M_takeText_70 {K : Int} {S : Nat} {g r : ab_H} {l1 : Int} (P : ab_H → ab_H → Prop) (hr : SI r) (hK : 186 ≤ K) (h : ((wr 14 ≤ wr l1 → ab_Rn m_M_takeText 87 [some (2, 161), some (0, 0)] [] (K, S, g, r) (ab_Qv K S P)) ∧ (wr l1 < wr 14 → ((0 : Int) ≤ 14 + l1 ∧ (14 + l1 : Int) < 28) ∧ ((0 : Int) ≤ l1 ∧ (l1 : Int) < 28) ∧ ∀ g1, g1 = ab_up g 168 l1 (g 168 (14 + l1)) → ab_Rn m_M_takeText 70 [some (2, 161), some (0, l1 + 1)] [] (K, S, g1, r) (ab_Qv K S P)))) : ab_Rn m_M_takeText 70 [some (2, 161), some (0, l1)] [] (K, S, g, r) (ab_Qv K S P) := by
  refine Rn_pure 2 (i' := 72) (L' := [some (2, 161), some (0, l1)]) (st' := [(0, 14), (0, l1)]) rfl ?_
  refine Rn_icge rfl (fun hc => ?_) (fun hc => ?_)
  · have h := h.1 hc
    refine Rn_pure 2 (i' := 87) (L' := [some (2, 161), some (0, 0)]) (st' := []) rfl ?_
    exact h
  · have h := h.2 hc
    refine Rn_pure 1 (i' := 74) (L' := [some (2, 161), some (0, l1)]) (st' := [(2, 161)]) rfl ?_
    refine Rn_getR rfl (⟨rfl, (by omega : (0 : Int) ≤ 161), (by omega : (161 : Int) + 1 < K ∧ 5 < K)⟩) (hr 143 _ rfl) (by decide) ?_
    refine Rn_pure 2 (i' := 77) (L' := [some (2, 161), some (0, l1)]) (st' := [(2, 161), (0, l1), (2, 168)]) rfl ?_
    refine Rn_getR rfl (⟨rfl, (by omega : (0 : Int) ≤ 161), (by omega : (161 : Int) + 1 < K ∧ 5 < K)⟩) (hr 143 _ rfl) (by decide) ?_
    refine Rn_pure 3 (i' := 81) (L' := [some (2, 161), some (0, l1)]) (st' := [(0, 14 + l1), (2, 168), (0, l1), (2, 168)]) rfl ?_
    obtain ⟨hg, h⟩ := h
    refine Rn_iald rfl (⟨rfl, (by omega : (0 : Int) ≤ 168), (by omega : (168 : Int) + 1 < K ∧ 5 < K)⟩) hg ?_
    obtain ⟨hg, h⟩ := h
    refine Rn_iast rfl (⟨rfl, (by omega : (0 : Int) ≤ 168), (by omega : (168 : Int) + 1 < K ∧ 5 < K)⟩) hg (fun g1 he_g1 => ?_)
    have h := h g1 he_g1
    refine Rn_pure 2 (i' := 70) (L' := [some (2, 161), some (0, l1 + 1)]) (st' := []) rfl ?_
    exact h
theorem v_M_takeText_87 {K : Int} {S : Nat} {g r : ab_H} {l1 : Int} (P : ab_H → ab_H → Prop) (hr : SI r) (hK : 186 ≤ K) (h : ((wr 56 ≤ wr l1 → P g r) ∧ (wr l1 < wr 56 → ((0 : Int) ≤ 56 + l1 ∧ (56 + l1 : Int) < 112) ∧ ((0 : Int) ≤ l1 ∧ (l1 : Int) < 112) ∧ ∀ g1, g1 = ab_up g 169 l1 (g 169 (56 + l1)) → ((0 : Int) ≤ 56 + l1 ∧ (56 + l1 : Int) < 112) ∧ ((0 : Int) ≤ l1 ∧ (l1 : Int) < 112) ∧ ∀ g2, g2 = ab_up g1 170 l1 (g1 170 (56 + l1)) → ((0 : Int) ≤ 56 + l1 ∧ (56 + l1 : Int) < 112) ∧ ((0 : Int) ≤ l1 ∧ (l1 : Int) < 112) ∧ ∀ g3, g3 = ab_up g2 171 l1 (g2 171 (56 + l1)) → ab_Rn m_M_takeText 87 [some (2, 161), some (0, l1 + 1)] [] (K, S, g3, r) (ab_Qv K S P)))) : ab_Rn m_M_takeText 87 [some (2, 161), some (0, l1)] [] (K, S, g, r) (ab_Qv K S P) := by
  refine Rn_pure 2 (i' := 89) (L' := [some (2, 161), some (0, l1)]) (st' := [(0, 56), (0, l1)]) rfl ?_
  refine Rn_icge rfl (fun hc => ?_) (fun hc => ?_)
  · have h := h.1 hc
    exact Rn_ret0 rfl h
  · have h := h.2 hc
    refine Rn_pure 1 (i' := 91) (L' := [some (2, 161), some (0, l1)]) (st' := [(2, 161)]) rfl ?_
    refine Rn_getR rfl (⟨rfl, (by omega : (0 : Int) ≤ 161), (by omega : (161 : Int) + 1 < K ∧ 5 < K)⟩) (hr 144 _ rfl) (by decide) ?_
    refine Rn_pure 2 (i' := 94) (L' := [some (2, 161), some (0, l1)]) (st' := [(2, 161), (0, l1), (2, 169)]) rfl ?_
    refine Rn_getR rfl (⟨rfl, (by omega : (0 : Int) ≤ 161), (by omega : (161 : Int) + 1 < K ∧ 5 < K)⟩) (hr 144 _ rfl) (by decide) ?_
    refine Rn_pure 3 (i' := 98) (L' := [some (2, 161), some (0, l1)]) (st' := [(0, 56 + l1), (2, 169), (0, l1), (2, 169)]) rfl ?_
    obtain ⟨hg, h⟩ := h
    refine Rn_iald rfl (⟨rfl, (by omega : (0 : Int) ≤ 169), (by omega : (169 : Int) + 1 < K ∧ 5 < K)⟩) hg ?_
    obtain ⟨hg, h⟩ := h
    refine Rn_iast rfl (⟨rfl, (by omega : (0 : Int) ≤ 169), (by omega : (169 : Int) + 1 < K ∧ 5 < K)⟩) hg (fun g1 he_g1 => ?_)
    have h := h g1 he_g1
    refine Rn_pure 1 (i' := 101) (L' := [some (2, 161), some (0, l1)]) (st' := [(2, 161)]) rfl ?_
    refine Rn_getR rfl (⟨rfl, (by omega : (0 : Int) ≤ 161), (by omega : (161 : Int) + 1 < K ∧ 5 < K)⟩) (hr 145 _ rfl) (by decide) ?_
    refine Rn_pure 2 (i' := 104) (L' := [some (2, 161), some (0, l1)]) (st' := [(2, 161), (0, l1), (2, 170)]) rfl ?_
    refine Rn_getR rfl (⟨rfl, (by omega : (0 : Int) ≤ 161), (by omega : (161 : Int) + 1 < K ∧ 5 < K)⟩) (hr 145 _ rfl) (by decide) ?_
    refine Rn_pure 3 (i' := 108) (L' := [some (2, 161), some (0, l1)]) (st' := [(0, 56 + l1), (2, 170), (0, l1), (2, 170)]) rfl ?_
    obtain ⟨hg, h⟩ := h
    refine Rn_iald rfl (⟨rfl, (by omega : (0 : Int) ≤ 170), (by omega : (170 : Int) + 1 < K ∧ 5 < K)⟩) hg ?_
    obtain ⟨hg, h⟩ := h
    refine Rn_iast rfl (⟨rfl, (by omega : (0 : Int) ≤ 170), (by omega : (170 : Int) + 1 < K ∧ 5 < K)⟩) hg (fun g2 he_g2 => ?_)
    have h := h g2 he_g2
    refine Rn_pure 1 (i' := 111) (L' := [some (2, 161), some (0, l1)]) (st' := [(2, 161)]) rfl ?_
    refine Rn_getR rfl (⟨rfl, (by omega : (0 : Int) ≤ 161), (by omega : (161 : Int) + 1 < K ∧ 5 < K)⟩) (hr 146 _ rfl) (by decide) ?_
    refine Rn_pure 2 (i' := 114) (L' := [some (2, 161), some (0, l1)]) (st' := [(2, 161), (0, l1), (2, 171)]) rfl ?_
    refine Rn_getR rfl (⟨rfl, (by omega : (0 : Int) ≤ 161), (by omega : (161 : Int) + 1 < K ∧ 5 < K)⟩) (hr 146 _ rfl) (by decide) ?_
    refine Rn_pure 3 (i' := 118) (L' := [some (2, 161), some (0, l1)]) (st' := [(0, 56 + l1), (2, 171), (0, l1), (2, 171)]) rfl ?_
    obtain ⟨hg, h⟩ := h
    refine Rn_iald rfl (⟨rfl, (by omega : (0 : Int) ≤ 171), (by omega : (171 : Int) + 1 < K ∧ 5 < K)⟩) hg ?_
    obtain ⟨hg, h⟩ := h
    refine Rn_iast rfl (⟨rfl, (by omega : (0 : Int) ≤ 171), (by omega : (171 : Int) + 1 < K ∧ 5 < K)⟩) hg (fun g3 he_g3 => ?_)
    have h := h g3 he_g3
    refine Rn_pure 2 (i' := 87) (L' := [some (2, 161), some (0, l1 + 1)]) (st' := []) rfl ?_
    exact h
-- EventLedgerModel.text (I)I
theorem v_M_text {K : Int} {S : Nat} {g r : ab_H} {p1 : Int} (P : Int → ab_H → ab_H → Prop) (hr : SI r) (hK : 186 ≤ K) (h : ∀ g1, g1 = ab_up g 161 0 0 → ((wr p1 < wr 0 → P (-2) g1 r) ∧ (wr 0 ≤ wr p1 → ((wr p1 ≤ wr (g1 161 2) → ab_RV m_M_readText [(2, 161), (0, p1)] K S g1 r (fun g2 r' => r' = r ∧ (∀ g4, g4 = ab_up g2 161 2 0 → ∀ g5, g5 = ab_up g4 161 24 (g4 161 22) → ((¬ wr (g5 161 22) = wr 0 → ∀ g6, g6 = ab_up g5 161 25 (g5 161 23) → ((wr (g6 161 22) = wr 0 → ab_RV m_M_takeText [(2, 161)] K S g6 r (fun g7 r' => r' = r ∧ (ab_RV m_M_begins [(2, 161)] K S g7 r (fun g9 r' => r' = r ∧ (∀ g11, g11 = ab_up g9 161 30 0 → ∀ g12, g12 = ab_up g11 161 31 0 → P (g12 161 16) g12 r))))) ∧ (¬ wr (g6 161 22) = wr 0 → P (-1) g6 r))) ∧ (wr (g5 161 22) = wr 0 → ∀ g13, g13 = ab_up g5 161 25 (-1) → ((wr (g13 161 22) = wr 0 → ab_RV m_M_takeText [(2, 161)] K S g13 r (fun g14 r' => r' = r ∧ (ab_RV m_M_begins [(2, 161)] K S g14 r (fun g16 r' => r' = r ∧ (∀ g18, g18 = ab_up g16 161 30 0 → ∀ g19, g19 = ab_up g18 161 31 0 → P (g19 161 16) g19 r))))) ∧ (¬ wr (g13 161 22) = wr 0 → P (-1) g13 r))))))) ∧ (wr (g1 161 2) < wr p1 → P (-2) g1 r))))) : ab_RI m_M_text [(2, 161), (0, p1)] K S g r P := by
  show ab_Rn m_M_text 0 [some (2, 161), some (0, p1)] [] (K, S, g, r) (ab_Qi K S P)
  refine Rn_pure 2 (i' := 2) (L' := [some (2, 161), some (0, p1)]) (st' := [(0, 0), (2, 161)]) rfl ?_
  refine Rn_putI rfl (⟨rfl, (by omega : (0 : Int) ≤ 161), (by omega : (161 : Int) + 1 < K ∧ 5 < K)⟩) (fun g1 he_g1 => ?_)
  have h := h g1 he_g1
  refine Rn_pure 1 (i' := 4) (L' := [some (2, 161), some (0, p1)]) (st' := [(0, p1)]) rfl ?_
  refine Rn_iflt rfl (fun hc => ?_) (fun hc => ?_)
  · have h := h.1 hc
    refine Rn_pure 1 (i' := 10) (L' := [some (2, 161), some (0, p1)]) (st' := [(0, (-2))]) rfl ?_
    exact Rn_ret1 rfl h
  · have h := h.2 hc
    refine Rn_pure 2 (i' := 7) (L' := [some (2, 161), some (0, p1)]) (st' := [(2, 161), (0, p1)]) rfl ?_
    refine Rn_getI rfl (⟨rfl, (by omega : (0 : Int) ≤ 161), (by omega : (161 : Int) + 1 < K ∧ 5 < K)⟩) ?_
    refine Rn_icle rfl (fun hc => ?_) (fun hc => ?_)
    · have h := h.1 hc
      refine Rn_pure 2 (i' := 13) (L' := [some (2, 161), some (0, p1)]) (st' := [(0, p1), (2, 161)]) rfl ?_
      refine Rn_callV [(2, 161), (0, p1)] [] rfl rfl rfl rfl (ab_rvB_of rfl (⟨rfl, (by omega : (0 : Int) ≤ 161), (by omega : (161 : Int) + 1 < K ∧ 5 < K)⟩)) ?_
      refine h.mono (fun g2 r' h => ?_)
      obtain ⟨hx, h⟩ := h
      replace hx := hx.symm
      subst hx
      refine Rn_pure 2 (i' := 16) (L' := [some (2, 161), some (0, p1)]) (st' := [(0, 0), (2, 161)]) rfl ?_
      refine Rn_putI rfl (⟨rfl, (by omega : (0 : Int) ≤ 161), (by omega : (161 : Int) + 1 < K ∧ 5 < K)⟩) (fun g4 he_g4 => ?_)
      have h := h g4 he_g4
      refine Rn_pure 2 (i' := 19) (L' := [some (2, 161), some (0, p1)]) (st' := [(2, 161), (2, 161)]) rfl ?_
      refine Rn_getI rfl (⟨rfl, (by omega : (0 : Int) ≤ 161), (by omega : (161 : Int) + 1 < K ∧ 5 < K)⟩) ?_
      refine Rn_putI rfl (⟨rfl, (by omega : (0 : Int) ≤ 161), (by omega : (161 : Int) + 1 < K ∧ 5 < K)⟩) (fun g5 he_g5 => ?_)
      have h := h g5 he_g5
      refine Rn_pure 2 (i' := 23) (L' := [some (2, 161), some (0, p1)]) (st' := [(2, 161), (2, 161)]) rfl ?_
      refine Rn_getI rfl (⟨rfl, (by omega : (0 : Int) ≤ 161), (by omega : (161 : Int) + 1 < K ∧ 5 < K)⟩) ?_
      refine Rn_ifne rfl (fun hc => ?_) (fun hc => ?_)
      · have h := h.1 hc
        refine Rn_pure 1 (i' := 28) (L' := [some (2, 161), some (0, p1)]) (st' := [(2, 161), (2, 161)]) rfl ?_
        refine Rn_getI rfl (⟨rfl, (by omega : (0 : Int) ≤ 161), (by omega : (161 : Int) + 1 < K ∧ 5 < K)⟩) ?_
        refine Rn_putI rfl (⟨rfl, (by omega : (0 : Int) ≤ 161), (by omega : (161 : Int) + 1 < K ∧ 5 < K)⟩) (fun g6 he_g6 => ?_)
        have h := h g6 he_g6
        refine Rn_pure 1 (i' := 31) (L' := [some (2, 161), some (0, p1)]) (st' := [(2, 161)]) rfl ?_
        refine Rn_getI rfl (⟨rfl, (by omega : (0 : Int) ≤ 161), (by omega : (161 : Int) + 1 < K ∧ 5 < K)⟩) ?_
        refine Rn_ifeq rfl (fun hc => ?_) (fun hc => ?_)
        · have h := h.1 hc
          refine Rn_pure 1 (i' := 36) (L' := [some (2, 161), some (0, p1)]) (st' := [(2, 161)]) rfl ?_
          refine Rn_callV [(2, 161)] [] rfl rfl rfl rfl (ab_rvB_of rfl (⟨rfl, (by omega : (0 : Int) ≤ 161), (by omega : (161 : Int) + 1 < K ∧ 5 < K)⟩)) ?_
          refine h.mono (fun g7 r' h => ?_)
          obtain ⟨hx, h⟩ := h
          replace hx := hx.symm
          subst hx
          refine Rn_pure 1 (i' := 38) (L' := [some (2, 161), some (0, p1)]) (st' := [(2, 161)]) rfl ?_
          refine Rn_callV [(2, 161)] [] rfl rfl rfl rfl (ab_rvB_of rfl (⟨rfl, (by omega : (0 : Int) ≤ 161), (by omega : (161 : Int) + 1 < K ∧ 5 < K)⟩)) ?_
          refine h.mono (fun g9 r' h => ?_)
          obtain ⟨hx, h⟩ := h
          replace hx := hx.symm
          subst hx
          refine Rn_pure 2 (i' := 41) (L' := [some (2, 161), some (0, p1)]) (st' := [(0, 0), (2, 161)]) rfl ?_
          refine Rn_putI rfl (⟨rfl, (by omega : (0 : Int) ≤ 161), (by omega : (161 : Int) + 1 < K ∧ 5 < K)⟩) (fun g11 he_g11 => ?_)
          have h := h g11 he_g11
          refine Rn_pure 2 (i' := 44) (L' := [some (2, 161), some (0, p1)]) (st' := [(0, 0), (2, 161)]) rfl ?_
          refine Rn_putZ rfl (⟨rfl, (by omega : (0 : Int) ≤ 161), (by omega : (161 : Int) + 1 < K ∧ 5 < K)⟩) (by decide) (fun g12 he_g12 => ?_)
          have h := h g12 he_g12
          refine Rn_pure 1 (i' := 46) (L' := [some (2, 161), some (0, p1)]) (st' := [(2, 161)]) rfl ?_
          refine Rn_getI rfl (⟨rfl, (by omega : (0 : Int) ≤ 161), (by omega : (161 : Int) + 1 < K ∧ 5 < K)⟩) ?_
          exact Rn_ret1 rfl h
        · have h := h.2 hc
          refine Rn_pure 1 (i' := 34) (L' := [some (2, 161), some (0, p1)]) (st' := [(0, (-1))]) rfl ?_
          exact Rn_ret1 rfl h
      · have h := h.2 hc
        refine Rn_pure 2 (i' := 29) (L' := [some (2, 161), some (0, p1)]) (st' := [(0, (-1)), (2, 161)]) rfl ?_
        refine Rn_putI rfl (⟨rfl, (by omega : (0 : Int) ≤ 161), (by omega : (161 : Int) + 1 < K ∧ 5 < K)⟩) (fun g13 he_g13 => ?_)
        have h := h g13 he_g13
        refine Rn_pure 1 (i' := 31) (L' := [some (2, 161), some (0, p1)]) (st' := [(2, 161)]) rfl ?_
        refine Rn_getI rfl (⟨rfl, (by omega : (0 : Int) ≤ 161), (by omega : (161 : Int) + 1 < K ∧ 5 < K)⟩) ?_
        refine Rn_ifeq rfl (fun hc => ?_) (fun hc => ?_)
        · have h := h.1 hc
          refine Rn_pure 1 (i' := 36) (L' := [some (2, 161), some (0, p1)]) (st' := [(2, 161)]) rfl ?_
          refine Rn_callV [(2, 161)] [] rfl rfl rfl rfl (ab_rvB_of rfl (⟨rfl, (by omega : (0 : Int) ≤ 161), (by omega : (161 : Int) + 1 < K ∧ 5 < K)⟩)) ?_
          refine h.mono (fun g14 r' h => ?_)
          obtain ⟨hx, h⟩ := h
          replace hx := hx.symm
          subst hx
          refine Rn_pure 1 (i' := 38) (L' := [some (2, 161), some (0, p1)]) (st' := [(2, 161)]) rfl ?_
          refine Rn_callV [(2, 161)] [] rfl rfl rfl rfl (ab_rvB_of rfl (⟨rfl, (by omega : (0 : Int) ≤ 161), (by omega : (161 : Int) + 1 < K ∧ 5 < K)⟩)) ?_
          refine h.mono (fun g16 r' h => ?_)
          obtain ⟨hx, h⟩ := h
          replace hx := hx.symm
          subst hx
          refine Rn_pure 2 (i' := 41) (L' := [some (2, 161), some (0, p1)]) (st' := [(0, 0), (2, 161)]) rfl ?_
          refine Rn_putI rfl (⟨rfl, (by omega : (0 : Int) ≤ 161), (by omega : (161 : Int) + 1 < K ∧ 5 < K)⟩) (fun g18 he_g18 => ?_)
          have h := h g18 he_g18
          refine Rn_pure 2 (i' := 44) (L' := [some (2, 161), some (0, p1)]) (st' := [(0, 0), (2, 161)]) rfl ?_
          refine Rn_putZ rfl (⟨rfl, (by omega : (0 : Int) ≤ 161), (by omega : (161 : Int) + 1 < K ∧ 5 < K)⟩) (by decide) (fun g19 he_g19 => ?_)
          have h := h g19 he_g19
          refine Rn_pure 1 (i' := 46) (L' := [some (2, 161), some (0, p1)]) (st' := [(2, 161)]) rfl ?_
          refine Rn_getI rfl (⟨rfl, (by omega : (0 : Int) ≤ 161), (by omega : (161 : Int) + 1 < K ∧ 5 < K)⟩) ?_
          exact Rn_ret1 rfl h
        · have h := h.2 hc
          refine Rn_pure 1 (i' := 34) (L' := [some (2, 161), some (0, p1)]) (st' := [(0, (-1))]) rfl ?_
          exact Rn_ret1 rfl h
    · have h := h.2 hc
      refine Rn_pure 1 (i' := 10) (L' := [some (2, 161), some (0, p1)]) (st' := [(0, (-2))]) rfl ?_
      exact Rn_ret1 rfl h
-- EventLedgerModel.fault (I)I
theorem v_M_fault {K : Int} {S : Nat} {g r : ab_H} {p1 : Int} (P : Int → ab_H → ab_H → Prop) (hr : SI r) (hK : 186 ≤ K) (h : ∀ g1, g1 = ab_up g 161 0 0 → ((¬ wr p1 = wr 0 → ((¬ wr p1 = wr 1 → P (-1) g1 r) ∧ (wr p1 = wr 1 → P (g1 161 25) g1 r))) ∧ (wr p1 = wr 0 → P (g1 161 24) g1 r))) : ab_RI m_M_fault [(2, 161), (0, p1)] K S g r P := by
  show ab_Rn m_M_fault 0 [some (2, 161), some (0, p1)] [] (K, S, g, r) (ab_Qi K S P)
  refine Rn_pure 2 (i' := 2) (L' := [some (2, 161), some (0, p1)]) (st' := [(0, 0), (2, 161)]) rfl ?_
  refine Rn_putI rfl (⟨rfl, (by omega : (0 : Int) ≤ 161), (by omega : (161 : Int) + 1 < K ∧ 5 < K)⟩) (fun g1 he_g1 => ?_)
  have h := h g1 he_g1
  refine Rn_pure 1 (i' := 4) (L' := [some (2, 161), some (0, p1)]) (st' := [(0, p1)]) rfl ?_
  refine Rn_ifne rfl (fun hc => ?_) (fun hc => ?_)
  · have h := h.1 hc
    refine Rn_pure 2 (i' := 10) (L' := [some (2, 161), some (0, p1)]) (st' := [(0, 1), (0, p1)]) rfl ?_
    refine Rn_icne rfl (fun hc => ?_) (fun hc => ?_)
    · have h := h.1 hc
      refine Rn_pure 1 (i' := 15) (L' := [some (2, 161), some (0, p1)]) (st' := [(0, (-1))]) rfl ?_
      exact Rn_ret1 rfl h
    · have h := h.2 hc
      refine Rn_pure 1 (i' := 12) (L' := [some (2, 161), some (0, p1)]) (st' := [(2, 161)]) rfl ?_
      refine Rn_getI rfl (⟨rfl, (by omega : (0 : Int) ≤ 161), (by omega : (161 : Int) + 1 < K ∧ 5 < K)⟩) ?_
      refine Rn_pure 1 (i' := 15) (L' := [some (2, 161), some (0, p1)]) (st' := [(0, g1 161 25)]) rfl ?_
      exact Rn_ret1 rfl h
  · have h := h.2 hc
    refine Rn_pure 1 (i' := 6) (L' := [some (2, 161), some (0, p1)]) (st' := [(2, 161)]) rfl ?_
    refine Rn_getI rfl (⟨rfl, (by omega : (0 : Int) ≤ 161), (by omega : (161 : Int) + 1 < K ∧ 5 < K)⟩) ?_
    refine Rn_pure 1 (i' := 15) (L' := [some (2, 161), some (0, p1)]) (st' := [(0, g1 161 24)]) rfl ?_
    exact Rn_ret1 rfl h
-- EventLedgerModel.accounts ()I
theorem v_M_accounts {K : Int} {S : Nat} {g r : ab_H} (P : Int → ab_H → ab_H → Prop) (hr : SI r) (hK : 186 ≤ K) (h : ((0 : Int) ≤ 0 ∧ (0 : Int) < 12) ∧ P (g 163 0) g r) : ab_RI m_M_accounts [(2, 161)] K S g r P := by
  show ab_Rn m_M_accounts 0 [some (2, 161)] [] (K, S, g, r) (ab_Qi K S P)
  refine Rn_pure 1 (i' := 1) (L' := [some (2, 161)]) (st' := [(2, 161)]) rfl ?_
  refine Rn_getR rfl (⟨rfl, (by omega : (0 : Int) ≤ 161), (by omega : (161 : Int) + 1 < K ∧ 5 < K)⟩) (hr 138 _ rfl) (by decide) ?_
  refine Rn_pure 1 (i' := 3) (L' := [some (2, 161)]) (st' := [(0, 0), (2, 163)]) rfl ?_
  obtain ⟨hg, h⟩ := h
  refine Rn_iald rfl (⟨rfl, (by omega : (0 : Int) ≤ 163), (by omega : (163 : Int) + 1 < K ∧ 5 < K)⟩) hg ?_
  exact Rn_ret1 rfl h
-- EventLedgerModel.tallies ()I
theorem v_M_tallies {K : Int} {S : Nat} {g r : ab_H} (P : Int → ab_H → ab_H → Prop) (hr : SI r) (hK : 186 ≤ K) (h : ((0 : Int) ≤ 1 ∧ (1 : Int) < 12) ∧ P (g 163 1) g r) : ab_RI m_M_tallies [(2, 161)] K S g r P := by
  show ab_Rn m_M_tallies 0 [some (2, 161)] [] (K, S, g, r) (ab_Qi K S P)
  refine Rn_pure 1 (i' := 1) (L' := [some (2, 161)]) (st' := [(2, 161)]) rfl ?_
  refine Rn_getR rfl (⟨rfl, (by omega : (0 : Int) ≤ 161), (by omega : (161 : Int) + 1 < K ∧ 5 < K)⟩) (hr 138 _ rfl) (by decide) ?_
  refine Rn_pure 1 (i' := 3) (L' := [some (2, 161)]) (st' := [(0, 1), (2, 163)]) rfl ?_
  obtain ⟨hg, h⟩ := h
  refine Rn_iald rfl (⟨rfl, (by omega : (0 : Int) ≤ 163), (by omega : (163 : Int) + 1 < K ∧ 5 < K)⟩) hg ?_
  exact Rn_ret1 rfl h
-- EventLedgerModel.named (II)I
theorem v_M_named {K : Int} {S : Nat} {g r : ab_H} {p1 p2 : Int} (P : Int → ab_H → ab_H → Prop) (hr : SI r) (hK : 186 ≤ K) (h : ∀ g1, g1 = ab_up g 161 0 0 → ((¬ wr p1 = wr 0 → ((¬ wr p1 = wr 1 → P (-1) g1 r) ∧ (wr p1 = wr 1 → ab_RI m_M_tallies [(2, 161)] K S g1 r (fun x2 g' r' => g' = g1 ∧ r' = r ∧ (ab_RI m_M_foundIn [(2, 165), (0, 0), (0, x2), (0, p2)] K S g1 r (fun x3 g' r' => g' = g1 ∧ r' = r ∧ (P x3 g1 r))))))) ∧ (wr p1 = wr 0 → ab_RI m_M_accounts [(2, 161)] K S g1 r (fun x4 g' r' => g' = g1 ∧ r' = r ∧ (ab_RI m_M_foundIn [(2, 164), (0, 0), (0, x4), (0, p2)] K S g1 r (fun x5 g' r' => g' = g1 ∧ r' = r ∧ (P x5 g1 r))))))) : ab_RI m_M_named [(2, 161), (0, p1), (0, p2)] K S g r P := by
  show ab_Rn m_M_named 0 [some (2, 161), some (0, p1), some (0, p2)] [] (K, S, g, r) (ab_Qi K S P)
  refine Rn_pure 2 (i' := 2) (L' := [some (2, 161), some (0, p1), some (0, p2)]) (st' := [(0, 0), (2, 161)]) rfl ?_
  refine Rn_putI rfl (⟨rfl, (by omega : (0 : Int) ≤ 161), (by omega : (161 : Int) + 1 < K ∧ 5 < K)⟩) (fun g1 he_g1 => ?_)
  have h := h g1 he_g1
  refine Rn_pure 1 (i' := 4) (L' := [some (2, 161), some (0, p1), some (0, p2)]) (st' := [(0, p1)]) rfl ?_
  refine Rn_ifne rfl (fun hc => ?_) (fun hc => ?_)
  · have h := h.1 hc
    refine Rn_pure 2 (i' := 15) (L' := [some (2, 161), some (0, p1), some (0, p2)]) (st' := [(0, 1), (0, p1)]) rfl ?_
    refine Rn_icne rfl (fun hc => ?_) (fun hc => ?_)
    · have h := h.1 hc
      refine Rn_pure 1 (i' := 25) (L' := [some (2, 161), some (0, p1), some (0, p2)]) (st' := [(0, (-1))]) rfl ?_
      exact Rn_ret1 rfl h
    · have h := h.2 hc
      refine Rn_pure 1 (i' := 17) (L' := [some (2, 161), some (0, p1), some (0, p2)]) (st' := [(2, 161)]) rfl ?_
      refine Rn_getR rfl (⟨rfl, (by omega : (0 : Int) ≤ 161), (by omega : (161 : Int) + 1 < K ∧ 5 < K)⟩) (hr 140 _ rfl) (by decide) ?_
      refine Rn_pure 2 (i' := 20) (L' := [some (2, 161), some (0, p1), some (0, p2)]) (st' := [(2, 161), (0, 0), (2, 165)]) rfl ?_
      refine Rn_callI [(2, 161)] [(0, 0), (2, 165)] rfl rfl rfl rfl (ab_rvB_of rfl (⟨rfl, (by omega : (0 : Int) ≤ 161), (by omega : (161 : Int) + 1 < K ∧ 5 < K)⟩)) ?_
      refine h.mono (fun x2 g' r' h => ?_)
      obtain ⟨hx, h⟩ := h
      replace hx := hx.symm
      subst hx
      obtain ⟨hx, h⟩ := h
      replace hx := hx.symm
      subst hx
      refine Rn_pure 1 (i' := 22) (L' := [some (2, 161), some (0, p1), some (0, p2)]) (st' := [(0, p2), (0, x2), (0, 0), (2, 165)]) rfl ?_
      refine Rn_callI [(2, 165), (0, 0), (0, x2), (0, p2)] [] rfl rfl rfl rfl (rfl) ?_
      refine h.mono (fun x3 g' r' h => ?_)
      obtain ⟨hx, h⟩ := h
      replace hx := hx.symm
      subst hx
      obtain ⟨hx, h⟩ := h
      replace hx := hx.symm
      subst hx
      refine Rn_pure 1 (i' := 25) (L' := [some (2, 161), some (0, p1), some (0, p2)]) (st' := [(0, x3)]) rfl ?_
      exact Rn_ret1 rfl h
  · have h := h.2 hc
    refine Rn_pure 1 (i' := 6) (L' := [some (2, 161), some (0, p1), some (0, p2)]) (st' := [(2, 161)]) rfl ?_
    refine Rn_getR rfl (⟨rfl, (by omega : (0 : Int) ≤ 161), (by omega : (161 : Int) + 1 < K ∧ 5 < K)⟩) (hr 139 _ rfl) (by decide) ?_
    refine Rn_pure 2 (i' := 9) (L' := [some (2, 161), some (0, p1), some (0, p2)]) (st' := [(2, 161), (0, 0), (2, 164)]) rfl ?_
    refine Rn_callI [(2, 161)] [(0, 0), (2, 164)] rfl rfl rfl rfl (ab_rvB_of rfl (⟨rfl, (by omega : (0 : Int) ≤ 161), (by omega : (161 : Int) + 1 < K ∧ 5 < K)⟩)) ?_
    refine h.mono (fun x4 g' r' h => ?_)
    obtain ⟨hx, h⟩ := h
    replace hx := hx.symm
    subst hx
    obtain ⟨hx, h⟩ := h
    replace hx := hx.symm
    subst hx
    refine Rn_pure 1 (i' := 11) (L' := [some (2, 161), some (0, p1), some (0, p2)]) (st' := [(0, p2), (0, x4), (0, 0), (2, 164)]) rfl ?_
    refine Rn_callI [(2, 164), (0, 0), (0, x4), (0, p2)] [] rfl rfl rfl rfl (rfl) ?_
    refine h.mono (fun x5 g' r' h => ?_)
    obtain ⟨hx, h⟩ := h
    replace hx := hx.symm
    subst hx
    obtain ⟨hx, h⟩ := h
    replace hx := hx.symm
    subst hx
    refine Rn_pure 1 (i' := 25) (L' := [some (2, 161), some (0, p1), some (0, p2)]) (st' := [(0, x5)]) rfl ?_
    exact Rn_ret1 rfl h
-- EventLedgerModel.copies ([II[II)V
theorem v_M_copies {K : Int} {S : Nat} {g r : ab_H} {p0 n0 p1 p2 n2 p3 : Int} (P : ab_H → ab_H → Prop) (hr : SI r) (hK : 186 ≤ K) (hp0 : ab_AR K p0 100 n0) (hp2 : ab_AR K p2 100 n2) (h : ab_Rn m_M_copies 2 [some (2, p0), some (0, p1), some (2, p2), some (0, p3), some (0, 0)] [] (K, S, g, r) (ab_Qv K S P)) : ab_RV m_M_copies [(2, p0), (0, p1), (2, p2), (0, p3)] K S g r P := by
  show ab_Rn m_M_copies 0 [some (2, p0), some (0, p1), some (2, p2), some (0, p3), none] [] (K, S, g, r) (ab_Qv K S P)
  refine Rn_pure 2 (i' := 2) (L' := [some (2, p0), some (0, p1), some (2, p2), some (0, p3), some (0, 0)]) (st' := []) rfl ?_
  exact h
theorem v_M_copies_2 {K : Int} {S : Nat} {g r : ab_H} {p0 n0 l1 p2 n2 l3 l4 : Int} (P : ab_H → ab_H → Prop) (hr : SI r) (hK : 186 ≤ K) (hp0 : ab_AR K p0 100 n0) (hp2 : ab_AR K p2 100 n2) (h : ((wr 1607 ≤ wr l4 → P g r) ∧ (wr l4 < wr 1607 → ((0 : Int) ≤ l1 + l4 ∧ (l1 + l4 : Int) < n0) ∧ ((0 : Int) ≤ l3 + l4 ∧ (l3 + l4 : Int) < n2) ∧ ∀ g1, g1 = ab_up g p2 (l3 + l4) (g p0 (l1 + l4)) → ab_Rn m_M_copies 2 [some (2, p0), some (0, l1), some (2, p2), some (0, l3), some (0, l4 + 1)] [] (K, S, g1, r) (ab_Qv K S P)))) : ab_Rn m_M_copies 2 [some (2, p0), some (0, l1), some (2, p2), some (0, l3), some (0, l4)] [] (K, S, g, r) (ab_Qv K S P) := by
  refine Rn_pure 2 (i' := 4) (L' := [some (2, p0), some (0, l1), some (2, p2), some (0, l3), some (0, l4)]) (st' := [(0, 1607), (0, l4)]) rfl ?_
  refine Rn_icge rfl (fun hc => ?_) (fun hc => ?_)
  · have h := h.1 hc
    exact Rn_ret0 rfl h
  · have h := h.2 hc
    refine Rn_pure 8 (i' := 13) (L' := [some (2, p0), some (0, l1), some (2, p2), some (0, l3), some (0, l4)]) (st' := [(0, l1 + l4), (2, p0), (0, l3 + l4), (2, p2)]) rfl ?_
    obtain ⟨hg, h⟩ := h
    refine Rn_iald rfl (hp0) hg ?_
    obtain ⟨hg, h⟩ := h
    refine Rn_iast rfl (hp2) hg (fun g1 he_g1 => ?_)
    have h := h g1 he_g1
    refine Rn_pure 2 (i' := 2) (L' := [some (2, p0), some (0, l1), some (2, p2), some (0, l3), some (0, l4 + 1)]) (st' := []) rfl ?_
    exact h
-- EventLedgerModel.many ()I
theorem v_M_many {K : Int} {S : Nat} {g r : ab_H} (P : Int → ab_H → ab_H → Prop) (hr : SI r) (hK : 186 ≤ K) (h : ((0 : Int) ≤ 1080 ∧ (1080 : Int) < 1607) ∧ P (g 174 1080) g r) : ab_RI m_M_many [(2, 161)] K S g r P := by
  show ab_Rn m_M_many 0 [some (2, 161)] [] (K, S, g, r) (ab_Qi K S P)
  refine Rn_pure 1 (i' := 1) (L' := [some (2, 161)]) (st' := [(2, 161)]) rfl ?_
  refine Rn_getR rfl (⟨rfl, (by omega : (0 : Int) ≤ 161), (by omega : (161 : Int) + 1 < K ∧ 5 < K)⟩) (hr 149 _ rfl) (by decide) ?_
  refine Rn_pure 1 (i' := 3) (L' := [some (2, 161)]) (st' := [(0, 1080), (2, 174)]) rfl ?_
  obtain ⟨hg, h⟩ := h
  refine Rn_iald rfl (⟨rfl, (by omega : (0 : Int) ≤ 174), (by omega : (174 : Int) + 1 < K ∧ 5 < K)⟩) hg ?_
  exact Rn_ret1 rfl h
-- EventLedgerModel.begins ()V
theorem v_M_begins {K : Int} {S : Nat} {g r : ab_H} (P : ab_H → ab_H → Prop) (hr : SI r) (hK : 186 ≤ K) (h : ab_Rn m_M_begins 2 [some (2, 161), some (0, 0), none, none] [] (K, S, g, r) (ab_Qv K S P)) : ab_RV m_M_begins [(2, 161)] K S g r P := by
  show ab_Rn m_M_begins 0 [some (2, 161), none, none, none] [] (K, S, g, r) (ab_Qv K S P)
  refine Rn_pure 2 (i' := 2) (L' := [some (2, 161), some (0, 0), none, none]) (st' := []) rfl ?_
  exact h
theorem v_M_begins_2 {K : Int} {S : Nat} {g r : ab_H} {l1 : Int} (P : ab_H → ab_H → Prop) (hr : SI r) (hK : 186 ≤ K) (h : ((wr 1607 ≤ wr l1 → ((0 : Int) ≤ 2 ∧ (2 : Int) < 12) ∧ ((0 : Int) ≤ 1089 ∧ (1089 : Int) < 1607) ∧ ∀ g1, g1 = ab_up g 174 1089 (g 163 2) → ((0 : Int) ≤ 3 ∧ (3 : Int) < 12) ∧ ((0 : Int) ≤ 1090 ∧ (1090 : Int) < 1607) ∧ ∀ g2, g2 = ab_up g1 174 1090 (g1 163 3) → ab_Rn m_M_begins 30 [some (2, 161), some (0, 0), none, none] [] (K, S, g2, r) (ab_Qv K S P)) ∧ (wr l1 < wr 1607 → ((0 : Int) ≤ l1 ∧ (l1 : Int) < 1607) ∧ ∀ g3, g3 = ab_up g 174 l1 0 → ab_Rn m_M_begins 2 [some (2, 161), some (0, l1 + 1), none, none] [] (K, S, g3, r) (ab_Qv K S P)))) : ab_Rn m_M_begins 2 [some (2, 161), some (0, l1), none, none] [] (K, S, g, r) (ab_Qv K S P) := by
  refine Rn_pure 2 (i' := 4) (L' := [some (2, 161), some (0, l1), none, none]) (st' := [(0, 1607), (0, l1)]) rfl ?_
  refine Rn_icge rfl (fun hc => ?_) (fun hc => ?_)
  · have h := h.1 hc
    refine Rn_pure 1 (i' := 13) (L' := [some (2, 161), some (0, l1), none, none]) (st' := [(2, 161)]) rfl ?_
    refine Rn_getR rfl (⟨rfl, (by omega : (0 : Int) ≤ 161), (by omega : (161 : Int) + 1 < K ∧ 5 < K)⟩) (hr 149 _ rfl) (by decide) ?_
    refine Rn_pure 2 (i' := 16) (L' := [some (2, 161), some (0, l1), none, none]) (st' := [(2, 161), (0, 1089), (2, 174)]) rfl ?_
    refine Rn_getR rfl (⟨rfl, (by omega : (0 : Int) ≤ 161), (by omega : (161 : Int) + 1 < K ∧ 5 < K)⟩) (hr 138 _ rfl) (by decide) ?_
    refine Rn_pure 1 (i' := 18) (L' := [some (2, 161), some (0, l1), none, none]) (st' := [(0, 2), (2, 163), (0, 1089), (2, 174)]) rfl ?_
    obtain ⟨hg, h⟩ := h
    refine Rn_iald rfl (⟨rfl, (by omega : (0 : Int) ≤ 163), (by omega : (163 : Int) + 1 < K ∧ 5 < K)⟩) hg ?_
    obtain ⟨hg, h⟩ := h
    refine Rn_iast rfl (⟨rfl, (by omega : (0 : Int) ≤ 174), (by omega : (174 : Int) + 1 < K ∧ 5 < K)⟩) hg (fun g1 he_g1 => ?_)
    have h := h g1 he_g1
    refine Rn_pure 1 (i' := 21) (L' := [some (2, 161), some (0, l1), none, none]) (st' := [(2, 161)]) rfl ?_
    refine Rn_getR rfl (⟨rfl, (by omega : (0 : Int) ≤ 161), (by omega : (161 : Int) + 1 < K ∧ 5 < K)⟩) (hr 149 _ rfl) (by decide) ?_
    refine Rn_pure 2 (i' := 24) (L' := [some (2, 161), some (0, l1), none, none]) (st' := [(2, 161), (0, 1090), (2, 174)]) rfl ?_
    refine Rn_getR rfl (⟨rfl, (by omega : (0 : Int) ≤ 161), (by omega : (161 : Int) + 1 < K ∧ 5 < K)⟩) (hr 138 _ rfl) (by decide) ?_
    refine Rn_pure 1 (i' := 26) (L' := [some (2, 161), some (0, l1), none, none]) (st' := [(0, 3), (2, 163), (0, 1090), (2, 174)]) rfl ?_
    obtain ⟨hg, h⟩ := h
    refine Rn_iald rfl (⟨rfl, (by omega : (0 : Int) ≤ 163), (by omega : (163 : Int) + 1 < K ∧ 5 < K)⟩) hg ?_
    obtain ⟨hg, h⟩ := h
    refine Rn_iast rfl (⟨rfl, (by omega : (0 : Int) ≤ 174), (by omega : (174 : Int) + 1 < K ∧ 5 < K)⟩) hg (fun g2 he_g2 => ?_)
    have h := h g2 he_g2
    refine Rn_pure 2 (i' := 30) (L' := [some (2, 161), some (0, 0), none, none]) (st' := []) rfl ?_
    exact h
  · have h := h.2 hc
    refine Rn_pure 1 (i' := 6) (L' := [some (2, 161), some (0, l1), none, none]) (st' := [(2, 161)]) rfl ?_
    refine Rn_getR rfl (⟨rfl, (by omega : (0 : Int) ≤ 161), (by omega : (161 : Int) + 1 < K ∧ 5 < K)⟩) (hr 149 _ rfl) (by decide) ?_
    refine Rn_pure 2 (i' := 9) (L' := [some (2, 161), some (0, l1), none, none]) (st' := [(0, 0), (0, l1), (2, 174)]) rfl ?_
    obtain ⟨hg, h⟩ := h
    refine Rn_iast rfl (⟨rfl, (by omega : (0 : Int) ≤ 174), (by omega : (174 : Int) + 1 < K ∧ 5 < K)⟩) hg (fun g3 he_g3 => ?_)
    have h := h g3 he_g3
    refine Rn_pure 2 (i' := 2) (L' := [some (2, 161), some (0, l1 + 1), none, none]) (st' := []) rfl ?_
    exact h
theorem v_M_begins_30 {K : Int} {S : Nat} {g r : ab_H} {l1 : Int} (P : ab_H → ab_H → Prop) (hr : SI r) (hK : 186 ≤ K) (h : ((0 : Int) ≤ 5 ∧ (5 : Int) < 12) ∧ ((wr (g 163 5) ≤ wr l1 → P g r) ∧ (wr l1 < wr (g 163 5) → ((0 : Int) ≤ 8 * l1 + 0 ∧ (8 * l1 + 0 : Int) < 400) ∧ ((0 : Int) ≤ 8 * l1 + 1 ∧ (8 * l1 + 1 : Int) < 400) ∧ ((0 : Int) ≤ 8 * l1 + 2 ∧ (8 * l1 + 2 : Int) < 400) ∧ ((0 : Int) ≤ 8 * l1 + 3 ∧ (8 * l1 + 3 : Int) < 400) ∧ ((0 : Int) ≤ 8 * l1 + 4 ∧ (8 * l1 + 4 : Int) < 400) ∧ ab_RV m_M_comes [(2, 161), (0, g 172 (8 * l1 + 0)), (0, g 172 (8 * l1 + 1)), (0, g 172 (8 * l1 + 2)), (0, g 172 (8 * l1 + 3)), (0, g 172 (8 * l1 + 4))] K S g r (fun g1 r' => r' = r ∧ (ab_Rn m_M_begins 74 [some (2, 161), some (0, l1), some (0, 8 * l1), some (0, 0)] [] (K, S, g1, r) (ab_Qv K S P)))))) : ab_Rn m_M_begins 30 [some (2, 161), some (0, l1), none, none] [] (K, S, g, r) (ab_Qv K S P) := by
  refine Rn_pure 2 (i' := 32) (L' := [some (2, 161), some (0, l1), none, none]) (st' := [(2, 161), (0, l1)]) rfl ?_
  refine Rn_getR rfl (⟨rfl, (by omega : (0 : Int) ≤ 161), (by omega : (161 : Int) + 1 < K ∧ 5 < K)⟩) (hr 138 _ rfl) (by decide) ?_
  refine Rn_pure 1 (i' := 34) (L' := [some (2, 161), some (0, l1), none, none]) (st' := [(0, 5), (2, 163), (0, l1)]) rfl ?_
  obtain ⟨hg, h⟩ := h
  refine Rn_iald rfl (⟨rfl, (by omega : (0 : Int) ≤ 163), (by omega : (163 : Int) + 1 < K ∧ 5 < K)⟩) hg ?_
  refine Rn_icge rfl (fun hc => ?_) (fun hc => ?_)
  · have h := h.1 hc
    exact Rn_ret0 rfl h
  · have h := h.2 hc
    refine Rn_pure 6 (i' := 42) (L' := [some (2, 161), some (0, l1), some (0, 8 * l1), none]) (st' := [(2, 161), (2, 161)]) rfl ?_
    refine Rn_getR rfl (⟨rfl, (by omega : (0 : Int) ≤ 161), (by omega : (161 : Int) + 1 < K ∧ 5 < K)⟩) (hr 147 _ rfl) (by decide) ?_
    refine Rn_pure 3 (i' := 46) (L' := [some (2, 161), some (0, l1), some (0, 8 * l1), none]) (st' := [(0, 8 * l1 + 0), (2, 172), (2, 161)]) rfl ?_
    obtain ⟨hg, h⟩ := h
    refine Rn_iald rfl (⟨rfl, (by omega : (0 : Int) ≤ 172), (by omega : (172 : Int) + 1 < K ∧ 5 < K)⟩) hg ?_
    refine Rn_pure 1 (i' := 48) (L' := [some (2, 161), some (0, l1), some (0, 8 * l1), none]) (st' := [(2, 161), (0, g 172 (8 * l1 + 0)), (2, 161)]) rfl ?_
    refine Rn_getR rfl (⟨rfl, (by omega : (0 : Int) ≤ 161), (by omega : (161 : Int) + 1 < K ∧ 5 < K)⟩) (hr 147 _ rfl) (by decide) ?_
    refine Rn_pure 3 (i' := 52) (L' := [some (2, 161), some (0, l1), some (0, 8 * l1), none]) (st' := [(0, 8 * l1 + 1), (2, 172), (0, g 172 (8 * l1 + 0)), (2, 161)]) rfl ?_
    obtain ⟨hg, h⟩ := h
    refine Rn_iald rfl (⟨rfl, (by omega : (0 : Int) ≤ 172), (by omega : (172 : Int) + 1 < K ∧ 5 < K)⟩) hg ?_
    refine Rn_pure 1 (i' := 54) (L' := [some (2, 161), some (0, l1), some (0, 8 * l1), none]) (st' := [(2, 161), (0, g 172 (8 * l1 + 1)), (0, g 172 (8 * l1 + 0)), (2, 161)]) rfl ?_
    refine Rn_getR rfl (⟨rfl, (by omega : (0 : Int) ≤ 161), (by omega : (161 : Int) + 1 < K ∧ 5 < K)⟩) (hr 147 _ rfl) (by decide) ?_
    refine Rn_pure 3 (i' := 58) (L' := [some (2, 161), some (0, l1), some (0, 8 * l1), none]) (st' := [(0, 8 * l1 + 2), (2, 172), (0, g 172 (8 * l1 + 1)), (0, g 172 (8 * l1 + 0)), (2, 161)]) rfl ?_
    obtain ⟨hg, h⟩ := h
    refine Rn_iald rfl (⟨rfl, (by omega : (0 : Int) ≤ 172), (by omega : (172 : Int) + 1 < K ∧ 5 < K)⟩) hg ?_
    refine Rn_pure 1 (i' := 60) (L' := [some (2, 161), some (0, l1), some (0, 8 * l1), none]) (st' := [(2, 161), (0, g 172 (8 * l1 + 2)), (0, g 172 (8 * l1 + 1)), (0, g 172 (8 * l1 + 0)), (2, 161)]) rfl ?_
    refine Rn_getR rfl (⟨rfl, (by omega : (0 : Int) ≤ 161), (by omega : (161 : Int) + 1 < K ∧ 5 < K)⟩) (hr 147 _ rfl) (by decide) ?_
    refine Rn_pure 3 (i' := 64) (L' := [some (2, 161), some (0, l1), some (0, 8 * l1), none]) (st' := [(0, 8 * l1 + 3), (2, 172), (0, g 172 (8 * l1 + 2)), (0, g 172 (8 * l1 + 1)), (0, g 172 (8 * l1 + 0)), (2, 161)]) rfl ?_
    obtain ⟨hg, h⟩ := h
    refine Rn_iald rfl (⟨rfl, (by omega : (0 : Int) ≤ 172), (by omega : (172 : Int) + 1 < K ∧ 5 < K)⟩) hg ?_
    refine Rn_pure 1 (i' := 66) (L' := [some (2, 161), some (0, l1), some (0, 8 * l1), none]) (st' := [(2, 161), (0, g 172 (8 * l1 + 3)), (0, g 172 (8 * l1 + 2)), (0, g 172 (8 * l1 + 1)), (0, g 172 (8 * l1 + 0)), (2, 161)]) rfl ?_
    refine Rn_getR rfl (⟨rfl, (by omega : (0 : Int) ≤ 161), (by omega : (161 : Int) + 1 < K ∧ 5 < K)⟩) (hr 147 _ rfl) (by decide) ?_
    refine Rn_pure 3 (i' := 70) (L' := [some (2, 161), some (0, l1), some (0, 8 * l1), none]) (st' := [(0, 8 * l1 + 4), (2, 172), (0, g 172 (8 * l1 + 3)), (0, g 172 (8 * l1 + 2)), (0, g 172 (8 * l1 + 1)), (0, g 172 (8 * l1 + 0)), (2, 161)]) rfl ?_
    obtain ⟨hg, h⟩ := h
    refine Rn_iald rfl (⟨rfl, (by omega : (0 : Int) ≤ 172), (by omega : (172 : Int) + 1 < K ∧ 5 < K)⟩) hg ?_
    refine Rn_callV [(2, 161), (0, g 172 (8 * l1 + 0)), (0, g 172 (8 * l1 + 1)), (0, g 172 (8 * l1 + 2)), (0, g 172 (8 * l1 + 3)), (0, g 172 (8 * l1 + 4))] [] rfl rfl rfl rfl (ab_rvB_of rfl (⟨rfl, (by omega : (0 : Int) ≤ 161), (by omega : (161 : Int) + 1 < K ∧ 5 < K)⟩)) ?_
    refine h.mono (fun g1 r' h => ?_)
    obtain ⟨hx, h⟩ := h
    replace hx := hx.symm
    subst hx
    refine Rn_pure 2 (i' := 74) (L' := [some (2, 161), some (0, l1), some (0, 8 * l1), some (0, 0)]) (st' := []) rfl ?_
    exact h
theorem v_M_begins_74 {K : Int} {S : Nat} {g r : ab_H} {l1 l2 l3 : Int} (P : ab_H → ab_H → Prop) (hr : SI r) (hK : 186 ≤ K) (h : ((wr 3 ≤ wr l3 → ab_Rn m_M_begins 30 [some (2, 161), some (0, l1 + 1), none, none] [] (K, S, g, r) (ab_Qv K S P)) ∧ (wr l3 < wr 3 → ((0 : Int) ≤ l2 + 5 + l3 ∧ (l2 + 5 + l3 : Int) < 400) ∧ ((0 : Int) ≤ 9 * l1 + 5 + l3 ∧ (9 * l1 + 5 + l3 : Int) < 1607) ∧ ∀ g1, g1 = ab_up g 174 (9 * l1 + 5 + l3) (g 172 (l2 + 5 + l3)) → ab_Rn m_M_begins 74 [some (2, 161), some (0, l1), some (0, l2), some (0, l3 + 1)] [] (K, S, g1, r) (ab_Qv K S P)))) : ab_Rn m_M_begins 74 [some (2, 161), some (0, l1), some (0, l2), some (0, l3)] [] (K, S, g, r) (ab_Qv K S P) := by
  refine Rn_pure 2 (i' := 76) (L' := [some (2, 161), some (0, l1), some (0, l2), some (0, l3)]) (st' := [(0, 3), (0, l3)]) rfl ?_
  refine Rn_icge rfl (fun hc => ?_) (fun hc => ?_)
  · have h := h.1 hc
    refine Rn_pure 2 (i' := 30) (L' := [some (2, 161), some (0, l1 + 1), some (0, l2), some (0, l3)]) (st' := []) rfl ?_
    refine Rn_weak (L' := [some (2, 161), some (0, l1 + 1), none, none]) ⟨rfl, ⟨rfl, trivial⟩⟩ ?_
    exact h
  · have h := h.2 hc
    refine Rn_pure 1 (i' := 78) (L' := [some (2, 161), some (0, l1), some (0, l2), some (0, l3)]) (st' := [(2, 161)]) rfl ?_
    refine Rn_getR rfl (⟨rfl, (by omega : (0 : Int) ≤ 161), (by omega : (161 : Int) + 1 < K ∧ 5 < K)⟩) (hr 149 _ rfl) (by decide) ?_
    refine Rn_pure 8 (i' := 87) (L' := [some (2, 161), some (0, l1), some (0, l2), some (0, l3)]) (st' := [(2, 161), (0, 9 * l1 + 5 + l3), (2, 174)]) rfl ?_
    refine Rn_getR rfl (⟨rfl, (by omega : (0 : Int) ≤ 161), (by omega : (161 : Int) + 1 < K ∧ 5 < K)⟩) (hr 147 _ rfl) (by decide) ?_
    refine Rn_pure 5 (i' := 93) (L' := [some (2, 161), some (0, l1), some (0, l2), some (0, l3)]) (st' := [(0, l2 + 5 + l3), (2, 172), (0, 9 * l1 + 5 + l3), (2, 174)]) rfl ?_
    obtain ⟨hg, h⟩ := h
    refine Rn_iald rfl (⟨rfl, (by omega : (0 : Int) ≤ 172), (by omega : (172 : Int) + 1 < K ∧ 5 < K)⟩) hg ?_
    obtain ⟨hg, h⟩ := h
    refine Rn_iast rfl (⟨rfl, (by omega : (0 : Int) ≤ 174), (by omega : (174 : Int) + 1 < K ∧ 5 < K)⟩) hg (fun g1 he_g1 => ?_)
    have h := h g1 he_g1
    refine Rn_pure 2 (i' := 74) (L' := [some (2, 161), some (0, l1), some (0, l2), some (0, l3 + 1)]) (st' := []) rfl ?_
    exact h
-- EventLedgerModel.remembers ()V
theorem v_M_remembers {K : Int} {S : Nat} {g r : ab_H} (P : ab_H → ab_H → Prop) (hr : SI r) (hK : 186 ≤ K) (h : ((¬ wr (g 161 30) = wr 20 → ab_RV m_M_copies [(2, 174), (0, 0), (2, 177), (0, 1607 * (g 161 30))] K S g r (fun g1 r' => r' = r ∧ (∀ g3, g3 = ab_up g1 161 30 (g1 161 30 + 1) → P g3 r))) ∧ (wr (g 161 30) = wr 20 → ab_Rn m_M_remembers 6 [some (2, 161), some (0, 0)] [] (K, S, g, r) (ab_Qv K S P)))) : ab_RV m_M_remembers [(2, 161)] K S g r P := by
  show ab_Rn m_M_remembers 0 [some (2, 161), none] [] (K, S, g, r) (ab_Qv K S P)
  refine Rn_pure 1 (i' := 1) (L' := [some (2, 161), none]) (st' := [(2, 161)]) rfl ?_
  refine Rn_getI rfl (⟨rfl, (by omega : (0 : Int) ≤ 161), (by omega : (161 : Int) + 1 < K ∧ 5 < K)⟩) ?_
  refine Rn_pure 1 (i' := 3) (L' := [some (2, 161), none]) (st' := [(0, 20), (0, g 161 30)]) rfl ?_
  refine Rn_icne rfl (fun hc => ?_) (fun hc => ?_)
  · have h := h.1 hc
    refine Rn_pure 1 (i' := 28) (L' := [some (2, 161), none]) (st' := [(2, 161)]) rfl ?_
    refine Rn_getR rfl (⟨rfl, (by omega : (0 : Int) ≤ 161), (by omega : (161 : Int) + 1 < K ∧ 5 < K)⟩) (hr 149 _ rfl) (by decide) ?_
    refine Rn_pure 2 (i' := 31) (L' := [some (2, 161), none]) (st' := [(2, 161), (0, 0), (2, 174)]) rfl ?_
    refine Rn_getR rfl (⟨rfl, (by omega : (0 : Int) ≤ 161), (by omega : (161 : Int) + 1 < K ∧ 5 < K)⟩) (hr 152 _ rfl) (by decide) ?_
    refine Rn_pure 2 (i' := 34) (L' := [some (2, 161), none]) (st' := [(2, 161), (0, 1607), (2, 177), (0, 0), (2, 174)]) rfl ?_
    refine Rn_getI rfl (⟨rfl, (by omega : (0 : Int) ≤ 161), (by omega : (161 : Int) + 1 < K ∧ 5 < K)⟩) ?_
    refine Rn_pure 1 (i' := 36) (L' := [some (2, 161), none]) (st' := [(0, 1607 * (g 161 30)), (2, 177), (0, 0), (2, 174)]) rfl ?_
    refine Rn_callV [(2, 174), (0, 0), (2, 177), (0, 1607 * (g 161 30))] [] rfl rfl rfl rfl (rfl) ?_
    refine h.mono (fun g1 r' h => ?_)
    obtain ⟨hx, h⟩ := h
    replace hx := hx.symm
    subst hx
    refine Rn_pure 2 (i' := 39) (L' := [some (2, 161), none]) (st' := [(2, 161), (2, 161)]) rfl ?_
    refine Rn_getI rfl (⟨rfl, (by omega : (0 : Int) ≤ 161), (by omega : (161 : Int) + 1 < K ∧ 5 < K)⟩) ?_
    refine Rn_pure 2 (i' := 42) (L' := [some (2, 161), none]) (st' := [(0, g1 161 30 + 1), (2, 161)]) rfl ?_
    refine Rn_putI rfl (⟨rfl, (by omega : (0 : Int) ≤ 161), (by omega : (161 : Int) + 1 < K ∧ 5 < K)⟩) (fun g3 he_g3 => ?_)
    have h := h g3 he_g3
    exact Rn_ret0 rfl h
  · have h := h.2 hc
    refine Rn_pure 2 (i' := 6) (L' := [some (2, 161), some (0, 0)]) (st' := []) rfl ?_
    exact h
theorem v_M_remembers_6 {K : Int} {S : Nat} {g r : ab_H} {l1 : Int} (P : ab_H → ab_H → Prop) (hr : SI r) (hK : 186 ≤ K) (h : ((wr 30533 ≤ wr l1 → ∀ g1, g1 = ab_up g 161 30 (g 161 30 - 1) → ab_RV m_M_copies [(2, 174), (0, 0), (2, 177), (0, 1607 * (g1 161 30))] K S g1 r (fun g2 r' => r' = r ∧ (∀ g4, g4 = ab_up g2 161 30 (g2 161 30 + 1) → P g4 r))) ∧ (wr l1 < wr 30533 → ((0 : Int) ≤ 1607 + l1 ∧ (1607 + l1 : Int) < 32140) ∧ ((0 : Int) ≤ l1 ∧ (l1 : Int) < 32140) ∧ ∀ g5, g5 = ab_up g 177 l1 (g 177 (1607 + l1)) → ab_Rn m_M_remembers 6 [some (2, 161), some (0, l1 + 1)] [] (K, S, g5, r) (ab_Qv K S P)))) : ab_Rn m_M_remembers 6 [some (2, 161), some (0, l1)] [] (K, S, g, r) (ab_Qv K S P) := by
  refine Rn_pure 2 (i' := 8) (L' := [some (2, 161), some (0, l1)]) (st' := [(0, 30533), (0, l1)]) rfl ?_
  refine Rn_icge rfl (fun hc => ?_) (fun hc => ?_)
  · have h := h.1 hc
    refine Rn_pure 2 (i' := 23) (L' := [some (2, 161), some (0, l1)]) (st' := [(2, 161), (2, 161)]) rfl ?_
    refine Rn_getI rfl (⟨rfl, (by omega : (0 : Int) ≤ 161), (by omega : (161 : Int) + 1 < K ∧ 5 < K)⟩) ?_
    refine Rn_pure 2 (i' := 26) (L' := [some (2, 161), some (0, l1)]) (st' := [(0, g 161 30 - 1), (2, 161)]) rfl ?_
    refine Rn_putI rfl (⟨rfl, (by omega : (0 : Int) ≤ 161), (by omega : (161 : Int) + 1 < K ∧ 5 < K)⟩) (fun g1 he_g1 => ?_)
    have h := h g1 he_g1
    refine Rn_pure 1 (i' := 28) (L' := [some (2, 161), some (0, l1)]) (st' := [(2, 161)]) rfl ?_
    refine Rn_getR rfl (⟨rfl, (by omega : (0 : Int) ≤ 161), (by omega : (161 : Int) + 1 < K ∧ 5 < K)⟩) (hr 149 _ rfl) (by decide) ?_
    refine Rn_pure 2 (i' := 31) (L' := [some (2, 161), some (0, l1)]) (st' := [(2, 161), (0, 0), (2, 174)]) rfl ?_
    refine Rn_getR rfl (⟨rfl, (by omega : (0 : Int) ≤ 161), (by omega : (161 : Int) + 1 < K ∧ 5 < K)⟩) (hr 152 _ rfl) (by decide) ?_
    refine Rn_pure 2 (i' := 34) (L' := [some (2, 161), some (0, l1)]) (st' := [(2, 161), (0, 1607), (2, 177), (0, 0), (2, 174)]) rfl ?_
    refine Rn_getI rfl (⟨rfl, (by omega : (0 : Int) ≤ 161), (by omega : (161 : Int) + 1 < K ∧ 5 < K)⟩) ?_
    refine Rn_pure 1 (i' := 36) (L' := [some (2, 161), some (0, l1)]) (st' := [(0, 1607 * (g1 161 30)), (2, 177), (0, 0), (2, 174)]) rfl ?_
    refine Rn_callV [(2, 174), (0, 0), (2, 177), (0, 1607 * (g1 161 30))] [] rfl rfl rfl rfl (rfl) ?_
    refine h.mono (fun g2 r' h => ?_)
    obtain ⟨hx, h⟩ := h
    replace hx := hx.symm
    subst hx
    refine Rn_pure 2 (i' := 39) (L' := [some (2, 161), some (0, l1)]) (st' := [(2, 161), (2, 161)]) rfl ?_
    refine Rn_getI rfl (⟨rfl, (by omega : (0 : Int) ≤ 161), (by omega : (161 : Int) + 1 < K ∧ 5 < K)⟩) ?_
    refine Rn_pure 2 (i' := 42) (L' := [some (2, 161), some (0, l1)]) (st' := [(0, g2 161 30 + 1), (2, 161)]) rfl ?_
    refine Rn_putI rfl (⟨rfl, (by omega : (0 : Int) ≤ 161), (by omega : (161 : Int) + 1 < K ∧ 5 < K)⟩) (fun g4 he_g4 => ?_)
    have h := h g4 he_g4
    exact Rn_ret0 rfl h
  · have h := h.2 hc
    refine Rn_pure 1 (i' := 10) (L' := [some (2, 161), some (0, l1)]) (st' := [(2, 161)]) rfl ?_
    refine Rn_getR rfl (⟨rfl, (by omega : (0 : Int) ≤ 161), (by omega : (161 : Int) + 1 < K ∧ 5 < K)⟩) (hr 152 _ rfl) (by decide) ?_
    refine Rn_pure 2 (i' := 13) (L' := [some (2, 161), some (0, l1)]) (st' := [(2, 161), (0, l1), (2, 177)]) rfl ?_
    refine Rn_getR rfl (⟨rfl, (by omega : (0 : Int) ≤ 161), (by omega : (161 : Int) + 1 < K ∧ 5 < K)⟩) (hr 152 _ rfl) (by decide) ?_
    refine Rn_pure 3 (i' := 17) (L' := [some (2, 161), some (0, l1)]) (st' := [(0, 1607 + l1), (2, 177), (0, l1), (2, 177)]) rfl ?_
    obtain ⟨hg, h⟩ := h
    refine Rn_iald rfl (⟨rfl, (by omega : (0 : Int) ≤ 177), (by omega : (177 : Int) + 1 < K ∧ 5 < K)⟩) hg ?_
    obtain ⟨hg, h⟩ := h
    refine Rn_iast rfl (⟨rfl, (by omega : (0 : Int) ≤ 177), (by omega : (177 : Int) + 1 < K ∧ 5 < K)⟩) hg (fun g5 he_g5 => ?_)
    have h := h g5 he_g5
    refine Rn_pure 2 (i' := 6) (L' := [some (2, 161), some (0, l1 + 1)]) (st' := []) rfl ?_
    exact h
-- EventLedgerModel.undo ()I
theorem v_M_undo {K : Int} {S : Nat} {g r : ab_H} (P : Int → ab_H → ab_H → Prop) (hr : SI r) (hK : 186 ≤ K) (h : ∀ g1, g1 = ab_up g 161 0 0 → ((¬ wr (g1 161 30) = wr 0 → ∀ g2, g2 = ab_up g1 161 30 (g1 161 30 - 1) → ab_RV m_M_copies [(2, 177), (0, 1607 * (g2 161 30)), (2, 174), (0, 0)] K S g2 r (fun g3 r' => r' = r ∧ (P (g3 161 30) g3 r))) ∧ (wr (g1 161 30) = wr 0 → P (-1) g1 r))) : ab_RI m_M_undo [(2, 161)] K S g r P := by
  show ab_Rn m_M_undo 0 [some (2, 161)] [] (K, S, g, r) (ab_Qi K S P)
  refine Rn_pure 2 (i' := 2) (L' := [some (2, 161)]) (st' := [(0, 0), (2, 161)]) rfl ?_
  refine Rn_putI rfl (⟨rfl, (by omega : (0 : Int) ≤ 161), (by omega : (161 : Int) + 1 < K ∧ 5 < K)⟩) (fun g1 he_g1 => ?_)
  have h := h g1 he_g1
  refine Rn_pure 1 (i' := 4) (L' := [some (2, 161)]) (st' := [(2, 161)]) rfl ?_
  refine Rn_getI rfl (⟨rfl, (by omega : (0 : Int) ≤ 161), (by omega : (161 : Int) + 1 < K ∧ 5 < K)⟩) ?_
  refine Rn_ifne rfl (fun hc => ?_) (fun hc => ?_)
  · have h := h.1 hc
    refine Rn_pure 2 (i' := 10) (L' := [some (2, 161)]) (st' := [(2, 161), (2, 161)]) rfl ?_
    refine Rn_getI rfl (⟨rfl, (by omega : (0 : Int) ≤ 161), (by omega : (161 : Int) + 1 < K ∧ 5 < K)⟩) ?_
    refine Rn_pure 2 (i' := 13) (L' := [some (2, 161)]) (st' := [(0, g1 161 30 - 1), (2, 161)]) rfl ?_
    refine Rn_putI rfl (⟨rfl, (by omega : (0 : Int) ≤ 161), (by omega : (161 : Int) + 1 < K ∧ 5 < K)⟩) (fun g2 he_g2 => ?_)
    have h := h g2 he_g2
    refine Rn_pure 1 (i' := 15) (L' := [some (2, 161)]) (st' := [(2, 161)]) rfl ?_
    refine Rn_getR rfl (⟨rfl, (by omega : (0 : Int) ≤ 161), (by omega : (161 : Int) + 1 < K ∧ 5 < K)⟩) (hr 152 _ rfl) (by decide) ?_
    refine Rn_pure 2 (i' := 18) (L' := [some (2, 161)]) (st' := [(2, 161), (0, 1607), (2, 177)]) rfl ?_
    refine Rn_getI rfl (⟨rfl, (by omega : (0 : Int) ≤ 161), (by omega : (161 : Int) + 1 < K ∧ 5 < K)⟩) ?_
    refine Rn_pure 2 (i' := 21) (L' := [some (2, 161)]) (st' := [(2, 161), (0, 1607 * (g2 161 30)), (2, 177)]) rfl ?_
    refine Rn_getR rfl (⟨rfl, (by omega : (0 : Int) ≤ 161), (by omega : (161 : Int) + 1 < K ∧ 5 < K)⟩) (hr 149 _ rfl) (by decide) ?_
    refine Rn_pure 1 (i' := 23) (L' := [some (2, 161)]) (st' := [(0, 0), (2, 174), (0, 1607 * (g2 161 30)), (2, 177)]) rfl ?_
    refine Rn_callV [(2, 177), (0, 1607 * (g2 161 30)), (2, 174), (0, 0)] [] rfl rfl rfl rfl (rfl) ?_
    refine h.mono (fun g3 r' h => ?_)
    obtain ⟨hx, h⟩ := h
    replace hx := hx.symm
    subst hx
    refine Rn_pure 1 (i' := 25) (L' := [some (2, 161)]) (st' := [(2, 161)]) rfl ?_
    refine Rn_getI rfl (⟨rfl, (by omega : (0 : Int) ≤ 161), (by omega : (161 : Int) + 1 < K ∧ 5 < K)⟩) ?_
    exact Rn_ret1 rfl h
  · have h := h.2 hc
    refine Rn_pure 1 (i' := 7) (L' := [some (2, 161)]) (st' := [(0, (-1))]) rfl ?_
    exact Rn_ret1 rfl h
-- EventLedgerModel.keep ()I
theorem v_M_keep {K : Int} {S : Nat} {g r : ab_H} (P : Int → ab_H → ab_H → Prop) (hr : SI r) (hK : 186 ≤ K) (h : ∀ g1, g1 = ab_up g 161 0 0 → ab_RV m_M_copies [(2, 174), (0, 0), (2, 176), (0, 0)] K S g1 r (fun g2 r' => r' = r ∧ (∀ g4, g4 = ab_up g2 161 31 1 → ab_RI m_M_many [(2, 161)] K S g4 r (fun x5 g' r' => g' = g4 ∧ r' = r ∧ (P x5 g4 r))))) : ab_RI m_M_keep [(2, 161)] K S g r P := by
  show ab_Rn m_M_keep 0 [some (2, 161)] [] (K, S, g, r) (ab_Qi K S P)
  refine Rn_pure 2 (i' := 2) (L' := [some (2, 161)]) (st' := [(0, 0), (2, 161)]) rfl ?_
  refine Rn_putI rfl (⟨rfl, (by omega : (0 : Int) ≤ 161), (by omega : (161 : Int) + 1 < K ∧ 5 < K)⟩) (fun g1 he_g1 => ?_)
  have h := h g1 he_g1
  refine Rn_pure 1 (i' := 4) (L' := [some (2, 161)]) (st' := [(2, 161)]) rfl ?_
  refine Rn_getR rfl (⟨rfl, (by omega : (0 : Int) ≤ 161), (by omega : (161 : Int) + 1 < K ∧ 5 < K)⟩) (hr 149 _ rfl) (by decide) ?_
  refine Rn_pure 2 (i' := 7) (L' := [some (2, 161)]) (st' := [(2, 161), (0, 0), (2, 174)]) rfl ?_
  refine Rn_getR rfl (⟨rfl, (by omega : (0 : Int) ≤ 161), (by omega : (161 : Int) + 1 < K ∧ 5 < K)⟩) (hr 151 _ rfl) (by decide) ?_
  refine Rn_pure 1 (i' := 9) (L' := [some (2, 161)]) (st' := [(0, 0), (2, 176), (0, 0), (2, 174)]) rfl ?_
  refine Rn_callV [(2, 174), (0, 0), (2, 176), (0, 0)] [] rfl rfl rfl rfl (rfl) ?_
  refine h.mono (fun g2 r' h => ?_)
  obtain ⟨hx, h⟩ := h
  replace hx := hx.symm
  subst hx
  refine Rn_pure 2 (i' := 12) (L' := [some (2, 161)]) (st' := [(0, 1), (2, 161)]) rfl ?_
  refine Rn_putZ rfl (⟨rfl, (by omega : (0 : Int) ≤ 161), (by omega : (161 : Int) + 1 < K ∧ 5 < K)⟩) (by decide) (fun g4 he_g4 => ?_)
  have h := h g4 he_g4
  refine Rn_pure 1 (i' := 14) (L' := [some (2, 161)]) (st' := [(2, 161)]) rfl ?_
  refine Rn_callI [(2, 161)] [] rfl rfl rfl rfl (ab_rvB_of rfl (⟨rfl, (by omega : (0 : Int) ≤ 161), (by omega : (161 : Int) + 1 < K ∧ 5 < K)⟩)) ?_
  refine h.mono (fun x5 g' r' h => ?_)
  obtain ⟨hx, h⟩ := h
  replace hx := hx.symm
  subst hx
  obtain ⟨hx, h⟩ := h
  replace hx := hx.symm
  subst hx
  exact Rn_ret1 rfl h
-- EventLedgerModel.back ()I
theorem v_M_back {K : Int} {S : Nat} {g r : ab_H} (P : Int → ab_H → ab_H → Prop) (hr : SI r) (hK : 186 ≤ K) (h : ∀ g1, g1 = ab_up g 161 0 0 → ((¬ wr (g1 161 31) = wr 0 → ab_RV m_M_copies [(2, 176), (0, 0), (2, 174), (0, 0)] K S g1 r (fun g2 r' => r' = r ∧ (∀ g4, g4 = ab_up g2 161 30 0 → ab_RI m_M_many [(2, 161)] K S g4 r (fun x5 g' r' => g' = g4 ∧ r' = r ∧ (P x5 g4 r))))) ∧ (wr (g1 161 31) = wr 0 → P (-1) g1 r))) : ab_RI m_M_back [(2, 161)] K S g r P := by
  show ab_Rn m_M_back 0 [some (2, 161)] [] (K, S, g, r) (ab_Qi K S P)
  refine Rn_pure 2 (i' := 2) (L' := [some (2, 161)]) (st' := [(0, 0), (2, 161)]) rfl ?_
  refine Rn_putI rfl (⟨rfl, (by omega : (0 : Int) ≤ 161), (by omega : (161 : Int) + 1 < K ∧ 5 < K)⟩) (fun g1 he_g1 => ?_)
  have h := h g1 he_g1
  refine Rn_pure 1 (i' := 4) (L' := [some (2, 161)]) (st' := [(2, 161)]) rfl ?_
  refine Rn_getI rfl (⟨rfl, (by omega : (0 : Int) ≤ 161), (by omega : (161 : Int) + 1 < K ∧ 5 < K)⟩) ?_
  refine Rn_ifne rfl (fun hc => ?_) (fun hc => ?_)
  · have h := h.1 hc
    refine Rn_pure 1 (i' := 9) (L' := [some (2, 161)]) (st' := [(2, 161)]) rfl ?_
    refine Rn_getR rfl (⟨rfl, (by omega : (0 : Int) ≤ 161), (by omega : (161 : Int) + 1 < K ∧ 5 < K)⟩) (hr 151 _ rfl) (by decide) ?_
    refine Rn_pure 2 (i' := 12) (L' := [some (2, 161)]) (st' := [(2, 161), (0, 0), (2, 176)]) rfl ?_
    refine Rn_getR rfl (⟨rfl, (by omega : (0 : Int) ≤ 161), (by omega : (161 : Int) + 1 < K ∧ 5 < K)⟩) (hr 149 _ rfl) (by decide) ?_
    refine Rn_pure 1 (i' := 14) (L' := [some (2, 161)]) (st' := [(0, 0), (2, 174), (0, 0), (2, 176)]) rfl ?_
    refine Rn_callV [(2, 176), (0, 0), (2, 174), (0, 0)] [] rfl rfl rfl rfl (rfl) ?_
    refine h.mono (fun g2 r' h => ?_)
    obtain ⟨hx, h⟩ := h
    replace hx := hx.symm
    subst hx
    refine Rn_pure 2 (i' := 17) (L' := [some (2, 161)]) (st' := [(0, 0), (2, 161)]) rfl ?_
    refine Rn_putI rfl (⟨rfl, (by omega : (0 : Int) ≤ 161), (by omega : (161 : Int) + 1 < K ∧ 5 < K)⟩) (fun g4 he_g4 => ?_)
    have h := h g4 he_g4
    refine Rn_pure 1 (i' := 19) (L' := [some (2, 161)]) (st' := [(2, 161)]) rfl ?_
    refine Rn_callI [(2, 161)] [] rfl rfl rfl rfl (ab_rvB_of rfl (⟨rfl, (by omega : (0 : Int) ≤ 161), (by omega : (161 : Int) + 1 < K ∧ 5 < K)⟩)) ?_
    refine h.mono (fun x5 g' r' h => ?_)
    obtain ⟨hx, h⟩ := h
    replace hx := hx.symm
    subst hx
    obtain ⟨hx, h⟩ := h
    replace hx := hx.symm
    subst hx
    exact Rn_ret1 rfl h
  · have h := h.2 hc
    refine Rn_pure 1 (i' := 7) (L' := [some (2, 161)]) (st' := [(0, (-1))]) rfl ?_
    exact Rn_ret1 rfl h
-- EventLedgerModel.isVoid (I)Z
theorem v_M_isVoid {K : Int} {S : Nat} {g r : ab_H} {p1 : Int} (P : Int → ab_H → ab_H → Prop) (hr : SI r) (hK : 186 ≤ K) (h : ((0 : Int) ≤ 9 * p1 + 0 ∧ (9 * p1 + 0 : Int) < 1607) ∧ ((¬ wr (g 174 (9 * p1 + 0)) = wr 7 → P 0 g r) ∧ (wr (g 174 (9 * p1 + 0)) = wr 7 → P 1 g r))) : ab_RI m_M_isVoid [(2, 161), (0, p1)] K S g r P := by
  show ab_Rn m_M_isVoid 0 [some (2, 161), some (0, p1)] [] (K, S, g, r) (ab_Qi K S P)
  refine Rn_pure 1 (i' := 1) (L' := [some (2, 161), some (0, p1)]) (st' := [(2, 161)]) rfl ?_
  refine Rn_getR rfl (⟨rfl, (by omega : (0 : Int) ≤ 161), (by omega : (161 : Int) + 1 < K ∧ 5 < K)⟩) (hr 149 _ rfl) (by decide) ?_
  refine Rn_pure 5 (i' := 7) (L' := [some (2, 161), some (0, p1)]) (st' := [(0, 9 * p1 + 0), (2, 174)]) rfl ?_
  obtain ⟨hg, h⟩ := h
  refine Rn_iald rfl (⟨rfl, (by omega : (0 : Int) ≤ 174), (by omega : (174 : Int) + 1 < K ∧ 5 < K)⟩) hg ?_
  refine Rn_pure 1 (i' := 9) (L' := [some (2, 161), some (0, p1)]) (st' := [(0, 7), (0, g 174 (9 * p1 + 0))]) rfl ?_
  refine Rn_icne rfl (fun hc => ?_) (fun hc => ?_)
  · have h := h.1 hc
    refine Rn_pure 1 (i' := 13) (L' := [some (2, 161), some (0, p1)]) (st' := [(0, 0)]) rfl ?_
    exact Rn_ret2 rfl (by decide) h
  · have h := h.2 hc
    refine Rn_pure 2 (i' := 13) (L' := [some (2, 161), some (0, p1)]) (st' := [(0, 1)]) rfl ?_
    exact Rn_ret2 rfl (by decide) h
-- EventLedgerModel.isVoided (I)Z
theorem v_M_isVoided {K : Int} {S : Nat} {g r : ab_H} {p1 : Int} (P : Int → ab_H → ab_H → Prop) (hr : SI r) (hK : 186 ≤ K) (h : ((0 : Int) ≤ 9 * p1 + 8 ∧ (9 * p1 + 8 : Int) < 1607) ∧ ((wr (g 174 (9 * p1 + 8)) = wr 0 → P 0 g r) ∧ (¬ wr (g 174 (9 * p1 + 8)) = wr 0 → P 1 g r))) : ab_RI m_M_isVoided [(2, 161), (0, p1)] K S g r P := by
  show ab_Rn m_M_isVoided 0 [some (2, 161), some (0, p1)] [] (K, S, g, r) (ab_Qi K S P)
  refine Rn_pure 1 (i' := 1) (L' := [some (2, 161), some (0, p1)]) (st' := [(2, 161)]) rfl ?_
  refine Rn_getR rfl (⟨rfl, (by omega : (0 : Int) ≤ 161), (by omega : (161 : Int) + 1 < K ∧ 5 < K)⟩) (hr 149 _ rfl) (by decide) ?_
  refine Rn_pure 5 (i' := 7) (L' := [some (2, 161), some (0, p1)]) (st' := [(0, 9 * p1 + 8), (2, 174)]) rfl ?_
  obtain ⟨hg, h⟩ := h
  refine Rn_iald rfl (⟨rfl, (by omega : (0 : Int) ≤ 174), (by omega : (174 : Int) + 1 < K ∧ 5 < K)⟩) hg ?_
  refine Rn_ifeq rfl (fun hc => ?_) (fun hc => ?_)
  · have h := h.1 hc
    refine Rn_pure 1 (i' := 12) (L' := [some (2, 161), some (0, p1)]) (st' := [(0, 0)]) rfl ?_
    exact Rn_ret2 rfl (by decide) h
  · have h := h.2 hc
    refine Rn_pure 2 (i' := 12) (L' := [some (2, 161), some (0, p1)]) (st' := [(0, 1)]) rfl ?_
    exact Rn_ret2 rfl (by decide) h
-- EventLedgerModel.weightOf (I)I
theorem v_M_weightOf {K : Int} {S : Nat} {g r : ab_H} {p1 : Int} (P : Int → ab_H → ab_H → Prop) (hr : SI r) (hK : 186 ≤ K) (h : ab_RI m_M_isVoid [(2, 161), (0, p1)] K S g r (fun x1 g' r' => g' = g ∧ r' = r ∧ (((wr x1 = wr 0 → ((0 : Int) ≤ 9 * p1 + 4 ∧ (9 * p1 + 4 : Int) < 1607) ∧ P (4 - (g 174 (9 * p1 + 4))) g r) ∧ (¬ wr x1 = wr 0 → P 1 g r))))) : ab_RI m_M_weightOf [(2, 161), (0, p1)] K S g r P := by
  show ab_Rn m_M_weightOf 0 [some (2, 161), some (0, p1)] [] (K, S, g, r) (ab_Qi K S P)
  refine Rn_pure 2 (i' := 2) (L' := [some (2, 161), some (0, p1)]) (st' := [(0, p1), (2, 161)]) rfl ?_
  refine Rn_callI [(2, 161), (0, p1)] [] rfl rfl rfl rfl (ab_rvB_of rfl (⟨rfl, (by omega : (0 : Int) ≤ 161), (by omega : (161 : Int) + 1 < K ∧ 5 < K)⟩)) ?_
  refine h.mono (fun x1 g' r' h => ?_)
  obtain ⟨hx, h⟩ := h
  replace hx := hx.symm
  subst hx
  obtain ⟨hx, h⟩ := h
  replace hx := hx.symm
  subst hx
  refine Rn_ifeq rfl (fun hc => ?_) (fun hc => ?_)
  · have h := h.1 hc
    refine Rn_pure 2 (i' := 8) (L' := [some (2, 161), some (0, p1)]) (st' := [(2, 161), (0, 4)]) rfl ?_
    refine Rn_getR rfl (⟨rfl, (by omega : (0 : Int) ≤ 161), (by omega : (161 : Int) + 1 < K ∧ 5 < K)⟩) (hr 149 _ rfl) (by decide) ?_
    refine Rn_pure 5 (i' := 14) (L' := [some (2, 161), some (0, p1)]) (st' := [(0, 9 * p1 + 4), (2, 174), (0, 4)]) rfl ?_
    obtain ⟨hg, h⟩ := h
    refine Rn_iald rfl (⟨rfl, (by omega : (0 : Int) ≤ 174), (by omega : (174 : Int) + 1 < K ∧ 5 < K)⟩) hg ?_
    refine Rn_pure 1 (i' := 16) (L' := [some (2, 161), some (0, p1)]) (st' := [(0, 4 - (g 174 (9 * p1 + 4)))]) rfl ?_
    exact Rn_ret1 rfl h
  · have h := h.2 hc
    refine Rn_pure 2 (i' := 16) (L' := [some (2, 161), some (0, p1)]) (st' := [(0, 1)]) rfl ?_
    exact Rn_ret1 rfl h
-- EventLedgerModel.weights (II)I
theorem v_M_weights {K : Int} {S : Nat} {g r : ab_H} {p1 p2 : Int} (P : Int → ab_H → ab_H → Prop) (hr : SI r) (hK : 186 ≤ K) (h : ab_Rn m_M_weights 4 [some (2, 161), none, some (0, p2), some (0, 0), some (0, p1)] [] (K, S, g, r) (ab_Qi K S P)) : ab_RI m_M_weights [(2, 161), (0, p1), (0, p2)] K S g r P := by
  show ab_Rn m_M_weights 0 [some (2, 161), some (0, p1), some (0, p2), none, none] [] (K, S, g, r) (ab_Qi K S P)
  refine Rn_pure 4 (i' := 4) (L' := [some (2, 161), some (0, p1), some (0, p2), some (0, 0), some (0, p1)]) (st' := []) rfl ?_
  refine Rn_weak (L' := [some (2, 161), none, some (0, p2), some (0, 0), some (0, p1)]) ⟨rfl, ⟨rfl, ⟨rfl, ⟨rfl, trivial⟩⟩⟩⟩ ?_
  exact h
theorem v_M_weights_4 {K : Int} {S : Nat} {g r : ab_H} {l2 l3 l4 : Int} (P : Int → ab_H → ab_H → Prop) (hr : SI r) (hK : 186 ≤ K) (h : ((wr l2 ≤ wr l4 → P l3 g r) ∧ (wr l4 < wr l2 → ab_RI m_M_weightOf [(2, 161), (0, l4)] K S g r (fun x1 g' r' => g' = g ∧ r' = r ∧ (ab_Rn m_M_weights 4 [some (2, 161), none, some (0, l2), some (0, l3 + x1), some (0, l4 + 1)] [] (K, S, g, r) (ab_Qi K S P)))))) : ab_Rn m_M_weights 4 [some (2, 161), none, some (0, l2), some (0, l3), some (0, l4)] [] (K, S, g, r) (ab_Qi K S P) := by
  refine Rn_pure 2 (i' := 6) (L' := [some (2, 161), none, some (0, l2), some (0, l3), some (0, l4)]) (st' := [(0, l2), (0, l4)]) rfl ?_
  refine Rn_icge rfl (fun hc => ?_) (fun hc => ?_)
  · have h := h.1 hc
    refine Rn_pure 1 (i' := 16) (L' := [some (2, 161), none, some (0, l2), some (0, l3), some (0, l4)]) (st' := [(0, l3)]) rfl ?_
    exact Rn_ret1 rfl h
  · have h := h.2 hc
    refine Rn_pure 3 (i' := 10) (L' := [some (2, 161), none, some (0, l2), some (0, l3), some (0, l4)]) (st' := [(0, l4), (2, 161), (0, l3)]) rfl ?_
    refine Rn_callI [(2, 161), (0, l4)] [(0, l3)] rfl rfl rfl rfl (ab_rvB_of rfl (⟨rfl, (by omega : (0 : Int) ≤ 161), (by omega : (161 : Int) + 1 < K ∧ 5 < K)⟩)) ?_
    refine h.mono (fun x1 g' r' h => ?_)
    obtain ⟨hx, h⟩ := h
    replace hx := hx.symm
    subst hx
    obtain ⟨hx, h⟩ := h
    replace hx := hx.symm
    subst hx
    refine Rn_pure 4 (i' := 4) (L' := [some (2, 161), none, some (0, l2), some (0, l3 + x1), some (0, l4 + 1)]) (st' := []) rfl ?_
    exact h
-- EventLedgerModel.snapAt (I)I
theorem v_M_snapAt {K : Int} {S : Nat} {g r : ab_H} {p1 : Int} (P : Int → ab_H → ab_H → Prop) (hr : SI r) (hK : 186 ≤ K) (h : ((wr 0 ≤ wr p1 → ((0 : Int) ≤ 1082 + p1 ∧ (1082 + p1 : Int) < 1607) ∧ P (g 174 (1082 + p1)) g r) ∧ (wr p1 < wr 0 → P 0 g r))) : ab_RI m_M_snapAt [(2, 161), (0, p1)] K S g r P := by
  show ab_Rn m_M_snapAt 0 [some (2, 161), some (0, p1)] [] (K, S, g, r) (ab_Qi K S P)
  refine Rn_pure 1 (i' := 1) (L' := [some (2, 161), some (0, p1)]) (st' := [(0, p1)]) rfl ?_
  refine Rn_ifge rfl (fun hc => ?_) (fun hc => ?_)
  · have h := h.1 hc
    refine Rn_pure 1 (i' := 5) (L' := [some (2, 161), some (0, p1)]) (st' := [(2, 161)]) rfl ?_
    refine Rn_getR rfl (⟨rfl, (by omega : (0 : Int) ≤ 161), (by omega : (161 : Int) + 1 < K ∧ 5 < K)⟩) (hr 149 _ rfl) (by decide) ?_
    refine Rn_pure 3 (i' := 9) (L' := [some (2, 161), some (0, p1)]) (st' := [(0, 1082 + p1), (2, 174)]) rfl ?_
    obtain ⟨hg, h⟩ := h
    refine Rn_iald rfl (⟨rfl, (by omega : (0 : Int) ≤ 174), (by omega : (174 : Int) + 1 < K ∧ 5 < K)⟩) hg ?_
    exact Rn_ret1 rfl h
  · have h := h.2 hc
    refine Rn_pure 2 (i' := 10) (L' := [some (2, 161), some (0, p1)]) (st' := [(0, 0)]) rfl ?_
    exact Rn_ret1 rfl h
-- EventLedgerModel.snapGoes (I)V
theorem v_M_snapGoes {K : Int} {S : Nat} {g r : ab_H} {p1 : Int} (P : ab_H → ab_H → Prop) (hr : SI r) (hK : 186 ≤ K) (h : ((0 : Int) ≤ 1081 ∧ (1081 : Int) < 1607) ∧ ((0 : Int) ≤ 1081 ∧ (1081 : Int) < 1607) ∧ ∀ g1, g1 = ab_up g 174 1081 (g 174 1081 - 1) → ab_Rn m_M_snapGoes 10 [some (2, 161), none, some (0, p1)] [] (K, S, g1, r) (ab_Qv K S P)) : ab_RV m_M_snapGoes [(2, 161), (0, p1)] K S g r P := by
  show ab_Rn m_M_snapGoes 0 [some (2, 161), some (0, p1), none] [] (K, S, g, r) (ab_Qv K S P)
  refine Rn_pure 1 (i' := 1) (L' := [some (2, 161), some (0, p1), none]) (st' := [(2, 161)]) rfl ?_
  refine Rn_getR rfl (⟨rfl, (by omega : (0 : Int) ≤ 161), (by omega : (161 : Int) + 1 < K ∧ 5 < K)⟩) (hr 149 _ rfl) (by decide) ?_
  refine Rn_pure 2 (i' := 4) (L' := [some (2, 161), some (0, p1), none]) (st' := [(0, 1081), (2, 174), (0, 1081), (2, 174)]) rfl ?_
  obtain ⟨hg, h⟩ := h
  refine Rn_iald rfl (⟨rfl, (by omega : (0 : Int) ≤ 174), (by omega : (174 : Int) + 1 < K ∧ 5 < K)⟩) hg ?_
  refine Rn_pure 2 (i' := 7) (L' := [some (2, 161), some (0, p1), none]) (st' := [(0, g 174 1081 - 1), (0, 1081), (2, 174)]) rfl ?_
  obtain ⟨hg, h⟩ := h
  refine Rn_iast rfl (⟨rfl, (by omega : (0 : Int) ≤ 174), (by omega : (174 : Int) + 1 < K ∧ 5 < K)⟩) hg (fun g1 he_g1 => ?_)
  have h := h g1 he_g1
  refine Rn_pure 2 (i' := 10) (L' := [some (2, 161), some (0, p1), some (0, p1)]) (st' := []) rfl ?_
  refine Rn_weak (L' := [some (2, 161), none, some (0, p1)]) ⟨rfl, ⟨rfl, trivial⟩⟩ ?_
  exact h
theorem v_M_snapGoes_10 {K : Int} {S : Nat} {g r : ab_H} {l2 : Int} (P : ab_H → ab_H → Prop) (hr : SI r) (hK : 186 ≤ K) (h : ((0 : Int) ≤ 1081 ∧ (1081 : Int) < 1607) ∧ ((wr (g 174 1081) ≤ wr l2 → P g r) ∧ (wr l2 < wr (g 174 1081) → ((0 : Int) ≤ 1082 + l2 + 1 ∧ (1082 + l2 + 1 : Int) < 1607) ∧ ((0 : Int) ≤ 1082 + l2 ∧ (1082 + l2 : Int) < 1607) ∧ ∀ g1, g1 = ab_up g 174 (1082 + l2) (g 174 (1082 + l2 + 1)) → ab_Rn m_M_snapGoes 10 [some (2, 161), none, some (0, l2 + 1)] [] (K, S, g1, r) (ab_Qv K S P)))) : ab_Rn m_M_snapGoes 10 [some (2, 161), none, some (0, l2)] [] (K, S, g, r) (ab_Qv K S P) := by
  refine Rn_pure 2 (i' := 12) (L' := [some (2, 161), none, some (0, l2)]) (st' := [(2, 161), (0, l2)]) rfl ?_
  refine Rn_getR rfl (⟨rfl, (by omega : (0 : Int) ≤ 161), (by omega : (161 : Int) + 1 < K ∧ 5 < K)⟩) (hr 149 _ rfl) (by decide) ?_
  refine Rn_pure 1 (i' := 14) (L' := [some (2, 161), none, some (0, l2)]) (st' := [(0, 1081), (2, 174), (0, l2)]) rfl ?_
  obtain ⟨hg, h⟩ := h
  refine Rn_iald rfl (⟨rfl, (by omega : (0 : Int) ≤ 174), (by omega : (174 : Int) + 1 < K ∧ 5 < K)⟩) hg ?_
  refine Rn_icge rfl (fun hc => ?_) (fun hc => ?_)
  · have h := h.1 hc
    exact Rn_ret0 rfl h
  · have h := h.2 hc
    refine Rn_pure 1 (i' := 17) (L' := [some (2, 161), none, some (0, l2)]) (st' := [(2, 161)]) rfl ?_
    refine Rn_getR rfl (⟨rfl, (by omega : (0 : Int) ≤ 161), (by omega : (161 : Int) + 1 < K ∧ 5 < K)⟩) (hr 149 _ rfl) (by decide) ?_
    refine Rn_pure 4 (i' := 22) (L' := [some (2, 161), none, some (0, l2)]) (st' := [(2, 161), (0, 1082 + l2), (2, 174)]) rfl ?_
    refine Rn_getR rfl (⟨rfl, (by omega : (0 : Int) ≤ 161), (by omega : (161 : Int) + 1 < K ∧ 5 < K)⟩) (hr 149 _ rfl) (by decide) ?_
    refine Rn_pure 5 (i' := 28) (L' := [some (2, 161), none, some (0, l2)]) (st' := [(0, 1082 + l2 + 1), (2, 174), (0, 1082 + l2), (2, 174)]) rfl ?_
    obtain ⟨hg, h⟩ := h
    refine Rn_iald rfl (⟨rfl, (by omega : (0 : Int) ≤ 174), (by omega : (174 : Int) + 1 < K ∧ 5 < K)⟩) hg ?_
    obtain ⟨hg, h⟩ := h
    refine Rn_iast rfl (⟨rfl, (by omega : (0 : Int) ≤ 174), (by omega : (174 : Int) + 1 < K ∧ 5 < K)⟩) hg (fun g1 he_g1 => ?_)
    have h := h g1 he_g1
    refine Rn_pure 2 (i' := 10) (L' := [some (2, 161), none, some (0, l2 + 1)]) (st' := []) rfl ?_
    exact h
-- EventLedgerModel.snaps (I)V
theorem v_M_snaps {K : Int} {S : Nat} {g r : ab_H} {p1 : Int} (P : ab_H → ab_H → Prop) (hr : SI r) (hK : 186 ≤ K) (h : ((0 : Int) ≤ 1081 ∧ (1081 : Int) < 1607) ∧ ab_RI m_M_snapAt [(2, 161), (0, g 174 1081 - 1)] K S g r (fun x1 g' r' => g' = g ∧ r' = r ∧ (ab_RI m_M_weights [(2, 161), (0, x1), (0, p1)] K S g r (fun x2 g' r' => g' = g ∧ r' = r ∧ (((0 : Int) ≤ 1089 ∧ (1089 : Int) < 1607) ∧ ((wr (g 174 1089) ≤ wr x2 → ((0 : Int) ≤ 1081 ∧ (1081 : Int) < 1607) ∧ ((0 : Int) ≤ 1082 + (g 174 1081) ∧ (1082 + (g 174 1081) : Int) < 1607) ∧ ∀ g3, g3 = ab_up g 174 (1082 + (g 174 1081)) p1 → ((0 : Int) ≤ 1081 ∧ (1081 : Int) < 1607) ∧ ((0 : Int) ≤ 1081 ∧ (1081 : Int) < 1607) ∧ ∀ g4, g4 = ab_up g3 174 1081 (g3 174 1081 + 1) → ∀ g5, g5 = ab_up g4 161 32 (g4 161 32 + 1) → ((0 : Int) ≤ 1081 ∧ (1081 : Int) < 1607) ∧ ((0 : Int) ≤ 1090 ∧ (1090 : Int) < 1607) ∧ ((wr (g5 174 1090) < wr (g5 174 1081) → ab_Rn m_M_snaps 55 [some (2, 161), none, some (0, 0), some (0, 1)] [] (K, S, g5, r) (ab_Qv K S P)) ∧ (wr (g5 174 1081) ≤ wr (g5 174 1090) → P g5 r))) ∧ (wr x2 < wr (g 174 1089) → P g r))))))) : ab_RV m_M_snaps [(2, 161), (0, p1)] K S g r P := by
  show ab_Rn m_M_snaps 0 [some (2, 161), some (0, p1), none, none] [] (K, S, g, r) (ab_Qv K S P)
  refine Rn_pure 3 (i' := 3) (L' := [some (2, 161), some (0, p1), none, none]) (st' := [(2, 161), (2, 161), (2, 161)]) rfl ?_
  refine Rn_getR rfl (⟨rfl, (by omega : (0 : Int) ≤ 161), (by omega : (161 : Int) + 1 < K ∧ 5 < K)⟩) (hr 149 _ rfl) (by decide) ?_
  refine Rn_pure 1 (i' := 5) (L' := [some (2, 161), some (0, p1), none, none]) (st' := [(0, 1081), (2, 174), (2, 161), (2, 161)]) rfl ?_
  obtain ⟨hg, h⟩ := h
  refine Rn_iald rfl (⟨rfl, (by omega : (0 : Int) ≤ 174), (by omega : (174 : Int) + 1 < K ∧ 5 < K)⟩) hg ?_
  refine Rn_pure 2 (i' := 8) (L' := [some (2, 161), some (0, p1), none, none]) (st' := [(0, g 174 1081 - 1), (2, 161), (2, 161)]) rfl ?_
  refine Rn_callI [(2, 161), (0, g 174 1081 - 1)] [(2, 161)] rfl rfl rfl rfl (ab_rvB_of rfl (⟨rfl, (by omega : (0 : Int) ≤ 161), (by omega : (161 : Int) + 1 < K ∧ 5 < K)⟩)) ?_
  refine h.mono (fun x1 g' r' h => ?_)
  obtain ⟨hx, h⟩ := h
  replace hx := hx.symm
  subst hx
  obtain ⟨hx, h⟩ := h
  replace hx := hx.symm
  subst hx
  refine Rn_pure 1 (i' := 10) (L' := [some (2, 161), some (0, p1), none, none]) (st' := [(0, p1), (0, x1), (2, 161)]) rfl ?_
  refine Rn_callI [(2, 161), (0, x1), (0, p1)] [] rfl rfl rfl rfl (ab_rvB_of rfl (⟨rfl, (by omega : (0 : Int) ≤ 161), (by omega : (161 : Int) + 1 < K ∧ 5 < K)⟩)) ?_
  refine h.mono (fun x2 g' r' h => ?_)
  obtain ⟨hx, h⟩ := h
  replace hx := hx.symm
  subst hx
  obtain ⟨hx, h⟩ := h
  replace hx := hx.symm
  subst hx
  refine Rn_pure 1 (i' := 12) (L' := [some (2, 161), some (0, p1), none, none]) (st' := [(2, 161), (0, x2)]) rfl ?_
  refine Rn_getR rfl (⟨rfl, (by omega : (0 : Int) ≤ 161), (by omega : (161 : Int) + 1 < K ∧ 5 < K)⟩) (hr 149 _ rfl) (by decide) ?_
  refine Rn_pure 1 (i' := 14) (L' := [some (2, 161), some (0, p1), none, none]) (st' := [(0, 1089), (2, 174), (0, x2)]) rfl ?_
  obtain ⟨hg, h⟩ := h
  refine Rn_iald rfl (⟨rfl, (by omega : (0 : Int) ≤ 174), (by omega : (174 : Int) + 1 < K ∧ 5 < K)⟩) hg ?_
  refine Rn_icge rfl (fun hc => ?_) (fun hc => ?_)
  · have h := h.1 hc
    refine Rn_pure 1 (i' := 18) (L' := [some (2, 161), some (0, p1), none, none]) (st' := [(2, 161)]) rfl ?_
    refine Rn_getR rfl (⟨rfl, (by omega : (0 : Int) ≤ 161), (by omega : (161 : Int) + 1 < K ∧ 5 < K)⟩) (hr 149 _ rfl) (by decide) ?_
    refine Rn_pure 2 (i' := 21) (L' := [some (2, 161), some (0, p1), none, none]) (st' := [(2, 161), (0, 1082), (2, 174)]) rfl ?_
    refine Rn_getR rfl (⟨rfl, (by omega : (0 : Int) ≤ 161), (by omega : (161 : Int) + 1 < K ∧ 5 < K)⟩) (hr 149 _ rfl) (by decide) ?_
    refine Rn_pure 1 (i' := 23) (L' := [some (2, 161), some (0, p1), none, none]) (st' := [(0, 1081), (2, 174), (0, 1082), (2, 174)]) rfl ?_
    obtain ⟨hg, h⟩ := h
    refine Rn_iald rfl (⟨rfl, (by omega : (0 : Int) ≤ 174), (by omega : (174 : Int) + 1 < K ∧ 5 < K)⟩) hg ?_
    refine Rn_pure 2 (i' := 26) (L' := [some (2, 161), some (0, p1), none, none]) (st' := [(0, p1), (0, 1082 + (g 174 1081)), (2, 174)]) rfl ?_
    obtain ⟨hg, h⟩ := h
    refine Rn_iast rfl (⟨rfl, (by omega : (0 : Int) ≤ 174), (by omega : (174 : Int) + 1 < K ∧ 5 < K)⟩) hg (fun g3 he_g3 => ?_)
    have h := h g3 he_g3
    refine Rn_pure 1 (i' := 28) (L' := [some (2, 161), some (0, p1), none, none]) (st' := [(2, 161)]) rfl ?_
    refine Rn_getR rfl (⟨rfl, (by omega : (0 : Int) ≤ 161), (by omega : (161 : Int) + 1 < K ∧ 5 < K)⟩) (hr 149 _ rfl) (by decide) ?_
    refine Rn_pure 2 (i' := 31) (L' := [some (2, 161), some (0, p1), none, none]) (st' := [(0, 1081), (2, 174), (0, 1081), (2, 174)]) rfl ?_
    obtain ⟨hg, h⟩ := h
    refine Rn_iald rfl (⟨rfl, (by omega : (0 : Int) ≤ 174), (by omega : (174 : Int) + 1 < K ∧ 5 < K)⟩) hg ?_
    refine Rn_pure 2 (i' := 34) (L' := [some (2, 161), some (0, p1), none, none]) (st' := [(0, g3 174 1081 + 1), (0, 1081), (2, 174)]) rfl ?_
    obtain ⟨hg, h⟩ := h
    refine Rn_iast rfl (⟨rfl, (by omega : (0 : Int) ≤ 174), (by omega : (174 : Int) + 1 < K ∧ 5 < K)⟩) hg (fun g4 he_g4 => ?_)
    have h := h g4 he_g4
    refine Rn_pure 2 (i' := 37) (L' := [some (2, 161), some (0, p1), none, none]) (st' := [(2, 161), (2, 161)]) rfl ?_
    refine Rn_getI rfl (⟨rfl, (by omega : (0 : Int) ≤ 161), (by omega : (161 : Int) + 1 < K ∧ 5 < K)⟩) ?_
    refine Rn_pure 2 (i' := 40) (L' := [some (2, 161), some (0, p1), none, none]) (st' := [(0, g4 161 32 + 1), (2, 161)]) rfl ?_
    refine Rn_putI rfl (⟨rfl, (by omega : (0 : Int) ≤ 161), (by omega : (161 : Int) + 1 < K ∧ 5 < K)⟩) (fun g5 he_g5 => ?_)
    have h := h g5 he_g5
    refine Rn_pure 1 (i' := 42) (L' := [some (2, 161), some (0, p1), none, none]) (st' := [(2, 161)]) rfl ?_
    refine Rn_getR rfl (⟨rfl, (by omega : (0 : Int) ≤ 161), (by omega : (161 : Int) + 1 < K ∧ 5 < K)⟩) (hr 149 _ rfl) (by decide) ?_
    refine Rn_pure 1 (i' := 44) (L' := [some (2, 161), some (0, p1), none, none]) (st' := [(0, 1081), (2, 174)]) rfl ?_
    obtain ⟨hg, h⟩ := h
    refine Rn_iald rfl (⟨rfl, (by omega : (0 : Int) ≤ 174), (by omega : (174 : Int) + 1 < K ∧ 5 < K)⟩) hg ?_
    refine Rn_pure 1 (i' := 46) (L' := [some (2, 161), some (0, p1), none, none]) (st' := [(2, 161), (0, g5 174 1081)]) rfl ?_
    refine Rn_getR rfl (⟨rfl, (by omega : (0 : Int) ≤ 161), (by omega : (161 : Int) + 1 < K ∧ 5 < K)⟩) (hr 149 _ rfl) (by decide) ?_
    refine Rn_pure 1 (i' := 48) (L' := [some (2, 161), some (0, p1), none, none]) (st' := [(0, 1090), (2, 174), (0, g5 174 1081)]) rfl ?_
    obtain ⟨hg, h⟩ := h
    refine Rn_iald rfl (⟨rfl, (by omega : (0 : Int) ≤ 174), (by omega : (174 : Int) + 1 < K ∧ 5 < K)⟩) hg ?_
    refine Rn_icgt rfl (fun hc => ?_) (fun hc => ?_)
    · have h := h.1 hc
      refine Rn_pure 4 (i' := 55) (L' := [some (2, 161), some (0, p1), some (0, 0), some (0, 1)]) (st' := []) rfl ?_
      refine Rn_weak (L' := [some (2, 161), none, some (0, 0), some (0, 1)]) ⟨rfl, ⟨rfl, ⟨rfl, trivial⟩⟩⟩ ?_
      exact h
    · have h := h.2 hc
      exact Rn_ret0 rfl h
  · have h := h.2 hc
    exact Rn_ret0 rfl h
theorem v_M_snaps_55 {K : Int} {S : Nat} {g r : ab_H} {l2 l3 : Int} (P : ab_H → ab_H → Prop) (hr : SI r) (hK : 186 ≤ K) (h : ((0 : Int) ≤ 1081 ∧ (1081 : Int) < 1607) ∧ ((wr (g 174 1081 - 1) ≤ wr l3 → ab_RV m_M_snapGoes [(2, 161), (0, l2)] K S g r (fun g1 r' => r' = r ∧ (P g1 r))) ∧ (wr l3 < wr (g 174 1081 - 1) → ab_RI m_M_snapAt [(2, 161), (0, l3 - 1)] K S g r (fun x3 g' r' => g' = g ∧ r' = r ∧ (ab_RI m_M_snapAt [(2, 161), (0, l3 + 1)] K S g r (fun x4 g' r' => g' = g ∧ r' = r ∧ (ab_RI m_M_weights [(2, 161), (0, x3), (0, x4)] K S g r (fun x5 g' r' => g' = g ∧ r' = r ∧ (ab_RI m_M_snapAt [(2, 161), (0, l2 - 1)] K S g r (fun x6 g' r' => g' = g ∧ r' = r ∧ (ab_RI m_M_snapAt [(2, 161), (0, l2 + 1)] K S g r (fun x7 g' r' => g' = g ∧ r' = r ∧ (ab_RI m_M_weights [(2, 161), (0, x6), (0, x7)] K S g r (fun x8 g' r' => g' = g ∧ r' = r ∧ (((wr x8 ≤ wr x5 → ab_Rn m_M_snaps 55 [some (2, 161), none, some (0, l2), some (0, l3 + 1)] [] (K, S, g, r) (ab_Qv K S P)) ∧ (wr x5 < wr x8 → ab_Rn m_M_snaps 55 [some (2, 161), none, some (0, l3), some (0, l3 + 1)] [] (K, S, g, r) (ab_Qv K S P)))))))))))))))))) : ab_Rn m_M_snaps 55 [some (2, 161), none, some (0, l2), some (0, l3)] [] (K, S, g, r) (ab_Qv K S P) := by
  refine Rn_pure 2 (i' := 57) (L' := [some (2, 161), none, some (0, l2), some (0, l3)]) (st' := [(2, 161), (0, l3)]) rfl ?_
  refine Rn_getR rfl (⟨rfl, (by omega : (0 : Int) ≤ 161), (by omega : (161 : Int) + 1 < K ∧ 5 < K)⟩) (hr 149 _ rfl) (by decide) ?_
  refine Rn_pure 1 (i' := 59) (L' := [some (2, 161), none, some (0, l2), some (0, l3)]) (st' := [(0, 1081), (2, 174), (0, l3)]) rfl ?_
  obtain ⟨hg, h⟩ := h
  refine Rn_iald rfl (⟨rfl, (by omega : (0 : Int) ≤ 174), (by omega : (174 : Int) + 1 < K ∧ 5 < K)⟩) hg ?_
  refine Rn_pure 2 (i' := 62) (L' := [some (2, 161), none, some (0, l2), some (0, l3)]) (st' := [(0, g 174 1081 - 1), (0, l3)]) rfl ?_
  refine Rn_icge rfl (fun hc => ?_) (fun hc => ?_)
  · have h := h.1 hc
    refine Rn_pure 2 (i' := 94) (L' := [some (2, 161), none, some (0, l2), some (0, l3)]) (st' := [(0, l2), (2, 161)]) rfl ?_
    refine Rn_callV [(2, 161), (0, l2)] [] rfl rfl rfl rfl (ab_rvB_of rfl (⟨rfl, (by omega : (0 : Int) ≤ 161), (by omega : (161 : Int) + 1 < K ∧ 5 < K)⟩)) ?_
    refine h.mono (fun g1 r' h => ?_)
    obtain ⟨hx, h⟩ := h
    replace hx := hx.symm
    subst hx
    exact Rn_ret0 rfl h
  · have h := h.2 hc
    refine Rn_pure 5 (i' := 68) (L' := [some (2, 161), none, some (0, l2), some (0, l3)]) (st' := [(0, l3 - 1), (2, 161), (2, 161)]) rfl ?_
    refine Rn_callI [(2, 161), (0, l3 - 1)] [(2, 161)] rfl rfl rfl rfl (ab_rvB_of rfl (⟨rfl, (by omega : (0 : Int) ≤ 161), (by omega : (161 : Int) + 1 < K ∧ 5 < K)⟩)) ?_
    refine h.mono (fun x3 g' r' h => ?_)
    obtain ⟨hx, h⟩ := h
    replace hx := hx.symm
    subst hx
    obtain ⟨hx, h⟩ := h
    replace hx := hx.symm
    subst hx
    refine Rn_pure 4 (i' := 73) (L' := [some (2, 161), none, some (0, l2), some (0, l3)]) (st' := [(0, l3 + 1), (2, 161), (0, x3), (2, 161)]) rfl ?_
    refine Rn_callI [(2, 161), (0, l3 + 1)] [(0, x3), (2, 161)] rfl rfl rfl rfl (ab_rvB_of rfl (⟨rfl, (by omega : (0 : Int) ≤ 161), (by omega : (161 : Int) + 1 < K ∧ 5 < K)⟩)) ?_
    refine h.mono (fun x4 g' r' h => ?_)
    obtain ⟨hx, h⟩ := h
    replace hx := hx.symm
    subst hx
    obtain ⟨hx, h⟩ := h
    replace hx := hx.symm
    subst hx
    refine Rn_callI [(2, 161), (0, x3), (0, x4)] [] rfl rfl rfl rfl (ab_rvB_of rfl (⟨rfl, (by omega : (0 : Int) ≤ 161), (by omega : (161 : Int) + 1 < K ∧ 5 < K)⟩)) ?_
    refine h.mono (fun x5 g' r' h => ?_)
    obtain ⟨hx, h⟩ := h
    replace hx := hx.symm
    subst hx
    obtain ⟨hx, h⟩ := h
    replace hx := hx.symm
    subst hx
    refine Rn_pure 5 (i' := 80) (L' := [some (2, 161), none, some (0, l2), some (0, l3)]) (st' := [(0, l2 - 1), (2, 161), (2, 161), (0, x5)]) rfl ?_
    refine Rn_callI [(2, 161), (0, l2 - 1)] [(2, 161), (0, x5)] rfl rfl rfl rfl (ab_rvB_of rfl (⟨rfl, (by omega : (0 : Int) ≤ 161), (by omega : (161 : Int) + 1 < K ∧ 5 < K)⟩)) ?_
    refine h.mono (fun x6 g' r' h => ?_)
    obtain ⟨hx, h⟩ := h
    replace hx := hx.symm
    subst hx
    obtain ⟨hx, h⟩ := h
    replace hx := hx.symm
    subst hx
    refine Rn_pure 4 (i' := 85) (L' := [some (2, 161), none, some (0, l2), some (0, l3)]) (st' := [(0, l2 + 1), (2, 161), (0, x6), (2, 161), (0, x5)]) rfl ?_
    refine Rn_callI [(2, 161), (0, l2 + 1)] [(0, x6), (2, 161), (0, x5)] rfl rfl rfl rfl (ab_rvB_of rfl (⟨rfl, (by omega : (0 : Int) ≤ 161), (by omega : (161 : Int) + 1 < K ∧ 5 < K)⟩)) ?_
    refine h.mono (fun x7 g' r' h => ?_)
    obtain ⟨hx, h⟩ := h
    replace hx := hx.symm
    subst hx
    obtain ⟨hx, h⟩ := h
    replace hx := hx.symm
    subst hx
    refine Rn_callI [(2, 161), (0, x6), (0, x7)] [(0, x5)] rfl rfl rfl rfl (ab_rvB_of rfl (⟨rfl, (by omega : (0 : Int) ≤ 161), (by omega : (161 : Int) + 1 < K ∧ 5 < K)⟩)) ?_
    refine h.mono (fun x8 g' r' h => ?_)
    obtain ⟨hx, h⟩ := h
    replace hx := hx.symm
    subst hx
    obtain ⟨hx, h⟩ := h
    replace hx := hx.symm
    subst hx
    refine Rn_icge rfl (fun hc => ?_) (fun hc => ?_)
    · have h := h.1 hc
      refine Rn_pure 2 (i' := 55) (L' := [some (2, 161), none, some (0, l2), some (0, l3 + 1)]) (st' := []) rfl ?_
      exact h
    · have h := h.2 hc
      refine Rn_pure 4 (i' := 55) (L' := [some (2, 161), none, some (0, l3), some (0, l3 + 1)]) (st' := []) rfl ?_
      exact h
-- EventLedgerModel.letsGo (I)V
theorem v_M_letsGo {K : Int} {S : Nat} {g r : ab_H} {p1 : Int} (P : ab_H → ab_H → Prop) (hr : SI r) (hK : 186 ≤ K) (h : ab_Rn m_M_letsGo 0 [some (2, 161), some (0, p1)] [] (K, S, g, r) (ab_Qv K S P)) : ab_RV m_M_letsGo [(2, 161), (0, p1)] K S g r P := by
  show ab_Rn m_M_letsGo 0 [some (2, 161), some (0, p1)] [] (K, S, g, r) (ab_Qv K S P)
  exact h
theorem v_M_letsGo_0 {K : Int} {S : Nat} {g r : ab_H} {l1 : Int} (P : ab_H → ab_H → Prop) (hr : SI r) (hK : 186 ≤ K) (h : ((0 : Int) ≤ 1081 ∧ (1081 : Int) < 1607) ∧ ((wr (g 174 1081) ≤ wr 0 → P g r) ∧ (wr 0 < wr (g 174 1081) → ((0 : Int) ≤ 1081 ∧ (1081 : Int) < 1607) ∧ ab_RI m_M_snapAt [(2, 161), (0, g 174 1081 - 1)] K S g r (fun x1 g' r' => g' = g ∧ r' = r ∧ (((wr x1 ≤ wr l1 → P g r) ∧ (wr l1 < wr x1 → ((0 : Int) ≤ 1081 ∧ (1081 : Int) < 1607) ∧ ((0 : Int) ≤ 1081 ∧ (1081 : Int) < 1607) ∧ ∀ g2, g2 = ab_up g 174 1081 (g 174 1081 - 1) → ab_Rn m_M_letsGo 0 [some (2, 161), some (0, l1)] [] (K, S, g2, r) (ab_Qv K S P)))))))) : ab_Rn m_M_letsGo 0 [some (2, 161), some (0, l1)] [] (K, S, g, r) (ab_Qv K S P) := by
  refine Rn_pure 1 (i' := 1) (L' := [some (2, 161), some (0, l1)]) (st' := [(2, 161)]) rfl ?_
  refine Rn_getR rfl (⟨rfl, (by omega : (0 : Int) ≤ 161), (by omega : (161 : Int) + 1 < K ∧ 5 < K)⟩) (hr 149 _ rfl) (by decide) ?_
  refine Rn_pure 1 (i' := 3) (L' := [some (2, 161), some (0, l1)]) (st' := [(0, 1081), (2, 174)]) rfl ?_
  obtain ⟨hg, h⟩ := h
  refine Rn_iald rfl (⟨rfl, (by omega : (0 : Int) ≤ 174), (by omega : (174 : Int) + 1 < K ∧ 5 < K)⟩) hg ?_
  refine Rn_ifle rfl (fun hc => ?_) (fun hc => ?_)
  · have h := h.1 hc
    exact Rn_ret0 rfl h
  · have h := h.2 hc
    refine Rn_pure 2 (i' := 7) (L' := [some (2, 161), some (0, l1)]) (st' := [(2, 161), (2, 161)]) rfl ?_
    refine Rn_getR rfl (⟨rfl, (by omega : (0 : Int) ≤ 161), (by omega : (161 : Int) + 1 < K ∧ 5 < K)⟩) (hr 149 _ rfl) (by decide) ?_
    refine Rn_pure 1 (i' := 9) (L' := [some (2, 161), some (0, l1)]) (st' := [(0, 1081), (2, 174), (2, 161)]) rfl ?_
    obtain ⟨hg, h⟩ := h
    refine Rn_iald rfl (⟨rfl, (by omega : (0 : Int) ≤ 174), (by omega : (174 : Int) + 1 < K ∧ 5 < K)⟩) hg ?_
    refine Rn_pure 2 (i' := 12) (L' := [some (2, 161), some (0, l1)]) (st' := [(0, g 174 1081 - 1), (2, 161)]) rfl ?_
    refine Rn_callI [(2, 161), (0, g 174 1081 - 1)] [] rfl rfl rfl rfl (ab_rvB_of rfl (⟨rfl, (by omega : (0 : Int) ≤ 161), (by omega : (161 : Int) + 1 < K ∧ 5 < K)⟩)) ?_
    refine h.mono (fun x1 g' r' h => ?_)
    obtain ⟨hx, h⟩ := h
    replace hx := hx.symm
    subst hx
    obtain ⟨hx, h⟩ := h
    replace hx := hx.symm
    subst hx
    refine Rn_pure 1 (i' := 14) (L' := [some (2, 161), some (0, l1)]) (st' := [(0, l1), (0, x1)]) rfl ?_
    refine Rn_icle rfl (fun hc => ?_) (fun hc => ?_)
    · have h := h.1 hc
      exact Rn_ret0 rfl h
    · have h := h.2 hc
      refine Rn_pure 1 (i' := 16) (L' := [some (2, 161), some (0, l1)]) (st' := [(2, 161)]) rfl ?_
      refine Rn_getR rfl (⟨rfl, (by omega : (0 : Int) ≤ 161), (by omega : (161 : Int) + 1 < K ∧ 5 < K)⟩) (hr 149 _ rfl) (by decide) ?_
      refine Rn_pure 2 (i' := 19) (L' := [some (2, 161), some (0, l1)]) (st' := [(0, 1081), (2, 174), (0, 1081), (2, 174)]) rfl ?_
      obtain ⟨hg, h⟩ := h
      refine Rn_iald rfl (⟨rfl, (by omega : (0 : Int) ≤ 174), (by omega : (174 : Int) + 1 < K ∧ 5 < K)⟩) hg ?_
      refine Rn_pure 2 (i' := 22) (L' := [some (2, 161), some (0, l1)]) (st' := [(0, g 174 1081 - 1), (0, 1081), (2, 174)]) rfl ?_
      obtain ⟨hg, h⟩ := h
      refine Rn_iast rfl (⟨rfl, (by omega : (0 : Int) ≤ 174), (by omega : (174 : Int) + 1 < K ∧ 5 < K)⟩) hg (fun g2 he_g2 => ?_)
      have h := h g2 he_g2
      refine Rn_pure 1 (i' := 0) (L' := [some (2, 161), some (0, l1)]) (st' := []) rfl ?_
      exact h
-- EventLedgerModel.comes (IIIII)V
theorem v_M_comes {K : Int} {S : Nat} {g r : ab_H} {p1 p2 p3 p4 p5 : Int} (P : ab_H → ab_H → Prop) (hr : SI r) (hK : 186 ≤ K) (h : ab_RI m_M_many [(2, 161)] K S g r (fun x1 g' r' => g' = g ∧ r' = r ∧ (((0 : Int) ≤ 9 * x1 + 0 ∧ (9 * x1 + 0 : Int) < 1607) ∧ ∀ g2, g2 = ab_up g 174 (9 * x1 + 0) p1 → ((0 : Int) ≤ 9 * x1 + 1 ∧ (9 * x1 + 1 : Int) < 1607) ∧ ∀ g3, g3 = ab_up g2 174 (9 * x1 + 1) p2 → ((0 : Int) ≤ 9 * x1 + 2 ∧ (9 * x1 + 2 : Int) < 1607) ∧ ∀ g4, g4 = ab_up g3 174 (9 * x1 + 2) p3 → ((0 : Int) ≤ 9 * x1 + 3 ∧ (9 * x1 + 3 : Int) < 1607) ∧ ∀ g5, g5 = ab_up g4 174 (9 * x1 + 3) p4 → ((0 : Int) ≤ 9 * x1 + 4 ∧ (9 * x1 + 4 : Int) < 1607) ∧ ∀ g6, g6 = ab_up g5 174 (9 * x1 + 4) p5 → ((0 : Int) ≤ 9 * x1 + 8 ∧ (9 * x1 + 8 : Int) < 1607) ∧ ∀ g7, g7 = ab_up g6 174 (9 * x1 + 8) 0 → ab_Rn m_M_comes 59 [some (2, 161), some (0, p1), none, some (0, p3), none, none, some (0, x1), some (0, 0)] [] (K, S, g7, r) (ab_Qv K S P)))) : ab_RV m_M_comes [(2, 161), (0, p1), (0, p2), (0, p3), (0, p4), (0, p5)] K S g r P := by
  show ab_Rn m_M_comes 0 [some (2, 161), some (0, p1), some (0, p2), some (0, p3), some (0, p4), some (0, p5), none, none] [] (K, S, g, r) (ab_Qv K S P)
  refine Rn_pure 1 (i' := 1) (L' := [some (2, 161), some (0, p1), some (0, p2), some (0, p3), some (0, p4), some (0, p5), none, none]) (st' := [(2, 161)]) rfl ?_
  refine Rn_callI [(2, 161)] [] rfl rfl rfl rfl (ab_rvB_of rfl (⟨rfl, (by omega : (0 : Int) ≤ 161), (by omega : (161 : Int) + 1 < K ∧ 5 < K)⟩)) ?_
  refine h.mono (fun x1 g' r' h => ?_)
  obtain ⟨hx, h⟩ := h
  replace hx := hx.symm
  subst hx
  obtain ⟨hx, h⟩ := h
  replace hx := hx.symm
  subst hx
  refine Rn_pure 2 (i' := 4) (L' := [some (2, 161), some (0, p1), some (0, p2), some (0, p3), some (0, p4), some (0, p5), some (0, x1), none]) (st' := [(2, 161)]) rfl ?_
  refine Rn_getR rfl (⟨rfl, (by omega : (0 : Int) ≤ 161), (by omega : (161 : Int) + 1 < K ∧ 5 < K)⟩) (hr 149 _ rfl) (by decide) ?_
  refine Rn_pure 6 (i' := 11) (L' := [some (2, 161), some (0, p1), some (0, p2), some (0, p3), some (0, p4), some (0, p5), some (0, x1), none]) (st' := [(0, p1), (0, 9 * x1 + 0), (2, 174)]) rfl ?_
  obtain ⟨hg, h⟩ := h
  refine Rn_iast rfl (⟨rfl, (by omega : (0 : Int) ≤ 174), (by omega : (174 : Int) + 1 < K ∧ 5 < K)⟩) hg (fun g2 he_g2 => ?_)
  have h := h g2 he_g2
  refine Rn_pure 1 (i' := 13) (L' := [some (2, 161), some (0, p1), some (0, p2), some (0, p3), some (0, p4), some (0, p5), some (0, x1), none]) (st' := [(2, 161)]) rfl ?_
  refine Rn_getR rfl (⟨rfl, (by omega : (0 : Int) ≤ 161), (by omega : (161 : Int) + 1 < K ∧ 5 < K)⟩) (hr 149 _ rfl) (by decide) ?_
  refine Rn_pure 6 (i' := 20) (L' := [some (2, 161), some (0, p1), some (0, p2), some (0, p3), some (0, p4), some (0, p5), some (0, x1), none]) (st' := [(0, p2), (0, 9 * x1 + 1), (2, 174)]) rfl ?_
  obtain ⟨hg, h⟩ := h
  refine Rn_iast rfl (⟨rfl, (by omega : (0 : Int) ≤ 174), (by omega : (174 : Int) + 1 < K ∧ 5 < K)⟩) hg (fun g3 he_g3 => ?_)
  have h := h g3 he_g3
  refine Rn_pure 1 (i' := 22) (L' := [some (2, 161), some (0, p1), some (0, p2), some (0, p3), some (0, p4), some (0, p5), some (0, x1), none]) (st' := [(2, 161)]) rfl ?_
  refine Rn_getR rfl (⟨rfl, (by omega : (0 : Int) ≤ 161), (by omega : (161 : Int) + 1 < K ∧ 5 < K)⟩) (hr 149 _ rfl) (by decide) ?_
  refine Rn_pure 6 (i' := 29) (L' := [some (2, 161), some (0, p1), some (0, p2), some (0, p3), some (0, p4), some (0, p5), some (0, x1), none]) (st' := [(0, p3), (0, 9 * x1 + 2), (2, 174)]) rfl ?_
  obtain ⟨hg, h⟩ := h
  refine Rn_iast rfl (⟨rfl, (by omega : (0 : Int) ≤ 174), (by omega : (174 : Int) + 1 < K ∧ 5 < K)⟩) hg (fun g4 he_g4 => ?_)
  have h := h g4 he_g4
  refine Rn_pure 1 (i' := 31) (L' := [some (2, 161), some (0, p1), some (0, p2), some (0, p3), some (0, p4), some (0, p5), some (0, x1), none]) (st' := [(2, 161)]) rfl ?_
  refine Rn_getR rfl (⟨rfl, (by omega : (0 : Int) ≤ 161), (by omega : (161 : Int) + 1 < K ∧ 5 < K)⟩) (hr 149 _ rfl) (by decide) ?_
  refine Rn_pure 6 (i' := 38) (L' := [some (2, 161), some (0, p1), some (0, p2), some (0, p3), some (0, p4), some (0, p5), some (0, x1), none]) (st' := [(0, p4), (0, 9 * x1 + 3), (2, 174)]) rfl ?_
  obtain ⟨hg, h⟩ := h
  refine Rn_iast rfl (⟨rfl, (by omega : (0 : Int) ≤ 174), (by omega : (174 : Int) + 1 < K ∧ 5 < K)⟩) hg (fun g5 he_g5 => ?_)
  have h := h g5 he_g5
  refine Rn_pure 1 (i' := 40) (L' := [some (2, 161), some (0, p1), some (0, p2), some (0, p3), some (0, p4), some (0, p5), some (0, x1), none]) (st' := [(2, 161)]) rfl ?_
  refine Rn_getR rfl (⟨rfl, (by omega : (0 : Int) ≤ 161), (by omega : (161 : Int) + 1 < K ∧ 5 < K)⟩) (hr 149 _ rfl) (by decide) ?_
  refine Rn_pure 6 (i' := 47) (L' := [some (2, 161), some (0, p1), some (0, p2), some (0, p3), some (0, p4), some (0, p5), some (0, x1), none]) (st' := [(0, p5), (0, 9 * x1 + 4), (2, 174)]) rfl ?_
  obtain ⟨hg, h⟩ := h
  refine Rn_iast rfl (⟨rfl, (by omega : (0 : Int) ≤ 174), (by omega : (174 : Int) + 1 < K ∧ 5 < K)⟩) hg (fun g6 he_g6 => ?_)
  have h := h g6 he_g6
  refine Rn_pure 1 (i' := 49) (L' := [some (2, 161), some (0, p1), some (0, p2), some (0, p3), some (0, p4), some (0, p5), some (0, x1), none]) (st' := [(2, 161)]) rfl ?_
  refine Rn_getR rfl (⟨rfl, (by omega : (0 : Int) ≤ 161), (by omega : (161 : Int) + 1 < K ∧ 5 < K)⟩) (hr 149 _ rfl) (by decide) ?_
  refine Rn_pure 6 (i' := 56) (L' := [some (2, 161), some (0, p1), some (0, p2), some (0, p3), some (0, p4), some (0, p5), some (0, x1), none]) (st' := [(0, 0), (0, 9 * x1 + 8), (2, 174)]) rfl ?_
  obtain ⟨hg, h⟩ := h
  refine Rn_iast rfl (⟨rfl, (by omega : (0 : Int) ≤ 174), (by omega : (174 : Int) + 1 < K ∧ 5 < K)⟩) hg (fun g7 he_g7 => ?_)
  have h := h g7 he_g7
  refine Rn_pure 2 (i' := 59) (L' := [some (2, 161), some (0, p1), some (0, p2), some (0, p3), some (0, p4), some (0, p5), some (0, x1), some (0, 0)]) (st' := []) rfl ?_
  refine Rn_weak (L' := [some (2, 161), some (0, p1), none, some (0, p3), none, none, some (0, x1), some (0, 0)]) ⟨rfl, ⟨rfl, ⟨rfl, ⟨rfl, ⟨rfl, trivial⟩⟩⟩⟩⟩ ?_
  exact h
theorem v_M_comes_59 {K : Int} {S : Nat} {g r : ab_H} {l1 l3 l6 l7 : Int} (P : ab_H → ab_H → Prop) (hr : SI r) (hK : 186 ≤ K) (h : ((wr 3 ≤ wr l7 → ((¬ wr l1 = wr 7 → ((0 : Int) ≤ 1080 ∧ (1080 : Int) < 1607) ∧ ((0 : Int) ≤ 1080 ∧ (1080 : Int) < 1607) ∧ ∀ g1, g1 = ab_up g 174 1080 (g 174 1080 + 1) → ((0 : Int) ≤ 1080 ∧ (1080 : Int) < 1607) ∧ ab_RV m_M_snaps [(2, 161), (0, g1 174 1080)] K S g1 r (fun g2 r' => r' = r ∧ (P g2 r))) ∧ (wr l1 = wr 7 → ((0 : Int) ≤ 9 * l3 + 8 ∧ (9 * l3 + 8 : Int) < 1607) ∧ ∀ g4, g4 = ab_up g 174 (9 * l3 + 8) (l6 + 1) → ab_RV m_M_letsGo [(2, 161), (0, l3)] K S g4 r (fun g5 r' => r' = r ∧ (((0 : Int) ≤ 1080 ∧ (1080 : Int) < 1607) ∧ ((0 : Int) ≤ 1080 ∧ (1080 : Int) < 1607) ∧ ∀ g7, g7 = ab_up g5 174 1080 (g5 174 1080 + 1) → ((0 : Int) ≤ 1080 ∧ (1080 : Int) < 1607) ∧ ab_RV m_M_snaps [(2, 161), (0, g7 174 1080)] K S g7 r (fun g8 r' => r' = r ∧ (P g8 r))))))) ∧ (wr l7 < wr 3 → ((0 : Int) ≤ 9 * l6 + 5 + l7 ∧ (9 * l6 + 5 + l7 : Int) < 1607) ∧ ∀ g10, g10 = ab_up g 174 (9 * l6 + 5 + l7) 0 → ab_Rn m_M_comes 59 [some (2, 161), some (0, l1), none, some (0, l3), none, none, some (0, l6), some (0, l7 + 1)] [] (K, S, g10, r) (ab_Qv K S P)))) : ab_Rn m_M_comes 59 [some (2, 161), some (0, l1), none, some (0, l3), none, none, some (0, l6), some (0, l7)] [] (K, S, g, r) (ab_Qv K S P) := by
  refine Rn_pure 2 (i' := 61) (L' := [some (2, 161), some (0, l1), none, some (0, l3), none, none, some (0, l6), some (0, l7)]) (st' := [(0, 3), (0, l7)]) rfl ?_
  refine Rn_icge rfl (fun hc => ?_) (fun hc => ?_)
  · have h := h.1 hc
    refine Rn_pure 2 (i' := 77) (L' := [some (2, 161), some (0, l1), none, some (0, l3), none, none, some (0, l6), some (0, l7)]) (st' := [(0, 7), (0, l1)]) rfl ?_
    refine Rn_icne rfl (fun hc => ?_) (fun hc => ?_)
    · have h := h.1 hc
      refine Rn_pure 1 (i' := 93) (L' := [some (2, 161), some (0, l1), none, some (0, l3), none, none, some (0, l6), some (0, l7)]) (st' := [(2, 161)]) rfl ?_
      refine Rn_getR rfl (⟨rfl, (by omega : (0 : Int) ≤ 161), (by omega : (161 : Int) + 1 < K ∧ 5 < K)⟩) (hr 149 _ rfl) (by decide) ?_
      refine Rn_pure 2 (i' := 96) (L' := [some (2, 161), some (0, l1), none, some (0, l3), none, none, some (0, l6), some (0, l7)]) (st' := [(0, 1080), (2, 174), (0, 1080), (2, 174)]) rfl ?_
      obtain ⟨hg, h⟩ := h
      refine Rn_iald rfl (⟨rfl, (by omega : (0 : Int) ≤ 174), (by omega : (174 : Int) + 1 < K ∧ 5 < K)⟩) hg ?_
      refine Rn_pure 2 (i' := 99) (L' := [some (2, 161), some (0, l1), none, some (0, l3), none, none, some (0, l6), some (0, l7)]) (st' := [(0, g 174 1080 + 1), (0, 1080), (2, 174)]) rfl ?_
      obtain ⟨hg, h⟩ := h
      refine Rn_iast rfl (⟨rfl, (by omega : (0 : Int) ≤ 174), (by omega : (174 : Int) + 1 < K ∧ 5 < K)⟩) hg (fun g1 he_g1 => ?_)
      have h := h g1 he_g1
      refine Rn_pure 2 (i' := 102) (L' := [some (2, 161), some (0, l1), none, some (0, l3), none, none, some (0, l6), some (0, l7)]) (st' := [(2, 161), (2, 161)]) rfl ?_
      refine Rn_getR rfl (⟨rfl, (by omega : (0 : Int) ≤ 161), (by omega : (161 : Int) + 1 < K ∧ 5 < K)⟩) (hr 149 _ rfl) (by decide) ?_
      refine Rn_pure 1 (i' := 104) (L' := [some (2, 161), some (0, l1), none, some (0, l3), none, none, some (0, l6), some (0, l7)]) (st' := [(0, 1080), (2, 174), (2, 161)]) rfl ?_
      obtain ⟨hg, h⟩ := h
      refine Rn_iald rfl (⟨rfl, (by omega : (0 : Int) ≤ 174), (by omega : (174 : Int) + 1 < K ∧ 5 < K)⟩) hg ?_
      refine Rn_callV [(2, 161), (0, g1 174 1080)] [] rfl rfl rfl rfl (ab_rvB_of rfl (⟨rfl, (by omega : (0 : Int) ≤ 161), (by omega : (161 : Int) + 1 < K ∧ 5 < K)⟩)) ?_
      refine h.mono (fun g2 r' h => ?_)
      obtain ⟨hx, h⟩ := h
      replace hx := hx.symm
      subst hx
      exact Rn_ret0 rfl h
    · have h := h.2 hc
      refine Rn_pure 1 (i' := 79) (L' := [some (2, 161), some (0, l1), none, some (0, l3), none, none, some (0, l6), some (0, l7)]) (st' := [(2, 161)]) rfl ?_
      refine Rn_getR rfl (⟨rfl, (by omega : (0 : Int) ≤ 161), (by omega : (161 : Int) + 1 < K ∧ 5 < K)⟩) (hr 149 _ rfl) (by decide) ?_
      refine Rn_pure 8 (i' := 88) (L' := [some (2, 161), some (0, l1), none, some (0, l3), none, none, some (0, l6), some (0, l7)]) (st' := [(0, l6 + 1), (0, 9 * l3 + 8), (2, 174)]) rfl ?_
      obtain ⟨hg, h⟩ := h
      refine Rn_iast rfl (⟨rfl, (by omega : (0 : Int) ≤ 174), (by omega : (174 : Int) + 1 < K ∧ 5 < K)⟩) hg (fun g4 he_g4 => ?_)
      have h := h g4 he_g4
      refine Rn_pure 2 (i' := 91) (L' := [some (2, 161), some (0, l1), none, some (0, l3), none, none, some (0, l6), some (0, l7)]) (st' := [(0, l3), (2, 161)]) rfl ?_
      refine Rn_callV [(2, 161), (0, l3)] [] rfl rfl rfl rfl (ab_rvB_of rfl (⟨rfl, (by omega : (0 : Int) ≤ 161), (by omega : (161 : Int) + 1 < K ∧ 5 < K)⟩)) ?_
      refine h.mono (fun g5 r' h => ?_)
      obtain ⟨hx, h⟩ := h
      replace hx := hx.symm
      subst hx
      refine Rn_pure 1 (i' := 93) (L' := [some (2, 161), some (0, l1), none, some (0, l3), none, none, some (0, l6), some (0, l7)]) (st' := [(2, 161)]) rfl ?_
      refine Rn_getR rfl (⟨rfl, (by omega : (0 : Int) ≤ 161), (by omega : (161 : Int) + 1 < K ∧ 5 < K)⟩) (hr 149 _ rfl) (by decide) ?_
      refine Rn_pure 2 (i' := 96) (L' := [some (2, 161), some (0, l1), none, some (0, l3), none, none, some (0, l6), some (0, l7)]) (st' := [(0, 1080), (2, 174), (0, 1080), (2, 174)]) rfl ?_
      obtain ⟨hg, h⟩ := h
      refine Rn_iald rfl (⟨rfl, (by omega : (0 : Int) ≤ 174), (by omega : (174 : Int) + 1 < K ∧ 5 < K)⟩) hg ?_
      refine Rn_pure 2 (i' := 99) (L' := [some (2, 161), some (0, l1), none, some (0, l3), none, none, some (0, l6), some (0, l7)]) (st' := [(0, g5 174 1080 + 1), (0, 1080), (2, 174)]) rfl ?_
      obtain ⟨hg, h⟩ := h
      refine Rn_iast rfl (⟨rfl, (by omega : (0 : Int) ≤ 174), (by omega : (174 : Int) + 1 < K ∧ 5 < K)⟩) hg (fun g7 he_g7 => ?_)
      have h := h g7 he_g7
      refine Rn_pure 2 (i' := 102) (L' := [some (2, 161), some (0, l1), none, some (0, l3), none, none, some (0, l6), some (0, l7)]) (st' := [(2, 161), (2, 161)]) rfl ?_
      refine Rn_getR rfl (⟨rfl, (by omega : (0 : Int) ≤ 161), (by omega : (161 : Int) + 1 < K ∧ 5 < K)⟩) (hr 149 _ rfl) (by decide) ?_
      refine Rn_pure 1 (i' := 104) (L' := [some (2, 161), some (0, l1), none, some (0, l3), none, none, some (0, l6), some (0, l7)]) (st' := [(0, 1080), (2, 174), (2, 161)]) rfl ?_
      obtain ⟨hg, h⟩ := h
      refine Rn_iald rfl (⟨rfl, (by omega : (0 : Int) ≤ 174), (by omega : (174 : Int) + 1 < K ∧ 5 < K)⟩) hg ?_
      refine Rn_callV [(2, 161), (0, g7 174 1080)] [] rfl rfl rfl rfl (ab_rvB_of rfl (⟨rfl, (by omega : (0 : Int) ≤ 161), (by omega : (161 : Int) + 1 < K ∧ 5 < K)⟩)) ?_
      refine h.mono (fun g8 r' h => ?_)
      obtain ⟨hx, h⟩ := h
      replace hx := hx.symm
      subst hx
      exact Rn_ret0 rfl h
  · have h := h.2 hc
    refine Rn_pure 1 (i' := 63) (L' := [some (2, 161), some (0, l1), none, some (0, l3), none, none, some (0, l6), some (0, l7)]) (st' := [(2, 161)]) rfl ?_
    refine Rn_getR rfl (⟨rfl, (by omega : (0 : Int) ≤ 161), (by omega : (161 : Int) + 1 < K ∧ 5 < K)⟩) (hr 149 _ rfl) (by decide) ?_
    refine Rn_pure 8 (i' := 72) (L' := [some (2, 161), some (0, l1), none, some (0, l3), none, none, some (0, l6), some (0, l7)]) (st' := [(0, 0), (0, 9 * l6 + 5 + l7), (2, 174)]) rfl ?_
    obtain ⟨hg, h⟩ := h
    refine Rn_iast rfl (⟨rfl, (by omega : (0 : Int) ≤ 174), (by omega : (174 : Int) + 1 < K ∧ 5 < K)⟩) hg (fun g10 he_g10 => ?_)
    have h := h g10 he_g10
    refine Rn_pure 2 (i' := 59) (L' := [some (2, 161), some (0, l1), none, some (0, l3), none, none, some (0, l6), some (0, l7 + 1)]) (st' := []) rfl ?_
    exact h
