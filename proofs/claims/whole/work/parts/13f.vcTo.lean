-- EventLedger$Tokens.begin ([BI)V
theorem v_To_begin {K : Int} {S : Nat} {g r : ab_H} {p1 n1 p2 : Int} (P : ab_H → ab_H → Prop) (hr : SI r) (hK : 186 ≤ K) (hp1 : ab_AR K p1 101 n1) (h : ∀ r1, r1 = ab_up r 4 0 p1 → ∀ g3, g3 = ab_up g 4 1 (ab_min p2 n1) → ∀ g4, g4 = ab_up g3 4 2 0 → ab_RV m_To_advance [(2, 4)] K S g4 r1 (fun g5 r6 => SI r6 ∧ (P g5 r6))) : ab_RV m_To_begin [(2, 4), (2, p1), (0, p2)] K S g r P := by
  show ab_Rn m_To_begin 0 [some (2, 4), some (2, p1), some (0, p2)] [] (K, S, g, r) (ab_Qv K S P)
  refine Rn_pure 2 (i' := 2) (L' := [some (2, 4), some (2, p1), some (0, p2)]) (st' := [(2, p1), (2, 4)]) rfl ?_
  refine Rn_putR rfl (⟨rfl, (by omega : (0 : Int) ≤ 4), (by omega : (4 : Int) + 1 < K ∧ 5 < K)⟩) (by have := hp1.2.1; omega) (fun r1 he_r1 => ?_)
  have h := h r1 he_r1
  have hr2 : SI r1 := by rw [he_r1]; exact SI_up hr (by decide)
  refine Rn_pure 3 (i' := 6) (L' := [some (2, 4), some (2, p1), some (0, p2)]) (st' := [(2, p1), (0, p2), (2, 4)]) rfl ?_
  refine Rn_alen rfl (hp1) ?_
  refine Rn_min rfl (by decide) ?_
  refine Rn_putI rfl (⟨rfl, (by omega : (0 : Int) ≤ 4), (by omega : (4 : Int) + 1 < K ∧ 5 < K)⟩) (fun g3 he_g3 => ?_)
  have h := h g3 he_g3
  refine Rn_pure 2 (i' := 11) (L' := [some (2, 4), some (2, p1), some (0, p2)]) (st' := [(0, 0), (2, 4)]) rfl ?_
  refine Rn_putI rfl (⟨rfl, (by omega : (0 : Int) ≤ 4), (by omega : (4 : Int) + 1 < K ∧ 5 < K)⟩) (fun g4 he_g4 => ?_)
  have h := h g4 he_g4
  refine Rn_pure 1 (i' := 13) (L' := [some (2, 4), some (2, p1), some (0, p2)]) (st' := [(2, 4)]) rfl ?_
  refine Rn_callV [(2, 4)] [] rfl rfl rfl rfl (ab_rvB_of rfl (⟨rfl, (by omega : (0 : Int) ≤ 4), (by omega : (4 : Int) + 1 < K ∧ 5 < K)⟩)) ?_
  refine h.mono (fun g5 r6 h => ?_)
  obtain ⟨hr8, h⟩ := h
  exact Rn_ret0 rfl h
-- EventLedger$Tokens.advance ()V
theorem v_To_advance {K : Int} {S : Nat} {g r : ab_H} (P : ab_H → ab_H → Prop) (hr : SI r) (hK : 186 ≤ K) (h : ab_Rn m_To_advance 0 [some (2, 4)] [] (K, S, g, r) (ab_Qv K S P)) : ab_RV m_To_advance [(2, 4)] K S g r P := by
  show ab_Rn m_To_advance 0 [some (2, 4)] [] (K, S, g, r) (ab_Qv K S P)
  exact h
theorem v_To_advance_0 {K : Int} {S : Nat} {g r : ab_H} (P : ab_H → ab_H → Prop) (hr : SI r) (hK : 186 ≤ K) (h : ((wr (g 4 1) ≤ wr (g 4 2) → ∀ g1, g1 = ab_up g 4 4 (g 4 2) → ((wr (g1 4 2) < wr (g1 4 1) → (r 4 0 = 1) ∧ ((0 : Int) ≤ g1 4 2 ∧ (g1 4 2 : Int) < 900) ∧ ab_RI m_To_isLetter [(0, g1 1 (g1 4 2))] K S g1 r (fun x2 g' r' => g' = g1 ∧ r' = r ∧ (((wr x2 = wr 0 → (r 4 0 = 1) ∧ ((0 : Int) ≤ g1 4 2 ∧ (g1 4 2 : Int) < 900) ∧ ab_RI m_To_isDigit [(0, g1 1 (g1 4 2))] K S g1 r (fun x3 g' r' => g' = g1 ∧ r' = r ∧ (((wr x3 = wr 0 → (r 4 0 = 1) ∧ ((0 : Int) ≤ g1 4 2 ∧ (g1 4 2 : Int) < 900) ∧ ((¬ wr (g1 1 (g1 4 2)) = wr 59 → ∀ g4, g4 = ab_up g1 4 3 5 → ∀ g5, g5 = ab_up g4 4 2 (g4 4 2 + 1) → P g5 r) ∧ (wr (g1 1 (g1 4 2)) = wr 59 → ∀ g6, g6 = ab_up g1 4 3 4 → ∀ g7, g7 = ab_up g6 4 2 (g6 4 2 + 1) → P g7 r))) ∧ (¬ wr x3 = wr 0 → ab_RV m_To_readNumber [(2, 4)] K S g1 r (fun g8 r' => r' = r ∧ (P g8 r))))))) ∧ (¬ wr x2 = wr 0 → ab_RV m_To_readWord [(2, 4)] K S g1 r (fun g10 r11 => SI r11 ∧ (P g10 r11))))))) ∧ (wr (g1 4 1) ≤ wr (g1 4 2) → ∀ g14, g14 = ab_up g1 4 3 0 → P g14 r))) ∧ (wr (g 4 2) < wr (g 4 1) → (r 4 0 = 1) ∧ ((0 : Int) ≤ g 4 2 ∧ (g 4 2 : Int) < 900) ∧ ((wr (g 1 (g 4 2)) = wr 10 → ∀ g15, g15 = ab_up g 4 2 (g 4 2 + 1) → ab_Rn m_To_advance 0 [some (2, 4)] [] (K, S, g15, r) (ab_Qv K S P)) ∧ (¬ wr (g 1 (g 4 2)) = wr 10 → (r 4 0 = 1) ∧ ((0 : Int) ≤ g 4 2 ∧ (g 4 2 : Int) < 900) ∧ ((¬ wr (g 1 (g 4 2)) = wr 32 → ∀ g16, g16 = ab_up g 4 4 (g 4 2) → ((wr (g16 4 2) < wr (g16 4 1) → (r 4 0 = 1) ∧ ((0 : Int) ≤ g16 4 2 ∧ (g16 4 2 : Int) < 900) ∧ ab_RI m_To_isLetter [(0, g16 1 (g16 4 2))] K S g16 r (fun x17 g' r' => g' = g16 ∧ r' = r ∧ (((wr x17 = wr 0 → (r 4 0 = 1) ∧ ((0 : Int) ≤ g16 4 2 ∧ (g16 4 2 : Int) < 900) ∧ ab_RI m_To_isDigit [(0, g16 1 (g16 4 2))] K S g16 r (fun x18 g' r' => g' = g16 ∧ r' = r ∧ (((wr x18 = wr 0 → (r 4 0 = 1) ∧ ((0 : Int) ≤ g16 4 2 ∧ (g16 4 2 : Int) < 900) ∧ ((¬ wr (g16 1 (g16 4 2)) = wr 59 → ∀ g19, g19 = ab_up g16 4 3 5 → ∀ g20, g20 = ab_up g19 4 2 (g19 4 2 + 1) → P g20 r) ∧ (wr (g16 1 (g16 4 2)) = wr 59 → ∀ g21, g21 = ab_up g16 4 3 4 → ∀ g22, g22 = ab_up g21 4 2 (g21 4 2 + 1) → P g22 r))) ∧ (¬ wr x18 = wr 0 → ab_RV m_To_readNumber [(2, 4)] K S g16 r (fun g23 r' => r' = r ∧ (P g23 r))))))) ∧ (¬ wr x17 = wr 0 → ab_RV m_To_readWord [(2, 4)] K S g16 r (fun g25 r26 => SI r26 ∧ (P g25 r26))))))) ∧ (wr (g16 4 1) ≤ wr (g16 4 2) → ∀ g29, g29 = ab_up g16 4 3 0 → P g29 r))) ∧ (wr (g 1 (g 4 2)) = wr 32 → ∀ g30, g30 = ab_up g 4 2 (g 4 2 + 1) → ab_Rn m_To_advance 0 [some (2, 4)] [] (K, S, g30, r) (ab_Qv K S P)))))))) : ab_Rn m_To_advance 0 [some (2, 4)] [] (K, S, g, r) (ab_Qv K S P) := by
  refine Rn_pure 1 (i' := 1) (L' := [some (2, 4)]) (st' := [(2, 4)]) rfl ?_
  refine Rn_getI rfl (⟨rfl, (by omega : (0 : Int) ≤ 4), (by omega : (4 : Int) + 1 < K ∧ 5 < K)⟩) ?_
  refine Rn_pure 1 (i' := 3) (L' := [some (2, 4)]) (st' := [(2, 4), (0, g 4 2)]) rfl ?_
  refine Rn_getI rfl (⟨rfl, (by omega : (0 : Int) ≤ 4), (by omega : (4 : Int) + 1 < K ∧ 5 < K)⟩) ?_
  refine Rn_icge rfl (fun hc => ?_) (fun hc => ?_)
  · have h := h.1 hc
    refine Rn_pure 2 (i' := 28) (L' := [some (2, 4)]) (st' := [(2, 4), (2, 4)]) rfl ?_
    refine Rn_getI rfl (⟨rfl, (by omega : (0 : Int) ≤ 4), (by omega : (4 : Int) + 1 < K ∧ 5 < K)⟩) ?_
    refine Rn_putI rfl (⟨rfl, (by omega : (0 : Int) ≤ 4), (by omega : (4 : Int) + 1 < K ∧ 5 < K)⟩) (fun g1 he_g1 => ?_)
    have h := h g1 he_g1
    refine Rn_pure 1 (i' := 31) (L' := [some (2, 4)]) (st' := [(2, 4)]) rfl ?_
    refine Rn_getI rfl (⟨rfl, (by omega : (0 : Int) ≤ 4), (by omega : (4 : Int) + 1 < K ∧ 5 < K)⟩) ?_
    refine Rn_pure 1 (i' := 33) (L' := [some (2, 4)]) (st' := [(2, 4), (0, g1 4 2)]) rfl ?_
    refine Rn_getI rfl (⟨rfl, (by omega : (0 : Int) ≤ 4), (by omega : (4 : Int) + 1 < K ∧ 5 < K)⟩) ?_
    refine Rn_iclt rfl (fun hc => ?_) (fun hc => ?_)
    · have h := h.1 hc
      refine Rn_pure 1 (i' := 40) (L' := [some (2, 4)]) (st' := [(2, 4)]) rfl ?_
      obtain ⟨hg, h⟩ := h
      refine Rn_getR rfl (⟨rfl, (by omega : (0 : Int) ≤ 4), (by omega : (4 : Int) + 1 < K ∧ 5 < K)⟩) hg (by decide) ?_
      refine Rn_pure 1 (i' := 42) (L' := [some (2, 4)]) (st' := [(2, 4), (2, 1)]) rfl ?_
      refine Rn_getI rfl (⟨rfl, (by omega : (0 : Int) ≤ 4), (by omega : (4 : Int) + 1 < K ∧ 5 < K)⟩) ?_
      obtain ⟨hg, h⟩ := h
      refine Rn_bald rfl (⟨rfl, (by omega : (0 : Int) ≤ 1), (by omega : (1 : Int) + 1 < K ∧ 5 < K)⟩) hg ?_
      refine Rn_callI [(0, g1 1 (g1 4 2))] [] rfl rfl rfl rfl (rfl) ?_
      refine h.mono (fun x2 g' r' h => ?_)
      obtain ⟨hx, h⟩ := h
      replace hx := hx.symm
      subst hx
      obtain ⟨hx, h⟩ := h
      replace hx := hx.symm
      subst hx
      refine Rn_ifeq rfl (fun hc => ?_) (fun hc => ?_)
      · have h := h.1 hc
        refine Rn_pure 1 (i' := 50) (L' := [some (2, 4)]) (st' := [(2, 4)]) rfl ?_
        obtain ⟨hg, h⟩ := h
        refine Rn_getR rfl (⟨rfl, (by omega : (0 : Int) ≤ 4), (by omega : (4 : Int) + 1 < K ∧ 5 < K)⟩) hg (by decide) ?_
        refine Rn_pure 1 (i' := 52) (L' := [some (2, 4)]) (st' := [(2, 4), (2, 1)]) rfl ?_
        refine Rn_getI rfl (⟨rfl, (by omega : (0 : Int) ≤ 4), (by omega : (4 : Int) + 1 < K ∧ 5 < K)⟩) ?_
        obtain ⟨hg, h⟩ := h
        refine Rn_bald rfl (⟨rfl, (by omega : (0 : Int) ≤ 1), (by omega : (1 : Int) + 1 < K ∧ 5 < K)⟩) hg ?_
        refine Rn_callI [(0, g1 1 (g1 4 2))] [] rfl rfl rfl rfl (rfl) ?_
        refine h.mono (fun x3 g' r' h => ?_)
        obtain ⟨hx, h⟩ := h
        replace hx := hx.symm
        subst hx
        obtain ⟨hx, h⟩ := h
        replace hx := hx.symm
        subst hx
        refine Rn_ifeq rfl (fun hc => ?_) (fun hc => ?_)
        · have h := h.1 hc
          refine Rn_pure 2 (i' := 61) (L' := [some (2, 4)]) (st' := [(2, 4), (2, 4)]) rfl ?_
          obtain ⟨hg, h⟩ := h
          refine Rn_getR rfl (⟨rfl, (by omega : (0 : Int) ≤ 4), (by omega : (4 : Int) + 1 < K ∧ 5 < K)⟩) hg (by decide) ?_
          refine Rn_pure 1 (i' := 63) (L' := [some (2, 4)]) (st' := [(2, 4), (2, 1), (2, 4)]) rfl ?_
          refine Rn_getI rfl (⟨rfl, (by omega : (0 : Int) ≤ 4), (by omega : (4 : Int) + 1 < K ∧ 5 < K)⟩) ?_
          obtain ⟨hg, h⟩ := h
          refine Rn_bald rfl (⟨rfl, (by omega : (0 : Int) ≤ 1), (by omega : (1 : Int) + 1 < K ∧ 5 < K)⟩) hg ?_
          refine Rn_pure 1 (i' := 66) (L' := [some (2, 4)]) (st' := [(0, 59), (0, g1 1 (g1 4 2)), (2, 4)]) rfl ?_
          refine Rn_icne rfl (fun hc => ?_) (fun hc => ?_)
          · have h := h.1 hc
            refine Rn_pure 1 (i' := 70) (L' := [some (2, 4)]) (st' := [(0, 5), (2, 4)]) rfl ?_
            refine Rn_putI rfl (⟨rfl, (by omega : (0 : Int) ≤ 4), (by omega : (4 : Int) + 1 < K ∧ 5 < K)⟩) (fun g4 he_g4 => ?_)
            have h := h g4 he_g4
            refine Rn_pure 2 (i' := 73) (L' := [some (2, 4)]) (st' := [(2, 4), (2, 4)]) rfl ?_
            refine Rn_getI rfl (⟨rfl, (by omega : (0 : Int) ≤ 4), (by omega : (4 : Int) + 1 < K ∧ 5 < K)⟩) ?_
            refine Rn_pure 2 (i' := 76) (L' := [some (2, 4)]) (st' := [(0, g4 4 2 + 1), (2, 4)]) rfl ?_
            refine Rn_putI rfl (⟨rfl, (by omega : (0 : Int) ≤ 4), (by omega : (4 : Int) + 1 < K ∧ 5 < K)⟩) (fun g5 he_g5 => ?_)
            have h := h g5 he_g5
            exact Rn_ret0 rfl h
          · have h := h.2 hc
            refine Rn_pure 2 (i' := 70) (L' := [some (2, 4)]) (st' := [(0, 4), (2, 4)]) rfl ?_
            refine Rn_putI rfl (⟨rfl, (by omega : (0 : Int) ≤ 4), (by omega : (4 : Int) + 1 < K ∧ 5 < K)⟩) (fun g6 he_g6 => ?_)
            have h := h g6 he_g6
            refine Rn_pure 2 (i' := 73) (L' := [some (2, 4)]) (st' := [(2, 4), (2, 4)]) rfl ?_
            refine Rn_getI rfl (⟨rfl, (by omega : (0 : Int) ≤ 4), (by omega : (4 : Int) + 1 < K ∧ 5 < K)⟩) ?_
            refine Rn_pure 2 (i' := 76) (L' := [some (2, 4)]) (st' := [(0, g6 4 2 + 1), (2, 4)]) rfl ?_
            refine Rn_putI rfl (⟨rfl, (by omega : (0 : Int) ≤ 4), (by omega : (4 : Int) + 1 < K ∧ 5 < K)⟩) (fun g7 he_g7 => ?_)
            have h := h g7 he_g7
            exact Rn_ret0 rfl h
        · have h := h.2 hc
          refine Rn_pure 1 (i' := 57) (L' := [some (2, 4)]) (st' := [(2, 4)]) rfl ?_
          refine Rn_callV [(2, 4)] [] rfl rfl rfl rfl (ab_rvB_of rfl (⟨rfl, (by omega : (0 : Int) ≤ 4), (by omega : (4 : Int) + 1 < K ∧ 5 < K)⟩)) ?_
          refine h.mono (fun g8 r' h => ?_)
          obtain ⟨hx, h⟩ := h
          replace hx := hx.symm
          subst hx
          refine Rn_pure 1 (i' := 77) (L' := [some (2, 4)]) (st' := []) rfl ?_
          exact Rn_ret0 rfl h
      · have h := h.2 hc
        refine Rn_pure 1 (i' := 47) (L' := [some (2, 4)]) (st' := [(2, 4)]) rfl ?_
        refine Rn_callV [(2, 4)] [] rfl rfl rfl rfl (ab_rvB_of rfl (⟨rfl, (by omega : (0 : Int) ≤ 4), (by omega : (4 : Int) + 1 < K ∧ 5 < K)⟩)) ?_
        refine h.mono (fun g10 r11 h => ?_)
        obtain ⟨hr13, h⟩ := h
        refine Rn_pure 1 (i' := 77) (L' := [some (2, 4)]) (st' := []) rfl ?_
        exact Rn_ret0 rfl h
    · have h := h.2 hc
      refine Rn_pure 2 (i' := 37) (L' := [some (2, 4)]) (st' := [(0, 0), (2, 4)]) rfl ?_
      refine Rn_putI rfl (⟨rfl, (by omega : (0 : Int) ≤ 4), (by omega : (4 : Int) + 1 < K ∧ 5 < K)⟩) (fun g14 he_g14 => ?_)
      have h := h g14 he_g14
      refine Rn_pure 1 (i' := 77) (L' := [some (2, 4)]) (st' := []) rfl ?_
      exact Rn_ret0 rfl h
  · have h := h.2 hc
    refine Rn_pure 1 (i' := 6) (L' := [some (2, 4)]) (st' := [(2, 4)]) rfl ?_
    obtain ⟨hg, h⟩ := h
    refine Rn_getR rfl (⟨rfl, (by omega : (0 : Int) ≤ 4), (by omega : (4 : Int) + 1 < K ∧ 5 < K)⟩) hg (by decide) ?_
    refine Rn_pure 1 (i' := 8) (L' := [some (2, 4)]) (st' := [(2, 4), (2, 1)]) rfl ?_
    refine Rn_getI rfl (⟨rfl, (by omega : (0 : Int) ≤ 4), (by omega : (4 : Int) + 1 < K ∧ 5 < K)⟩) ?_
    obtain ⟨hg, h⟩ := h
    refine Rn_bald rfl (⟨rfl, (by omega : (0 : Int) ≤ 1), (by omega : (1 : Int) + 1 < K ∧ 5 < K)⟩) hg ?_
    refine Rn_pure 1 (i' := 11) (L' := [some (2, 4)]) (st' := [(0, 10), (0, g 1 (g 4 2))]) rfl ?_
    refine Rn_iceq rfl (fun hc => ?_) (fun hc => ?_)
    · have h := h.1 hc
      refine Rn_pure 2 (i' := 21) (L' := [some (2, 4)]) (st' := [(2, 4), (2, 4)]) rfl ?_
      refine Rn_getI rfl (⟨rfl, (by omega : (0 : Int) ≤ 4), (by omega : (4 : Int) + 1 < K ∧ 5 < K)⟩) ?_
      refine Rn_pure 2 (i' := 24) (L' := [some (2, 4)]) (st' := [(0, g 4 2 + 1), (2, 4)]) rfl ?_
      refine Rn_putI rfl (⟨rfl, (by omega : (0 : Int) ≤ 4), (by omega : (4 : Int) + 1 < K ∧ 5 < K)⟩) (fun g15 he_g15 => ?_)
      have h := h g15 he_g15
      refine Rn_pure 1 (i' := 0) (L' := [some (2, 4)]) (st' := []) rfl ?_
      exact h
    · have h := h.2 hc
      refine Rn_pure 1 (i' := 13) (L' := [some (2, 4)]) (st' := [(2, 4)]) rfl ?_
      obtain ⟨hg, h⟩ := h
      refine Rn_getR rfl (⟨rfl, (by omega : (0 : Int) ≤ 4), (by omega : (4 : Int) + 1 < K ∧ 5 < K)⟩) hg (by decide) ?_
      refine Rn_pure 1 (i' := 15) (L' := [some (2, 4)]) (st' := [(2, 4), (2, 1)]) rfl ?_
      refine Rn_getI rfl (⟨rfl, (by omega : (0 : Int) ≤ 4), (by omega : (4 : Int) + 1 < K ∧ 5 < K)⟩) ?_
      obtain ⟨hg, h⟩ := h
      refine Rn_bald rfl (⟨rfl, (by omega : (0 : Int) ≤ 1), (by omega : (1 : Int) + 1 < K ∧ 5 < K)⟩) hg ?_
      refine Rn_pure 1 (i' := 18) (L' := [some (2, 4)]) (st' := [(0, 32), (0, g 1 (g 4 2))]) rfl ?_
      refine Rn_icne rfl (fun hc => ?_) (fun hc => ?_)
      · have h := h.1 hc
        refine Rn_pure 2 (i' := 28) (L' := [some (2, 4)]) (st' := [(2, 4), (2, 4)]) rfl ?_
        refine Rn_getI rfl (⟨rfl, (by omega : (0 : Int) ≤ 4), (by omega : (4 : Int) + 1 < K ∧ 5 < K)⟩) ?_
        refine Rn_putI rfl (⟨rfl, (by omega : (0 : Int) ≤ 4), (by omega : (4 : Int) + 1 < K ∧ 5 < K)⟩) (fun g16 he_g16 => ?_)
        have h := h g16 he_g16
        refine Rn_pure 1 (i' := 31) (L' := [some (2, 4)]) (st' := [(2, 4)]) rfl ?_
        refine Rn_getI rfl (⟨rfl, (by omega : (0 : Int) ≤ 4), (by omega : (4 : Int) + 1 < K ∧ 5 < K)⟩) ?_
        refine Rn_pure 1 (i' := 33) (L' := [some (2, 4)]) (st' := [(2, 4), (0, g16 4 2)]) rfl ?_
        refine Rn_getI rfl (⟨rfl, (by omega : (0 : Int) ≤ 4), (by omega : (4 : Int) + 1 < K ∧ 5 < K)⟩) ?_
        refine Rn_iclt rfl (fun hc => ?_) (fun hc => ?_)
        · have h := h.1 hc
          refine Rn_pure 1 (i' := 40) (L' := [some (2, 4)]) (st' := [(2, 4)]) rfl ?_
          obtain ⟨hg, h⟩ := h
          refine Rn_getR rfl (⟨rfl, (by omega : (0 : Int) ≤ 4), (by omega : (4 : Int) + 1 < K ∧ 5 < K)⟩) hg (by decide) ?_
          refine Rn_pure 1 (i' := 42) (L' := [some (2, 4)]) (st' := [(2, 4), (2, 1)]) rfl ?_
          refine Rn_getI rfl (⟨rfl, (by omega : (0 : Int) ≤ 4), (by omega : (4 : Int) + 1 < K ∧ 5 < K)⟩) ?_
          obtain ⟨hg, h⟩ := h
          refine Rn_bald rfl (⟨rfl, (by omega : (0 : Int) ≤ 1), (by omega : (1 : Int) + 1 < K ∧ 5 < K)⟩) hg ?_
          refine Rn_callI [(0, g16 1 (g16 4 2))] [] rfl rfl rfl rfl (rfl) ?_
          refine h.mono (fun x17 g' r' h => ?_)
          obtain ⟨hx, h⟩ := h
          replace hx := hx.symm
          subst hx
          obtain ⟨hx, h⟩ := h
          replace hx := hx.symm
          subst hx
          refine Rn_ifeq rfl (fun hc => ?_) (fun hc => ?_)
          · have h := h.1 hc
            refine Rn_pure 1 (i' := 50) (L' := [some (2, 4)]) (st' := [(2, 4)]) rfl ?_
            obtain ⟨hg, h⟩ := h
            refine Rn_getR rfl (⟨rfl, (by omega : (0 : Int) ≤ 4), (by omega : (4 : Int) + 1 < K ∧ 5 < K)⟩) hg (by decide) ?_
            refine Rn_pure 1 (i' := 52) (L' := [some (2, 4)]) (st' := [(2, 4), (2, 1)]) rfl ?_
            refine Rn_getI rfl (⟨rfl, (by omega : (0 : Int) ≤ 4), (by omega : (4 : Int) + 1 < K ∧ 5 < K)⟩) ?_
            obtain ⟨hg, h⟩ := h
            refine Rn_bald rfl (⟨rfl, (by omega : (0 : Int) ≤ 1), (by omega : (1 : Int) + 1 < K ∧ 5 < K)⟩) hg ?_
            refine Rn_callI [(0, g16 1 (g16 4 2))] [] rfl rfl rfl rfl (rfl) ?_
            refine h.mono (fun x18 g' r' h => ?_)
            obtain ⟨hx, h⟩ := h
            replace hx := hx.symm
            subst hx
            obtain ⟨hx, h⟩ := h
            replace hx := hx.symm
            subst hx
            refine Rn_ifeq rfl (fun hc => ?_) (fun hc => ?_)
            · have h := h.1 hc
              refine Rn_pure 2 (i' := 61) (L' := [some (2, 4)]) (st' := [(2, 4), (2, 4)]) rfl ?_
              obtain ⟨hg, h⟩ := h
              refine Rn_getR rfl (⟨rfl, (by omega : (0 : Int) ≤ 4), (by omega : (4 : Int) + 1 < K ∧ 5 < K)⟩) hg (by decide) ?_
              refine Rn_pure 1 (i' := 63) (L' := [some (2, 4)]) (st' := [(2, 4), (2, 1), (2, 4)]) rfl ?_
              refine Rn_getI rfl (⟨rfl, (by omega : (0 : Int) ≤ 4), (by omega : (4 : Int) + 1 < K ∧ 5 < K)⟩) ?_
              obtain ⟨hg, h⟩ := h
              refine Rn_bald rfl (⟨rfl, (by omega : (0 : Int) ≤ 1), (by omega : (1 : Int) + 1 < K ∧ 5 < K)⟩) hg ?_
              refine Rn_pure 1 (i' := 66) (L' := [some (2, 4)]) (st' := [(0, 59), (0, g16 1 (g16 4 2)), (2, 4)]) rfl ?_
              refine Rn_icne rfl (fun hc => ?_) (fun hc => ?_)
              · have h := h.1 hc
                refine Rn_pure 1 (i' := 70) (L' := [some (2, 4)]) (st' := [(0, 5), (2, 4)]) rfl ?_
                refine Rn_putI rfl (⟨rfl, (by omega : (0 : Int) ≤ 4), (by omega : (4 : Int) + 1 < K ∧ 5 < K)⟩) (fun g19 he_g19 => ?_)
                have h := h g19 he_g19
                refine Rn_pure 2 (i' := 73) (L' := [some (2, 4)]) (st' := [(2, 4), (2, 4)]) rfl ?_
                refine Rn_getI rfl (⟨rfl, (by omega : (0 : Int) ≤ 4), (by omega : (4 : Int) + 1 < K ∧ 5 < K)⟩) ?_
                refine Rn_pure 2 (i' := 76) (L' := [some (2, 4)]) (st' := [(0, g19 4 2 + 1), (2, 4)]) rfl ?_
                refine Rn_putI rfl (⟨rfl, (by omega : (0 : Int) ≤ 4), (by omega : (4 : Int) + 1 < K ∧ 5 < K)⟩) (fun g20 he_g20 => ?_)
                have h := h g20 he_g20
                exact Rn_ret0 rfl h
              · have h := h.2 hc
                refine Rn_pure 2 (i' := 70) (L' := [some (2, 4)]) (st' := [(0, 4), (2, 4)]) rfl ?_
                refine Rn_putI rfl (⟨rfl, (by omega : (0 : Int) ≤ 4), (by omega : (4 : Int) + 1 < K ∧ 5 < K)⟩) (fun g21 he_g21 => ?_)
                have h := h g21 he_g21
                refine Rn_pure 2 (i' := 73) (L' := [some (2, 4)]) (st' := [(2, 4), (2, 4)]) rfl ?_
                refine Rn_getI rfl (⟨rfl, (by omega : (0 : Int) ≤ 4), (by omega : (4 : Int) + 1 < K ∧ 5 < K)⟩) ?_
                refine Rn_pure 2 (i' := 76) (L' := [some (2, 4)]) (st' := [(0, g21 4 2 + 1), (2, 4)]) rfl ?_
                refine Rn_putI rfl (⟨rfl, (by omega : (0 : Int) ≤ 4), (by omega : (4 : Int) + 1 < K ∧ 5 < K)⟩) (fun g22 he_g22 => ?_)
                have h := h g22 he_g22
                exact Rn_ret0 rfl h
            · have h := h.2 hc
              refine Rn_pure 1 (i' := 57) (L' := [some (2, 4)]) (st' := [(2, 4)]) rfl ?_
              refine Rn_callV [(2, 4)] [] rfl rfl rfl rfl (ab_rvB_of rfl (⟨rfl, (by omega : (0 : Int) ≤ 4), (by omega : (4 : Int) + 1 < K ∧ 5 < K)⟩)) ?_
              refine h.mono (fun g23 r' h => ?_)
              obtain ⟨hx, h⟩ := h
              replace hx := hx.symm
              subst hx
              refine Rn_pure 1 (i' := 77) (L' := [some (2, 4)]) (st' := []) rfl ?_
              exact Rn_ret0 rfl h
          · have h := h.2 hc
            refine Rn_pure 1 (i' := 47) (L' := [some (2, 4)]) (st' := [(2, 4)]) rfl ?_
            refine Rn_callV [(2, 4)] [] rfl rfl rfl rfl (ab_rvB_of rfl (⟨rfl, (by omega : (0 : Int) ≤ 4), (by omega : (4 : Int) + 1 < K ∧ 5 < K)⟩)) ?_
            refine h.mono (fun g25 r26 h => ?_)
            obtain ⟨hr28, h⟩ := h
            refine Rn_pure 1 (i' := 77) (L' := [some (2, 4)]) (st' := []) rfl ?_
            exact Rn_ret0 rfl h
        · have h := h.2 hc
          refine Rn_pure 2 (i' := 37) (L' := [some (2, 4)]) (st' := [(0, 0), (2, 4)]) rfl ?_
          refine Rn_putI rfl (⟨rfl, (by omega : (0 : Int) ≤ 4), (by omega : (4 : Int) + 1 < K ∧ 5 < K)⟩) (fun g29 he_g29 => ?_)
          have h := h g29 he_g29
          refine Rn_pure 1 (i' := 77) (L' := [some (2, 4)]) (st' := []) rfl ?_
          exact Rn_ret0 rfl h
      · have h := h.2 hc
        refine Rn_pure 2 (i' := 21) (L' := [some (2, 4)]) (st' := [(2, 4), (2, 4)]) rfl ?_
        refine Rn_getI rfl (⟨rfl, (by omega : (0 : Int) ≤ 4), (by omega : (4 : Int) + 1 < K ∧ 5 < K)⟩) ?_
        refine Rn_pure 2 (i' := 24) (L' := [some (2, 4)]) (st' := [(0, g 4 2 + 1), (2, 4)]) rfl ?_
        refine Rn_putI rfl (⟨rfl, (by omega : (0 : Int) ≤ 4), (by omega : (4 : Int) + 1 < K ∧ 5 < K)⟩) (fun g30 he_g30 => ?_)
        have h := h g30 he_g30
        refine Rn_pure 1 (i' := 0) (L' := [some (2, 4)]) (st' := []) rfl ?_
        exact h
-- EventLedger$Tokens.readWord ()V
theorem v_To_readWord {K : Int} {S : Nat} {g r : ab_H} (P : ab_H → ab_H → Prop) (hr : SI r) (hK : 186 ≤ K) (h : ab_Rn m_To_readWord 2 [some (2, 4), some (1, 0), none, none, none] [] (K, S, g, r) (ab_Qv K S P)) : ab_RV m_To_readWord [(2, 4)] K S g r P := by
  show ab_Rn m_To_readWord 0 [some (2, 4), none, none, none, none] [] (K, S, g, r) (ab_Qv K S P)
  refine Rn_pure 2 (i' := 2) (L' := [some (2, 4), some (1, 0), none, none, none]) (st' := []) rfl ?_
  exact h
theorem v_To_readWord_2 {K : Int} {S : Nat} {g r : ab_H} {l1 : Int} (P : ab_H → ab_H → Prop) (hr : SI r) (hK : 186 ≤ K) (h : ((wr (g 4 1) ≤ wr (g 4 2) → ((wr 6 < wr (g 4 2 - (g 4 4)) → ∀ g1, g1 = ab_up g 4 3 5 → ((wr 6 < wr (g 4 2 - (g 4 4)) → ∀ g2, g2 = ab_up g1 4 6 0 → ab_Rn m_To_readWord 74 [some (2, 4), some (1, l1), none, some (0, g 4 2 - (g 4 4)), some (0, 0)] [] (K, S, g2, r) (ab_Qv K S P)) ∧ (wr (g 4 2 - (g 4 4)) ≤ wr 6 → ∀ g3, g3 = ab_up g1 4 6 (ab_lsh l1 (5 * (6 - (g 4 2 - (g 4 4))))) → ab_Rn m_To_readWord 74 [some (2, 4), some (1, l1), none, some (0, g 4 2 - (g 4 4)), some (0, 0)] [] (K, S, g3, r) (ab_Qv K S P)))) ∧ (wr (g 4 2 - (g 4 4)) ≤ wr 6 → ∀ g4, g4 = ab_up g 4 3 2 → ((wr 6 < wr (g 4 2 - (g 4 4)) → ∀ g5, g5 = ab_up g4 4 6 0 → ab_Rn m_To_readWord 74 [some (2, 4), some (1, l1), none, some (0, g 4 2 - (g 4 4)), some (0, 0)] [] (K, S, g5, r) (ab_Qv K S P)) ∧ (wr (g 4 2 - (g 4 4)) ≤ wr 6 → ∀ g6, g6 = ab_up g4 4 6 (ab_lsh l1 (5 * (6 - (g 4 2 - (g 4 4))))) → ab_Rn m_To_readWord 74 [some (2, 4), some (1, l1), none, some (0, g 4 2 - (g 4 4)), some (0, 0)] [] (K, S, g6, r) (ab_Qv K S P)))))) ∧ (wr (g 4 2) < wr (g 4 1) → (r 4 0 = 1) ∧ ((0 : Int) ≤ g 4 2 ∧ (g 4 2 : Int) < 900) ∧ ab_RI m_To_isLetter [(0, g 1 (g 4 2))] K S g r (fun x7 g' r' => g' = g ∧ r' = r ∧ (((wr x7 = wr 0 → ((wr 6 < wr (g 4 2 - (g 4 4)) → ∀ g8, g8 = ab_up g 4 3 5 → ((wr 6 < wr (g 4 2 - (g 4 4)) → ∀ g9, g9 = ab_up g8 4 6 0 → ab_Rn m_To_readWord 74 [some (2, 4), some (1, l1), none, some (0, g 4 2 - (g 4 4)), some (0, 0)] [] (K, S, g9, r) (ab_Qv K S P)) ∧ (wr (g 4 2 - (g 4 4)) ≤ wr 6 → ∀ g10, g10 = ab_up g8 4 6 (ab_lsh l1 (5 * (6 - (g 4 2 - (g 4 4))))) → ab_Rn m_To_readWord 74 [some (2, 4), some (1, l1), none, some (0, g 4 2 - (g 4 4)), some (0, 0)] [] (K, S, g10, r) (ab_Qv K S P)))) ∧ (wr (g 4 2 - (g 4 4)) ≤ wr 6 → ∀ g11, g11 = ab_up g 4 3 2 → ((wr 6 < wr (g 4 2 - (g 4 4)) → ∀ g12, g12 = ab_up g11 4 6 0 → ab_Rn m_To_readWord 74 [some (2, 4), some (1, l1), none, some (0, g 4 2 - (g 4 4)), some (0, 0)] [] (K, S, g12, r) (ab_Qv K S P)) ∧ (wr (g 4 2 - (g 4 4)) ≤ wr 6 → ∀ g13, g13 = ab_up g11 4 6 (ab_lsh l1 (5 * (6 - (g 4 2 - (g 4 4))))) → ab_Rn m_To_readWord 74 [some (2, 4), some (1, l1), none, some (0, g 4 2 - (g 4 4)), some (0, 0)] [] (K, S, g13, r) (ab_Qv K S P)))))) ∧ (¬ wr x7 = wr 0 → ((wr 7 ≤ wr (g 4 2 - (g 4 4)) → ∀ g14, g14 = ab_up g 4 2 (g 4 2 + 1) → ab_Rn m_To_readWord 2 [some (2, 4), some (1, l1), none, none, none] [] (K, S, g14, r) (ab_Qv K S P)) ∧ (wr (g 4 2 - (g 4 4)) < wr 7 → (r 4 0 = 1) ∧ ((0 : Int) ≤ g 4 2 ∧ (g 4 2 : Int) < 900) ∧ ∀ g15, g15 = ab_up g 4 2 (g 4 2 + 1) → ab_Rn m_To_readWord 2 [some (2, 4), some (1, ab_lor (ab_lsh l1 5) (wr (g 1 (g 4 2) - 97 + 1))), none, none, none] [] (K, S, g15, r) (ab_Qv K S P)))))))))) : ab_Rn m_To_readWord 2 [some (2, 4), some (1, l1), none, none, none] [] (K, S, g, r) (ab_Qv K S P) := by
  refine Rn_pure 1 (i' := 3) (L' := [some (2, 4), some (1, l1), none, none, none]) (st' := [(2, 4)]) rfl ?_
  refine Rn_getI rfl (⟨rfl, (by omega : (0 : Int) ≤ 4), (by omega : (4 : Int) + 1 < K ∧ 5 < K)⟩) ?_
  refine Rn_pure 1 (i' := 5) (L' := [some (2, 4), some (1, l1), none, none, none]) (st' := [(2, 4), (0, g 4 2)]) rfl ?_
  refine Rn_getI rfl (⟨rfl, (by omega : (0 : Int) ≤ 4), (by omega : (4 : Int) + 1 < K ∧ 5 < K)⟩) ?_
  refine Rn_icge rfl (fun hc => ?_) (fun hc => ?_)
  · have h := h.1 hc
    refine Rn_pure 1 (i' := 44) (L' := [some (2, 4), some (1, l1), none, none, none]) (st' := [(2, 4)]) rfl ?_
    refine Rn_getI rfl (⟨rfl, (by omega : (0 : Int) ≤ 4), (by omega : (4 : Int) + 1 < K ∧ 5 < K)⟩) ?_
    refine Rn_pure 1 (i' := 46) (L' := [some (2, 4), some (1, l1), none, none, none]) (st' := [(2, 4), (0, g 4 2)]) rfl ?_
    refine Rn_getI rfl (⟨rfl, (by omega : (0 : Int) ≤ 4), (by omega : (4 : Int) + 1 < K ∧ 5 < K)⟩) ?_
    refine Rn_pure 5 (i' := 52) (L' := [some (2, 4), some (1, l1), none, some (0, g 4 2 - (g 4 4)), none]) (st' := [(0, 6), (0, g 4 2 - (g 4 4)), (2, 4)]) rfl ?_
    refine Rn_icgt rfl (fun hc => ?_) (fun hc => ?_)
    · have h := h.1 hc
      refine Rn_pure 1 (i' := 56) (L' := [some (2, 4), some (1, l1), none, some (0, g 4 2 - (g 4 4)), none]) (st' := [(0, 5), (2, 4)]) rfl ?_
      refine Rn_putI rfl (⟨rfl, (by omega : (0 : Int) ≤ 4), (by omega : (4 : Int) + 1 < K ∧ 5 < K)⟩) (fun g1 he_g1 => ?_)
      have h := h g1 he_g1
      refine Rn_pure 3 (i' := 60) (L' := [some (2, 4), some (1, l1), none, some (0, g 4 2 - (g 4 4)), none]) (st' := [(0, 6), (0, g 4 2 - (g 4 4)), (2, 4)]) rfl ?_
      refine Rn_icgt rfl (fun hc => ?_) (fun hc => ?_)
      · have h := h.1 hc
        refine Rn_pure 1 (i' := 71) (L' := [some (2, 4), some (1, l1), none, some (0, g 4 2 - (g 4 4)), none]) (st' := [(0, 0), (2, 4)]) rfl ?_
        refine Rn_putI rfl (⟨rfl, (by omega : (0 : Int) ≤ 4), (by omega : (4 : Int) + 1 < K ∧ 5 < K)⟩) (fun g2 he_g2 => ?_)
        have h := h g2 he_g2
        refine Rn_pure 2 (i' := 74) (L' := [some (2, 4), some (1, l1), none, some (0, g 4 2 - (g 4 4)), some (0, 0)]) (st' := []) rfl ?_
        exact h
      · have h := h.2 hc
        refine Rn_pure 9 (i' := 71) (L' := [some (2, 4), some (1, l1), none, some (0, g 4 2 - (g 4 4)), none]) (st' := [(0, ab_lsh l1 (5 * (6 - (g 4 2 - (g 4 4))))), (2, 4)]) rfl ?_
        refine Rn_putI rfl (⟨rfl, (by omega : (0 : Int) ≤ 4), (by omega : (4 : Int) + 1 < K ∧ 5 < K)⟩) (fun g3 he_g3 => ?_)
        have h := h g3 he_g3
        refine Rn_pure 2 (i' := 74) (L' := [some (2, 4), some (1, l1), none, some (0, g 4 2 - (g 4 4)), some (0, 0)]) (st' := []) rfl ?_
        exact h
    · have h := h.2 hc
      refine Rn_pure 2 (i' := 56) (L' := [some (2, 4), some (1, l1), none, some (0, g 4 2 - (g 4 4)), none]) (st' := [(0, 2), (2, 4)]) rfl ?_
      refine Rn_putI rfl (⟨rfl, (by omega : (0 : Int) ≤ 4), (by omega : (4 : Int) + 1 < K ∧ 5 < K)⟩) (fun g4 he_g4 => ?_)
      have h := h g4 he_g4
      refine Rn_pure 3 (i' := 60) (L' := [some (2, 4), some (1, l1), none, some (0, g 4 2 - (g 4 4)), none]) (st' := [(0, 6), (0, g 4 2 - (g 4 4)), (2, 4)]) rfl ?_
      refine Rn_icgt rfl (fun hc => ?_) (fun hc => ?_)
      · have h := h.1 hc
        refine Rn_pure 1 (i' := 71) (L' := [some (2, 4), some (1, l1), none, some (0, g 4 2 - (g 4 4)), none]) (st' := [(0, 0), (2, 4)]) rfl ?_
        refine Rn_putI rfl (⟨rfl, (by omega : (0 : Int) ≤ 4), (by omega : (4 : Int) + 1 < K ∧ 5 < K)⟩) (fun g5 he_g5 => ?_)
        have h := h g5 he_g5
        refine Rn_pure 2 (i' := 74) (L' := [some (2, 4), some (1, l1), none, some (0, g 4 2 - (g 4 4)), some (0, 0)]) (st' := []) rfl ?_
        exact h
      · have h := h.2 hc
        refine Rn_pure 9 (i' := 71) (L' := [some (2, 4), some (1, l1), none, some (0, g 4 2 - (g 4 4)), none]) (st' := [(0, ab_lsh l1 (5 * (6 - (g 4 2 - (g 4 4))))), (2, 4)]) rfl ?_
        refine Rn_putI rfl (⟨rfl, (by omega : (0 : Int) ≤ 4), (by omega : (4 : Int) + 1 < K ∧ 5 < K)⟩) (fun g6 he_g6 => ?_)
        have h := h g6 he_g6
        refine Rn_pure 2 (i' := 74) (L' := [some (2, 4), some (1, l1), none, some (0, g 4 2 - (g 4 4)), some (0, 0)]) (st' := []) rfl ?_
        exact h
  · have h := h.2 hc
    refine Rn_pure 1 (i' := 8) (L' := [some (2, 4), some (1, l1), none, none, none]) (st' := [(2, 4)]) rfl ?_
    obtain ⟨hg, h⟩ := h
    refine Rn_getR rfl (⟨rfl, (by omega : (0 : Int) ≤ 4), (by omega : (4 : Int) + 1 < K ∧ 5 < K)⟩) hg (by decide) ?_
    refine Rn_pure 1 (i' := 10) (L' := [some (2, 4), some (1, l1), none, none, none]) (st' := [(2, 4), (2, 1)]) rfl ?_
    refine Rn_getI rfl (⟨rfl, (by omega : (0 : Int) ≤ 4), (by omega : (4 : Int) + 1 < K ∧ 5 < K)⟩) ?_
    obtain ⟨hg, h⟩ := h
    refine Rn_bald rfl (⟨rfl, (by omega : (0 : Int) ≤ 1), (by omega : (1 : Int) + 1 < K ∧ 5 < K)⟩) hg ?_
    refine Rn_callI [(0, g 1 (g 4 2))] [] rfl rfl rfl rfl (rfl) ?_
    refine h.mono (fun x7 g' r' h => ?_)
    obtain ⟨hx, h⟩ := h
    replace hx := hx.symm
    subst hx
    obtain ⟨hx, h⟩ := h
    replace hx := hx.symm
    subst hx
    refine Rn_ifeq rfl (fun hc => ?_) (fun hc => ?_)
    · have h := h.1 hc
      refine Rn_pure 1 (i' := 44) (L' := [some (2, 4), some (1, l1), none, none, none]) (st' := [(2, 4)]) rfl ?_
      refine Rn_getI rfl (⟨rfl, (by omega : (0 : Int) ≤ 4), (by omega : (4 : Int) + 1 < K ∧ 5 < K)⟩) ?_
      refine Rn_pure 1 (i' := 46) (L' := [some (2, 4), some (1, l1), none, none, none]) (st' := [(2, 4), (0, g 4 2)]) rfl ?_
      refine Rn_getI rfl (⟨rfl, (by omega : (0 : Int) ≤ 4), (by omega : (4 : Int) + 1 < K ∧ 5 < K)⟩) ?_
      refine Rn_pure 5 (i' := 52) (L' := [some (2, 4), some (1, l1), none, some (0, g 4 2 - (g 4 4)), none]) (st' := [(0, 6), (0, g 4 2 - (g 4 4)), (2, 4)]) rfl ?_
      refine Rn_icgt rfl (fun hc => ?_) (fun hc => ?_)
      · have h := h.1 hc
        refine Rn_pure 1 (i' := 56) (L' := [some (2, 4), some (1, l1), none, some (0, g 4 2 - (g 4 4)), none]) (st' := [(0, 5), (2, 4)]) rfl ?_
        refine Rn_putI rfl (⟨rfl, (by omega : (0 : Int) ≤ 4), (by omega : (4 : Int) + 1 < K ∧ 5 < K)⟩) (fun g8 he_g8 => ?_)
        have h := h g8 he_g8
        refine Rn_pure 3 (i' := 60) (L' := [some (2, 4), some (1, l1), none, some (0, g 4 2 - (g 4 4)), none]) (st' := [(0, 6), (0, g 4 2 - (g 4 4)), (2, 4)]) rfl ?_
        refine Rn_icgt rfl (fun hc => ?_) (fun hc => ?_)
        · have h := h.1 hc
          refine Rn_pure 1 (i' := 71) (L' := [some (2, 4), some (1, l1), none, some (0, g 4 2 - (g 4 4)), none]) (st' := [(0, 0), (2, 4)]) rfl ?_
          refine Rn_putI rfl (⟨rfl, (by omega : (0 : Int) ≤ 4), (by omega : (4 : Int) + 1 < K ∧ 5 < K)⟩) (fun g9 he_g9 => ?_)
          have h := h g9 he_g9
          refine Rn_pure 2 (i' := 74) (L' := [some (2, 4), some (1, l1), none, some (0, g 4 2 - (g 4 4)), some (0, 0)]) (st' := []) rfl ?_
          exact h
        · have h := h.2 hc
          refine Rn_pure 9 (i' := 71) (L' := [some (2, 4), some (1, l1), none, some (0, g 4 2 - (g 4 4)), none]) (st' := [(0, ab_lsh l1 (5 * (6 - (g 4 2 - (g 4 4))))), (2, 4)]) rfl ?_
          refine Rn_putI rfl (⟨rfl, (by omega : (0 : Int) ≤ 4), (by omega : (4 : Int) + 1 < K ∧ 5 < K)⟩) (fun g10 he_g10 => ?_)
          have h := h g10 he_g10
          refine Rn_pure 2 (i' := 74) (L' := [some (2, 4), some (1, l1), none, some (0, g 4 2 - (g 4 4)), some (0, 0)]) (st' := []) rfl ?_
          exact h
      · have h := h.2 hc
        refine Rn_pure 2 (i' := 56) (L' := [some (2, 4), some (1, l1), none, some (0, g 4 2 - (g 4 4)), none]) (st' := [(0, 2), (2, 4)]) rfl ?_
        refine Rn_putI rfl (⟨rfl, (by omega : (0 : Int) ≤ 4), (by omega : (4 : Int) + 1 < K ∧ 5 < K)⟩) (fun g11 he_g11 => ?_)
        have h := h g11 he_g11
        refine Rn_pure 3 (i' := 60) (L' := [some (2, 4), some (1, l1), none, some (0, g 4 2 - (g 4 4)), none]) (st' := [(0, 6), (0, g 4 2 - (g 4 4)), (2, 4)]) rfl ?_
        refine Rn_icgt rfl (fun hc => ?_) (fun hc => ?_)
        · have h := h.1 hc
          refine Rn_pure 1 (i' := 71) (L' := [some (2, 4), some (1, l1), none, some (0, g 4 2 - (g 4 4)), none]) (st' := [(0, 0), (2, 4)]) rfl ?_
          refine Rn_putI rfl (⟨rfl, (by omega : (0 : Int) ≤ 4), (by omega : (4 : Int) + 1 < K ∧ 5 < K)⟩) (fun g12 he_g12 => ?_)
          have h := h g12 he_g12
          refine Rn_pure 2 (i' := 74) (L' := [some (2, 4), some (1, l1), none, some (0, g 4 2 - (g 4 4)), some (0, 0)]) (st' := []) rfl ?_
          exact h
        · have h := h.2 hc
          refine Rn_pure 9 (i' := 71) (L' := [some (2, 4), some (1, l1), none, some (0, g 4 2 - (g 4 4)), none]) (st' := [(0, ab_lsh l1 (5 * (6 - (g 4 2 - (g 4 4))))), (2, 4)]) rfl ?_
          refine Rn_putI rfl (⟨rfl, (by omega : (0 : Int) ≤ 4), (by omega : (4 : Int) + 1 < K ∧ 5 < K)⟩) (fun g13 he_g13 => ?_)
          have h := h g13 he_g13
          refine Rn_pure 2 (i' := 74) (L' := [some (2, 4), some (1, l1), none, some (0, g 4 2 - (g 4 4)), some (0, 0)]) (st' := []) rfl ?_
          exact h
    · have h := h.2 hc
      refine Rn_pure 1 (i' := 15) (L' := [some (2, 4), some (1, l1), none, none, none]) (st' := [(2, 4)]) rfl ?_
      refine Rn_getI rfl (⟨rfl, (by omega : (0 : Int) ≤ 4), (by omega : (4 : Int) + 1 < K ∧ 5 < K)⟩) ?_
      refine Rn_pure 1 (i' := 17) (L' := [some (2, 4), some (1, l1), none, none, none]) (st' := [(2, 4), (0, g 4 2)]) rfl ?_
      refine Rn_getI rfl (⟨rfl, (by omega : (0 : Int) ≤ 4), (by omega : (4 : Int) + 1 < K ∧ 5 < K)⟩) ?_
      refine Rn_pure 2 (i' := 20) (L' := [some (2, 4), some (1, l1), none, none, none]) (st' := [(0, 7), (0, g 4 2 - (g 4 4))]) rfl ?_
      refine Rn_icge rfl (fun hc => ?_) (fun hc => ?_)
      · have h := h.1 hc
        refine Rn_pure 2 (i' := 38) (L' := [some (2, 4), some (1, l1), none, none, none]) (st' := [(2, 4), (2, 4)]) rfl ?_
        refine Rn_getI rfl (⟨rfl, (by omega : (0 : Int) ≤ 4), (by omega : (4 : Int) + 1 < K ∧ 5 < K)⟩) ?_
        refine Rn_pure 2 (i' := 41) (L' := [some (2, 4), some (1, l1), none, none, none]) (st' := [(0, g 4 2 + 1), (2, 4)]) rfl ?_
        refine Rn_putI rfl (⟨rfl, (by omega : (0 : Int) ≤ 4), (by omega : (4 : Int) + 1 < K ∧ 5 < K)⟩) (fun g14 he_g14 => ?_)
        have h := h g14 he_g14
        refine Rn_pure 1 (i' := 2) (L' := [some (2, 4), some (1, l1), none, none, none]) (st' := []) rfl ?_
        exact h
      · have h := h.2 hc
        refine Rn_pure 4 (i' := 25) (L' := [some (2, 4), some (1, l1), none, none, none]) (st' := [(2, 4), (1, ab_lsh l1 5)]) rfl ?_
        obtain ⟨hg, h⟩ := h
        refine Rn_getR rfl (⟨rfl, (by omega : (0 : Int) ≤ 4), (by omega : (4 : Int) + 1 < K ∧ 5 < K)⟩) hg (by decide) ?_
        refine Rn_pure 1 (i' := 27) (L' := [some (2, 4), some (1, l1), none, none, none]) (st' := [(2, 4), (2, 1), (1, ab_lsh l1 5)]) rfl ?_
        refine Rn_getI rfl (⟨rfl, (by omega : (0 : Int) ≤ 4), (by omega : (4 : Int) + 1 < K ∧ 5 < K)⟩) ?_
        obtain ⟨hg, h⟩ := h
        refine Rn_bald rfl (⟨rfl, (by omega : (0 : Int) ≤ 1), (by omega : (1 : Int) + 1 < K ∧ 5 < K)⟩) hg ?_
        refine Rn_pure 9 (i' := 38) (L' := [some (2, 4), some (1, ab_lor (ab_lsh l1 5) (wr (g 1 (g 4 2) - 97 + 1))), none, none, none]) (st' := [(2, 4), (2, 4)]) rfl ?_
        refine Rn_getI rfl (⟨rfl, (by omega : (0 : Int) ≤ 4), (by omega : (4 : Int) + 1 < K ∧ 5 < K)⟩) ?_
        refine Rn_pure 2 (i' := 41) (L' := [some (2, 4), some (1, ab_lor (ab_lsh l1 5) (wr (g 1 (g 4 2) - 97 + 1))), none, none, none]) (st' := [(0, g 4 2 + 1), (2, 4)]) rfl ?_
        refine Rn_putI rfl (⟨rfl, (by omega : (0 : Int) ≤ 4), (by omega : (4 : Int) + 1 < K ∧ 5 < K)⟩) (fun g15 he_g15 => ?_)
        have h := h g15 he_g15
        refine Rn_pure 1 (i' := 2) (L' := [some (2, 4), some (1, ab_lor (ab_lsh l1 5) (wr (g 1 (g 4 2) - 97 + 1))), none, none, none]) (st' := []) rfl ?_
        exact h
theorem v_To_readWord_74 {K : Int} {S : Nat} {g r : ab_H} {l1 l3 l4 : Int} (P : ab_H → ab_H → Prop) (hr : SI r) (hK : 186 ≤ K) (h : ((wr 17 ≤ wr l4 → P g r) ∧ (wr l4 < wr 17 → ((wr 7 < wr l3 → P g r) ∧ (wr l3 ≤ wr 7 → ((0 : Int) ≤ l4 ∧ (l4 : Int) < 17) ∧ ((¬ wr (ab_cmp (((ab_nth ab_wt (-5 - (-5 - l4)).toNat).getD (0, 0, 0)).1) l1) = wr 0 → ab_Rn m_To_readWord 74 [some (2, 4), some (1, l1), none, some (0, l3), some (0, l4 + 1)] [] (K, S, g, r) (ab_Qv K S P)) ∧ (wr (ab_cmp (((ab_nth ab_wt (-5 - (-5 - l4)).toNat).getD (0, 0, 0)).1) l1) = wr 0 → ∀ g2, g2 = ab_up g 4 3 1 → ((0 : Int) ≤ l4 ∧ (l4 : Int) < 17) ∧ ∀ r4, r4 = ab_up r 4 5 (-5 - l4) → ab_Rn m_To_readWord 74 [some (2, 4), some (1, l1), none, some (0, l3), some (0, l4 + 1)] [] (K, S, g2, r4) (ab_Qv K S P)))))))) : ab_Rn m_To_readWord 74 [some (2, 4), some (1, l1), none, some (0, l3), some (0, l4)] [] (K, S, g, r) (ab_Qv K S P) := by
  refine Rn_pure 3 (i' := 77) (L' := [some (2, 4), some (1, l1), none, some (0, l3), some (0, l4)]) (st' := [(0, 17), (0, l4)]) rfl ?_
  refine Rn_icge rfl (fun hc => ?_) (fun hc => ?_)
  · have h := h.1 hc
    exact Rn_ret0 rfl h
  · have h := h.2 hc
    refine Rn_pure 2 (i' := 80) (L' := [some (2, 4), some (1, l1), none, some (0, l3), some (0, l4)]) (st' := [(0, 7), (0, l3)]) rfl ?_
    refine Rn_icgt rfl (fun hc => ?_) (fun hc => ?_)
    · have h := h.1 hc
      exact Rn_ret0 rfl h
    · have h := h.2 hc
      refine Rn_pure 2 (i' := 83) (L' := [some (2, 4), some (1, l1), none, some (0, l3), some (0, l4)]) (st' := [(0, l4), (2, (-3))]) rfl ?_
      obtain ⟨hg, h⟩ := h
      refine Rn_wald rfl hg ?_
      have hf1 : isWd (-5 - l4) := by unfold isWd; omega
      refine Rn_wcode rfl ⟨hf1.2, hf1.1⟩ ?_
      refine Rn_pure 2 (i' := 87) (L' := [some (2, 4), some (1, l1), none, some (0, l3), some (0, l4)]) (st' := [(0, ab_cmp (((ab_nth ab_wt (-5 - (-5 - l4)).toNat).getD (0, 0, 0)).1) l1)]) rfl ?_
      refine Rn_ifne rfl (fun hc => ?_) (fun hc => ?_)
      · have h := h.1 hc
        refine Rn_pure 2 (i' := 74) (L' := [some (2, 4), some (1, l1), none, some (0, l3), some (0, l4 + 1)]) (st' := []) rfl ?_
        exact h
      · have h := h.2 hc
        refine Rn_pure 2 (i' := 90) (L' := [some (2, 4), some (1, l1), none, some (0, l3), some (0, l4)]) (st' := [(0, 1), (2, 4)]) rfl ?_
        refine Rn_putI rfl (⟨rfl, (by omega : (0 : Int) ≤ 4), (by omega : (4 : Int) + 1 < K ∧ 5 < K)⟩) (fun g2 he_g2 => ?_)
        have h := h g2 he_g2
        refine Rn_pure 3 (i' := 94) (L' := [some (2, 4), some (1, l1), none, some (0, l3), some (0, l4)]) (st' := [(0, l4), (2, (-3)), (2, 4)]) rfl ?_
        obtain ⟨hg, h⟩ := h
        refine Rn_wald rfl hg ?_
        have hf3 : isWd (-5 - l4) := by unfold isWd; omega
        refine Rn_putR rfl (⟨rfl, (by omega : (0 : Int) ≤ 4), (by omega : (4 : Int) + 1 < K ∧ 5 < K)⟩) (nn_Wd hf3) (fun r4 he_r4 => ?_)
        have h := h r4 he_r4
        have hr5 : SI r4 := by rw [he_r4]; exact SI_up hr (by decide)
        refine Rn_pure 2 (i' := 74) (L' := [some (2, 4), some (1, l1), none, some (0, l3), some (0, l4 + 1)]) (st' := []) rfl ?_
        exact h
-- EventLedger$Tokens.readNumber ()V
theorem v_To_readNumber {K : Int} {S : Nat} {g r : ab_H} (P : ab_H → ab_H → Prop) (hr : SI r) (hK : 186 ≤ K) (h : ∀ g1, g1 = ab_up g 4 7 0 → ab_Rn m_To_readNumber 3 [some (2, 4)] [] (K, S, g1, r) (ab_Qv K S P)) : ab_RV m_To_readNumber [(2, 4)] K S g r P := by
  show ab_Rn m_To_readNumber 0 [some (2, 4)] [] (K, S, g, r) (ab_Qv K S P)
  refine Rn_pure 2 (i' := 2) (L' := [some (2, 4)]) (st' := [(0, 0), (2, 4)]) rfl ?_
  refine Rn_putI rfl (⟨rfl, (by omega : (0 : Int) ≤ 4), (by omega : (4 : Int) + 1 < K ∧ 5 < K)⟩) (fun g1 he_g1 => ?_)
  have h := h g1 he_g1
  exact h
theorem v_To_readNumber_3 {K : Int} {S : Nat} {g r : ab_H} (P : ab_H → ab_H → Prop) (hr : SI r) (hK : 186 ≤ K) (h : ((wr (g 4 1) ≤ wr (g 4 2) → ∀ g1, g1 = ab_up g 4 3 3 → P g1 r) ∧ (wr (g 4 2) < wr (g 4 1) → (r 4 0 = 1) ∧ ((0 : Int) ≤ g 4 2 ∧ (g 4 2 : Int) < 900) ∧ ab_RI m_To_isDigit [(0, g 1 (g 4 2))] K S g r (fun x2 g' r' => g' = g ∧ r' = r ∧ (((wr x2 = wr 0 → ∀ g3, g3 = ab_up g 4 3 3 → P g3 r) ∧ (¬ wr x2 = wr 0 → ((wr 1000000 ≤ wr (g 4 7) → ∀ g4, g4 = ab_up g 4 2 (g 4 2 + 1) → ab_Rn m_To_readNumber 3 [some (2, 4)] [] (K, S, g4, r) (ab_Qv K S P)) ∧ (wr (g 4 7) < wr 1000000 → (r 4 0 = 1) ∧ ((0 : Int) ≤ g 4 2 ∧ (g 4 2 : Int) < 900) ∧ ∀ g5, g5 = ab_up g 4 7 (10 * (g 4 7) + (g 1 (g 4 2)) - 48) → ∀ g6, g6 = ab_up g5 4 2 (g5 4 2 + 1) → ab_Rn m_To_readNumber 3 [some (2, 4)] [] (K, S, g6, r) (ab_Qv K S P)))))))))) : ab_Rn m_To_readNumber 3 [some (2, 4)] [] (K, S, g, r) (ab_Qv K S P) := by
  refine Rn_pure 1 (i' := 4) (L' := [some (2, 4)]) (st' := [(2, 4)]) rfl ?_
  refine Rn_getI rfl (⟨rfl, (by omega : (0 : Int) ≤ 4), (by omega : (4 : Int) + 1 < K ∧ 5 < K)⟩) ?_
  refine Rn_pure 1 (i' := 6) (L' := [some (2, 4)]) (st' := [(2, 4), (0, g 4 2)]) rfl ?_
  refine Rn_getI rfl (⟨rfl, (by omega : (0 : Int) ≤ 4), (by omega : (4 : Int) + 1 < K ∧ 5 < K)⟩) ?_
  refine Rn_icge rfl (fun hc => ?_) (fun hc => ?_)
  · have h := h.1 hc
    refine Rn_pure 2 (i' := 42) (L' := [some (2, 4)]) (st' := [(0, 3), (2, 4)]) rfl ?_
    refine Rn_putI rfl (⟨rfl, (by omega : (0 : Int) ≤ 4), (by omega : (4 : Int) + 1 < K ∧ 5 < K)⟩) (fun g1 he_g1 => ?_)
    have h := h g1 he_g1
    exact Rn_ret0 rfl h
  · have h := h.2 hc
    refine Rn_pure 1 (i' := 9) (L' := [some (2, 4)]) (st' := [(2, 4)]) rfl ?_
    obtain ⟨hg, h⟩ := h
    refine Rn_getR rfl (⟨rfl, (by omega : (0 : Int) ≤ 4), (by omega : (4 : Int) + 1 < K ∧ 5 < K)⟩) hg (by decide) ?_
    refine Rn_pure 1 (i' := 11) (L' := [some (2, 4)]) (st' := [(2, 4), (2, 1)]) rfl ?_
    refine Rn_getI rfl (⟨rfl, (by omega : (0 : Int) ≤ 4), (by omega : (4 : Int) + 1 < K ∧ 5 < K)⟩) ?_
    obtain ⟨hg, h⟩ := h
    refine Rn_bald rfl (⟨rfl, (by omega : (0 : Int) ≤ 1), (by omega : (1 : Int) + 1 < K ∧ 5 < K)⟩) hg ?_
    refine Rn_callI [(0, g 1 (g 4 2))] [] rfl rfl rfl rfl (rfl) ?_
    refine h.mono (fun x2 g' r' h => ?_)
    obtain ⟨hx, h⟩ := h
    replace hx := hx.symm
    subst hx
    obtain ⟨hx, h⟩ := h
    replace hx := hx.symm
    subst hx
    refine Rn_ifeq rfl (fun hc => ?_) (fun hc => ?_)
    · have h := h.1 hc
      refine Rn_pure 2 (i' := 42) (L' := [some (2, 4)]) (st' := [(0, 3), (2, 4)]) rfl ?_
      refine Rn_putI rfl (⟨rfl, (by omega : (0 : Int) ≤ 4), (by omega : (4 : Int) + 1 < K ∧ 5 < K)⟩) (fun g3 he_g3 => ?_)
      have h := h g3 he_g3
      exact Rn_ret0 rfl h
    · have h := h.2 hc
      refine Rn_pure 1 (i' := 16) (L' := [some (2, 4)]) (st' := [(2, 4)]) rfl ?_
      refine Rn_getI rfl (⟨rfl, (by omega : (0 : Int) ≤ 4), (by omega : (4 : Int) + 1 < K ∧ 5 < K)⟩) ?_
      refine Rn_pure 1 (i' := 18) (L' := [some (2, 4)]) (st' := [(0, 1000000), (0, g 4 7)]) rfl ?_
      refine Rn_icge rfl (fun hc => ?_) (fun hc => ?_)
      · have h := h.1 hc
        refine Rn_pure 2 (i' := 35) (L' := [some (2, 4)]) (st' := [(2, 4), (2, 4)]) rfl ?_
        refine Rn_getI rfl (⟨rfl, (by omega : (0 : Int) ≤ 4), (by omega : (4 : Int) + 1 < K ∧ 5 < K)⟩) ?_
        refine Rn_pure 2 (i' := 38) (L' := [some (2, 4)]) (st' := [(0, g 4 2 + 1), (2, 4)]) rfl ?_
        refine Rn_putI rfl (⟨rfl, (by omega : (0 : Int) ≤ 4), (by omega : (4 : Int) + 1 < K ∧ 5 < K)⟩) (fun g4 he_g4 => ?_)
        have h := h g4 he_g4
        refine Rn_pure 1 (i' := 3) (L' := [some (2, 4)]) (st' := []) rfl ?_
        exact h
      · have h := h.2 hc
        refine Rn_pure 3 (i' := 22) (L' := [some (2, 4)]) (st' := [(2, 4), (0, 10), (2, 4)]) rfl ?_
        refine Rn_getI rfl (⟨rfl, (by omega : (0 : Int) ≤ 4), (by omega : (4 : Int) + 1 < K ∧ 5 < K)⟩) ?_
        refine Rn_pure 2 (i' := 25) (L' := [some (2, 4)]) (st' := [(2, 4), (0, 10 * (g 4 7)), (2, 4)]) rfl ?_
        obtain ⟨hg, h⟩ := h
        refine Rn_getR rfl (⟨rfl, (by omega : (0 : Int) ≤ 4), (by omega : (4 : Int) + 1 < K ∧ 5 < K)⟩) hg (by decide) ?_
        refine Rn_pure 1 (i' := 27) (L' := [some (2, 4)]) (st' := [(2, 4), (2, 1), (0, 10 * (g 4 7)), (2, 4)]) rfl ?_
        refine Rn_getI rfl (⟨rfl, (by omega : (0 : Int) ≤ 4), (by omega : (4 : Int) + 1 < K ∧ 5 < K)⟩) ?_
        obtain ⟨hg, h⟩ := h
        refine Rn_bald rfl (⟨rfl, (by omega : (0 : Int) ≤ 1), (by omega : (1 : Int) + 1 < K ∧ 5 < K)⟩) hg ?_
        refine Rn_pure 3 (i' := 32) (L' := [some (2, 4)]) (st' := [(0, 10 * (g 4 7) + (g 1 (g 4 2)) - 48), (2, 4)]) rfl ?_
        refine Rn_putI rfl (⟨rfl, (by omega : (0 : Int) ≤ 4), (by omega : (4 : Int) + 1 < K ∧ 5 < K)⟩) (fun g5 he_g5 => ?_)
        have h := h g5 he_g5
        refine Rn_pure 2 (i' := 35) (L' := [some (2, 4)]) (st' := [(2, 4), (2, 4)]) rfl ?_
        refine Rn_getI rfl (⟨rfl, (by omega : (0 : Int) ≤ 4), (by omega : (4 : Int) + 1 < K ∧ 5 < K)⟩) ?_
        refine Rn_pure 2 (i' := 38) (L' := [some (2, 4)]) (st' := [(0, g5 4 2 + 1), (2, 4)]) rfl ?_
        refine Rn_putI rfl (⟨rfl, (by omega : (0 : Int) ≤ 4), (by omega : (4 : Int) + 1 < K ∧ 5 < K)⟩) (fun g6 he_g6 => ?_)
        have h := h g6 he_g6
        refine Rn_pure 1 (i' := 3) (L' := [some (2, 4)]) (st' := []) rfl ?_
        exact h
-- EventLedger$Tokens.isLetter (B)Z
theorem v_To_isLetter {K : Int} {S : Nat} {g r : ab_H} {p0 : Int} (P : Int → ab_H → ab_H → Prop) (hr : SI r) (hK : 186 ≤ K) (h : ((wr p0 < wr 97 → P 0 g r) ∧ (wr 97 ≤ wr p0 → ((wr 122 < wr p0 → P 0 g r) ∧ (wr p0 ≤ wr 122 → P 1 g r))))) : ab_RI m_To_isLetter [(0, p0)] K S g r P := by
  show ab_Rn m_To_isLetter 0 [some (0, p0)] [] (K, S, g, r) (ab_Qi K S P)
  refine Rn_pure 2 (i' := 2) (L' := [some (0, p0)]) (st' := [(0, 97), (0, p0)]) rfl ?_
  refine Rn_iclt rfl (fun hc => ?_) (fun hc => ?_)
  · have h := h.1 hc
    refine Rn_pure 1 (i' := 9) (L' := [some (0, p0)]) (st' := [(0, 0)]) rfl ?_
    exact Rn_ret2 rfl (by decide) h
  · have h := h.2 hc
    refine Rn_pure 2 (i' := 5) (L' := [some (0, p0)]) (st' := [(0, 122), (0, p0)]) rfl ?_
    refine Rn_icgt rfl (fun hc => ?_) (fun hc => ?_)
    · have h := h.1 hc
      refine Rn_pure 1 (i' := 9) (L' := [some (0, p0)]) (st' := [(0, 0)]) rfl ?_
      exact Rn_ret2 rfl (by decide) h
    · have h := h.2 hc
      refine Rn_pure 2 (i' := 9) (L' := [some (0, p0)]) (st' := [(0, 1)]) rfl ?_
      exact Rn_ret2 rfl (by decide) h
-- EventLedger$Tokens.isDigit (B)Z
theorem v_To_isDigit {K : Int} {S : Nat} {g r : ab_H} {p0 : Int} (P : Int → ab_H → ab_H → Prop) (hr : SI r) (hK : 186 ≤ K) (h : ((wr p0 < wr 48 → P 0 g r) ∧ (wr 48 ≤ wr p0 → ((wr 57 < wr p0 → P 0 g r) ∧ (wr p0 ≤ wr 57 → P 1 g r))))) : ab_RI m_To_isDigit [(0, p0)] K S g r P := by
  show ab_Rn m_To_isDigit 0 [some (0, p0)] [] (K, S, g, r) (ab_Qi K S P)
  refine Rn_pure 2 (i' := 2) (L' := [some (0, p0)]) (st' := [(0, 48), (0, p0)]) rfl ?_
  refine Rn_iclt rfl (fun hc => ?_) (fun hc => ?_)
  · have h := h.1 hc
    refine Rn_pure 1 (i' := 9) (L' := [some (0, p0)]) (st' := [(0, 0)]) rfl ?_
    exact Rn_ret2 rfl (by decide) h
  · have h := h.2 hc
    refine Rn_pure 2 (i' := 5) (L' := [some (0, p0)]) (st' := [(0, 57), (0, p0)]) rfl ?_
    refine Rn_icgt rfl (fun hc => ?_) (fun hc => ?_)
    · have h := h.1 hc
      refine Rn_pure 1 (i' := 9) (L' := [some (0, p0)]) (st' := [(0, 0)]) rfl ?_
      exact Rn_ret2 rfl (by decide) h
    · have h := h.2 hc
      refine Rn_pure 2 (i' := 9) (L' := [some (0, p0)]) (st' := [(0, 1)]) rfl ?_
      exact Rn_ret2 rfl (by decide) h
