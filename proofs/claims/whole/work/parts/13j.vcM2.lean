-- EventLedgerModel.readLift ()V
theorem v_M_readLift {K : Int} {S : Nat} {g r : ab_H} (P : ab_H → ab_H → Prop) (hr : SI r) (hK : 186 ≤ K) (h : ab_RV m_M_goOn [(2, 161)] K S g r (fun g1 r' => r' = r ∧ (ab_RI m_M_wordOf [(2, 161), (0, 0), (0, 6)] K S g1 r (fun x4 g3 r' => r' = r ∧ (ab_RI m_M_numeral [(2, 161), (0, 1), (0, 2)] K S g3 r (fun x6 g5 r' => r' = r ∧ (((¬ wr (g5 161 22) = wr 0 → ab_RI m_M_wordOf [(2, 161), (0, 8), (0, 11)] K S g5 r (fun x8 g7 r' => r' = r ∧ (ab_RI m_M_numeral [(2, 161), (0, 1), (0, 3)] K S g7 r (fun x10 g9 r' => r' = r ∧ (((¬ wr x8 = wr 11 → ab_RI m_M_numeral [(2, 161), (0, 0), (0, 999)] K S g9 r (fun x12 g11 r' => r' = r ∧ (((wr (g11 161 22) = wr 0 → ((0 : Int) ≤ 14 + (2 * x4) + x6 - 1 ∧ (14 + (2 * x4) + x6 - 1 : Int) < 28) ∧ ab_RI m_M_stepAt [(0, 1), (0, x4), (0, x6), (0, g11 168 (14 + (2 * x4) + x6 - 1))] K S g11 r (fun x13 g' r' => g' = g11 ∧ r' = r ∧ (((0 : Int) ≤ x13 ∧ (x13 : Int) < 112) ∧ ∀ g14, g14 = ab_up g11 169 x13 x8 → ((0 : Int) ≤ x13 ∧ (x13 : Int) < 112) ∧ ∀ g15, g15 = ab_up g14 170 x13 x10 → ((0 : Int) ≤ x13 ∧ (x13 : Int) < 112) ∧ ∀ g16, g16 = ab_up g15 171 x13 x12 → ((0 : Int) ≤ 14 + (2 * x4) + x6 - 1 ∧ (14 + (2 * x4) + x6 - 1 : Int) < 28) ∧ ((0 : Int) ≤ 14 + (2 * x4) + x6 - 1 ∧ (14 + (2 * x4) + x6 - 1 : Int) < 28) ∧ ∀ g17, g17 = ab_up g16 168 (14 + (2 * x4) + x6 - 1) (g16 168 (14 + (2 * x4) + x6 - 1) + 1) → P g17 r))) ∧ (¬ wr (g11 161 22) = wr 0 → P g11 r))))) ∧ (wr x8 = wr 11 → ab_RI m_M_numeral [(2, 161), (0, 1), (0, 3)] K S g9 r (fun x19 g18 r' => r' = r ∧ (((wr (g18 161 22) = wr 0 → ((0 : Int) ≤ 14 + (2 * x4) + x6 - 1 ∧ (14 + (2 * x4) + x6 - 1 : Int) < 28) ∧ ab_RI m_M_stepAt [(0, 1), (0, x4), (0, x6), (0, g18 168 (14 + (2 * x4) + x6 - 1))] K S g18 r (fun x20 g' r' => g' = g18 ∧ r' = r ∧ (((0 : Int) ≤ x20 ∧ (x20 : Int) < 112) ∧ ∀ g21, g21 = ab_up g18 169 x20 x8 → ((0 : Int) ≤ x20 ∧ (x20 : Int) < 112) ∧ ∀ g22, g22 = ab_up g21 170 x20 x10 → ((0 : Int) ≤ x20 ∧ (x20 : Int) < 112) ∧ ∀ g23, g23 = ab_up g22 171 x20 x19 → ((0 : Int) ≤ 14 + (2 * x4) + x6 - 1 ∧ (14 + (2 * x4) + x6 - 1 : Int) < 28) ∧ ((0 : Int) ≤ 14 + (2 * x4) + x6 - 1 ∧ (14 + (2 * x4) + x6 - 1 : Int) < 28) ∧ ∀ g24, g24 = ab_up g23 168 (14 + (2 * x4) + x6 - 1) (g23 168 (14 + (2 * x4) + x6 - 1) + 1) → P g24 r))) ∧ (¬ wr (g18 161 22) = wr 0 → P g18 r))))))))))) ∧ (wr (g5 161 22) = wr 0 → ((0 : Int) ≤ 14 + (2 * x4) + x6 - 1 ∧ (14 + (2 * x4) + x6 - 1 : Int) < 28) ∧ ((¬ wr (g5 168 (14 + (2 * x4) + x6 - 1)) = wr 4 → ab_RI m_M_wordOf [(2, 161), (0, 8), (0, 11)] K S g5 r (fun x26 g25 r' => r' = r ∧ (ab_RI m_M_numeral [(2, 161), (0, 1), (0, 3)] K S g25 r (fun x28 g27 r' => r' = r ∧ (((¬ wr x26 = wr 11 → ab_RI m_M_numeral [(2, 161), (0, 0), (0, 999)] K S g27 r (fun x30 g29 r' => r' = r ∧ (((wr (g29 161 22) = wr 0 → ((0 : Int) ≤ 14 + (2 * x4) + x6 - 1 ∧ (14 + (2 * x4) + x6 - 1 : Int) < 28) ∧ ab_RI m_M_stepAt [(0, 1), (0, x4), (0, x6), (0, g29 168 (14 + (2 * x4) + x6 - 1))] K S g29 r (fun x31 g' r' => g' = g29 ∧ r' = r ∧ (((0 : Int) ≤ x31 ∧ (x31 : Int) < 112) ∧ ∀ g32, g32 = ab_up g29 169 x31 x26 → ((0 : Int) ≤ x31 ∧ (x31 : Int) < 112) ∧ ∀ g33, g33 = ab_up g32 170 x31 x28 → ((0 : Int) ≤ x31 ∧ (x31 : Int) < 112) ∧ ∀ g34, g34 = ab_up g33 171 x31 x30 → ((0 : Int) ≤ 14 + (2 * x4) + x6 - 1 ∧ (14 + (2 * x4) + x6 - 1 : Int) < 28) ∧ ((0 : Int) ≤ 14 + (2 * x4) + x6 - 1 ∧ (14 + (2 * x4) + x6 - 1 : Int) < 28) ∧ ∀ g35, g35 = ab_up g34 168 (14 + (2 * x4) + x6 - 1) (g34 168 (14 + (2 * x4) + x6 - 1) + 1) → P g35 r))) ∧ (¬ wr (g29 161 22) = wr 0 → P g29 r))))) ∧ (wr x26 = wr 11 → ab_RI m_M_numeral [(2, 161), (0, 1), (0, 3)] K S g27 r (fun x37 g36 r' => r' = r ∧ (((wr (g36 161 22) = wr 0 → ((0 : Int) ≤ 14 + (2 * x4) + x6 - 1 ∧ (14 + (2 * x4) + x6 - 1 : Int) < 28) ∧ ab_RI m_M_stepAt [(0, 1), (0, x4), (0, x6), (0, g36 168 (14 + (2 * x4) + x6 - 1))] K S g36 r (fun x38 g' r' => g' = g36 ∧ r' = r ∧ (((0 : Int) ≤ x38 ∧ (x38 : Int) < 112) ∧ ∀ g39, g39 = ab_up g36 169 x38 x26 → ((0 : Int) ≤ x38 ∧ (x38 : Int) < 112) ∧ ∀ g40, g40 = ab_up g39 170 x38 x28 → ((0 : Int) ≤ x38 ∧ (x38 : Int) < 112) ∧ ∀ g41, g41 = ab_up g40 171 x38 x37 → ((0 : Int) ≤ 14 + (2 * x4) + x6 - 1 ∧ (14 + (2 * x4) + x6 - 1 : Int) < 28) ∧ ((0 : Int) ≤ 14 + (2 * x4) + x6 - 1 ∧ (14 + (2 * x4) + x6 - 1 : Int) < 28) ∧ ∀ g42, g42 = ab_up g41 168 (14 + (2 * x4) + x6 - 1) (g41 168 (14 + (2 * x4) + x6 - 1) + 1) → P g42 r))) ∧ (¬ wr (g36 161 22) = wr 0 → P g36 r))))))))))) ∧ (wr (g5 168 (14 + (2 * x4) + x6 - 1)) = wr 4 → ∀ g43, g43 = ab_up g5 161 22 2 → ∀ g44, g44 = ab_up g43 161 23 (g3 161 19) → ab_RI m_M_wordOf [(2, 161), (0, 8), (0, 11)] K S g44 r (fun x46 g45 r' => r' = r ∧ (ab_RI m_M_numeral [(2, 161), (0, 1), (0, 3)] K S g45 r (fun x48 g47 r' => r' = r ∧ (((¬ wr x46 = wr 11 → ab_RI m_M_numeral [(2, 161), (0, 0), (0, 999)] K S g47 r (fun x50 g49 r' => r' = r ∧ (((wr (g49 161 22) = wr 0 → ((0 : Int) ≤ 14 + (2 * x4) + x6 - 1 ∧ (14 + (2 * x4) + x6 - 1 : Int) < 28) ∧ ab_RI m_M_stepAt [(0, 1), (0, x4), (0, x6), (0, g49 168 (14 + (2 * x4) + x6 - 1))] K S g49 r (fun x51 g' r' => g' = g49 ∧ r' = r ∧ (((0 : Int) ≤ x51 ∧ (x51 : Int) < 112) ∧ ∀ g52, g52 = ab_up g49 169 x51 x46 → ((0 : Int) ≤ x51 ∧ (x51 : Int) < 112) ∧ ∀ g53, g53 = ab_up g52 170 x51 x48 → ((0 : Int) ≤ x51 ∧ (x51 : Int) < 112) ∧ ∀ g54, g54 = ab_up g53 171 x51 x50 → ((0 : Int) ≤ 14 + (2 * x4) + x6 - 1 ∧ (14 + (2 * x4) + x6 - 1 : Int) < 28) ∧ ((0 : Int) ≤ 14 + (2 * x4) + x6 - 1 ∧ (14 + (2 * x4) + x6 - 1 : Int) < 28) ∧ ∀ g55, g55 = ab_up g54 168 (14 + (2 * x4) + x6 - 1) (g54 168 (14 + (2 * x4) + x6 - 1) + 1) → P g55 r))) ∧ (¬ wr (g49 161 22) = wr 0 → P g49 r))))) ∧ (wr x46 = wr 11 → ab_RI m_M_numeral [(2, 161), (0, 1), (0, 3)] K S g47 r (fun x57 g56 r' => r' = r ∧ (((wr (g56 161 22) = wr 0 → ((0 : Int) ≤ 14 + (2 * x4) + x6 - 1 ∧ (14 + (2 * x4) + x6 - 1 : Int) < 28) ∧ ab_RI m_M_stepAt [(0, 1), (0, x4), (0, x6), (0, g56 168 (14 + (2 * x4) + x6 - 1))] K S g56 r (fun x58 g' r' => g' = g56 ∧ r' = r ∧ (((0 : Int) ≤ x58 ∧ (x58 : Int) < 112) ∧ ∀ g59, g59 = ab_up g56 169 x58 x46 → ((0 : Int) ≤ x58 ∧ (x58 : Int) < 112) ∧ ∀ g60, g60 = ab_up g59 170 x58 x48 → ((0 : Int) ≤ x58 ∧ (x58 : Int) < 112) ∧ ∀ g61, g61 = ab_up g60 171 x58 x57 → ((0 : Int) ≤ 14 + (2 * x4) + x6 - 1 ∧ (14 + (2 * x4) + x6 - 1 : Int) < 28) ∧ ((0 : Int) ≤ 14 + (2 * x4) + x6 - 1 ∧ (14 + (2 * x4) + x6 - 1 : Int) < 28) ∧ ∀ g62, g62 = ab_up g61 168 (14 + (2 * x4) + x6 - 1) (g61 168 (14 + (2 * x4) + x6 - 1) + 1) → P g62 r))) ∧ (¬ wr (g56 161 22) = wr 0 → P g56 r))))))))))))))))))))) : ab_RV m_M_readLift [(2, 161)] K S g r P := by
  show ab_Rn m_M_readLift 0 [some (2, 161), none, none, none, none, none, none, none, none] [] (K, S, g, r) (ab_Qv K S P)
  refine Rn_pure 1 (i' := 1) (L' := [some (2, 161), none, none, none, none, none, none, none, none]) (st' := [(2, 161)]) rfl ?_
  refine Rn_callV [(2, 161)] [] rfl rfl rfl rfl (ab_rvB_of rfl (⟨rfl, (by omega : (0 : Int) ≤ 161), (by omega : (161 : Int) + 1 < K ∧ 5 < K)⟩)) ?_
  refine h.mono (fun g1 r' h => ?_)
  obtain ⟨hx, h⟩ := h
  replace hx := hx.symm
  subst hx
  refine Rn_pure 3 (i' := 5) (L' := [some (2, 161), none, none, none, none, none, none, none, none]) (st' := [(0, 6), (0, 0), (2, 161)]) rfl ?_
  refine Rn_callI [(2, 161), (0, 0), (0, 6)] [] rfl rfl rfl rfl (ab_rvB_of rfl (⟨rfl, (by omega : (0 : Int) ≤ 161), (by omega : (161 : Int) + 1 < K ∧ 5 < K)⟩)) ?_
  refine h.mono (fun x4 g3 r' h => ?_)
  obtain ⟨hx, h⟩ := h
  replace hx := hx.symm
  subst hx
  refine Rn_pure 2 (i' := 8) (L' := [some (2, 161), some (0, x4), none, none, none, none, none, none, none]) (st' := [(2, 161)]) rfl ?_
  refine Rn_getI rfl (⟨rfl, (by omega : (0 : Int) ≤ 161), (by omega : (161 : Int) + 1 < K ∧ 5 < K)⟩) ?_
  refine Rn_pure 4 (i' := 13) (L' := [some (2, 161), some (0, x4), some (0, g3 161 19), none, none, none, none, none, none]) (st' := [(0, 2), (0, 1), (2, 161)]) rfl ?_
  refine Rn_callI [(2, 161), (0, 1), (0, 2)] [] rfl rfl rfl rfl (ab_rvB_of rfl (⟨rfl, (by omega : (0 : Int) ≤ 161), (by omega : (161 : Int) + 1 < K ∧ 5 < K)⟩)) ?_
  refine h.mono (fun x6 g5 r' h => ?_)
  obtain ⟨hx, h⟩ := h
  replace hx := hx.symm
  subst hx
  refine Rn_pure 12 (i' := 26) (L' := [some (2, 161), some (0, x4), some (0, g3 161 19), some (0, x6), some (0, 14 + (2 * x4) + x6 - 1), none, none, none, none]) (st' := [(2, 161)]) rfl ?_
  refine Rn_getI rfl (⟨rfl, (by omega : (0 : Int) ≤ 161), (by omega : (161 : Int) + 1 < K ∧ 5 < K)⟩) ?_
  refine Rn_ifne rfl (fun hc => ?_) (fun hc => ?_)
  · have h := h.1 hc
    refine Rn_pure 3 (i' := 43) (L' := [some (2, 161), some (0, x4), some (0, g3 161 19), some (0, x6), some (0, 14 + (2 * x4) + x6 - 1), none, none, none, none]) (st' := [(0, 11), (0, 8), (2, 161)]) rfl ?_
    refine Rn_callI [(2, 161), (0, 8), (0, 11)] [] rfl rfl rfl rfl (ab_rvB_of rfl (⟨rfl, (by omega : (0 : Int) ≤ 161), (by omega : (161 : Int) + 1 < K ∧ 5 < K)⟩)) ?_
    refine h.mono (fun x8 g7 r' h => ?_)
    obtain ⟨hx, h⟩ := h
    replace hx := hx.symm
    subst hx
    refine Rn_pure 4 (i' := 48) (L' := [some (2, 161), some (0, x4), some (0, g3 161 19), some (0, x6), some (0, 14 + (2 * x4) + x6 - 1), some (0, x8), none, none, none]) (st' := [(0, 3), (0, 1), (2, 161)]) rfl ?_
    refine Rn_callI [(2, 161), (0, 1), (0, 3)] [] rfl rfl rfl rfl (ab_rvB_of rfl (⟨rfl, (by omega : (0 : Int) ≤ 161), (by omega : (161 : Int) + 1 < K ∧ 5 < K)⟩)) ?_
    refine h.mono (fun x10 g9 r' h => ?_)
    obtain ⟨hx, h⟩ := h
    replace hx := hx.symm
    subst hx
    refine Rn_pure 3 (i' := 52) (L' := [some (2, 161), some (0, x4), some (0, g3 161 19), some (0, x6), some (0, 14 + (2 * x4) + x6 - 1), some (0, x8), some (0, x10), none, none]) (st' := [(0, 11), (0, x8)]) rfl ?_
    refine Rn_icne rfl (fun hc => ?_) (fun hc => ?_)
    · have h := h.1 hc
      refine Rn_pure 3 (i' := 61) (L' := [some (2, 161), some (0, x4), some (0, g3 161 19), some (0, x6), some (0, 14 + (2 * x4) + x6 - 1), some (0, x8), some (0, x10), none, none]) (st' := [(0, 999), (0, 0), (2, 161)]) rfl ?_
      refine Rn_callI [(2, 161), (0, 0), (0, 999)] [] rfl rfl rfl rfl (ab_rvB_of rfl (⟨rfl, (by omega : (0 : Int) ≤ 161), (by omega : (161 : Int) + 1 < K ∧ 5 < K)⟩)) ?_
      refine h.mono (fun x12 g11 r' h => ?_)
      obtain ⟨hx, h⟩ := h
      replace hx := hx.symm
      subst hx
      refine Rn_pure 2 (i' := 64) (L' := [some (2, 161), some (0, x4), some (0, g3 161 19), some (0, x6), some (0, 14 + (2 * x4) + x6 - 1), some (0, x8), some (0, x10), some (0, x12), none]) (st' := [(2, 161)]) rfl ?_
      refine Rn_getI rfl (⟨rfl, (by omega : (0 : Int) ≤ 161), (by omega : (161 : Int) + 1 < K ∧ 5 < K)⟩) ?_
      refine Rn_ifeq rfl (fun hc => ?_) (fun hc => ?_)
      · have h := h.1 hc
        refine Rn_pure 4 (i' := 71) (L' := [some (2, 161), some (0, x4), some (0, g3 161 19), some (0, x6), some (0, 14 + (2 * x4) + x6 - 1), some (0, x8), some (0, x10), some (0, x12), none]) (st' := [(2, 161), (0, x6), (0, x4), (0, 1)]) rfl ?_
        refine Rn_getR rfl (⟨rfl, (by omega : (0 : Int) ≤ 161), (by omega : (161 : Int) + 1 < K ∧ 5 < K)⟩) (hr 143 _ rfl) (by decide) ?_
        refine Rn_pure 1 (i' := 73) (L' := [some (2, 161), some (0, x4), some (0, g3 161 19), some (0, x6), some (0, 14 + (2 * x4) + x6 - 1), some (0, x8), some (0, x10), some (0, x12), none]) (st' := [(0, 14 + (2 * x4) + x6 - 1), (2, 168), (0, x6), (0, x4), (0, 1)]) rfl ?_
        obtain ⟨hg, h⟩ := h
        refine Rn_iald rfl (⟨rfl, (by omega : (0 : Int) ≤ 168), (by omega : (168 : Int) + 1 < K ∧ 5 < K)⟩) hg ?_
        refine Rn_callI [(0, 1), (0, x4), (0, x6), (0, g11 168 (14 + (2 * x4) + x6 - 1))] [] rfl rfl rfl rfl (rfl) ?_
        refine h.mono (fun x13 g' r' h => ?_)
        obtain ⟨hx, h⟩ := h
        replace hx := hx.symm
        subst hx
        obtain ⟨hx, h⟩ := h
        replace hx := hx.symm
        subst hx
        refine Rn_pure 2 (i' := 77) (L' := [some (2, 161), some (0, x4), some (0, g3 161 19), some (0, x6), some (0, 14 + (2 * x4) + x6 - 1), some (0, x8), some (0, x10), some (0, x12), some (0, x13)]) (st' := [(2, 161)]) rfl ?_
        refine Rn_getR rfl (⟨rfl, (by omega : (0 : Int) ≤ 161), (by omega : (161 : Int) + 1 < K ∧ 5 < K)⟩) (hr 144 _ rfl) (by decide) ?_
        refine Rn_pure 2 (i' := 80) (L' := [some (2, 161), some (0, x4), some (0, g3 161 19), some (0, x6), some (0, 14 + (2 * x4) + x6 - 1), some (0, x8), some (0, x10), some (0, x12), some (0, x13)]) (st' := [(0, x8), (0, x13), (2, 169)]) rfl ?_
        obtain ⟨hg, h⟩ := h
        refine Rn_iast rfl (⟨rfl, (by omega : (0 : Int) ≤ 169), (by omega : (169 : Int) + 1 < K ∧ 5 < K)⟩) hg (fun g14 he_g14 => ?_)
        have h := h g14 he_g14
        refine Rn_pure 1 (i' := 82) (L' := [some (2, 161), some (0, x4), some (0, g3 161 19), some (0, x6), some (0, 14 + (2 * x4) + x6 - 1), some (0, x8), some (0, x10), some (0, x12), some (0, x13)]) (st' := [(2, 161)]) rfl ?_
        refine Rn_getR rfl (⟨rfl, (by omega : (0 : Int) ≤ 161), (by omega : (161 : Int) + 1 < K ∧ 5 < K)⟩) (hr 145 _ rfl) (by decide) ?_
        refine Rn_pure 2 (i' := 85) (L' := [some (2, 161), some (0, x4), some (0, g3 161 19), some (0, x6), some (0, 14 + (2 * x4) + x6 - 1), some (0, x8), some (0, x10), some (0, x12), some (0, x13)]) (st' := [(0, x10), (0, x13), (2, 170)]) rfl ?_
        obtain ⟨hg, h⟩ := h
        refine Rn_iast rfl (⟨rfl, (by omega : (0 : Int) ≤ 170), (by omega : (170 : Int) + 1 < K ∧ 5 < K)⟩) hg (fun g15 he_g15 => ?_)
        have h := h g15 he_g15
        refine Rn_pure 1 (i' := 87) (L' := [some (2, 161), some (0, x4), some (0, g3 161 19), some (0, x6), some (0, 14 + (2 * x4) + x6 - 1), some (0, x8), some (0, x10), some (0, x12), some (0, x13)]) (st' := [(2, 161)]) rfl ?_
        refine Rn_getR rfl (⟨rfl, (by omega : (0 : Int) ≤ 161), (by omega : (161 : Int) + 1 < K ∧ 5 < K)⟩) (hr 146 _ rfl) (by decide) ?_
        refine Rn_pure 2 (i' := 90) (L' := [some (2, 161), some (0, x4), some (0, g3 161 19), some (0, x6), some (0, 14 + (2 * x4) + x6 - 1), some (0, x8), some (0, x10), some (0, x12), some (0, x13)]) (st' := [(0, x12), (0, x13), (2, 171)]) rfl ?_
        obtain ⟨hg, h⟩ := h
        refine Rn_iast rfl (⟨rfl, (by omega : (0 : Int) ≤ 171), (by omega : (171 : Int) + 1 < K ∧ 5 < K)⟩) hg (fun g16 he_g16 => ?_)
        have h := h g16 he_g16
        refine Rn_pure 1 (i' := 92) (L' := [some (2, 161), some (0, x4), some (0, g3 161 19), some (0, x6), some (0, 14 + (2 * x4) + x6 - 1), some (0, x8), some (0, x10), some (0, x12), some (0, x13)]) (st' := [(2, 161)]) rfl ?_
        refine Rn_getR rfl (⟨rfl, (by omega : (0 : Int) ≤ 161), (by omega : (161 : Int) + 1 < K ∧ 5 < K)⟩) (hr 143 _ rfl) (by decide) ?_
        refine Rn_pure 2 (i' := 95) (L' := [some (2, 161), some (0, x4), some (0, g3 161 19), some (0, x6), some (0, 14 + (2 * x4) + x6 - 1), some (0, x8), some (0, x10), some (0, x12), some (0, x13)]) (st' := [(0, 14 + (2 * x4) + x6 - 1), (2, 168), (0, 14 + (2 * x4) + x6 - 1), (2, 168)]) rfl ?_
        obtain ⟨hg, h⟩ := h
        refine Rn_iald rfl (⟨rfl, (by omega : (0 : Int) ≤ 168), (by omega : (168 : Int) + 1 < K ∧ 5 < K)⟩) hg ?_
        refine Rn_pure 2 (i' := 98) (L' := [some (2, 161), some (0, x4), some (0, g3 161 19), some (0, x6), some (0, 14 + (2 * x4) + x6 - 1), some (0, x8), some (0, x10), some (0, x12), some (0, x13)]) (st' := [(0, g16 168 (14 + (2 * x4) + x6 - 1) + 1), (0, 14 + (2 * x4) + x6 - 1), (2, 168)]) rfl ?_
        obtain ⟨hg, h⟩ := h
        refine Rn_iast rfl (⟨rfl, (by omega : (0 : Int) ≤ 168), (by omega : (168 : Int) + 1 < K ∧ 5 < K)⟩) hg (fun g17 he_g17 => ?_)
        have h := h g17 he_g17
        exact Rn_ret0 rfl h
      · have h := h.2 hc
        exact Rn_ret0 rfl h
    · have h := h.2 hc
      refine Rn_pure 3 (i' := 56) (L' := [some (2, 161), some (0, x4), some (0, g3 161 19), some (0, x6), some (0, 14 + (2 * x4) + x6 - 1), some (0, x8), some (0, x10), none, none]) (st' := [(0, 3), (0, 1), (2, 161)]) rfl ?_
      refine Rn_callI [(2, 161), (0, 1), (0, 3)] [] rfl rfl rfl rfl (ab_rvB_of rfl (⟨rfl, (by omega : (0 : Int) ≤ 161), (by omega : (161 : Int) + 1 < K ∧ 5 < K)⟩)) ?_
      refine h.mono (fun x19 g18 r' h => ?_)
      obtain ⟨hx, h⟩ := h
      replace hx := hx.symm
      subst hx
      refine Rn_pure 3 (i' := 64) (L' := [some (2, 161), some (0, x4), some (0, g3 161 19), some (0, x6), some (0, 14 + (2 * x4) + x6 - 1), some (0, x8), some (0, x10), some (0, x19), none]) (st' := [(2, 161)]) rfl ?_
      refine Rn_getI rfl (⟨rfl, (by omega : (0 : Int) ≤ 161), (by omega : (161 : Int) + 1 < K ∧ 5 < K)⟩) ?_
      refine Rn_ifeq rfl (fun hc => ?_) (fun hc => ?_)
      · have h := h.1 hc
        refine Rn_pure 4 (i' := 71) (L' := [some (2, 161), some (0, x4), some (0, g3 161 19), some (0, x6), some (0, 14 + (2 * x4) + x6 - 1), some (0, x8), some (0, x10), some (0, x19), none]) (st' := [(2, 161), (0, x6), (0, x4), (0, 1)]) rfl ?_
        refine Rn_getR rfl (⟨rfl, (by omega : (0 : Int) ≤ 161), (by omega : (161 : Int) + 1 < K ∧ 5 < K)⟩) (hr 143 _ rfl) (by decide) ?_
        refine Rn_pure 1 (i' := 73) (L' := [some (2, 161), some (0, x4), some (0, g3 161 19), some (0, x6), some (0, 14 + (2 * x4) + x6 - 1), some (0, x8), some (0, x10), some (0, x19), none]) (st' := [(0, 14 + (2 * x4) + x6 - 1), (2, 168), (0, x6), (0, x4), (0, 1)]) rfl ?_
        obtain ⟨hg, h⟩ := h
        refine Rn_iald rfl (⟨rfl, (by omega : (0 : Int) ≤ 168), (by omega : (168 : Int) + 1 < K ∧ 5 < K)⟩) hg ?_
        refine Rn_callI [(0, 1), (0, x4), (0, x6), (0, g18 168 (14 + (2 * x4) + x6 - 1))] [] rfl rfl rfl rfl (rfl) ?_
        refine h.mono (fun x20 g' r' h => ?_)
        obtain ⟨hx, h⟩ := h
        replace hx := hx.symm
        subst hx
        obtain ⟨hx, h⟩ := h
        replace hx := hx.symm
        subst hx
        refine Rn_pure 2 (i' := 77) (L' := [some (2, 161), some (0, x4), some (0, g3 161 19), some (0, x6), some (0, 14 + (2 * x4) + x6 - 1), some (0, x8), some (0, x10), some (0, x19), some (0, x20)]) (st' := [(2, 161)]) rfl ?_
        refine Rn_getR rfl (⟨rfl, (by omega : (0 : Int) ≤ 161), (by omega : (161 : Int) + 1 < K ∧ 5 < K)⟩) (hr 144 _ rfl) (by decide) ?_
        refine Rn_pure 2 (i' := 80) (L' := [some (2, 161), some (0, x4), some (0, g3 161 19), some (0, x6), some (0, 14 + (2 * x4) + x6 - 1), some (0, x8), some (0, x10), some (0, x19), some (0, x20)]) (st' := [(0, x8), (0, x20), (2, 169)]) rfl ?_
        obtain ⟨hg, h⟩ := h
        refine Rn_iast rfl (⟨rfl, (by omega : (0 : Int) ≤ 169), (by omega : (169 : Int) + 1 < K ∧ 5 < K)⟩) hg (fun g21 he_g21 => ?_)
        have h := h g21 he_g21
        refine Rn_pure 1 (i' := 82) (L' := [some (2, 161), some (0, x4), some (0, g3 161 19), some (0, x6), some (0, 14 + (2 * x4) + x6 - 1), some (0, x8), some (0, x10), some (0, x19), some (0, x20)]) (st' := [(2, 161)]) rfl ?_
        refine Rn_getR rfl (⟨rfl, (by omega : (0 : Int) ≤ 161), (by omega : (161 : Int) + 1 < K ∧ 5 < K)⟩) (hr 145 _ rfl) (by decide) ?_
        refine Rn_pure 2 (i' := 85) (L' := [some (2, 161), some (0, x4), some (0, g3 161 19), some (0, x6), some (0, 14 + (2 * x4) + x6 - 1), some (0, x8), some (0, x10), some (0, x19), some (0, x20)]) (st' := [(0, x10), (0, x20), (2, 170)]) rfl ?_
        obtain ⟨hg, h⟩ := h
        refine Rn_iast rfl (⟨rfl, (by omega : (0 : Int) ≤ 170), (by omega : (170 : Int) + 1 < K ∧ 5 < K)⟩) hg (fun g22 he_g22 => ?_)
        have h := h g22 he_g22
        refine Rn_pure 1 (i' := 87) (L' := [some (2, 161), some (0, x4), some (0, g3 161 19), some (0, x6), some (0, 14 + (2 * x4) + x6 - 1), some (0, x8), some (0, x10), some (0, x19), some (0, x20)]) (st' := [(2, 161)]) rfl ?_
        refine Rn_getR rfl (⟨rfl, (by omega : (0 : Int) ≤ 161), (by omega : (161 : Int) + 1 < K ∧ 5 < K)⟩) (hr 146 _ rfl) (by decide) ?_
        refine Rn_pure 2 (i' := 90) (L' := [some (2, 161), some (0, x4), some (0, g3 161 19), some (0, x6), some (0, 14 + (2 * x4) + x6 - 1), some (0, x8), some (0, x10), some (0, x19), some (0, x20)]) (st' := [(0, x19), (0, x20), (2, 171)]) rfl ?_
        obtain ⟨hg, h⟩ := h
        refine Rn_iast rfl (⟨rfl, (by omega : (0 : Int) ≤ 171), (by omega : (171 : Int) + 1 < K ∧ 5 < K)⟩) hg (fun g23 he_g23 => ?_)
        have h := h g23 he_g23
        refine Rn_pure 1 (i' := 92) (L' := [some (2, 161), some (0, x4), some (0, g3 161 19), some (0, x6), some (0, 14 + (2 * x4) + x6 - 1), some (0, x8), some (0, x10), some (0, x19), some (0, x20)]) (st' := [(2, 161)]) rfl ?_
        refine Rn_getR rfl (⟨rfl, (by omega : (0 : Int) ≤ 161), (by omega : (161 : Int) + 1 < K ∧ 5 < K)⟩) (hr 143 _ rfl) (by decide) ?_
        refine Rn_pure 2 (i' := 95) (L' := [some (2, 161), some (0, x4), some (0, g3 161 19), some (0, x6), some (0, 14 + (2 * x4) + x6 - 1), some (0, x8), some (0, x10), some (0, x19), some (0, x20)]) (st' := [(0, 14 + (2 * x4) + x6 - 1), (2, 168), (0, 14 + (2 * x4) + x6 - 1), (2, 168)]) rfl ?_
        obtain ⟨hg, h⟩ := h
        refine Rn_iald rfl (⟨rfl, (by omega : (0 : Int) ≤ 168), (by omega : (168 : Int) + 1 < K ∧ 5 < K)⟩) hg ?_
        refine Rn_pure 2 (i' := 98) (L' := [some (2, 161), some (0, x4), some (0, g3 161 19), some (0, x6), some (0, 14 + (2 * x4) + x6 - 1), some (0, x8), some (0, x10), some (0, x19), some (0, x20)]) (st' := [(0, g23 168 (14 + (2 * x4) + x6 - 1) + 1), (0, 14 + (2 * x4) + x6 - 1), (2, 168)]) rfl ?_
        obtain ⟨hg, h⟩ := h
        refine Rn_iast rfl (⟨rfl, (by omega : (0 : Int) ≤ 168), (by omega : (168 : Int) + 1 < K ∧ 5 < K)⟩) hg (fun g24 he_g24 => ?_)
        have h := h g24 he_g24
        exact Rn_ret0 rfl h
      · have h := h.2 hc
        exact Rn_ret0 rfl h
  · have h := h.2 hc
    refine Rn_pure 1 (i' := 29) (L' := [some (2, 161), some (0, x4), some (0, g3 161 19), some (0, x6), some (0, 14 + (2 * x4) + x6 - 1), none, none, none, none]) (st' := [(2, 161)]) rfl ?_
    refine Rn_getR rfl (⟨rfl, (by omega : (0 : Int) ≤ 161), (by omega : (161 : Int) + 1 < K ∧ 5 < K)⟩) (hr 143 _ rfl) (by decide) ?_
    refine Rn_pure 1 (i' := 31) (L' := [some (2, 161), some (0, x4), some (0, g3 161 19), some (0, x6), some (0, 14 + (2 * x4) + x6 - 1), none, none, none, none]) (st' := [(0, 14 + (2 * x4) + x6 - 1), (2, 168)]) rfl ?_
    obtain ⟨hg, h⟩ := h
    refine Rn_iald rfl (⟨rfl, (by omega : (0 : Int) ≤ 168), (by omega : (168 : Int) + 1 < K ∧ 5 < K)⟩) hg ?_
    refine Rn_pure 1 (i' := 33) (L' := [some (2, 161), some (0, x4), some (0, g3 161 19), some (0, x6), some (0, 14 + (2 * x4) + x6 - 1), none, none, none, none]) (st' := [(0, 4), (0, g5 168 (14 + (2 * x4) + x6 - 1))]) rfl ?_
    refine Rn_icne rfl (fun hc => ?_) (fun hc => ?_)
    · have h := h.1 hc
      refine Rn_pure 3 (i' := 43) (L' := [some (2, 161), some (0, x4), some (0, g3 161 19), some (0, x6), some (0, 14 + (2 * x4) + x6 - 1), none, none, none, none]) (st' := [(0, 11), (0, 8), (2, 161)]) rfl ?_
      refine Rn_callI [(2, 161), (0, 8), (0, 11)] [] rfl rfl rfl rfl (ab_rvB_of rfl (⟨rfl, (by omega : (0 : Int) ≤ 161), (by omega : (161 : Int) + 1 < K ∧ 5 < K)⟩)) ?_
      refine h.mono (fun x26 g25 r' h => ?_)
      obtain ⟨hx, h⟩ := h
      replace hx := hx.symm
      subst hx
      refine Rn_pure 4 (i' := 48) (L' := [some (2, 161), some (0, x4), some (0, g3 161 19), some (0, x6), some (0, 14 + (2 * x4) + x6 - 1), some (0, x26), none, none, none]) (st' := [(0, 3), (0, 1), (2, 161)]) rfl ?_
      refine Rn_callI [(2, 161), (0, 1), (0, 3)] [] rfl rfl rfl rfl (ab_rvB_of rfl (⟨rfl, (by omega : (0 : Int) ≤ 161), (by omega : (161 : Int) + 1 < K ∧ 5 < K)⟩)) ?_
      refine h.mono (fun x28 g27 r' h => ?_)
      obtain ⟨hx, h⟩ := h
      replace hx := hx.symm
      subst hx
      refine Rn_pure 3 (i' := 52) (L' := [some (2, 161), some (0, x4), some (0, g3 161 19), some (0, x6), some (0, 14 + (2 * x4) + x6 - 1), some (0, x26), some (0, x28), none, none]) (st' := [(0, 11), (0, x26)]) rfl ?_
      refine Rn_icne rfl (fun hc => ?_) (fun hc => ?_)
      · have h := h.1 hc
        refine Rn_pure 3 (i' := 61) (L' := [some (2, 161), some (0, x4), some (0, g3 161 19), some (0, x6), some (0, 14 + (2 * x4) + x6 - 1), some (0, x26), some (0, x28), none, none]) (st' := [(0, 999), (0, 0), (2, 161)]) rfl ?_
        refine Rn_callI [(2, 161), (0, 0), (0, 999)] [] rfl rfl rfl rfl (ab_rvB_of rfl (⟨rfl, (by omega : (0 : Int) ≤ 161), (by omega : (161 : Int) + 1 < K ∧ 5 < K)⟩)) ?_
        refine h.mono (fun x30 g29 r' h => ?_)
        obtain ⟨hx, h⟩ := h
        replace hx := hx.symm
        subst hx
        refine Rn_pure 2 (i' := 64) (L' := [some (2, 161), some (0, x4), some (0, g3 161 19), some (0, x6), some (0, 14 + (2 * x4) + x6 - 1), some (0, x26), some (0, x28), some (0, x30), none]) (st' := [(2, 161)]) rfl ?_
        refine Rn_getI rfl (⟨rfl, (by omega : (0 : Int) ≤ 161), (by omega : (161 : Int) + 1 < K ∧ 5 < K)⟩) ?_
        refine Rn_ifeq rfl (fun hc => ?_) (fun hc => ?_)
        · have h := h.1 hc
          refine Rn_pure 4 (i' := 71) (L' := [some (2, 161), some (0, x4), some (0, g3 161 19), some (0, x6), some (0, 14 + (2 * x4) + x6 - 1), some (0, x26), some (0, x28), some (0, x30), none]) (st' := [(2, 161), (0, x6), (0, x4), (0, 1)]) rfl ?_
          refine Rn_getR rfl (⟨rfl, (by omega : (0 : Int) ≤ 161), (by omega : (161 : Int) + 1 < K ∧ 5 < K)⟩) (hr 143 _ rfl) (by decide) ?_
          refine Rn_pure 1 (i' := 73) (L' := [some (2, 161), some (0, x4), some (0, g3 161 19), some (0, x6), some (0, 14 + (2 * x4) + x6 - 1), some (0, x26), some (0, x28), some (0, x30), none]) (st' := [(0, 14 + (2 * x4) + x6 - 1), (2, 168), (0, x6), (0, x4), (0, 1)]) rfl ?_
          obtain ⟨hg, h⟩ := h
          refine Rn_iald rfl (⟨rfl, (by omega : (0 : Int) ≤ 168), (by omega : (168 : Int) + 1 < K ∧ 5 < K)⟩) hg ?_
          refine Rn_callI [(0, 1), (0, x4), (0, x6), (0, g29 168 (14 + (2 * x4) + x6 - 1))] [] rfl rfl rfl rfl (rfl) ?_
          refine h.mono (fun x31 g' r' h => ?_)
          obtain ⟨hx, h⟩ := h
          replace hx := hx.symm
          subst hx
          obtain ⟨hx, h⟩ := h
          replace hx := hx.symm
          subst hx
          refine Rn_pure 2 (i' := 77) (L' := [some (2, 161), some (0, x4), some (0, g3 161 19), some (0, x6), some (0, 14 + (2 * x4) + x6 - 1), some (0, x26), some (0, x28), some (0, x30), some (0, x31)]) (st' := [(2, 161)]) rfl ?_
          refine Rn_getR rfl (⟨rfl, (by omega : (0 : Int) ≤ 161), (by omega : (161 : Int) + 1 < K ∧ 5 < K)⟩) (hr 144 _ rfl) (by decide) ?_
          refine Rn_pure 2 (i' := 80) (L' := [some (2, 161), some (0, x4), some (0, g3 161 19), some (0, x6), some (0, 14 + (2 * x4) + x6 - 1), some (0, x26), some (0, x28), some (0, x30), some (0, x31)]) (st' := [(0, x26), (0, x31), (2, 169)]) rfl ?_
          obtain ⟨hg, h⟩ := h
          refine Rn_iast rfl (⟨rfl, (by omega : (0 : Int) ≤ 169), (by omega : (169 : Int) + 1 < K ∧ 5 < K)⟩) hg (fun g32 he_g32 => ?_)
          have h := h g32 he_g32
          refine Rn_pure 1 (i' := 82) (L' := [some (2, 161), some (0, x4), some (0, g3 161 19), some (0, x6), some (0, 14 + (2 * x4) + x6 - 1), some (0, x26), some (0, x28), some (0, x30), some (0, x31)]) (st' := [(2, 161)]) rfl ?_
          refine Rn_getR rfl (⟨rfl, (by omega : (0 : Int) ≤ 161), (by omega : (161 : Int) + 1 < K ∧ 5 < K)⟩) (hr 145 _ rfl) (by decide) ?_
          refine Rn_pure 2 (i' := 85) (L' := [some (2, 161), some (0, x4), some (0, g3 161 19), some (0, x6), some (0, 14 + (2 * x4) + x6 - 1), some (0, x26), some (0, x28), some (0, x30), some (0, x31)]) (st' := [(0, x28), (0, x31), (2, 170)]) rfl ?_
          obtain ⟨hg, h⟩ := h
          refine Rn_iast rfl (⟨rfl, (by omega : (0 : Int) ≤ 170), (by omega : (170 : Int) + 1 < K ∧ 5 < K)⟩) hg (fun g33 he_g33 => ?_)
          have h := h g33 he_g33
          refine Rn_pure 1 (i' := 87) (L' := [some (2, 161), some (0, x4), some (0, g3 161 19), some (0, x6), some (0, 14 + (2 * x4) + x6 - 1), some (0, x26), some (0, x28), some (0, x30), some (0, x31)]) (st' := [(2, 161)]) rfl ?_
          refine Rn_getR rfl (⟨rfl, (by omega : (0 : Int) ≤ 161), (by omega : (161 : Int) + 1 < K ∧ 5 < K)⟩) (hr 146 _ rfl) (by decide) ?_
          refine Rn_pure 2 (i' := 90) (L' := [some (2, 161), some (0, x4), some (0, g3 161 19), some (0, x6), some (0, 14 + (2 * x4) + x6 - 1), some (0, x26), some (0, x28), some (0, x30), some (0, x31)]) (st' := [(0, x30), (0, x31), (2, 171)]) rfl ?_
          obtain ⟨hg, h⟩ := h
          refine Rn_iast rfl (⟨rfl, (by omega : (0 : Int) ≤ 171), (by omega : (171 : Int) + 1 < K ∧ 5 < K)⟩) hg (fun g34 he_g34 => ?_)
          have h := h g34 he_g34
          refine Rn_pure 1 (i' := 92) (L' := [some (2, 161), some (0, x4), some (0, g3 161 19), some (0, x6), some (0, 14 + (2 * x4) + x6 - 1), some (0, x26), some (0, x28), some (0, x30), some (0, x31)]) (st' := [(2, 161)]) rfl ?_
          refine Rn_getR rfl (⟨rfl, (by omega : (0 : Int) ≤ 161), (by omega : (161 : Int) + 1 < K ∧ 5 < K)⟩) (hr 143 _ rfl) (by decide) ?_
          refine Rn_pure 2 (i' := 95) (L' := [some (2, 161), some (0, x4), some (0, g3 161 19), some (0, x6), some (0, 14 + (2 * x4) + x6 - 1), some (0, x26), some (0, x28), some (0, x30), some (0, x31)]) (st' := [(0, 14 + (2 * x4) + x6 - 1), (2, 168), (0, 14 + (2 * x4) + x6 - 1), (2, 168)]) rfl ?_
          obtain ⟨hg, h⟩ := h
          refine Rn_iald rfl (⟨rfl, (by omega : (0 : Int) ≤ 168), (by omega : (168 : Int) + 1 < K ∧ 5 < K)⟩) hg ?_
          refine Rn_pure 2 (i' := 98) (L' := [some (2, 161), some (0, x4), some (0, g3 161 19), some (0, x6), some (0, 14 + (2 * x4) + x6 - 1), some (0, x26), some (0, x28), some (0, x30), some (0, x31)]) (st' := [(0, g34 168 (14 + (2 * x4) + x6 - 1) + 1), (0, 14 + (2 * x4) + x6 - 1), (2, 168)]) rfl ?_
          obtain ⟨hg, h⟩ := h
          refine Rn_iast rfl (⟨rfl, (by omega : (0 : Int) ≤ 168), (by omega : (168 : Int) + 1 < K ∧ 5 < K)⟩) hg (fun g35 he_g35 => ?_)
          have h := h g35 he_g35
          exact Rn_ret0 rfl h
        · have h := h.2 hc
          exact Rn_ret0 rfl h
      · have h := h.2 hc
        refine Rn_pure 3 (i' := 56) (L' := [some (2, 161), some (0, x4), some (0, g3 161 19), some (0, x6), some (0, 14 + (2 * x4) + x6 - 1), some (0, x26), some (0, x28), none, none]) (st' := [(0, 3), (0, 1), (2, 161)]) rfl ?_
        refine Rn_callI [(2, 161), (0, 1), (0, 3)] [] rfl rfl rfl rfl (ab_rvB_of rfl (⟨rfl, (by omega : (0 : Int) ≤ 161), (by omega : (161 : Int) + 1 < K ∧ 5 < K)⟩)) ?_
        refine h.mono (fun x37 g36 r' h => ?_)
        obtain ⟨hx, h⟩ := h
        replace hx := hx.symm
        subst hx
        refine Rn_pure 3 (i' := 64) (L' := [some (2, 161), some (0, x4), some (0, g3 161 19), some (0, x6), some (0, 14 + (2 * x4) + x6 - 1), some (0, x26), some (0, x28), some (0, x37), none]) (st' := [(2, 161)]) rfl ?_
        refine Rn_getI rfl (⟨rfl, (by omega : (0 : Int) ≤ 161), (by omega : (161 : Int) + 1 < K ∧ 5 < K)⟩) ?_
        refine Rn_ifeq rfl (fun hc => ?_) (fun hc => ?_)
        · have h := h.1 hc
          refine Rn_pure 4 (i' := 71) (L' := [some (2, 161), some (0, x4), some (0, g3 161 19), some (0, x6), some (0, 14 + (2 * x4) + x6 - 1), some (0, x26), some (0, x28), some (0, x37), none]) (st' := [(2, 161), (0, x6), (0, x4), (0, 1)]) rfl ?_
          refine Rn_getR rfl (⟨rfl, (by omega : (0 : Int) ≤ 161), (by omega : (161 : Int) + 1 < K ∧ 5 < K)⟩) (hr 143 _ rfl) (by decide) ?_
          refine Rn_pure 1 (i' := 73) (L' := [some (2, 161), some (0, x4), some (0, g3 161 19), some (0, x6), some (0, 14 + (2 * x4) + x6 - 1), some (0, x26), some (0, x28), some (0, x37), none]) (st' := [(0, 14 + (2 * x4) + x6 - 1), (2, 168), (0, x6), (0, x4), (0, 1)]) rfl ?_
          obtain ⟨hg, h⟩ := h
          refine Rn_iald rfl (⟨rfl, (by omega : (0 : Int) ≤ 168), (by omega : (168 : Int) + 1 < K ∧ 5 < K)⟩) hg ?_
          refine Rn_callI [(0, 1), (0, x4), (0, x6), (0, g36 168 (14 + (2 * x4) + x6 - 1))] [] rfl rfl rfl rfl (rfl) ?_
          refine h.mono (fun x38 g' r' h => ?_)
          obtain ⟨hx, h⟩ := h
          replace hx := hx.symm
          subst hx
          obtain ⟨hx, h⟩ := h
          replace hx := hx.symm
          subst hx
          refine Rn_pure 2 (i' := 77) (L' := [some (2, 161), some (0, x4), some (0, g3 161 19), some (0, x6), some (0, 14 + (2 * x4) + x6 - 1), some (0, x26), some (0, x28), some (0, x37), some (0, x38)]) (st' := [(2, 161)]) rfl ?_
          refine Rn_getR rfl (⟨rfl, (by omega : (0 : Int) ≤ 161), (by omega : (161 : Int) + 1 < K ∧ 5 < K)⟩) (hr 144 _ rfl) (by decide) ?_
          refine Rn_pure 2 (i' := 80) (L' := [some (2, 161), some (0, x4), some (0, g3 161 19), some (0, x6), some (0, 14 + (2 * x4) + x6 - 1), some (0, x26), some (0, x28), some (0, x37), some (0, x38)]) (st' := [(0, x26), (0, x38), (2, 169)]) rfl ?_
          obtain ⟨hg, h⟩ := h
          refine Rn_iast rfl (⟨rfl, (by omega : (0 : Int) ≤ 169), (by omega : (169 : Int) + 1 < K ∧ 5 < K)⟩) hg (fun g39 he_g39 => ?_)
          have h := h g39 he_g39
          refine Rn_pure 1 (i' := 82) (L' := [some (2, 161), some (0, x4), some (0, g3 161 19), some (0, x6), some (0, 14 + (2 * x4) + x6 - 1), some (0, x26), some (0, x28), some (0, x37), some (0, x38)]) (st' := [(2, 161)]) rfl ?_
          refine Rn_getR rfl (⟨rfl, (by omega : (0 : Int) ≤ 161), (by omega : (161 : Int) + 1 < K ∧ 5 < K)⟩) (hr 145 _ rfl) (by decide) ?_
          refine Rn_pure 2 (i' := 85) (L' := [some (2, 161), some (0, x4), some (0, g3 161 19), some (0, x6), some (0, 14 + (2 * x4) + x6 - 1), some (0, x26), some (0, x28), some (0, x37), some (0, x38)]) (st' := [(0, x28), (0, x38), (2, 170)]) rfl ?_
          obtain ⟨hg, h⟩ := h
          refine Rn_iast rfl (⟨rfl, (by omega : (0 : Int) ≤ 170), (by omega : (170 : Int) + 1 < K ∧ 5 < K)⟩) hg (fun g40 he_g40 => ?_)
          have h := h g40 he_g40
          refine Rn_pure 1 (i' := 87) (L' := [some (2, 161), some (0, x4), some (0, g3 161 19), some (0, x6), some (0, 14 + (2 * x4) + x6 - 1), some (0, x26), some (0, x28), some (0, x37), some (0, x38)]) (st' := [(2, 161)]) rfl ?_
          refine Rn_getR rfl (⟨rfl, (by omega : (0 : Int) ≤ 161), (by omega : (161 : Int) + 1 < K ∧ 5 < K)⟩) (hr 146 _ rfl) (by decide) ?_
          refine Rn_pure 2 (i' := 90) (L' := [some (2, 161), some (0, x4), some (0, g3 161 19), some (0, x6), some (0, 14 + (2 * x4) + x6 - 1), some (0, x26), some (0, x28), some (0, x37), some (0, x38)]) (st' := [(0, x37), (0, x38), (2, 171)]) rfl ?_
          obtain ⟨hg, h⟩ := h
          refine Rn_iast rfl (⟨rfl, (by omega : (0 : Int) ≤ 171), (by omega : (171 : Int) + 1 < K ∧ 5 < K)⟩) hg (fun g41 he_g41 => ?_)
          have h := h g41 he_g41
          refine Rn_pure 1 (i' := 92) (L' := [some (2, 161), some (0, x4), some (0, g3 161 19), some (0, x6), some (0, 14 + (2 * x4) + x6 - 1), some (0, x26), some (0, x28), some (0, x37), some (0, x38)]) (st' := [(2, 161)]) rfl ?_
          refine Rn_getR rfl (⟨rfl, (by omega : (0 : Int) ≤ 161), (by omega : (161 : Int) + 1 < K ∧ 5 < K)⟩) (hr 143 _ rfl) (by decide) ?_
          refine Rn_pure 2 (i' := 95) (L' := [some (2, 161), some (0, x4), some (0, g3 161 19), some (0, x6), some (0, 14 + (2 * x4) + x6 - 1), some (0, x26), some (0, x28), some (0, x37), some (0, x38)]) (st' := [(0, 14 + (2 * x4) + x6 - 1), (2, 168), (0, 14 + (2 * x4) + x6 - 1), (2, 168)]) rfl ?_
          obtain ⟨hg, h⟩ := h
          refine Rn_iald rfl (⟨rfl, (by omega : (0 : Int) ≤ 168), (by omega : (168 : Int) + 1 < K ∧ 5 < K)⟩) hg ?_
          refine Rn_pure 2 (i' := 98) (L' := [some (2, 161), some (0, x4), some (0, g3 161 19), some (0, x6), some (0, 14 + (2 * x4) + x6 - 1), some (0, x26), some (0, x28), some (0, x37), some (0, x38)]) (st' := [(0, g41 168 (14 + (2 * x4) + x6 - 1) + 1), (0, 14 + (2 * x4) + x6 - 1), (2, 168)]) rfl ?_
          obtain ⟨hg, h⟩ := h
          refine Rn_iast rfl (⟨rfl, (by omega : (0 : Int) ≤ 168), (by omega : (168 : Int) + 1 < K ∧ 5 < K)⟩) hg (fun g42 he_g42 => ?_)
          have h := h g42 he_g42
          exact Rn_ret0 rfl h
        · have h := h.2 hc
          exact Rn_ret0 rfl h
    · have h := h.2 hc
      refine Rn_pure 2 (i' := 36) (L' := [some (2, 161), some (0, x4), some (0, g3 161 19), some (0, x6), some (0, 14 + (2 * x4) + x6 - 1), none, none, none, none]) (st' := [(0, 2), (2, 161)]) rfl ?_
      refine Rn_putI rfl (⟨rfl, (by omega : (0 : Int) ≤ 161), (by omega : (161 : Int) + 1 < K ∧ 5 < K)⟩) (fun g43 he_g43 => ?_)
      have h := h g43 he_g43
      refine Rn_pure 2 (i' := 39) (L' := [some (2, 161), some (0, x4), some (0, g3 161 19), some (0, x6), some (0, 14 + (2 * x4) + x6 - 1), none, none, none, none]) (st' := [(0, g3 161 19), (2, 161)]) rfl ?_
      refine Rn_putI rfl (⟨rfl, (by omega : (0 : Int) ≤ 161), (by omega : (161 : Int) + 1 < K ∧ 5 < K)⟩) (fun g44 he_g44 => ?_)
      have h := h g44 he_g44
      refine Rn_pure 3 (i' := 43) (L' := [some (2, 161), some (0, x4), some (0, g3 161 19), some (0, x6), some (0, 14 + (2 * x4) + x6 - 1), none, none, none, none]) (st' := [(0, 11), (0, 8), (2, 161)]) rfl ?_
      refine Rn_callI [(2, 161), (0, 8), (0, 11)] [] rfl rfl rfl rfl (ab_rvB_of rfl (⟨rfl, (by omega : (0 : Int) ≤ 161), (by omega : (161 : Int) + 1 < K ∧ 5 < K)⟩)) ?_
      refine h.mono (fun x46 g45 r' h => ?_)
      obtain ⟨hx, h⟩ := h
      replace hx := hx.symm
      subst hx
      refine Rn_pure 4 (i' := 48) (L' := [some (2, 161), some (0, x4), some (0, g3 161 19), some (0, x6), some (0, 14 + (2 * x4) + x6 - 1), some (0, x46), none, none, none]) (st' := [(0, 3), (0, 1), (2, 161)]) rfl ?_
      refine Rn_callI [(2, 161), (0, 1), (0, 3)] [] rfl rfl rfl rfl (ab_rvB_of rfl (⟨rfl, (by omega : (0 : Int) ≤ 161), (by omega : (161 : Int) + 1 < K ∧ 5 < K)⟩)) ?_
      refine h.mono (fun x48 g47 r' h => ?_)
      obtain ⟨hx, h⟩ := h
      replace hx := hx.symm
      subst hx
      refine Rn_pure 3 (i' := 52) (L' := [some (2, 161), some (0, x4), some (0, g3 161 19), some (0, x6), some (0, 14 + (2 * x4) + x6 - 1), some (0, x46), some (0, x48), none, none]) (st' := [(0, 11), (0, x46)]) rfl ?_
      refine Rn_icne rfl (fun hc => ?_) (fun hc => ?_)
      · have h := h.1 hc
        refine Rn_pure 3 (i' := 61) (L' := [some (2, 161), some (0, x4), some (0, g3 161 19), some (0, x6), some (0, 14 + (2 * x4) + x6 - 1), some (0, x46), some (0, x48), none, none]) (st' := [(0, 999), (0, 0), (2, 161)]) rfl ?_
        refine Rn_callI [(2, 161), (0, 0), (0, 999)] [] rfl rfl rfl rfl (ab_rvB_of rfl (⟨rfl, (by omega : (0 : Int) ≤ 161), (by omega : (161 : Int) + 1 < K ∧ 5 < K)⟩)) ?_
        refine h.mono (fun x50 g49 r' h => ?_)
        obtain ⟨hx, h⟩ := h
        replace hx := hx.symm
        subst hx
        refine Rn_pure 2 (i' := 64) (L' := [some (2, 161), some (0, x4), some (0, g3 161 19), some (0, x6), some (0, 14 + (2 * x4) + x6 - 1), some (0, x46), some (0, x48), some (0, x50), none]) (st' := [(2, 161)]) rfl ?_
        refine Rn_getI rfl (⟨rfl, (by omega : (0 : Int) ≤ 161), (by omega : (161 : Int) + 1 < K ∧ 5 < K)⟩) ?_
        refine Rn_ifeq rfl (fun hc => ?_) (fun hc => ?_)
        · have h := h.1 hc
          refine Rn_pure 4 (i' := 71) (L' := [some (2, 161), some (0, x4), some (0, g3 161 19), some (0, x6), some (0, 14 + (2 * x4) + x6 - 1), some (0, x46), some (0, x48), some (0, x50), none]) (st' := [(2, 161), (0, x6), (0, x4), (0, 1)]) rfl ?_
          refine Rn_getR rfl (⟨rfl, (by omega : (0 : Int) ≤ 161), (by omega : (161 : Int) + 1 < K ∧ 5 < K)⟩) (hr 143 _ rfl) (by decide) ?_
          refine Rn_pure 1 (i' := 73) (L' := [some (2, 161), some (0, x4), some (0, g3 161 19), some (0, x6), some (0, 14 + (2 * x4) + x6 - 1), some (0, x46), some (0, x48), some (0, x50), none]) (st' := [(0, 14 + (2 * x4) + x6 - 1), (2, 168), (0, x6), (0, x4), (0, 1)]) rfl ?_
          obtain ⟨hg, h⟩ := h
          refine Rn_iald rfl (⟨rfl, (by omega : (0 : Int) ≤ 168), (by omega : (168 : Int) + 1 < K ∧ 5 < K)⟩) hg ?_
          refine Rn_callI [(0, 1), (0, x4), (0, x6), (0, g49 168 (14 + (2 * x4) + x6 - 1))] [] rfl rfl rfl rfl (rfl) ?_
          refine h.mono (fun x51 g' r' h => ?_)
          obtain ⟨hx, h⟩ := h
          replace hx := hx.symm
          subst hx
          obtain ⟨hx, h⟩ := h
          replace hx := hx.symm
          subst hx
          refine Rn_pure 2 (i' := 77) (L' := [some (2, 161), some (0, x4), some (0, g3 161 19), some (0, x6), some (0, 14 + (2 * x4) + x6 - 1), some (0, x46), some (0, x48), some (0, x50), some (0, x51)]) (st' := [(2, 161)]) rfl ?_
          refine Rn_getR rfl (⟨rfl, (by omega : (0 : Int) ≤ 161), (by omega : (161 : Int) + 1 < K ∧ 5 < K)⟩) (hr 144 _ rfl) (by decide) ?_
          refine Rn_pure 2 (i' := 80) (L' := [some (2, 161), some (0, x4), some (0, g3 161 19), some (0, x6), some (0, 14 + (2 * x4) + x6 - 1), some (0, x46), some (0, x48), some (0, x50), some (0, x51)]) (st' := [(0, x46), (0, x51), (2, 169)]) rfl ?_
          obtain ⟨hg, h⟩ := h
          refine Rn_iast rfl (⟨rfl, (by omega : (0 : Int) ≤ 169), (by omega : (169 : Int) + 1 < K ∧ 5 < K)⟩) hg (fun g52 he_g52 => ?_)
          have h := h g52 he_g52
          refine Rn_pure 1 (i' := 82) (L' := [some (2, 161), some (0, x4), some (0, g3 161 19), some (0, x6), some (0, 14 + (2 * x4) + x6 - 1), some (0, x46), some (0, x48), some (0, x50), some (0, x51)]) (st' := [(2, 161)]) rfl ?_
          refine Rn_getR rfl (⟨rfl, (by omega : (0 : Int) ≤ 161), (by omega : (161 : Int) + 1 < K ∧ 5 < K)⟩) (hr 145 _ rfl) (by decide) ?_
          refine Rn_pure 2 (i' := 85) (L' := [some (2, 161), some (0, x4), some (0, g3 161 19), some (0, x6), some (0, 14 + (2 * x4) + x6 - 1), some (0, x46), some (0, x48), some (0, x50), some (0, x51)]) (st' := [(0, x48), (0, x51), (2, 170)]) rfl ?_
          obtain ⟨hg, h⟩ := h
          refine Rn_iast rfl (⟨rfl, (by omega : (0 : Int) ≤ 170), (by omega : (170 : Int) + 1 < K ∧ 5 < K)⟩) hg (fun g53 he_g53 => ?_)
          have h := h g53 he_g53
          refine Rn_pure 1 (i' := 87) (L' := [some (2, 161), some (0, x4), some (0, g3 161 19), some (0, x6), some (0, 14 + (2 * x4) + x6 - 1), some (0, x46), some (0, x48), some (0, x50), some (0, x51)]) (st' := [(2, 161)]) rfl ?_
          refine Rn_getR rfl (⟨rfl, (by omega : (0 : Int) ≤ 161), (by omega : (161 : Int) + 1 < K ∧ 5 < K)⟩) (hr 146 _ rfl) (by decide) ?_
          refine Rn_pure 2 (i' := 90) (L' := [some (2, 161), some (0, x4), some (0, g3 161 19), some (0, x6), some (0, 14 + (2 * x4) + x6 - 1), some (0, x46), some (0, x48), some (0, x50), some (0, x51)]) (st' := [(0, x50), (0, x51), (2, 171)]) rfl ?_
          obtain ⟨hg, h⟩ := h
          refine Rn_iast rfl (⟨rfl, (by omega : (0 : Int) ≤ 171), (by omega : (171 : Int) + 1 < K ∧ 5 < K)⟩) hg (fun g54 he_g54 => ?_)
          have h := h g54 he_g54
          refine Rn_pure 1 (i' := 92) (L' := [some (2, 161), some (0, x4), some (0, g3 161 19), some (0, x6), some (0, 14 + (2 * x4) + x6 - 1), some (0, x46), some (0, x48), some (0, x50), some (0, x51)]) (st' := [(2, 161)]) rfl ?_
          refine Rn_getR rfl (⟨rfl, (by omega : (0 : Int) ≤ 161), (by omega : (161 : Int) + 1 < K ∧ 5 < K)⟩) (hr 143 _ rfl) (by decide) ?_
          refine Rn_pure 2 (i' := 95) (L' := [some (2, 161), some (0, x4), some (0, g3 161 19), some (0, x6), some (0, 14 + (2 * x4) + x6 - 1), some (0, x46), some (0, x48), some (0, x50), some (0, x51)]) (st' := [(0, 14 + (2 * x4) + x6 - 1), (2, 168), (0, 14 + (2 * x4) + x6 - 1), (2, 168)]) rfl ?_
          obtain ⟨hg, h⟩ := h
          refine Rn_iald rfl (⟨rfl, (by omega : (0 : Int) ≤ 168), (by omega : (168 : Int) + 1 < K ∧ 5 < K)⟩) hg ?_
          refine Rn_pure 2 (i' := 98) (L' := [some (2, 161), some (0, x4), some (0, g3 161 19), some (0, x6), some (0, 14 + (2 * x4) + x6 - 1), some (0, x46), some (0, x48), some (0, x50), some (0, x51)]) (st' := [(0, g54 168 (14 + (2 * x4) + x6 - 1) + 1), (0, 14 + (2 * x4) + x6 - 1), (2, 168)]) rfl ?_
          obtain ⟨hg, h⟩ := h
          refine Rn_iast rfl (⟨rfl, (by omega : (0 : Int) ≤ 168), (by omega : (168 : Int) + 1 < K ∧ 5 < K)⟩) hg (fun g55 he_g55 => ?_)
          have h := h g55 he_g55
          exact Rn_ret0 rfl h
        · have h := h.2 hc
          exact Rn_ret0 rfl h
      · have h := h.2 hc
        refine Rn_pure 3 (i' := 56) (L' := [some (2, 161), some (0, x4), some (0, g3 161 19), some (0, x6), some (0, 14 + (2 * x4) + x6 - 1), some (0, x46), some (0, x48), none, none]) (st' := [(0, 3), (0, 1), (2, 161)]) rfl ?_
        refine Rn_callI [(2, 161), (0, 1), (0, 3)] [] rfl rfl rfl rfl (ab_rvB_of rfl (⟨rfl, (by omega : (0 : Int) ≤ 161), (by omega : (161 : Int) + 1 < K ∧ 5 < K)⟩)) ?_
        refine h.mono (fun x57 g56 r' h => ?_)
        obtain ⟨hx, h⟩ := h
        replace hx := hx.symm
        subst hx
        refine Rn_pure 3 (i' := 64) (L' := [some (2, 161), some (0, x4), some (0, g3 161 19), some (0, x6), some (0, 14 + (2 * x4) + x6 - 1), some (0, x46), some (0, x48), some (0, x57), none]) (st' := [(2, 161)]) rfl ?_
        refine Rn_getI rfl (⟨rfl, (by omega : (0 : Int) ≤ 161), (by omega : (161 : Int) + 1 < K ∧ 5 < K)⟩) ?_
        refine Rn_ifeq rfl (fun hc => ?_) (fun hc => ?_)
        · have h := h.1 hc
          refine Rn_pure 4 (i' := 71) (L' := [some (2, 161), some (0, x4), some (0, g3 161 19), some (0, x6), some (0, 14 + (2 * x4) + x6 - 1), some (0, x46), some (0, x48), some (0, x57), none]) (st' := [(2, 161), (0, x6), (0, x4), (0, 1)]) rfl ?_
          refine Rn_getR rfl (⟨rfl, (by omega : (0 : Int) ≤ 161), (by omega : (161 : Int) + 1 < K ∧ 5 < K)⟩) (hr 143 _ rfl) (by decide) ?_
          refine Rn_pure 1 (i' := 73) (L' := [some (2, 161), some (0, x4), some (0, g3 161 19), some (0, x6), some (0, 14 + (2 * x4) + x6 - 1), some (0, x46), some (0, x48), some (0, x57), none]) (st' := [(0, 14 + (2 * x4) + x6 - 1), (2, 168), (0, x6), (0, x4), (0, 1)]) rfl ?_
          obtain ⟨hg, h⟩ := h
          refine Rn_iald rfl (⟨rfl, (by omega : (0 : Int) ≤ 168), (by omega : (168 : Int) + 1 < K ∧ 5 < K)⟩) hg ?_
          refine Rn_callI [(0, 1), (0, x4), (0, x6), (0, g56 168 (14 + (2 * x4) + x6 - 1))] [] rfl rfl rfl rfl (rfl) ?_
          refine h.mono (fun x58 g' r' h => ?_)
          obtain ⟨hx, h⟩ := h
          replace hx := hx.symm
          subst hx
          obtain ⟨hx, h⟩ := h
          replace hx := hx.symm
          subst hx
          refine Rn_pure 2 (i' := 77) (L' := [some (2, 161), some (0, x4), some (0, g3 161 19), some (0, x6), some (0, 14 + (2 * x4) + x6 - 1), some (0, x46), some (0, x48), some (0, x57), some (0, x58)]) (st' := [(2, 161)]) rfl ?_
          refine Rn_getR rfl (⟨rfl, (by omega : (0 : Int) ≤ 161), (by omega : (161 : Int) + 1 < K ∧ 5 < K)⟩) (hr 144 _ rfl) (by decide) ?_
          refine Rn_pure 2 (i' := 80) (L' := [some (2, 161), some (0, x4), some (0, g3 161 19), some (0, x6), some (0, 14 + (2 * x4) + x6 - 1), some (0, x46), some (0, x48), some (0, x57), some (0, x58)]) (st' := [(0, x46), (0, x58), (2, 169)]) rfl ?_
          obtain ⟨hg, h⟩ := h
          refine Rn_iast rfl (⟨rfl, (by omega : (0 : Int) ≤ 169), (by omega : (169 : Int) + 1 < K ∧ 5 < K)⟩) hg (fun g59 he_g59 => ?_)
          have h := h g59 he_g59
          refine Rn_pure 1 (i' := 82) (L' := [some (2, 161), some (0, x4), some (0, g3 161 19), some (0, x6), some (0, 14 + (2 * x4) + x6 - 1), some (0, x46), some (0, x48), some (0, x57), some (0, x58)]) (st' := [(2, 161)]) rfl ?_
          refine Rn_getR rfl (⟨rfl, (by omega : (0 : Int) ≤ 161), (by omega : (161 : Int) + 1 < K ∧ 5 < K)⟩) (hr 145 _ rfl) (by decide) ?_
          refine Rn_pure 2 (i' := 85) (L' := [some (2, 161), some (0, x4), some (0, g3 161 19), some (0, x6), some (0, 14 + (2 * x4) + x6 - 1), some (0, x46), some (0, x48), some (0, x57), some (0, x58)]) (st' := [(0, x48), (0, x58), (2, 170)]) rfl ?_
          obtain ⟨hg, h⟩ := h
          refine Rn_iast rfl (⟨rfl, (by omega : (0 : Int) ≤ 170), (by omega : (170 : Int) + 1 < K ∧ 5 < K)⟩) hg (fun g60 he_g60 => ?_)
          have h := h g60 he_g60
          refine Rn_pure 1 (i' := 87) (L' := [some (2, 161), some (0, x4), some (0, g3 161 19), some (0, x6), some (0, 14 + (2 * x4) + x6 - 1), some (0, x46), some (0, x48), some (0, x57), some (0, x58)]) (st' := [(2, 161)]) rfl ?_
          refine Rn_getR rfl (⟨rfl, (by omega : (0 : Int) ≤ 161), (by omega : (161 : Int) + 1 < K ∧ 5 < K)⟩) (hr 146 _ rfl) (by decide) ?_
          refine Rn_pure 2 (i' := 90) (L' := [some (2, 161), some (0, x4), some (0, g3 161 19), some (0, x6), some (0, 14 + (2 * x4) + x6 - 1), some (0, x46), some (0, x48), some (0, x57), some (0, x58)]) (st' := [(0, x57), (0, x58), (2, 171)]) rfl ?_
          obtain ⟨hg, h⟩ := h
          refine Rn_iast rfl (⟨rfl, (by omega : (0 : Int) ≤ 171), (by omega : (171 : Int) + 1 < K ∧ 5 < K)⟩) hg (fun g61 he_g61 => ?_)
          have h := h g61 he_g61
          refine Rn_pure 1 (i' := 92) (L' := [some (2, 161), some (0, x4), some (0, g3 161 19), some (0, x6), some (0, 14 + (2 * x4) + x6 - 1), some (0, x46), some (0, x48), some (0, x57), some (0, x58)]) (st' := [(2, 161)]) rfl ?_
          refine Rn_getR rfl (⟨rfl, (by omega : (0 : Int) ≤ 161), (by omega : (161 : Int) + 1 < K ∧ 5 < K)⟩) (hr 143 _ rfl) (by decide) ?_
          refine Rn_pure 2 (i' := 95) (L' := [some (2, 161), some (0, x4), some (0, g3 161 19), some (0, x6), some (0, 14 + (2 * x4) + x6 - 1), some (0, x46), some (0, x48), some (0, x57), some (0, x58)]) (st' := [(0, 14 + (2 * x4) + x6 - 1), (2, 168), (0, 14 + (2 * x4) + x6 - 1), (2, 168)]) rfl ?_
          obtain ⟨hg, h⟩ := h
          refine Rn_iald rfl (⟨rfl, (by omega : (0 : Int) ≤ 168), (by omega : (168 : Int) + 1 < K ∧ 5 < K)⟩) hg ?_
          refine Rn_pure 2 (i' := 98) (L' := [some (2, 161), some (0, x4), some (0, g3 161 19), some (0, x6), some (0, 14 + (2 * x4) + x6 - 1), some (0, x46), some (0, x48), some (0, x57), some (0, x58)]) (st' := [(0, g61 168 (14 + (2 * x4) + x6 - 1) + 1), (0, 14 + (2 * x4) + x6 - 1), (2, 168)]) rfl ?_
          obtain ⟨hg, h⟩ := h
          refine Rn_iast rfl (⟨rfl, (by omega : (0 : Int) ≤ 168), (by omega : (168 : Int) + 1 < K ∧ 5 < K)⟩) hg (fun g62 he_g62 => ?_)
          have h := h g62 he_g62
          exact Rn_ret0 rfl h
        · have h := h.2 hc
          exact Rn_ret0 rfl h
-- EventLedgerModel.readTally ()V
theorem v_M_readTally {K : Int} {S : Nat} {g r : ab_H} (P : ab_H → ab_H → Prop) (hr : SI r) (hK : 186 ≤ K) (h : ab_RI m_M_reading [(2, 161), (0, 1)] K S g r (fun x1 g' r' => g' = g ∧ r' = r ∧ (((¬ wr (4 + x1) = wr 8 → ab_RI m_M_reading [(2, 161), (0, 1)] K S g r (fun x2 g' r' => g' = g ∧ r' = r ∧ (ab_RV m_M_newName [(2, 161), (2, 165), (0, 4), (0, x2)] K S g r (fun g3 r' => r' = r ∧ (ab_RI m_M_wordOf [(2, 161), (0, 0), (0, 6)] K S g3 r (fun x6 g5 r' => r' = r ∧ (ab_RI m_M_numeral [(2, 161), (0, 1), (0, 3)] K S g5 r (fun x8 g7 r' => r' = r ∧ (((wr (g7 161 22) = wr 0 → ((0 : Int) ≤ 4 + x1 ∧ (4 + x1 : Int) < 8) ∧ ∀ g9, g9 = ab_up g7 166 (4 + x1) x6 → ((0 : Int) ≤ 4 + x1 ∧ (4 + x1 : Int) < 8) ∧ ∀ g10, g10 = ab_up g9 167 (4 + x1) x8 → ab_RI m_M_reading [(2, 161), (0, 1)] K S g10 r (fun x11 g' r' => g' = g10 ∧ r' = r ∧ (ab_RV m_M_reads [(2, 161), (0, 1), (0, x11 + 1)] K S g10 r (fun g12 r' => r' = r ∧ (P g12 r))))) ∧ (¬ wr (g7 161 22) = wr 0 → P g7 r))))))))))) ∧ (wr (4 + x1) = wr 8 → ab_RV m_M_wrong [(2, 161), (0, 2)] K S g r (fun g14 r' => r' = r ∧ (ab_RI m_M_reading [(2, 161), (0, 1)] K S g14 r (fun x16 g' r' => g' = g14 ∧ r' = r ∧ (ab_RV m_M_newName [(2, 161), (2, 165), (0, 4), (0, x16)] K S g14 r (fun g17 r' => r' = r ∧ (ab_RI m_M_wordOf [(2, 161), (0, 0), (0, 6)] K S g17 r (fun x20 g19 r' => r' = r ∧ (ab_RI m_M_numeral [(2, 161), (0, 1), (0, 3)] K S g19 r (fun x22 g21 r' => r' = r ∧ (((wr (g21 161 22) = wr 0 → ((0 : Int) ≤ 4 + x1 ∧ (4 + x1 : Int) < 8) ∧ ∀ g23, g23 = ab_up g21 166 (4 + x1) x20 → ((0 : Int) ≤ 4 + x1 ∧ (4 + x1 : Int) < 8) ∧ ∀ g24, g24 = ab_up g23 167 (4 + x1) x22 → ab_RI m_M_reading [(2, 161), (0, 1)] K S g24 r (fun x25 g' r' => g' = g24 ∧ r' = r ∧ (ab_RV m_M_reads [(2, 161), (0, 1), (0, x25 + 1)] K S g24 r (fun g26 r' => r' = r ∧ (P g26 r))))) ∧ (¬ wr (g21 161 22) = wr 0 → P g21 r))))))))))))))))) : ab_RV m_M_readTally [(2, 161)] K S g r P := by
  show ab_Rn m_M_readTally 0 [some (2, 161), none, none, none] [] (K, S, g, r) (ab_Qv K S P)
  refine Rn_pure 3 (i' := 3) (L' := [some (2, 161), none, none, none]) (st' := [(0, 1), (2, 161), (0, 4)]) rfl ?_
  refine Rn_callI [(2, 161), (0, 1)] [(0, 4)] rfl rfl rfl rfl (ab_rvB_of rfl (⟨rfl, (by omega : (0 : Int) ≤ 161), (by omega : (161 : Int) + 1 < K ∧ 5 < K)⟩)) ?_
  refine h.mono (fun x1 g' r' h => ?_)
  obtain ⟨hx, h⟩ := h
  replace hx := hx.symm
  subst hx
  obtain ⟨hx, h⟩ := h
  replace hx := hx.symm
  subst hx
  refine Rn_pure 4 (i' := 8) (L' := [some (2, 161), some (0, 4 + x1), none, none]) (st' := [(0, 8), (0, 4 + x1)]) rfl ?_
  refine Rn_icne rfl (fun hc => ?_) (fun hc => ?_)
  · have h := h.1 hc
    refine Rn_pure 2 (i' := 14) (L' := [some (2, 161), some (0, 4 + x1), none, none]) (st' := [(2, 161), (2, 161)]) rfl ?_
    refine Rn_getR rfl (⟨rfl, (by omega : (0 : Int) ≤ 161), (by omega : (161 : Int) + 1 < K ∧ 5 < K)⟩) (hr 140 _ rfl) (by decide) ?_
    refine Rn_pure 3 (i' := 18) (L' := [some (2, 161), some (0, 4 + x1), none, none]) (st' := [(0, 1), (2, 161), (0, 4), (2, 165), (2, 161)]) rfl ?_
    refine Rn_callI [(2, 161), (0, 1)] [(0, 4), (2, 165), (2, 161)] rfl rfl rfl rfl (ab_rvB_of rfl (⟨rfl, (by omega : (0 : Int) ≤ 161), (by omega : (161 : Int) + 1 < K ∧ 5 < K)⟩)) ?_
    refine h.mono (fun x2 g' r' h => ?_)
    obtain ⟨hx, h⟩ := h
    replace hx := hx.symm
    subst hx
    obtain ⟨hx, h⟩ := h
    replace hx := hx.symm
    subst hx
    refine Rn_callV [(2, 161), (2, 165), (0, 4), (0, x2)] [] rfl rfl rfl rfl (ab_rvB_of rfl (⟨rfl, (by omega : (0 : Int) ≤ 161), (by omega : (161 : Int) + 1 < K ∧ 5 < K)⟩)) ?_
    refine h.mono (fun g3 r' h => ?_)
    obtain ⟨hx, h⟩ := h
    replace hx := hx.symm
    subst hx
    refine Rn_pure 3 (i' := 23) (L' := [some (2, 161), some (0, 4 + x1), none, none]) (st' := [(0, 6), (0, 0), (2, 161)]) rfl ?_
    refine Rn_callI [(2, 161), (0, 0), (0, 6)] [] rfl rfl rfl rfl (ab_rvB_of rfl (⟨rfl, (by omega : (0 : Int) ≤ 161), (by omega : (161 : Int) + 1 < K ∧ 5 < K)⟩)) ?_
    refine h.mono (fun x6 g5 r' h => ?_)
    obtain ⟨hx, h⟩ := h
    replace hx := hx.symm
    subst hx
    refine Rn_pure 4 (i' := 28) (L' := [some (2, 161), some (0, 4 + x1), some (0, x6), none]) (st' := [(0, 3), (0, 1), (2, 161)]) rfl ?_
    refine Rn_callI [(2, 161), (0, 1), (0, 3)] [] rfl rfl rfl rfl (ab_rvB_of rfl (⟨rfl, (by omega : (0 : Int) ≤ 161), (by omega : (161 : Int) + 1 < K ∧ 5 < K)⟩)) ?_
    refine h.mono (fun x8 g7 r' h => ?_)
    obtain ⟨hx, h⟩ := h
    replace hx := hx.symm
    subst hx
    refine Rn_pure 2 (i' := 31) (L' := [some (2, 161), some (0, 4 + x1), some (0, x6), some (0, x8)]) (st' := [(2, 161)]) rfl ?_
    refine Rn_getI rfl (⟨rfl, (by omega : (0 : Int) ≤ 161), (by omega : (161 : Int) + 1 < K ∧ 5 < K)⟩) ?_
    refine Rn_ifeq rfl (fun hc => ?_) (fun hc => ?_)
    · have h := h.1 hc
      refine Rn_pure 1 (i' := 35) (L' := [some (2, 161), some (0, 4 + x1), some (0, x6), some (0, x8)]) (st' := [(2, 161)]) rfl ?_
      refine Rn_getR rfl (⟨rfl, (by omega : (0 : Int) ≤ 161), (by omega : (161 : Int) + 1 < K ∧ 5 < K)⟩) (hr 141 _ rfl) (by decide) ?_
      refine Rn_pure 2 (i' := 38) (L' := [some (2, 161), some (0, 4 + x1), some (0, x6), some (0, x8)]) (st' := [(0, x6), (0, 4 + x1), (2, 166)]) rfl ?_
      obtain ⟨hg, h⟩ := h
      refine Rn_iast rfl (⟨rfl, (by omega : (0 : Int) ≤ 166), (by omega : (166 : Int) + 1 < K ∧ 5 < K)⟩) hg (fun g9 he_g9 => ?_)
      have h := h g9 he_g9
      refine Rn_pure 1 (i' := 40) (L' := [some (2, 161), some (0, 4 + x1), some (0, x6), some (0, x8)]) (st' := [(2, 161)]) rfl ?_
      refine Rn_getR rfl (⟨rfl, (by omega : (0 : Int) ≤ 161), (by omega : (161 : Int) + 1 < K ∧ 5 < K)⟩) (hr 142 _ rfl) (by decide) ?_
      refine Rn_pure 2 (i' := 43) (L' := [some (2, 161), some (0, 4 + x1), some (0, x6), some (0, x8)]) (st' := [(0, x8), (0, 4 + x1), (2, 167)]) rfl ?_
      obtain ⟨hg, h⟩ := h
      refine Rn_iast rfl (⟨rfl, (by omega : (0 : Int) ≤ 167), (by omega : (167 : Int) + 1 < K ∧ 5 < K)⟩) hg (fun g10 he_g10 => ?_)
      have h := h g10 he_g10
      refine Rn_pure 4 (i' := 48) (L' := [some (2, 161), some (0, 4 + x1), some (0, x6), some (0, x8)]) (st' := [(0, 1), (2, 161), (0, 1), (2, 161)]) rfl ?_
      refine Rn_callI [(2, 161), (0, 1)] [(0, 1), (2, 161)] rfl rfl rfl rfl (ab_rvB_of rfl (⟨rfl, (by omega : (0 : Int) ≤ 161), (by omega : (161 : Int) + 1 < K ∧ 5 < K)⟩)) ?_
      refine h.mono (fun x11 g' r' h => ?_)
      obtain ⟨hx, h⟩ := h
      replace hx := hx.symm
      subst hx
      obtain ⟨hx, h⟩ := h
      replace hx := hx.symm
      subst hx
      refine Rn_pure 2 (i' := 51) (L' := [some (2, 161), some (0, 4 + x1), some (0, x6), some (0, x8)]) (st' := [(0, x11 + 1), (0, 1), (2, 161)]) rfl ?_
      refine Rn_callV [(2, 161), (0, 1), (0, x11 + 1)] [] rfl rfl rfl rfl (ab_rvB_of rfl (⟨rfl, (by omega : (0 : Int) ≤ 161), (by omega : (161 : Int) + 1 < K ∧ 5 < K)⟩)) ?_
      refine h.mono (fun g12 r' h => ?_)
      obtain ⟨hx, h⟩ := h
      replace hx := hx.symm
      subst hx
      exact Rn_ret0 rfl h
    · have h := h.2 hc
      exact Rn_ret0 rfl h
  · have h := h.2 hc
    refine Rn_pure 2 (i' := 11) (L' := [some (2, 161), some (0, 4 + x1), none, none]) (st' := [(0, 2), (2, 161)]) rfl ?_
    refine Rn_callV [(2, 161), (0, 2)] [] rfl rfl rfl rfl (ab_rvB_of rfl (⟨rfl, (by omega : (0 : Int) ≤ 161), (by omega : (161 : Int) + 1 < K ∧ 5 < K)⟩)) ?_
    refine h.mono (fun g14 r' h => ?_)
    obtain ⟨hx, h⟩ := h
    replace hx := hx.symm
    subst hx
    refine Rn_pure 2 (i' := 14) (L' := [some (2, 161), some (0, 4 + x1), none, none]) (st' := [(2, 161), (2, 161)]) rfl ?_
    refine Rn_getR rfl (⟨rfl, (by omega : (0 : Int) ≤ 161), (by omega : (161 : Int) + 1 < K ∧ 5 < K)⟩) (hr 140 _ rfl) (by decide) ?_
    refine Rn_pure 3 (i' := 18) (L' := [some (2, 161), some (0, 4 + x1), none, none]) (st' := [(0, 1), (2, 161), (0, 4), (2, 165), (2, 161)]) rfl ?_
    refine Rn_callI [(2, 161), (0, 1)] [(0, 4), (2, 165), (2, 161)] rfl rfl rfl rfl (ab_rvB_of rfl (⟨rfl, (by omega : (0 : Int) ≤ 161), (by omega : (161 : Int) + 1 < K ∧ 5 < K)⟩)) ?_
    refine h.mono (fun x16 g' r' h => ?_)
    obtain ⟨hx, h⟩ := h
    replace hx := hx.symm
    subst hx
    obtain ⟨hx, h⟩ := h
    replace hx := hx.symm
    subst hx
    refine Rn_callV [(2, 161), (2, 165), (0, 4), (0, x16)] [] rfl rfl rfl rfl (ab_rvB_of rfl (⟨rfl, (by omega : (0 : Int) ≤ 161), (by omega : (161 : Int) + 1 < K ∧ 5 < K)⟩)) ?_
    refine h.mono (fun g17 r' h => ?_)
    obtain ⟨hx, h⟩ := h
    replace hx := hx.symm
    subst hx
    refine Rn_pure 3 (i' := 23) (L' := [some (2, 161), some (0, 4 + x1), none, none]) (st' := [(0, 6), (0, 0), (2, 161)]) rfl ?_
    refine Rn_callI [(2, 161), (0, 0), (0, 6)] [] rfl rfl rfl rfl (ab_rvB_of rfl (⟨rfl, (by omega : (0 : Int) ≤ 161), (by omega : (161 : Int) + 1 < K ∧ 5 < K)⟩)) ?_
    refine h.mono (fun x20 g19 r' h => ?_)
    obtain ⟨hx, h⟩ := h
    replace hx := hx.symm
    subst hx
    refine Rn_pure 4 (i' := 28) (L' := [some (2, 161), some (0, 4 + x1), some (0, x20), none]) (st' := [(0, 3), (0, 1), (2, 161)]) rfl ?_
    refine Rn_callI [(2, 161), (0, 1), (0, 3)] [] rfl rfl rfl rfl (ab_rvB_of rfl (⟨rfl, (by omega : (0 : Int) ≤ 161), (by omega : (161 : Int) + 1 < K ∧ 5 < K)⟩)) ?_
    refine h.mono (fun x22 g21 r' h => ?_)
    obtain ⟨hx, h⟩ := h
    replace hx := hx.symm
    subst hx
    refine Rn_pure 2 (i' := 31) (L' := [some (2, 161), some (0, 4 + x1), some (0, x20), some (0, x22)]) (st' := [(2, 161)]) rfl ?_
    refine Rn_getI rfl (⟨rfl, (by omega : (0 : Int) ≤ 161), (by omega : (161 : Int) + 1 < K ∧ 5 < K)⟩) ?_
    refine Rn_ifeq rfl (fun hc => ?_) (fun hc => ?_)
    · have h := h.1 hc
      refine Rn_pure 1 (i' := 35) (L' := [some (2, 161), some (0, 4 + x1), some (0, x20), some (0, x22)]) (st' := [(2, 161)]) rfl ?_
      refine Rn_getR rfl (⟨rfl, (by omega : (0 : Int) ≤ 161), (by omega : (161 : Int) + 1 < K ∧ 5 < K)⟩) (hr 141 _ rfl) (by decide) ?_
      refine Rn_pure 2 (i' := 38) (L' := [some (2, 161), some (0, 4 + x1), some (0, x20), some (0, x22)]) (st' := [(0, x20), (0, 4 + x1), (2, 166)]) rfl ?_
      obtain ⟨hg, h⟩ := h
      refine Rn_iast rfl (⟨rfl, (by omega : (0 : Int) ≤ 166), (by omega : (166 : Int) + 1 < K ∧ 5 < K)⟩) hg (fun g23 he_g23 => ?_)
      have h := h g23 he_g23
      refine Rn_pure 1 (i' := 40) (L' := [some (2, 161), some (0, 4 + x1), some (0, x20), some (0, x22)]) (st' := [(2, 161)]) rfl ?_
      refine Rn_getR rfl (⟨rfl, (by omega : (0 : Int) ≤ 161), (by omega : (161 : Int) + 1 < K ∧ 5 < K)⟩) (hr 142 _ rfl) (by decide) ?_
      refine Rn_pure 2 (i' := 43) (L' := [some (2, 161), some (0, 4 + x1), some (0, x20), some (0, x22)]) (st' := [(0, x22), (0, 4 + x1), (2, 167)]) rfl ?_
      obtain ⟨hg, h⟩ := h
      refine Rn_iast rfl (⟨rfl, (by omega : (0 : Int) ≤ 167), (by omega : (167 : Int) + 1 < K ∧ 5 < K)⟩) hg (fun g24 he_g24 => ?_)
      have h := h g24 he_g24
      refine Rn_pure 4 (i' := 48) (L' := [some (2, 161), some (0, 4 + x1), some (0, x20), some (0, x22)]) (st' := [(0, 1), (2, 161), (0, 1), (2, 161)]) rfl ?_
      refine Rn_callI [(2, 161), (0, 1)] [(0, 1), (2, 161)] rfl rfl rfl rfl (ab_rvB_of rfl (⟨rfl, (by omega : (0 : Int) ≤ 161), (by omega : (161 : Int) + 1 < K ∧ 5 < K)⟩)) ?_
      refine h.mono (fun x25 g' r' h => ?_)
      obtain ⟨hx, h⟩ := h
      replace hx := hx.symm
      subst hx
      obtain ⟨hx, h⟩ := h
      replace hx := hx.symm
      subst hx
      refine Rn_pure 2 (i' := 51) (L' := [some (2, 161), some (0, 4 + x1), some (0, x20), some (0, x22)]) (st' := [(0, x25 + 1), (0, 1), (2, 161)]) rfl ?_
      refine Rn_callV [(2, 161), (0, 1), (0, x25 + 1)] [] rfl rfl rfl rfl (ab_rvB_of rfl (⟨rfl, (by omega : (0 : Int) ≤ 161), (by omega : (161 : Int) + 1 < K ∧ 5 < K)⟩)) ?_
      refine h.mono (fun g26 r' h => ?_)
      obtain ⟨hx, h⟩ := h
      replace hx := hx.symm
      subst hx
      exact Rn_ret0 rfl h
    · have h := h.2 hc
      exact Rn_ret0 rfl h
-- EventLedgerModel.readSnap ()V
theorem v_M_readSnap {K : Int} {S : Nat} {g r : ab_H} (P : ab_H → ab_H → Prop) (hr : SI r) (hK : 186 ≤ K) (h : ((wr (g 161 14) = wr 0 → ∀ g1, g1 = ab_up g 161 14 1 → ab_RV m_M_goOn [(2, 161)] K S g1 r (fun g2 r' => r' = r ∧ (ab_RI m_M_numeral [(2, 161), (0, 1), (0, 999)] K S g2 r (fun x5 g4 r' => r' = r ∧ (ab_RV m_M_reads [(2, 161), (0, 2), (0, x5)] K S g4 r (fun g6 r' => r' = r ∧ (ab_RI m_M_numeral [(2, 161), (0, 0), (0, 6)] K S g6 r (fun x9 g8 r' => r' = r ∧ (ab_RV m_M_reads [(2, 161), (0, 3), (0, x9)] K S g8 r (fun g10 r' => r' = r ∧ (P g10 r))))))))))) ∧ (¬ wr (g 161 14) = wr 0 → ab_RV m_M_wrong [(2, 161), (0, 3)] K S g r (fun g12 r' => r' = r ∧ (∀ g14, g14 = ab_up g12 161 14 1 → ab_RV m_M_goOn [(2, 161)] K S g14 r (fun g15 r' => r' = r ∧ (ab_RI m_M_numeral [(2, 161), (0, 1), (0, 999)] K S g15 r (fun x18 g17 r' => r' = r ∧ (ab_RV m_M_reads [(2, 161), (0, 2), (0, x18)] K S g17 r (fun g19 r' => r' = r ∧ (ab_RI m_M_numeral [(2, 161), (0, 0), (0, 6)] K S g19 r (fun x22 g21 r' => r' = r ∧ (ab_RV m_M_reads [(2, 161), (0, 3), (0, x22)] K S g21 r (fun g23 r' => r' = r ∧ (P g23 r))))))))))))))) : ab_RV m_M_readSnap [(2, 161)] K S g r P := by
  show ab_Rn m_M_readSnap 0 [some (2, 161)] [] (K, S, g, r) (ab_Qv K S P)
  refine Rn_pure 1 (i' := 1) (L' := [some (2, 161)]) (st' := [(2, 161)]) rfl ?_
  refine Rn_getI rfl (⟨rfl, (by omega : (0 : Int) ≤ 161), (by omega : (161 : Int) + 1 < K ∧ 5 < K)⟩) ?_
  refine Rn_ifeq rfl (fun hc => ?_) (fun hc => ?_)
  · have h := h.1 hc
    refine Rn_pure 2 (i' := 8) (L' := [some (2, 161)]) (st' := [(0, 1), (2, 161)]) rfl ?_
    refine Rn_putZ rfl (⟨rfl, (by omega : (0 : Int) ≤ 161), (by omega : (161 : Int) + 1 < K ∧ 5 < K)⟩) (by decide) (fun g1 he_g1 => ?_)
    have h := h g1 he_g1
    refine Rn_pure 1 (i' := 10) (L' := [some (2, 161)]) (st' := [(2, 161)]) rfl ?_
    refine Rn_callV [(2, 161)] [] rfl rfl rfl rfl (ab_rvB_of rfl (⟨rfl, (by omega : (0 : Int) ≤ 161), (by omega : (161 : Int) + 1 < K ∧ 5 < K)⟩)) ?_
    refine h.mono (fun g2 r' h => ?_)
    obtain ⟨hx, h⟩ := h
    replace hx := hx.symm
    subst hx
    refine Rn_pure 5 (i' := 16) (L' := [some (2, 161)]) (st' := [(0, 999), (0, 1), (2, 161), (0, 2), (2, 161)]) rfl ?_
    refine Rn_callI [(2, 161), (0, 1), (0, 999)] [(0, 2), (2, 161)] rfl rfl rfl rfl (ab_rvB_of rfl (⟨rfl, (by omega : (0 : Int) ≤ 161), (by omega : (161 : Int) + 1 < K ∧ 5 < K)⟩)) ?_
    refine h.mono (fun x5 g4 r' h => ?_)
    obtain ⟨hx, h⟩ := h
    replace hx := hx.symm
    subst hx
    refine Rn_callV [(2, 161), (0, 2), (0, x5)] [] rfl rfl rfl rfl (ab_rvB_of rfl (⟨rfl, (by omega : (0 : Int) ≤ 161), (by omega : (161 : Int) + 1 < K ∧ 5 < K)⟩)) ?_
    refine h.mono (fun g6 r' h => ?_)
    obtain ⟨hx, h⟩ := h
    replace hx := hx.symm
    subst hx
    refine Rn_pure 5 (i' := 23) (L' := [some (2, 161)]) (st' := [(0, 6), (0, 0), (2, 161), (0, 3), (2, 161)]) rfl ?_
    refine Rn_callI [(2, 161), (0, 0), (0, 6)] [(0, 3), (2, 161)] rfl rfl rfl rfl (ab_rvB_of rfl (⟨rfl, (by omega : (0 : Int) ≤ 161), (by omega : (161 : Int) + 1 < K ∧ 5 < K)⟩)) ?_
    refine h.mono (fun x9 g8 r' h => ?_)
    obtain ⟨hx, h⟩ := h
    replace hx := hx.symm
    subst hx
    refine Rn_callV [(2, 161), (0, 3), (0, x9)] [] rfl rfl rfl rfl (ab_rvB_of rfl (⟨rfl, (by omega : (0 : Int) ≤ 161), (by omega : (161 : Int) + 1 < K ∧ 5 < K)⟩)) ?_
    refine h.mono (fun g10 r' h => ?_)
    obtain ⟨hx, h⟩ := h
    replace hx := hx.symm
    subst hx
    exact Rn_ret0 rfl h
  · have h := h.2 hc
    refine Rn_pure 2 (i' := 5) (L' := [some (2, 161)]) (st' := [(0, 3), (2, 161)]) rfl ?_
    refine Rn_callV [(2, 161), (0, 3)] [] rfl rfl rfl rfl (ab_rvB_of rfl (⟨rfl, (by omega : (0 : Int) ≤ 161), (by omega : (161 : Int) + 1 < K ∧ 5 < K)⟩)) ?_
    refine h.mono (fun g12 r' h => ?_)
    obtain ⟨hx, h⟩ := h
    replace hx := hx.symm
    subst hx
    refine Rn_pure 2 (i' := 8) (L' := [some (2, 161)]) (st' := [(0, 1), (2, 161)]) rfl ?_
    refine Rn_putZ rfl (⟨rfl, (by omega : (0 : Int) ≤ 161), (by omega : (161 : Int) + 1 < K ∧ 5 < K)⟩) (by decide) (fun g14 he_g14 => ?_)
    have h := h g14 he_g14
    refine Rn_pure 1 (i' := 10) (L' := [some (2, 161)]) (st' := [(2, 161)]) rfl ?_
    refine Rn_callV [(2, 161)] [] rfl rfl rfl rfl (ab_rvB_of rfl (⟨rfl, (by omega : (0 : Int) ≤ 161), (by omega : (161 : Int) + 1 < K ∧ 5 < K)⟩)) ?_
    refine h.mono (fun g15 r' h => ?_)
    obtain ⟨hx, h⟩ := h
    replace hx := hx.symm
    subst hx
    refine Rn_pure 5 (i' := 16) (L' := [some (2, 161)]) (st' := [(0, 999), (0, 1), (2, 161), (0, 2), (2, 161)]) rfl ?_
    refine Rn_callI [(2, 161), (0, 1), (0, 999)] [(0, 2), (2, 161)] rfl rfl rfl rfl (ab_rvB_of rfl (⟨rfl, (by omega : (0 : Int) ≤ 161), (by omega : (161 : Int) + 1 < K ∧ 5 < K)⟩)) ?_
    refine h.mono (fun x18 g17 r' h => ?_)
    obtain ⟨hx, h⟩ := h
    replace hx := hx.symm
    subst hx
    refine Rn_callV [(2, 161), (0, 2), (0, x18)] [] rfl rfl rfl rfl (ab_rvB_of rfl (⟨rfl, (by omega : (0 : Int) ≤ 161), (by omega : (161 : Int) + 1 < K ∧ 5 < K)⟩)) ?_
    refine h.mono (fun g19 r' h => ?_)
    obtain ⟨hx, h⟩ := h
    replace hx := hx.symm
    subst hx
    refine Rn_pure 5 (i' := 23) (L' := [some (2, 161)]) (st' := [(0, 6), (0, 0), (2, 161), (0, 3), (2, 161)]) rfl ?_
    refine Rn_callI [(2, 161), (0, 0), (0, 6)] [(0, 3), (2, 161)] rfl rfl rfl rfl (ab_rvB_of rfl (⟨rfl, (by omega : (0 : Int) ≤ 161), (by omega : (161 : Int) + 1 < K ∧ 5 < K)⟩)) ?_
    refine h.mono (fun x22 g21 r' h => ?_)
    obtain ⟨hx, h⟩ := h
    replace hx := hx.symm
    subst hx
    refine Rn_callV [(2, 161), (0, 3), (0, x22)] [] rfl rfl rfl rfl (ab_rvB_of rfl (⟨rfl, (by omega : (0 : Int) ≤ 161), (by omega : (161 : Int) + 1 < K ∧ 5 < K)⟩)) ?_
    refine h.mono (fun g23 r' h => ?_)
    obtain ⟨hx, h⟩ := h
    replace hx := hx.symm
    subst hx
    exact Rn_ret0 rfl h
-- EventLedgerModel.readSeed ()V
theorem v_M_readSeed {K : Int} {S : Nat} {g r : ab_H} (P : ab_H → ab_H → Prop) (hr : SI r) (hK : 186 ≤ K) (h : ((wr (g 161 15) = wr 0 → ∀ g1, g1 = ab_up g 161 15 1 → ab_RV m_M_goOn [(2, 161)] K S g1 r (fun g2 r' => r' = r ∧ (ab_RI m_M_numeral [(2, 161), (0, 0), (0, 99999)] K S g2 r (fun x5 g4 r' => r' = r ∧ (ab_RV m_M_reads [(2, 161), (0, 4), (0, x5)] K S g4 r (fun g6 r' => r' = r ∧ (P g6 r))))))) ∧ (¬ wr (g 161 15) = wr 0 → ab_RV m_M_wrong [(2, 161), (0, 3)] K S g r (fun g8 r' => r' = r ∧ (∀ g10, g10 = ab_up g8 161 15 1 → ab_RV m_M_goOn [(2, 161)] K S g10 r (fun g11 r' => r' = r ∧ (ab_RI m_M_numeral [(2, 161), (0, 0), (0, 99999)] K S g11 r (fun x14 g13 r' => r' = r ∧ (ab_RV m_M_reads [(2, 161), (0, 4), (0, x14)] K S g13 r (fun g15 r' => r' = r ∧ (P g15 r))))))))))) : ab_RV m_M_readSeed [(2, 161)] K S g r P := by
  show ab_Rn m_M_readSeed 0 [some (2, 161)] [] (K, S, g, r) (ab_Qv K S P)
  refine Rn_pure 1 (i' := 1) (L' := [some (2, 161)]) (st' := [(2, 161)]) rfl ?_
  refine Rn_getI rfl (⟨rfl, (by omega : (0 : Int) ≤ 161), (by omega : (161 : Int) + 1 < K ∧ 5 < K)⟩) ?_
  refine Rn_ifeq rfl (fun hc => ?_) (fun hc => ?_)
  · have h := h.1 hc
    refine Rn_pure 2 (i' := 8) (L' := [some (2, 161)]) (st' := [(0, 1), (2, 161)]) rfl ?_
    refine Rn_putZ rfl (⟨rfl, (by omega : (0 : Int) ≤ 161), (by omega : (161 : Int) + 1 < K ∧ 5 < K)⟩) (by decide) (fun g1 he_g1 => ?_)
    have h := h g1 he_g1
    refine Rn_pure 1 (i' := 10) (L' := [some (2, 161)]) (st' := [(2, 161)]) rfl ?_
    refine Rn_callV [(2, 161)] [] rfl rfl rfl rfl (ab_rvB_of rfl (⟨rfl, (by omega : (0 : Int) ≤ 161), (by omega : (161 : Int) + 1 < K ∧ 5 < K)⟩)) ?_
    refine h.mono (fun g2 r' h => ?_)
    obtain ⟨hx, h⟩ := h
    replace hx := hx.symm
    subst hx
    refine Rn_pure 5 (i' := 16) (L' := [some (2, 161)]) (st' := [(0, 99999), (0, 0), (2, 161), (0, 4), (2, 161)]) rfl ?_
    refine Rn_callI [(2, 161), (0, 0), (0, 99999)] [(0, 4), (2, 161)] rfl rfl rfl rfl (ab_rvB_of rfl (⟨rfl, (by omega : (0 : Int) ≤ 161), (by omega : (161 : Int) + 1 < K ∧ 5 < K)⟩)) ?_
    refine h.mono (fun x5 g4 r' h => ?_)
    obtain ⟨hx, h⟩ := h
    replace hx := hx.symm
    subst hx
    refine Rn_callV [(2, 161), (0, 4), (0, x5)] [] rfl rfl rfl rfl (ab_rvB_of rfl (⟨rfl, (by omega : (0 : Int) ≤ 161), (by omega : (161 : Int) + 1 < K ∧ 5 < K)⟩)) ?_
    refine h.mono (fun g6 r' h => ?_)
    obtain ⟨hx, h⟩ := h
    replace hx := hx.symm
    subst hx
    exact Rn_ret0 rfl h
  · have h := h.2 hc
    refine Rn_pure 2 (i' := 5) (L' := [some (2, 161)]) (st' := [(0, 3), (2, 161)]) rfl ?_
    refine Rn_callV [(2, 161), (0, 3)] [] rfl rfl rfl rfl (ab_rvB_of rfl (⟨rfl, (by omega : (0 : Int) ≤ 161), (by omega : (161 : Int) + 1 < K ∧ 5 < K)⟩)) ?_
    refine h.mono (fun g8 r' h => ?_)
    obtain ⟨hx, h⟩ := h
    replace hx := hx.symm
    subst hx
    refine Rn_pure 2 (i' := 8) (L' := [some (2, 161)]) (st' := [(0, 1), (2, 161)]) rfl ?_
    refine Rn_putZ rfl (⟨rfl, (by omega : (0 : Int) ≤ 161), (by omega : (161 : Int) + 1 < K ∧ 5 < K)⟩) (by decide) (fun g10 he_g10 => ?_)
    have h := h g10 he_g10
    refine Rn_pure 1 (i' := 10) (L' := [some (2, 161)]) (st' := [(2, 161)]) rfl ?_
    refine Rn_callV [(2, 161)] [] rfl rfl rfl rfl (ab_rvB_of rfl (⟨rfl, (by omega : (0 : Int) ≤ 161), (by omega : (161 : Int) + 1 < K ∧ 5 < K)⟩)) ?_
    refine h.mono (fun g11 r' h => ?_)
    obtain ⟨hx, h⟩ := h
    replace hx := hx.symm
    subst hx
    refine Rn_pure 5 (i' := 16) (L' := [some (2, 161)]) (st' := [(0, 99999), (0, 0), (2, 161), (0, 4), (2, 161)]) rfl ?_
    refine Rn_callI [(2, 161), (0, 0), (0, 99999)] [(0, 4), (2, 161)] rfl rfl rfl rfl (ab_rvB_of rfl (⟨rfl, (by omega : (0 : Int) ≤ 161), (by omega : (161 : Int) + 1 < K ∧ 5 < K)⟩)) ?_
    refine h.mono (fun x14 g13 r' h => ?_)
    obtain ⟨hx, h⟩ := h
    replace hx := hx.symm
    subst hx
    refine Rn_callV [(2, 161), (0, 4), (0, x14)] [] rfl rfl rfl rfl (ab_rvB_of rfl (⟨rfl, (by omega : (0 : Int) ≤ 161), (by omega : (161 : Int) + 1 < K ∧ 5 < K)⟩)) ?_
    refine h.mono (fun g15 r' h => ?_)
    obtain ⟨hx, h⟩ := h
    replace hx := hx.symm
    subst hx
    exact Rn_ret0 rfl h
