-- EventLedgerModel.breaks (I)Z
theorem v_M_breaks {K : Int} {S : Nat} {g r : ab_H} {p1 : Int} (P : Int → ab_H → ab_H → Prop) (hr : SI r) (hK : 186 ≤ K) (h : ((0 : Int) ≤ 9 * p1 + 0 ∧ (9 * p1 + 0 : Int) < 1607) ∧ ab_Rn m_M_breaks 11 [some (2, 161), some (0, p1), some (0, g 174 (9 * p1 + 0)), some (0, 0), none, none] [] (K, S, g, r) (ab_Qi K S P)) : ab_RI m_M_breaks [(2, 161), (0, p1)] K S g r P := by
  show ab_Rn m_M_breaks 0 [some (2, 161), some (0, p1), none, none, none, none] [] (K, S, g, r) (ab_Qi K S P)
  refine Rn_pure 1 (i' := 1) (L' := [some (2, 161), some (0, p1), none, none, none, none]) (st' := [(2, 161)]) rfl ?_
  refine Rn_getR rfl (⟨rfl, (by omega : (0 : Int) ≤ 161), (by omega : (161 : Int) + 1 < K ∧ 5 < K)⟩) (hr 149 _ rfl) (by decide) ?_
  refine Rn_pure 5 (i' := 7) (L' := [some (2, 161), some (0, p1), none, none, none, none]) (st' := [(0, 9 * p1 + 0), (2, 174)]) rfl ?_
  obtain ⟨hg, h⟩ := h
  refine Rn_iald rfl (⟨rfl, (by omega : (0 : Int) ≤ 174), (by omega : (174 : Int) + 1 < K ∧ 5 < K)⟩) hg ?_
  refine Rn_pure 3 (i' := 11) (L' := [some (2, 161), some (0, p1), some (0, g 174 (9 * p1 + 0)), some (0, 0), none, none]) (st' := []) rfl ?_
  exact h
theorem v_M_breaks_11 {K : Int} {S : Nat} {g r : ab_H} {l1 l2 l3 : Int} (P : Int → ab_H → ab_H → Prop) (hr : SI r) (hK : 186 ≤ K) (h : ((wr 3 ≤ wr l3 → ((0 : Int) ≤ 9 * l1 + 4 ∧ (9 * l1 + 4 : Int) < 1607) ∧ ab_Rn m_M_breaks 39 [some (2, 161), none, some (0, l2), some (0, g 174 (9 * l1 + 4)), none, none] [] (K, S, g, r) (ab_Qi K S P)) ∧ (wr l3 < wr 3 → ((0 : Int) ≤ 9 * l1 + 5 + l3 ∧ (9 * l1 + 5 + l3 : Int) < 1607) ∧ ((0 : Int) ≤ l3 ∧ (l3 : Int) < 3) ∧ ∀ g1, g1 = ab_up g 178 l3 (g 174 (9 * l1 + 5 + l3)) → ab_Rn m_M_breaks 11 [some (2, 161), some (0, l1), some (0, l2), some (0, l3 + 1), none, none] [] (K, S, g1, r) (ab_Qi K S P)))) : ab_Rn m_M_breaks 11 [some (2, 161), some (0, l1), some (0, l2), some (0, l3), none, none] [] (K, S, g, r) (ab_Qi K S P) := by
  refine Rn_pure 2 (i' := 13) (L' := [some (2, 161), some (0, l1), some (0, l2), some (0, l3), none, none]) (st' := [(0, 3), (0, l3)]) rfl ?_
  refine Rn_icge rfl (fun hc => ?_) (fun hc => ?_)
  · have h := h.1 hc
    refine Rn_pure 1 (i' := 31) (L' := [some (2, 161), some (0, l1), some (0, l2), some (0, l3), none, none]) (st' := [(2, 161)]) rfl ?_
    refine Rn_getR rfl (⟨rfl, (by omega : (0 : Int) ≤ 161), (by omega : (161 : Int) + 1 < K ∧ 5 < K)⟩) (hr 149 _ rfl) (by decide) ?_
    refine Rn_pure 5 (i' := 37) (L' := [some (2, 161), some (0, l1), some (0, l2), some (0, l3), none, none]) (st' := [(0, 9 * l1 + 4), (2, 174)]) rfl ?_
    obtain ⟨hg, h⟩ := h
    refine Rn_iald rfl (⟨rfl, (by omega : (0 : Int) ≤ 174), (by omega : (174 : Int) + 1 < K ∧ 5 < K)⟩) hg ?_
    refine Rn_pure 1 (i' := 39) (L' := [some (2, 161), some (0, l1), some (0, l2), some (0, g 174 (9 * l1 + 4)), none, none]) (st' := []) rfl ?_
    refine Rn_weak (L' := [some (2, 161), none, some (0, l2), some (0, g 174 (9 * l1 + 4)), none, none]) ⟨rfl, ⟨rfl, ⟨rfl, trivial⟩⟩⟩ ?_
    exact h
  · have h := h.2 hc
    refine Rn_pure 1 (i' := 15) (L' := [some (2, 161), some (0, l1), some (0, l2), some (0, l3), none, none]) (st' := [(2, 161)]) rfl ?_
    refine Rn_getR rfl (⟨rfl, (by omega : (0 : Int) ≤ 161), (by omega : (161 : Int) + 1 < K ∧ 5 < K)⟩) (hr 153 _ rfl) (by decide) ?_
    refine Rn_pure 2 (i' := 18) (L' := [some (2, 161), some (0, l1), some (0, l2), some (0, l3), none, none]) (st' := [(2, 161), (0, l3), (2, 178)]) rfl ?_
    refine Rn_getR rfl (⟨rfl, (by omega : (0 : Int) ≤ 161), (by omega : (161 : Int) + 1 < K ∧ 5 < K)⟩) (hr 149 _ rfl) (by decide) ?_
    refine Rn_pure 7 (i' := 26) (L' := [some (2, 161), some (0, l1), some (0, l2), some (0, l3), none, none]) (st' := [(0, 9 * l1 + 5 + l3), (2, 174), (0, l3), (2, 178)]) rfl ?_
    obtain ⟨hg, h⟩ := h
    refine Rn_iald rfl (⟨rfl, (by omega : (0 : Int) ≤ 174), (by omega : (174 : Int) + 1 < K ∧ 5 < K)⟩) hg ?_
    obtain ⟨hg, h⟩ := h
    refine Rn_iast rfl (⟨rfl, (by omega : (0 : Int) ≤ 178), (by omega : (178 : Int) + 1 < K ∧ 5 < K)⟩) hg (fun g1 he_g1 => ?_)
    have h := h g1 he_g1
    refine Rn_pure 2 (i' := 11) (L' := [some (2, 161), some (0, l1), some (0, l2), some (0, l3 + 1), none, none]) (st' := []) rfl ?_
    exact h
theorem v_M_breaks_39 {K : Int} {S : Nat} {g r : ab_H} {l2 l3 : Int} (P : Int → ab_H → ab_H → Prop) (hr : SI r) (hK : 186 ≤ K) (h : ((wr 3 ≤ wr l3 → P 0 g r) ∧ (wr l3 < wr 3 → ((¬ wr l2 = wr (g 161 34) → ((0 : Int) ≤ 2 * l2 + l3 - 1 ∧ (2 * l2 + l3 - 1 : Int) < 28) ∧ ab_Rn m_M_breaks 65 [some (2, 161), none, some (0, l2), some (0, l3), some (0, g 168 (2 * l2 + l3 - 1)), some (0, 0)] [] (K, S, g, r) (ab_Qi K S P)) ∧ (wr l2 = wr (g 161 34) → ((¬ wr l3 = wr (g 161 35) → ((0 : Int) ≤ 2 * l2 + l3 - 1 ∧ (2 * l2 + l3 - 1 : Int) < 28) ∧ ab_Rn m_M_breaks 65 [some (2, 161), none, some (0, l2), some (0, l3), some (0, g 168 (2 * l2 + l3 - 1)), some (0, 0)] [] (K, S, g, r) (ab_Qi K S P)) ∧ (wr l3 = wr (g 161 35) → ab_Rn m_M_breaks 65 [some (2, 161), none, some (0, l2), some (0, l3), some (0, 0), some (0, 0)] [] (K, S, g, r) (ab_Qi K S P)))))))) : ab_Rn m_M_breaks 39 [some (2, 161), none, some (0, l2), some (0, l3), none, none] [] (K, S, g, r) (ab_Qi K S P) := by
  refine Rn_pure 2 (i' := 41) (L' := [some (2, 161), none, some (0, l2), some (0, l3), none, none]) (st' := [(0, 3), (0, l3)]) rfl ?_
  refine Rn_icge rfl (fun hc => ?_) (fun hc => ?_)
  · have h := h.1 hc
    refine Rn_pure 1 (i' := 83) (L' := [some (2, 161), none, some (0, l2), some (0, l3), none, none]) (st' := [(0, 0)]) rfl ?_
    exact Rn_ret2 rfl (by decide) h
  · have h := h.2 hc
    refine Rn_pure 2 (i' := 44) (L' := [some (2, 161), none, some (0, l2), some (0, l3), none, none]) (st' := [(2, 161), (0, l2)]) rfl ?_
    refine Rn_getI rfl (⟨rfl, (by omega : (0 : Int) ≤ 161), (by omega : (161 : Int) + 1 < K ∧ 5 < K)⟩) ?_
    refine Rn_icne rfl (fun hc => ?_) (fun hc => ?_)
    · have h := h.1 hc
      refine Rn_pure 1 (i' := 53) (L' := [some (2, 161), none, some (0, l2), some (0, l3), none, none]) (st' := [(2, 161)]) rfl ?_
      refine Rn_getR rfl (⟨rfl, (by omega : (0 : Int) ≤ 161), (by omega : (161 : Int) + 1 < K ∧ 5 < K)⟩) (hr 143 _ rfl) (by decide) ?_
      refine Rn_pure 7 (i' := 61) (L' := [some (2, 161), none, some (0, l2), some (0, l3), none, none]) (st' := [(0, 2 * l2 + l3 - 1), (2, 168)]) rfl ?_
      obtain ⟨hg, h⟩ := h
      refine Rn_iald rfl (⟨rfl, (by omega : (0 : Int) ≤ 168), (by omega : (168 : Int) + 1 < K ∧ 5 < K)⟩) hg ?_
      refine Rn_pure 3 (i' := 65) (L' := [some (2, 161), none, some (0, l2), some (0, l3), some (0, g 168 (2 * l2 + l3 - 1)), some (0, 0)]) (st' := []) rfl ?_
      exact h
    · have h := h.2 hc
      refine Rn_pure 2 (i' := 48) (L' := [some (2, 161), none, some (0, l2), some (0, l3), none, none]) (st' := [(2, 161), (0, l3)]) rfl ?_
      refine Rn_getI rfl (⟨rfl, (by omega : (0 : Int) ≤ 161), (by omega : (161 : Int) + 1 < K ∧ 5 < K)⟩) ?_
      refine Rn_icne rfl (fun hc => ?_) (fun hc => ?_)
      · have h := h.1 hc
        refine Rn_pure 1 (i' := 53) (L' := [some (2, 161), none, some (0, l2), some (0, l3), none, none]) (st' := [(2, 161)]) rfl ?_
        refine Rn_getR rfl (⟨rfl, (by omega : (0 : Int) ≤ 161), (by omega : (161 : Int) + 1 < K ∧ 5 < K)⟩) (hr 143 _ rfl) (by decide) ?_
        refine Rn_pure 7 (i' := 61) (L' := [some (2, 161), none, some (0, l2), some (0, l3), none, none]) (st' := [(0, 2 * l2 + l3 - 1), (2, 168)]) rfl ?_
        obtain ⟨hg, h⟩ := h
        refine Rn_iald rfl (⟨rfl, (by omega : (0 : Int) ≤ 168), (by omega : (168 : Int) + 1 < K ∧ 5 < K)⟩) hg ?_
        refine Rn_pure 3 (i' := 65) (L' := [some (2, 161), none, some (0, l2), some (0, l3), some (0, g 168 (2 * l2 + l3 - 1)), some (0, 0)]) (st' := []) rfl ?_
        exact h
      · have h := h.2 hc
        refine Rn_pure 5 (i' := 65) (L' := [some (2, 161), none, some (0, l2), some (0, l3), some (0, 0), some (0, 0)]) (st' := []) rfl ?_
        exact h
theorem v_M_breaks_65 {K : Int} {S : Nat} {g r : ab_H} {l2 l3 l4 l5 : Int} (P : Int → ab_H → ab_H → Prop) (hr : SI r) (hK : 186 ≤ K) (h : ((wr l4 ≤ wr l5 → ab_Rn m_M_breaks 39 [some (2, 161), none, some (0, l2), some (0, l3 + 1), none, none] [] (K, S, g, r) (ab_Qi K S P)) ∧ (wr l5 < wr l4 → ab_RI m_M_stepAt [(0, 0), (0, l2), (0, l3), (0, l5)] K S g r (fun x1 g' r' => g' = g ∧ r' = r ∧ (ab_RI m_M_breaksBy [(2, 161), (0, x1)] K S g r (fun x3 g2 r' => r' = r ∧ (((wr x3 = wr 0 → ab_Rn m_M_breaks 65 [some (2, 161), none, some (0, l2), some (0, l3), some (0, l4), some (0, l5 + 1)] [] (K, S, g2, r) (ab_Qi K S P)) ∧ (¬ wr x3 = wr 0 → P 1 g2 r))))))))) : ab_Rn m_M_breaks 65 [some (2, 161), none, some (0, l2), some (0, l3), some (0, l4), some (0, l5)] [] (K, S, g, r) (ab_Qi K S P) := by
  refine Rn_pure 2 (i' := 67) (L' := [some (2, 161), none, some (0, l2), some (0, l3), some (0, l4), some (0, l5)]) (st' := [(0, l4), (0, l5)]) rfl ?_
  refine Rn_icge rfl (fun hc => ?_) (fun hc => ?_)
  · have h := h.1 hc
    refine Rn_pure 2 (i' := 39) (L' := [some (2, 161), none, some (0, l2), some (0, l3 + 1), some (0, l4), some (0, l5)]) (st' := []) rfl ?_
    refine Rn_weak (L' := [some (2, 161), none, some (0, l2), some (0, l3 + 1), none, none]) ⟨rfl, ⟨rfl, ⟨rfl, trivial⟩⟩⟩ ?_
    exact h
  · have h := h.2 hc
    refine Rn_pure 5 (i' := 73) (L' := [some (2, 161), none, some (0, l2), some (0, l3), some (0, l4), some (0, l5)]) (st' := [(0, l5), (0, l3), (0, l2), (0, 0), (2, 161)]) rfl ?_
    refine Rn_callI [(0, 0), (0, l2), (0, l3), (0, l5)] [(2, 161)] rfl rfl rfl rfl (rfl) ?_
    refine h.mono (fun x1 g' r' h => ?_)
    obtain ⟨hx, h⟩ := h
    replace hx := hx.symm
    subst hx
    obtain ⟨hx, h⟩ := h
    replace hx := hx.symm
    subst hx
    refine Rn_callI [(2, 161), (0, x1)] [] rfl rfl rfl rfl (ab_rvB_of rfl (⟨rfl, (by omega : (0 : Int) ≤ 161), (by omega : (161 : Int) + 1 < K ∧ 5 < K)⟩)) ?_
    refine h.mono (fun x3 g2 r' h => ?_)
    obtain ⟨hx, h⟩ := h
    replace hx := hx.symm
    subst hx
    refine Rn_ifeq rfl (fun hc => ?_) (fun hc => ?_)
    · have h := h.1 hc
      refine Rn_pure 2 (i' := 65) (L' := [some (2, 161), none, some (0, l2), some (0, l3), some (0, l4), some (0, l5 + 1)]) (st' := []) rfl ?_
      exact h
    · have h := h.2 hc
      refine Rn_pure 1 (i' := 77) (L' := [some (2, 161), none, some (0, l2), some (0, l3), some (0, l4), some (0, l5)]) (st' := [(0, 1)]) rfl ?_
      exact Rn_ret2 rfl (by decide) h
-- EventLedgerModel.breaksBy (I)Z
theorem v_M_breaksBy {K : Int} {S : Nat} {g r : ab_H} {p1 : Int} (P : Int → ab_H → ab_H → Prop) (hr : SI r) (hK : 186 ≤ K) (h : ((0 : Int) ≤ p1 ∧ (p1 : Int) < 112) ∧ ((0 : Int) ≤ p1 ∧ (p1 : Int) < 112) ∧ ((0 : Int) ≤ p1 ∧ (p1 : Int) < 112) ∧ ((wr (g 169 p1 - 8) = 0 → ((0 : Int) ≤ g 170 p1 - 1 ∧ (g 170 p1 - 1 : Int) < 3) ∧ ∀ g1, g1 = ab_up g 178 (g 170 p1 - 1) (g 171 p1) → ab_Rn m_M_breaksBy 53 [some (2, 161), none, none, none] [] (K, S, g1, r) (ab_Qi K S P)) ∧ (wr (g 169 p1 - 8) = 1 → ((0 : Int) ≤ g 170 p1 - 1 ∧ (g 170 p1 - 1 : Int) < 3) ∧ ((0 : Int) ≤ g 170 p1 - 1 ∧ (g 170 p1 - 1 : Int) < 3) ∧ ∀ g2, g2 = ab_up g 178 (g 170 p1 - 1) ((g 178 (g 170 p1 - 1)) * (g 171 p1)) → ab_Rn m_M_breaksBy 53 [some (2, 161), none, none, none] [] (K, S, g2, r) (ab_Qi K S P)) ∧ (wr (g 169 p1 - 8) = 2 → ((0 : Int) ≤ g 170 p1 - 1 ∧ (g 170 p1 - 1 : Int) < 3) ∧ ((0 : Int) ≤ g 170 p1 - 1 ∧ (g 170 p1 - 1 : Int) < 3) ∧ ∀ g3, g3 = ab_up g 178 (g 170 p1 - 1) (g 178 (g 170 p1 - 1) + (g 171 p1)) → ab_Rn m_M_breaksBy 53 [some (2, 161), none, none, none] [] (K, S, g3, r) (ab_Qi K S P)) ∧ (wr (g 169 p1 - 8) < 0 ∨ 3 ≤ wr (g 169 p1 - 8) → ((0 : Int) ≤ g 171 p1 - 1 ∧ (g 171 p1 - 1 : Int) < 3) ∧ ((0 : Int) ≤ g 170 p1 - 1 ∧ (g 170 p1 - 1 : Int) < 3) ∧ ∀ g4, g4 = ab_up g 178 (g 170 p1 - 1) (g 178 (g 171 p1 - 1)) → ab_Rn m_M_breaksBy 53 [some (2, 161), none, none, none] [] (K, S, g4, r) (ab_Qi K S P)))) : ab_RI m_M_breaksBy [(2, 161), (0, p1)] K S g r P := by
  show ab_Rn m_M_breaksBy 0 [some (2, 161), some (0, p1), none, none] [] (K, S, g, r) (ab_Qi K S P)
  refine Rn_pure 1 (i' := 1) (L' := [some (2, 161), some (0, p1), none, none]) (st' := [(2, 161)]) rfl ?_
  refine Rn_getR rfl (⟨rfl, (by omega : (0 : Int) ≤ 161), (by omega : (161 : Int) + 1 < K ∧ 5 < K)⟩) (hr 145 _ rfl) (by decide) ?_
  refine Rn_pure 1 (i' := 3) (L' := [some (2, 161), some (0, p1), none, none]) (st' := [(0, p1), (2, 170)]) rfl ?_
  obtain ⟨hg, h⟩ := h
  refine Rn_iald rfl (⟨rfl, (by omega : (0 : Int) ≤ 170), (by omega : (170 : Int) + 1 < K ∧ 5 < K)⟩) hg ?_
  refine Rn_pure 4 (i' := 8) (L' := [some (2, 161), some (0, p1), some (0, g 170 p1 - 1), none]) (st' := [(2, 161)]) rfl ?_
  refine Rn_getR rfl (⟨rfl, (by omega : (0 : Int) ≤ 161), (by omega : (161 : Int) + 1 < K ∧ 5 < K)⟩) (hr 146 _ rfl) (by decide) ?_
  refine Rn_pure 1 (i' := 10) (L' := [some (2, 161), some (0, p1), some (0, g 170 p1 - 1), none]) (st' := [(0, p1), (2, 171)]) rfl ?_
  obtain ⟨hg, h⟩ := h
  refine Rn_iald rfl (⟨rfl, (by omega : (0 : Int) ≤ 171), (by omega : (171 : Int) + 1 < K ∧ 5 < K)⟩) hg ?_
  refine Rn_pure 2 (i' := 13) (L' := [some (2, 161), some (0, p1), some (0, g 170 p1 - 1), some (0, g 171 p1)]) (st' := [(2, 161)]) rfl ?_
  refine Rn_getR rfl (⟨rfl, (by omega : (0 : Int) ≤ 161), (by omega : (161 : Int) + 1 < K ∧ 5 < K)⟩) (hr 144 _ rfl) (by decide) ?_
  refine Rn_pure 1 (i' := 15) (L' := [some (2, 161), some (0, p1), some (0, g 170 p1 - 1), some (0, g 171 p1)]) (st' := [(0, p1), (2, 169)]) rfl ?_
  obtain ⟨hg, h⟩ := h
  refine Rn_iald rfl (⟨rfl, (by omega : (0 : Int) ≤ 169), (by omega : (169 : Int) + 1 < K ∧ 5 < K)⟩) hg ?_
  refine Rn_pure 2 (i' := 18) (L' := [some (2, 161), some (0, p1), some (0, g 170 p1 - 1), some (0, g 171 p1)]) (st' := [(0, g 169 p1 - 8)]) rfl ?_
  refine Rn_ts rfl ?_
  have ht19 : (wr (g 169 p1 - 8) = 0) → ab_Rn m_M_breaksBy 19 [some (2, 161), some (0, p1), some (0, g 170 p1 - 1), some (0, g 171 p1)] [] (K, S, g, r) (ab_Qi K S P) := by
    intro hc
    have h := h.1 hc
    refine Rn_pure 1 (i' := 20) (L' := [some (2, 161), some (0, p1), some (0, g 170 p1 - 1), some (0, g 171 p1)]) (st' := [(2, 161)]) rfl ?_
    refine Rn_getR rfl (⟨rfl, (by omega : (0 : Int) ≤ 161), (by omega : (161 : Int) + 1 < K ∧ 5 < K)⟩) (hr 153 _ rfl) (by decide) ?_
    refine Rn_pure 2 (i' := 23) (L' := [some (2, 161), some (0, p1), some (0, g 170 p1 - 1), some (0, g 171 p1)]) (st' := [(0, g 171 p1), (0, g 170 p1 - 1), (2, 178)]) rfl ?_
    obtain ⟨hg, h⟩ := h
    refine Rn_iast rfl (⟨rfl, (by omega : (0 : Int) ≤ 178), (by omega : (178 : Int) + 1 < K ∧ 5 < K)⟩) hg (fun g1 he_g1 => ?_)
    have h := h g1 he_g1
    refine Rn_pure 1 (i' := 53) (L' := [some (2, 161), some (0, p1), some (0, g 170 p1 - 1), some (0, g 171 p1)]) (st' := []) rfl ?_
    refine Rn_weak (L' := [some (2, 161), none, none, none]) ⟨rfl, trivial⟩ ?_
    exact h
  have ht25 : (wr (g 169 p1 - 8) = 1) → ab_Rn m_M_breaksBy 25 [some (2, 161), some (0, p1), some (0, g 170 p1 - 1), some (0, g 171 p1)] [] (K, S, g, r) (ab_Qi K S P) := by
    intro hc
    have h := h.2.1 hc
    refine Rn_pure 1 (i' := 26) (L' := [some (2, 161), some (0, p1), some (0, g 170 p1 - 1), some (0, g 171 p1)]) (st' := [(2, 161)]) rfl ?_
    refine Rn_getR rfl (⟨rfl, (by omega : (0 : Int) ≤ 161), (by omega : (161 : Int) + 1 < K ∧ 5 < K)⟩) (hr 153 _ rfl) (by decide) ?_
    refine Rn_pure 2 (i' := 29) (L' := [some (2, 161), some (0, p1), some (0, g 170 p1 - 1), some (0, g 171 p1)]) (st' := [(0, g 170 p1 - 1), (2, 178), (0, g 170 p1 - 1), (2, 178)]) rfl ?_
    obtain ⟨hg, h⟩ := h
    refine Rn_iald rfl (⟨rfl, (by omega : (0 : Int) ≤ 178), (by omega : (178 : Int) + 1 < K ∧ 5 < K)⟩) hg ?_
    refine Rn_pure 2 (i' := 32) (L' := [some (2, 161), some (0, p1), some (0, g 170 p1 - 1), some (0, g 171 p1)]) (st' := [(0, (g 178 (g 170 p1 - 1)) * (g 171 p1)), (0, g 170 p1 - 1), (2, 178)]) rfl ?_
    obtain ⟨hg, h⟩ := h
    refine Rn_iast rfl (⟨rfl, (by omega : (0 : Int) ≤ 178), (by omega : (178 : Int) + 1 < K ∧ 5 < K)⟩) hg (fun g2 he_g2 => ?_)
    have h := h g2 he_g2
    refine Rn_pure 1 (i' := 53) (L' := [some (2, 161), some (0, p1), some (0, g 170 p1 - 1), some (0, g 171 p1)]) (st' := []) rfl ?_
    refine Rn_weak (L' := [some (2, 161), none, none, none]) ⟨rfl, trivial⟩ ?_
    exact h
  have ht34 : (wr (g 169 p1 - 8) = 2) → ab_Rn m_M_breaksBy 34 [some (2, 161), some (0, p1), some (0, g 170 p1 - 1), some (0, g 171 p1)] [] (K, S, g, r) (ab_Qi K S P) := by
    intro hc
    have h := h.2.2.1 hc
    refine Rn_pure 1 (i' := 35) (L' := [some (2, 161), some (0, p1), some (0, g 170 p1 - 1), some (0, g 171 p1)]) (st' := [(2, 161)]) rfl ?_
    refine Rn_getR rfl (⟨rfl, (by omega : (0 : Int) ≤ 161), (by omega : (161 : Int) + 1 < K ∧ 5 < K)⟩) (hr 153 _ rfl) (by decide) ?_
    refine Rn_pure 2 (i' := 38) (L' := [some (2, 161), some (0, p1), some (0, g 170 p1 - 1), some (0, g 171 p1)]) (st' := [(0, g 170 p1 - 1), (2, 178), (0, g 170 p1 - 1), (2, 178)]) rfl ?_
    obtain ⟨hg, h⟩ := h
    refine Rn_iald rfl (⟨rfl, (by omega : (0 : Int) ≤ 178), (by omega : (178 : Int) + 1 < K ∧ 5 < K)⟩) hg ?_
    refine Rn_pure 2 (i' := 41) (L' := [some (2, 161), some (0, p1), some (0, g 170 p1 - 1), some (0, g 171 p1)]) (st' := [(0, g 178 (g 170 p1 - 1) + (g 171 p1)), (0, g 170 p1 - 1), (2, 178)]) rfl ?_
    obtain ⟨hg, h⟩ := h
    refine Rn_iast rfl (⟨rfl, (by omega : (0 : Int) ≤ 178), (by omega : (178 : Int) + 1 < K ∧ 5 < K)⟩) hg (fun g3 he_g3 => ?_)
    have h := h g3 he_g3
    refine Rn_pure 1 (i' := 53) (L' := [some (2, 161), some (0, p1), some (0, g 170 p1 - 1), some (0, g 171 p1)]) (st' := []) rfl ?_
    refine Rn_weak (L' := [some (2, 161), none, none, none]) ⟨rfl, trivial⟩ ?_
    exact h
  have htd : (wr (g 169 p1 - 8) < 0 ∨ 3 ≤ wr (g 169 p1 - 8)) → ab_Rn m_M_breaksBy 43 [some (2, 161), some (0, p1), some (0, g 170 p1 - 1), some (0, g 171 p1)] [] (K, S, g, r) (ab_Qi K S P) := by
    intro hc
    have h := h.2.2.2 hc
    refine Rn_pure 1 (i' := 44) (L' := [some (2, 161), some (0, p1), some (0, g 170 p1 - 1), some (0, g 171 p1)]) (st' := [(2, 161)]) rfl ?_
    refine Rn_getR rfl (⟨rfl, (by omega : (0 : Int) ≤ 161), (by omega : (161 : Int) + 1 < K ∧ 5 < K)⟩) (hr 153 _ rfl) (by decide) ?_
    refine Rn_pure 2 (i' := 47) (L' := [some (2, 161), some (0, p1), some (0, g 170 p1 - 1), some (0, g 171 p1)]) (st' := [(2, 161), (0, g 170 p1 - 1), (2, 178)]) rfl ?_
    refine Rn_getR rfl (⟨rfl, (by omega : (0 : Int) ≤ 161), (by omega : (161 : Int) + 1 < K ∧ 5 < K)⟩) (hr 153 _ rfl) (by decide) ?_
    refine Rn_pure 3 (i' := 51) (L' := [some (2, 161), some (0, p1), some (0, g 170 p1 - 1), some (0, g 171 p1)]) (st' := [(0, g 171 p1 - 1), (2, 178), (0, g 170 p1 - 1), (2, 178)]) rfl ?_
    obtain ⟨hg, h⟩ := h
    refine Rn_iald rfl (⟨rfl, (by omega : (0 : Int) ≤ 178), (by omega : (178 : Int) + 1 < K ∧ 5 < K)⟩) hg ?_
    obtain ⟨hg, h⟩ := h
    refine Rn_iast rfl (⟨rfl, (by omega : (0 : Int) ≤ 178), (by omega : (178 : Int) + 1 < K ∧ 5 < K)⟩) hg (fun g4 he_g4 => ?_)
    have h := h g4 he_g4
    refine Rn_weak (L' := [some (2, 161), none, none, none]) ⟨rfl, trivial⟩ ?_
    exact h
  have hsp : wr (g 169 p1 - 8) < 0 ∨ 3 ≤ wr (g 169 p1 - 8) ∨ wr (g 169 p1 - 8) = 0 ∨ wr (g 169 p1 - 8) = 1 ∨ wr (g 169 p1 - 8) = 2 := by omega
  rcases hsp with hc | hc | hc | hc | hc
  · rw [ab_ts_out (hT := (rfl : ab_nth ab_tsL 3 = some (0, 43, [19, 25, 34]))) rfl (Or.inl hc)]; exact htd (by simp only [hc, true_or, or_true])
  · rw [ab_ts_out (hT := (rfl : ab_nth ab_tsL 3 = some (0, 43, [19, 25, 34]))) rfl (Or.inr hc)]; exact htd (by simp only [hc, true_or, or_true])
  · rw [ab_ts_in (j := 0) (hT := (rfl : ab_nth ab_tsL 3 = some (0, 43, [19, 25, 34]))) (by rw [hc]; rfl) rfl]; exact ht19 (by simp only [hc, true_or, or_true])
  · rw [ab_ts_in (j := 1) (hT := (rfl : ab_nth ab_tsL 3 = some (0, 43, [19, 25, 34]))) (by rw [hc]; rfl) rfl]; exact ht25 (by simp only [hc, true_or, or_true])
  · rw [ab_ts_in (j := 2) (hT := (rfl : ab_nth ab_tsL 3 = some (0, 43, [19, 25, 34]))) (by rw [hc]; rfl) rfl]; exact ht34 (by simp only [hc, true_or, or_true])
theorem v_M_breaksBy_53 {K : Int} {S : Nat} {g r : ab_H} (P : Int → ab_H → ab_H → Prop) (hr : SI r) (hK : 186 ≤ K) (h : ((0 : Int) ≤ 0 ∧ (0 : Int) < 3) ∧ ((wr 1000000 < wr (g 178 0) → ab_Rn m_M_breaksBy 71 [none, none, none, none] [] (K, S, g, r) (ab_Qi K S P)) ∧ (wr (g 178 0) ≤ wr 1000000 → ((0 : Int) ≤ 1 ∧ (1 : Int) < 3) ∧ ((wr 1000000 < wr (g 178 1) → ab_Rn m_M_breaksBy 71 [none, none, none, none] [] (K, S, g, r) (ab_Qi K S P)) ∧ (wr (g 178 1) ≤ wr 1000000 → ((0 : Int) ≤ 2 ∧ (2 : Int) < 3) ∧ ((wr (g 178 2) ≤ wr 1000000 → P 0 g r) ∧ (wr 1000000 < wr (g 178 2) → ab_Rn m_M_breaksBy 71 [none, none, none, none] [] (K, S, g, r) (ab_Qi K S P)))))))) : ab_Rn m_M_breaksBy 53 [some (2, 161), none, none, none] [] (K, S, g, r) (ab_Qi K S P) := by
  refine Rn_pure 1 (i' := 54) (L' := [some (2, 161), none, none, none]) (st' := [(2, 161)]) rfl ?_
  refine Rn_getR rfl (⟨rfl, (by omega : (0 : Int) ≤ 161), (by omega : (161 : Int) + 1 < K ∧ 5 < K)⟩) (hr 153 _ rfl) (by decide) ?_
  refine Rn_pure 1 (i' := 56) (L' := [some (2, 161), none, none, none]) (st' := [(0, 0), (2, 178)]) rfl ?_
  obtain ⟨hg, h⟩ := h
  refine Rn_iald rfl (⟨rfl, (by omega : (0 : Int) ≤ 178), (by omega : (178 : Int) + 1 < K ∧ 5 < K)⟩) hg ?_
  refine Rn_pure 1 (i' := 58) (L' := [some (2, 161), none, none, none]) (st' := [(0, 1000000), (0, g 178 0)]) rfl ?_
  refine Rn_icgt rfl (fun hc => ?_) (fun hc => ?_)
  · have h := h.1 hc
    refine Rn_weak (L' := [none, none, none, none]) trivial ?_
    exact h
  · have h := h.2 hc
    refine Rn_pure 1 (i' := 60) (L' := [some (2, 161), none, none, none]) (st' := [(2, 161)]) rfl ?_
    refine Rn_getR rfl (⟨rfl, (by omega : (0 : Int) ≤ 161), (by omega : (161 : Int) + 1 < K ∧ 5 < K)⟩) (hr 153 _ rfl) (by decide) ?_
    refine Rn_pure 1 (i' := 62) (L' := [some (2, 161), none, none, none]) (st' := [(0, 1), (2, 178)]) rfl ?_
    obtain ⟨hg, h⟩ := h
    refine Rn_iald rfl (⟨rfl, (by omega : (0 : Int) ≤ 178), (by omega : (178 : Int) + 1 < K ∧ 5 < K)⟩) hg ?_
    refine Rn_pure 1 (i' := 64) (L' := [some (2, 161), none, none, none]) (st' := [(0, 1000000), (0, g 178 1)]) rfl ?_
    refine Rn_icgt rfl (fun hc => ?_) (fun hc => ?_)
    · have h := h.1 hc
      refine Rn_weak (L' := [none, none, none, none]) trivial ?_
      exact h
    · have h := h.2 hc
      refine Rn_pure 1 (i' := 66) (L' := [some (2, 161), none, none, none]) (st' := [(2, 161)]) rfl ?_
      refine Rn_getR rfl (⟨rfl, (by omega : (0 : Int) ≤ 161), (by omega : (161 : Int) + 1 < K ∧ 5 < K)⟩) (hr 153 _ rfl) (by decide) ?_
      refine Rn_pure 1 (i' := 68) (L' := [some (2, 161), none, none, none]) (st' := [(0, 2), (2, 178)]) rfl ?_
      obtain ⟨hg, h⟩ := h
      refine Rn_iald rfl (⟨rfl, (by omega : (0 : Int) ≤ 178), (by omega : (178 : Int) + 1 < K ∧ 5 < K)⟩) hg ?_
      refine Rn_pure 1 (i' := 70) (L' := [some (2, 161), none, none, none]) (st' := [(0, 1000000), (0, g 178 2)]) rfl ?_
      refine Rn_icle rfl (fun hc => ?_) (fun hc => ?_)
      · have h := h.1 hc
        refine Rn_pure 1 (i' := 74) (L' := [some (2, 161), none, none, none]) (st' := [(0, 0)]) rfl ?_
        exact Rn_ret2 rfl (by decide) h
      · have h := h.2 hc
        refine Rn_weak (L' := [none, none, none, none]) trivial ?_
        exact h
theorem v_M_breaksBy_71 {K : Int} {S : Nat} {g r : ab_H} (P : Int → ab_H → ab_H → Prop) (hr : SI r) (hK : 186 ≤ K) (h : P 1 g r) : ab_Rn m_M_breaksBy 71 [none, none, none, none] [] (K, S, g, r) (ab_Qi K S P) := by
  refine Rn_pure 2 (i' := 74) (L' := [none, none, none, none]) (st' := [(0, 1)]) rfl ?_
  exact Rn_ret2 rfl (by decide) h
-- EventLedgerModel.causeOf (IIIZ)I
theorem v_M_causeOf {K : Int} {S : Nat} {g r : ab_H} {p1 p2 p3 p4 : Int} (P : Int → ab_H → ab_H → Prop) (hr : SI r) (hK : 186 ≤ K) (h : ((wr p4 = wr 0 → ((¬ wr p1 = wr 0 → ((0 : Int) ≤ p2 ∧ (p2 : Int) < 8) ∧ ((¬ wr (g 182 p2) = wr 0 → ab_Rn m_M_causeOf 19 [some (2, 161), some (0, p1), some (0, p2), some (0, p3), none, none] [] (K, S, g, r) (ab_Qi K S P)) ∧ (wr (g 182 p2) = wr 0 → ab_Rn m_M_causeOf 17 [none, none, none, none, none, none] [] (K, S, g, r) (ab_Qi K S P)))) ∧ (wr p1 = wr 0 → ((0 : Int) ≤ p2 ∧ (p2 : Int) < 8) ∧ ((wr (g 182 p2) = wr 0 → ab_Rn m_M_causeOf 19 [some (2, 161), some (0, p1), some (0, p2), some (0, p3), none, none] [] (K, S, g, r) (ab_Qi K S P)) ∧ (¬ wr (g 182 p2) = wr 0 → ab_Rn m_M_causeOf 17 [none, none, none, none, none, none] [] (K, S, g, r) (ab_Qi K S P)))))) ∧ (¬ wr p4 = wr 0 → P 1 g r))) : ab_RI m_M_causeOf [(2, 161), (0, p1), (0, p2), (0, p3), (0, p4)] K S g r P := by
  show ab_Rn m_M_causeOf 0 [some (2, 161), some (0, p1), some (0, p2), some (0, p3), some (0, p4), none] [] (K, S, g, r) (ab_Qi K S P)
  refine Rn_pure 1 (i' := 1) (L' := [some (2, 161), some (0, p1), some (0, p2), some (0, p3), some (0, p4), none]) (st' := [(0, p4)]) rfl ?_
  refine Rn_ifeq rfl (fun hc => ?_) (fun hc => ?_)
  · have h := h.1 hc
    refine Rn_pure 1 (i' := 5) (L' := [some (2, 161), some (0, p1), some (0, p2), some (0, p3), some (0, p4), none]) (st' := [(0, p1)]) rfl ?_
    refine Rn_ifne rfl (fun hc => ?_) (fun hc => ?_)
    · have h := h.1 hc
      refine Rn_pure 1 (i' := 13) (L' := [some (2, 161), some (0, p1), some (0, p2), some (0, p3), some (0, p4), none]) (st' := [(2, 161)]) rfl ?_
      refine Rn_getR rfl (⟨rfl, (by omega : (0 : Int) ≤ 161), (by omega : (161 : Int) + 1 < K ∧ 5 < K)⟩) (hr 157 _ rfl) (by decide) ?_
      refine Rn_pure 1 (i' := 15) (L' := [some (2, 161), some (0, p1), some (0, p2), some (0, p3), some (0, p4), none]) (st' := [(0, p2), (2, 182)]) rfl ?_
      obtain ⟨hg, h⟩ := h
      refine Rn_zald rfl (⟨rfl, (by omega : (0 : Int) ≤ 182), (by omega : (182 : Int) + 1 < K ∧ 5 < K)⟩) hg ?_
      refine Rn_ifne rfl (fun hc => ?_) (fun hc => ?_)
      · have h := h.1 hc
        refine Rn_weak (L' := [some (2, 161), some (0, p1), some (0, p2), some (0, p3), none, none]) ⟨rfl, ⟨rfl, ⟨rfl, ⟨rfl, trivial⟩⟩⟩⟩ ?_
        exact h
      · have h := h.2 hc
        refine Rn_weak (L' := [none, none, none, none, none, none]) trivial ?_
        exact h
    · have h := h.2 hc
      refine Rn_pure 1 (i' := 7) (L' := [some (2, 161), some (0, p1), some (0, p2), some (0, p3), some (0, p4), none]) (st' := [(2, 161)]) rfl ?_
      refine Rn_getR rfl (⟨rfl, (by omega : (0 : Int) ≤ 161), (by omega : (161 : Int) + 1 < K ∧ 5 < K)⟩) (hr 157 _ rfl) (by decide) ?_
      refine Rn_pure 1 (i' := 9) (L' := [some (2, 161), some (0, p1), some (0, p2), some (0, p3), some (0, p4), none]) (st' := [(0, p2), (2, 182)]) rfl ?_
      obtain ⟨hg, h⟩ := h
      refine Rn_zald rfl (⟨rfl, (by omega : (0 : Int) ≤ 182), (by omega : (182 : Int) + 1 < K ∧ 5 < K)⟩) hg ?_
      refine Rn_ifeq rfl (fun hc => ?_) (fun hc => ?_)
      · have h := h.1 hc
        refine Rn_weak (L' := [some (2, 161), some (0, p1), some (0, p2), some (0, p3), none, none]) ⟨rfl, ⟨rfl, ⟨rfl, ⟨rfl, trivial⟩⟩⟩⟩ ?_
        exact h
      · have h := h.2 hc
        refine Rn_pure 1 (i' := 17) (L' := [some (2, 161), some (0, p1), some (0, p2), some (0, p3), some (0, p4), none]) (st' := []) rfl ?_
        refine Rn_weak (L' := [none, none, none, none, none, none]) trivial ?_
        exact h
  · have h := h.2 hc
    refine Rn_pure 1 (i' := 3) (L' := [some (2, 161), some (0, p1), some (0, p2), some (0, p3), some (0, p4), none]) (st' := [(0, 1)]) rfl ?_
    exact Rn_ret1 rfl h
theorem v_M_causeOf_17 {K : Int} {S : Nat} {g r : ab_H} (P : Int → ab_H → ab_H → Prop) (hr : SI r) (hK : 186 ≤ K) (h : P 2 g r) : ab_Rn m_M_causeOf 17 [none, none, none, none, none, none] [] (K, S, g, r) (ab_Qi K S P) := by
  refine Rn_pure 1 (i' := 18) (L' := [none, none, none, none, none, none]) (st' := [(0, 2)]) rfl ?_
  exact Rn_ret1 rfl h
theorem v_M_causeOf_19 {K : Int} {S : Nat} {g r : ab_H} {l1 l2 l3 : Int} (P : Int → ab_H → ab_H → Prop) (hr : SI r) (hK : 186 ≤ K) (h : ((¬ wr l1 = wr 6 → ab_Rn m_M_causeOf 29 [some (2, 161), some (0, l1), some (0, l2), none, none, none] [] (K, S, g, r) (ab_Qi K S P)) ∧ (wr l1 = wr 6 → ((0 : Int) ≤ l3 ∧ (l3 : Int) < 8) ∧ ((¬ wr (g 182 l3) = wr 0 → ab_Rn m_M_causeOf 29 [some (2, 161), some (0, l1), some (0, l2), none, none, none] [] (K, S, g, r) (ab_Qi K S P)) ∧ (wr (g 182 l3) = wr 0 → P 2 g r))))) : ab_Rn m_M_causeOf 19 [some (2, 161), some (0, l1), some (0, l2), some (0, l3), none, none] [] (K, S, g, r) (ab_Qi K S P) := by
  refine Rn_pure 2 (i' := 21) (L' := [some (2, 161), some (0, l1), some (0, l2), some (0, l3), none, none]) (st' := [(0, 6), (0, l1)]) rfl ?_
  refine Rn_icne rfl (fun hc => ?_) (fun hc => ?_)
  · have h := h.1 hc
    refine Rn_weak (L' := [some (2, 161), some (0, l1), some (0, l2), none, none, none]) ⟨rfl, ⟨rfl, ⟨rfl, trivial⟩⟩⟩ ?_
    exact h
  · have h := h.2 hc
    refine Rn_pure 1 (i' := 23) (L' := [some (2, 161), some (0, l1), some (0, l2), some (0, l3), none, none]) (st' := [(2, 161)]) rfl ?_
    refine Rn_getR rfl (⟨rfl, (by omega : (0 : Int) ≤ 161), (by omega : (161 : Int) + 1 < K ∧ 5 < K)⟩) (hr 157 _ rfl) (by decide) ?_
    refine Rn_pure 1 (i' := 25) (L' := [some (2, 161), some (0, l1), some (0, l2), some (0, l3), none, none]) (st' := [(0, l3), (2, 182)]) rfl ?_
    obtain ⟨hg, h⟩ := h
    refine Rn_zald rfl (⟨rfl, (by omega : (0 : Int) ≤ 182), (by omega : (182 : Int) + 1 < K ∧ 5 < K)⟩) hg ?_
    refine Rn_ifne rfl (fun hc => ?_) (fun hc => ?_)
    · have h := h.1 hc
      refine Rn_weak (L' := [some (2, 161), some (0, l1), some (0, l2), none, none, none]) ⟨rfl, ⟨rfl, ⟨rfl, trivial⟩⟩⟩ ?_
      exact h
    · have h := h.2 hc
      refine Rn_pure 1 (i' := 28) (L' := [some (2, 161), some (0, l1), some (0, l2), some (0, l3), none, none]) (st' := [(0, 2)]) rfl ?_
      exact Rn_ret1 rfl h
theorem v_M_causeOf_29 {K : Int} {S : Nat} {g r : ab_H} {l1 l2 : Int} (P : Int → ab_H → ab_H → Prop) (hr : SI r) (hK : 186 ≤ K) (h : ((wr l1 = 2 ∨ wr l1 = 6 → ((0 : Int) ≤ l2 ∧ (l2 : Int) < 8) ∧ ((0 : Int) ≤ 0 ∧ (0 : Int) < 3) ∧ ((0 : Int) ≤ 1 ∧ (1 : Int) < 3) ∧ ((0 : Int) ≤ l2 ∧ (l2 : Int) < 8) ∧ ((0 : Int) ≤ l2 ∧ (l2 : Int) < 8) ∧ ((wr (-(g 181 l2)) ≤ wr (g 179 l2 - (g 178 0) - (g 178 1) - (g 180 l2)) → ab_Rn m_M_causeOf 111 [none, none, none, none, none, some (0, 0)] [] (K, S, g, r) (ab_Qi K S P)) ∧ (wr (g 179 l2 - (g 178 0) - (g 178 1) - (g 180 l2)) < wr (-(g 181 l2)) → ab_Rn m_M_causeOf 111 [none, none, none, none, none, some (0, 1)] [] (K, S, g, r) (ab_Qi K S P)))) ∧ (wr l1 = 3 → ((0 : Int) ≤ l2 ∧ (l2 : Int) < 8) ∧ ((0 : Int) ≤ 0 ∧ (0 : Int) < 3) ∧ ((0 : Int) ≤ l2 ∧ (l2 : Int) < 8) ∧ ((wr (g 180 l2 + (g 178 0)) ≤ wr (g 179 l2) → ab_Rn m_M_causeOf 111 [none, none, none, none, none, some (0, 0)] [] (K, S, g, r) (ab_Qi K S P)) ∧ (wr (g 179 l2) < wr (g 180 l2 + (g 178 0)) → ab_Rn m_M_causeOf 111 [none, none, none, none, none, some (0, 1)] [] (K, S, g, r) (ab_Qi K S P)))) ∧ (wr l1 = 4 → ((0 : Int) ≤ l2 ∧ (l2 : Int) < 8) ∧ ((0 : Int) ≤ 0 ∧ (0 : Int) < 3) ∧ ((wr (g 178 0) ≤ wr (g 180 l2) → ab_Rn m_M_causeOf 111 [none, none, none, none, none, some (0, 0)] [] (K, S, g, r) (ab_Qi K S P)) ∧ (wr (g 180 l2) < wr (g 178 0) → ab_Rn m_M_causeOf 111 [none, none, none, none, none, some (0, 1)] [] (K, S, g, r) (ab_Qi K S P)))) ∧ (wr l1 = 5 → ((0 : Int) ≤ l2 ∧ (l2 : Int) < 8) ∧ ((¬ wr (g 179 l2) = wr 0 → ab_Rn m_M_causeOf 106 [none, none, none, none, none, none] [] (K, S, g, r) (ab_Qi K S P)) ∧ (wr (g 179 l2) = wr 0 → ((0 : Int) ≤ l2 ∧ (l2 : Int) < 8) ∧ ((wr (g 180 l2) = wr 0 → ab_Rn m_M_causeOf 111 [none, none, none, none, none, some (0, 0)] [] (K, S, g, r) (ab_Qi K S P)) ∧ (¬ wr (g 180 l2) = wr 0 → ab_Rn m_M_causeOf 106 [none, none, none, none, none, none] [] (K, S, g, r) (ab_Qi K S P)))))) ∧ (wr l1 < 2 ∨ 7 ≤ wr l1 → ab_Rn m_M_causeOf 111 [none, none, none, none, none, some (0, 0)] [] (K, S, g, r) (ab_Qi K S P)))) : ab_Rn m_M_causeOf 29 [some (2, 161), some (0, l1), some (0, l2), none, none, none] [] (K, S, g, r) (ab_Qi K S P) := by
  refine Rn_pure 3 (i' := 32) (L' := [some (2, 161), some (0, l1), some (0, l2), none, none, some (0, 0)]) (st' := [(0, l1)]) rfl ?_
  refine Rn_ts rfl ?_
  have ht33 : (wr l1 = 2 ∨ wr l1 = 6) → ab_Rn m_M_causeOf 33 [some (2, 161), some (0, l1), some (0, l2), none, none, some (0, 0)] [] (K, S, g, r) (ab_Qi K S P) := by
    intro hc
    have h := h.1 hc
    refine Rn_pure 1 (i' := 34) (L' := [some (2, 161), some (0, l1), some (0, l2), none, none, some (0, 0)]) (st' := [(2, 161)]) rfl ?_
    refine Rn_getR rfl (⟨rfl, (by omega : (0 : Int) ≤ 161), (by omega : (161 : Int) + 1 < K ∧ 5 < K)⟩) (hr 154 _ rfl) (by decide) ?_
    refine Rn_pure 1 (i' := 36) (L' := [some (2, 161), some (0, l1), some (0, l2), none, none, some (0, 0)]) (st' := [(0, l2), (2, 179)]) rfl ?_
    obtain ⟨hg, h⟩ := h
    refine Rn_iald rfl (⟨rfl, (by omega : (0 : Int) ≤ 179), (by omega : (179 : Int) + 1 < K ∧ 5 < K)⟩) hg ?_
    refine Rn_pure 1 (i' := 38) (L' := [some (2, 161), some (0, l1), some (0, l2), none, none, some (0, 0)]) (st' := [(2, 161), (0, g 179 l2)]) rfl ?_
    refine Rn_getR rfl (⟨rfl, (by omega : (0 : Int) ≤ 161), (by omega : (161 : Int) + 1 < K ∧ 5 < K)⟩) (hr 153 _ rfl) (by decide) ?_
    refine Rn_pure 1 (i' := 40) (L' := [some (2, 161), some (0, l1), some (0, l2), none, none, some (0, 0)]) (st' := [(0, 0), (2, 178), (0, g 179 l2)]) rfl ?_
    obtain ⟨hg, h⟩ := h
    refine Rn_iald rfl (⟨rfl, (by omega : (0 : Int) ≤ 178), (by omega : (178 : Int) + 1 < K ∧ 5 < K)⟩) hg ?_
    refine Rn_pure 2 (i' := 43) (L' := [some (2, 161), some (0, l1), some (0, l2), none, none, some (0, 0)]) (st' := [(2, 161), (0, g 179 l2 - (g 178 0))]) rfl ?_
    refine Rn_getR rfl (⟨rfl, (by omega : (0 : Int) ≤ 161), (by omega : (161 : Int) + 1 < K ∧ 5 < K)⟩) (hr 153 _ rfl) (by decide) ?_
    refine Rn_pure 1 (i' := 45) (L' := [some (2, 161), some (0, l1), some (0, l2), none, none, some (0, 0)]) (st' := [(0, 1), (2, 178), (0, g 179 l2 - (g 178 0))]) rfl ?_
    obtain ⟨hg, h⟩ := h
    refine Rn_iald rfl (⟨rfl, (by omega : (0 : Int) ≤ 178), (by omega : (178 : Int) + 1 < K ∧ 5 < K)⟩) hg ?_
    refine Rn_pure 2 (i' := 48) (L' := [some (2, 161), some (0, l1), some (0, l2), none, none, some (0, 0)]) (st' := [(2, 161), (0, g 179 l2 - (g 178 0) - (g 178 1))]) rfl ?_
    refine Rn_getR rfl (⟨rfl, (by omega : (0 : Int) ≤ 161), (by omega : (161 : Int) + 1 < K ∧ 5 < K)⟩) (hr 155 _ rfl) (by decide) ?_
    refine Rn_pure 1 (i' := 50) (L' := [some (2, 161), some (0, l1), some (0, l2), none, none, some (0, 0)]) (st' := [(0, l2), (2, 180), (0, g 179 l2 - (g 178 0) - (g 178 1))]) rfl ?_
    obtain ⟨hg, h⟩ := h
    refine Rn_iald rfl (⟨rfl, (by omega : (0 : Int) ≤ 180), (by omega : (180 : Int) + 1 < K ∧ 5 < K)⟩) hg ?_
    refine Rn_pure 2 (i' := 53) (L' := [some (2, 161), some (0, l1), some (0, l2), none, none, some (0, 0)]) (st' := [(2, 161), (0, g 179 l2 - (g 178 0) - (g 178 1) - (g 180 l2))]) rfl ?_
    refine Rn_getR rfl (⟨rfl, (by omega : (0 : Int) ≤ 161), (by omega : (161 : Int) + 1 < K ∧ 5 < K)⟩) (hr 156 _ rfl) (by decide) ?_
    refine Rn_pure 1 (i' := 55) (L' := [some (2, 161), some (0, l1), some (0, l2), none, none, some (0, 0)]) (st' := [(0, l2), (2, 181), (0, g 179 l2 - (g 178 0) - (g 178 1) - (g 180 l2))]) rfl ?_
    obtain ⟨hg, h⟩ := h
    refine Rn_iald rfl (⟨rfl, (by omega : (0 : Int) ≤ 181), (by omega : (181 : Int) + 1 < K ∧ 5 < K)⟩) hg ?_
    refine Rn_pure 1 (i' := 57) (L' := [some (2, 161), some (0, l1), some (0, l2), none, none, some (0, 0)]) (st' := [(0, -(g 181 l2)), (0, g 179 l2 - (g 178 0) - (g 178 1) - (g 180 l2))]) rfl ?_
    refine Rn_icge rfl (fun hc => ?_) (fun hc => ?_)
    · have h := h.1 hc
      refine Rn_pure 3 (i' := 111) (L' := [some (2, 161), some (0, l1), some (0, l2), none, none, some (0, 0)]) (st' := []) rfl ?_
      refine Rn_weak (L' := [none, none, none, none, none, some (0, 0)]) ⟨rfl, trivial⟩ ?_
      exact h
    · have h := h.2 hc
      refine Rn_pure 4 (i' := 111) (L' := [some (2, 161), some (0, l1), some (0, l2), none, none, some (0, 1)]) (st' := []) rfl ?_
      refine Rn_weak (L' := [none, none, none, none, none, some (0, 1)]) ⟨rfl, trivial⟩ ?_
      exact h
  have ht63 : (wr l1 = 3) → ab_Rn m_M_causeOf 63 [some (2, 161), some (0, l1), some (0, l2), none, none, some (0, 0)] [] (K, S, g, r) (ab_Qi K S P) := by
    intro hc
    have h := h.2.1 hc
    refine Rn_pure 1 (i' := 64) (L' := [some (2, 161), some (0, l1), some (0, l2), none, none, some (0, 0)]) (st' := [(2, 161)]) rfl ?_
    refine Rn_getR rfl (⟨rfl, (by omega : (0 : Int) ≤ 161), (by omega : (161 : Int) + 1 < K ∧ 5 < K)⟩) (hr 155 _ rfl) (by decide) ?_
    refine Rn_pure 1 (i' := 66) (L' := [some (2, 161), some (0, l1), some (0, l2), none, none, some (0, 0)]) (st' := [(0, l2), (2, 180)]) rfl ?_
    obtain ⟨hg, h⟩ := h
    refine Rn_iald rfl (⟨rfl, (by omega : (0 : Int) ≤ 180), (by omega : (180 : Int) + 1 < K ∧ 5 < K)⟩) hg ?_
    refine Rn_pure 1 (i' := 68) (L' := [some (2, 161), some (0, l1), some (0, l2), none, none, some (0, 0)]) (st' := [(2, 161), (0, g 180 l2)]) rfl ?_
    refine Rn_getR rfl (⟨rfl, (by omega : (0 : Int) ≤ 161), (by omega : (161 : Int) + 1 < K ∧ 5 < K)⟩) (hr 153 _ rfl) (by decide) ?_
    refine Rn_pure 1 (i' := 70) (L' := [some (2, 161), some (0, l1), some (0, l2), none, none, some (0, 0)]) (st' := [(0, 0), (2, 178), (0, g 180 l2)]) rfl ?_
    obtain ⟨hg, h⟩ := h
    refine Rn_iald rfl (⟨rfl, (by omega : (0 : Int) ≤ 178), (by omega : (178 : Int) + 1 < K ∧ 5 < K)⟩) hg ?_
    refine Rn_pure 2 (i' := 73) (L' := [some (2, 161), some (0, l1), some (0, l2), none, none, some (0, 0)]) (st' := [(2, 161), (0, g 180 l2 + (g 178 0))]) rfl ?_
    refine Rn_getR rfl (⟨rfl, (by omega : (0 : Int) ≤ 161), (by omega : (161 : Int) + 1 < K ∧ 5 < K)⟩) (hr 154 _ rfl) (by decide) ?_
    refine Rn_pure 1 (i' := 75) (L' := [some (2, 161), some (0, l1), some (0, l2), none, none, some (0, 0)]) (st' := [(0, l2), (2, 179), (0, g 180 l2 + (g 178 0))]) rfl ?_
    obtain ⟨hg, h⟩ := h
    refine Rn_iald rfl (⟨rfl, (by omega : (0 : Int) ≤ 179), (by omega : (179 : Int) + 1 < K ∧ 5 < K)⟩) hg ?_
    refine Rn_icle rfl (fun hc => ?_) (fun hc => ?_)
    · have h := h.1 hc
      refine Rn_pure 3 (i' := 111) (L' := [some (2, 161), some (0, l1), some (0, l2), none, none, some (0, 0)]) (st' := []) rfl ?_
      refine Rn_weak (L' := [none, none, none, none, none, some (0, 0)]) ⟨rfl, trivial⟩ ?_
      exact h
    · have h := h.2 hc
      refine Rn_pure 4 (i' := 111) (L' := [some (2, 161), some (0, l1), some (0, l2), none, none, some (0, 1)]) (st' := []) rfl ?_
      refine Rn_weak (L' := [none, none, none, none, none, some (0, 1)]) ⟨rfl, trivial⟩ ?_
      exact h
  have ht82 : (wr l1 = 4) → ab_Rn m_M_causeOf 82 [some (2, 161), some (0, l1), some (0, l2), none, none, some (0, 0)] [] (K, S, g, r) (ab_Qi K S P) := by
    intro hc
    have h := h.2.2.1 hc
    refine Rn_pure 1 (i' := 83) (L' := [some (2, 161), some (0, l1), some (0, l2), none, none, some (0, 0)]) (st' := [(2, 161)]) rfl ?_
    refine Rn_getR rfl (⟨rfl, (by omega : (0 : Int) ≤ 161), (by omega : (161 : Int) + 1 < K ∧ 5 < K)⟩) (hr 155 _ rfl) (by decide) ?_
    refine Rn_pure 1 (i' := 85) (L' := [some (2, 161), some (0, l1), some (0, l2), none, none, some (0, 0)]) (st' := [(0, l2), (2, 180)]) rfl ?_
    obtain ⟨hg, h⟩ := h
    refine Rn_iald rfl (⟨rfl, (by omega : (0 : Int) ≤ 180), (by omega : (180 : Int) + 1 < K ∧ 5 < K)⟩) hg ?_
    refine Rn_pure 1 (i' := 87) (L' := [some (2, 161), some (0, l1), some (0, l2), none, none, some (0, 0)]) (st' := [(2, 161), (0, g 180 l2)]) rfl ?_
    refine Rn_getR rfl (⟨rfl, (by omega : (0 : Int) ≤ 161), (by omega : (161 : Int) + 1 < K ∧ 5 < K)⟩) (hr 153 _ rfl) (by decide) ?_
    refine Rn_pure 1 (i' := 89) (L' := [some (2, 161), some (0, l1), some (0, l2), none, none, some (0, 0)]) (st' := [(0, 0), (2, 178), (0, g 180 l2)]) rfl ?_
    obtain ⟨hg, h⟩ := h
    refine Rn_iald rfl (⟨rfl, (by omega : (0 : Int) ≤ 178), (by omega : (178 : Int) + 1 < K ∧ 5 < K)⟩) hg ?_
    refine Rn_icge rfl (fun hc => ?_) (fun hc => ?_)
    · have h := h.1 hc
      refine Rn_pure 3 (i' := 111) (L' := [some (2, 161), some (0, l1), some (0, l2), none, none, some (0, 0)]) (st' := []) rfl ?_
      refine Rn_weak (L' := [none, none, none, none, none, some (0, 0)]) ⟨rfl, trivial⟩ ?_
      exact h
    · have h := h.2 hc
      refine Rn_pure 4 (i' := 111) (L' := [some (2, 161), some (0, l1), some (0, l2), none, none, some (0, 1)]) (st' := []) rfl ?_
      refine Rn_weak (L' := [none, none, none, none, none, some (0, 1)]) ⟨rfl, trivial⟩ ?_
      exact h
  have ht96 : (wr l1 = 5) → ab_Rn m_M_causeOf 96 [some (2, 161), some (0, l1), some (0, l2), none, none, some (0, 0)] [] (K, S, g, r) (ab_Qi K S P) := by
    intro hc
    have h := h.2.2.2.1 hc
    refine Rn_pure 1 (i' := 97) (L' := [some (2, 161), some (0, l1), some (0, l2), none, none, some (0, 0)]) (st' := [(2, 161)]) rfl ?_
    refine Rn_getR rfl (⟨rfl, (by omega : (0 : Int) ≤ 161), (by omega : (161 : Int) + 1 < K ∧ 5 < K)⟩) (hr 154 _ rfl) (by decide) ?_
    refine Rn_pure 1 (i' := 99) (L' := [some (2, 161), some (0, l1), some (0, l2), none, none, some (0, 0)]) (st' := [(0, l2), (2, 179)]) rfl ?_
    obtain ⟨hg, h⟩ := h
    refine Rn_iald rfl (⟨rfl, (by omega : (0 : Int) ≤ 179), (by omega : (179 : Int) + 1 < K ∧ 5 < K)⟩) hg ?_
    refine Rn_ifne rfl (fun hc => ?_) (fun hc => ?_)
    · have h := h.1 hc
      refine Rn_weak (L' := [none, none, none, none, none, none]) trivial ?_
      exact h
    · have h := h.2 hc
      refine Rn_pure 1 (i' := 102) (L' := [some (2, 161), some (0, l1), some (0, l2), none, none, some (0, 0)]) (st' := [(2, 161)]) rfl ?_
      refine Rn_getR rfl (⟨rfl, (by omega : (0 : Int) ≤ 161), (by omega : (161 : Int) + 1 < K ∧ 5 < K)⟩) (hr 155 _ rfl) (by decide) ?_
      refine Rn_pure 1 (i' := 104) (L' := [some (2, 161), some (0, l1), some (0, l2), none, none, some (0, 0)]) (st' := [(0, l2), (2, 180)]) rfl ?_
      obtain ⟨hg, h⟩ := h
      refine Rn_iald rfl (⟨rfl, (by omega : (0 : Int) ≤ 180), (by omega : (180 : Int) + 1 < K ∧ 5 < K)⟩) hg ?_
      refine Rn_ifeq rfl (fun hc => ?_) (fun hc => ?_)
      · have h := h.1 hc
        refine Rn_pure 3 (i' := 111) (L' := [some (2, 161), some (0, l1), some (0, l2), none, none, some (0, 0)]) (st' := []) rfl ?_
        refine Rn_weak (L' := [none, none, none, none, none, some (0, 0)]) ⟨rfl, trivial⟩ ?_
        exact h
      · have h := h.2 hc
        refine Rn_weak (L' := [none, none, none, none, none, none]) trivial ?_
        exact h
  have htd : (wr l1 < 2 ∨ 7 ≤ wr l1) → ab_Rn m_M_causeOf 111 [some (2, 161), some (0, l1), some (0, l2), none, none, some (0, 0)] [] (K, S, g, r) (ab_Qi K S P) := by
    intro hc
    have h := h.2.2.2.2 hc
    refine Rn_weak (L' := [none, none, none, none, none, some (0, 0)]) ⟨rfl, trivial⟩ ?_
    exact h
  have hsp : wr l1 < 2 ∨ 7 ≤ wr l1 ∨ wr l1 = 2 ∨ wr l1 = 3 ∨ wr l1 = 4 ∨ wr l1 = 5 ∨ wr l1 = 6 := by omega
  rcases hsp with hc | hc | hc | hc | hc | hc | hc
  · rw [ab_ts_out (hT := (rfl : ab_nth ab_tsL 4 = some (2, 111, [33, 63, 82, 96, 33]))) rfl (Or.inl hc)]; exact htd (by simp only [hc, true_or, or_true])
  · rw [ab_ts_out (hT := (rfl : ab_nth ab_tsL 4 = some (2, 111, [33, 63, 82, 96, 33]))) rfl (Or.inr hc)]; exact htd (by simp only [hc, true_or, or_true])
  · rw [ab_ts_in (j := 0) (hT := (rfl : ab_nth ab_tsL 4 = some (2, 111, [33, 63, 82, 96, 33]))) (by rw [hc]; rfl) rfl]; exact ht33 (by simp only [hc, true_or, or_true])
  · rw [ab_ts_in (j := 1) (hT := (rfl : ab_nth ab_tsL 4 = some (2, 111, [33, 63, 82, 96, 33]))) (by rw [hc]; rfl) rfl]; exact ht63 (by simp only [hc, true_or, or_true])
  · rw [ab_ts_in (j := 2) (hT := (rfl : ab_nth ab_tsL 4 = some (2, 111, [33, 63, 82, 96, 33]))) (by rw [hc]; rfl) rfl]; exact ht82 (by simp only [hc, true_or, or_true])
  · rw [ab_ts_in (j := 3) (hT := (rfl : ab_nth ab_tsL 4 = some (2, 111, [33, 63, 82, 96, 33]))) (by rw [hc]; rfl) rfl]; exact ht96 (by simp only [hc, true_or, or_true])
  · rw [ab_ts_in (j := 4) (hT := (rfl : ab_nth ab_tsL 4 = some (2, 111, [33, 63, 82, 96, 33]))) (by rw [hc]; rfl) rfl]; exact ht33 (by simp only [hc, true_or, or_true])
theorem v_M_causeOf_106 {K : Int} {S : Nat} {g r : ab_H} (P : Int → ab_H → ab_H → Prop) (hr : SI r) (hK : 186 ≤ K) (h : ab_Rn m_M_causeOf 111 [none, none, none, none, none, some (0, 1)] [] (K, S, g, r) (ab_Qi K S P)) : ab_Rn m_M_causeOf 106 [none, none, none, none, none, none] [] (K, S, g, r) (ab_Qi K S P) := by
  refine Rn_pure 4 (i' := 111) (L' := [none, none, none, none, none, some (0, 1)]) (st' := []) rfl ?_
  exact h
theorem v_M_causeOf_111 {K : Int} {S : Nat} {g r : ab_H} {l5 : Int} (P : Int → ab_H → ab_H → Prop) (hr : SI r) (hK : 186 ≤ K) (h : ((wr l5 = wr 0 → P 0 g r) ∧ (¬ wr l5 = wr 0 → P 3 g r))) : ab_Rn m_M_causeOf 111 [none, none, none, none, none, some (0, l5)] [] (K, S, g, r) (ab_Qi K S P) := by
  refine Rn_pure 1 (i' := 112) (L' := [none, none, none, none, none, some (0, l5)]) (st' := [(0, l5)]) rfl ?_
  refine Rn_ifeq rfl (fun hc => ?_) (fun hc => ?_)
  · have h := h.1 hc
    refine Rn_pure 1 (i' := 116) (L' := [none, none, none, none, none, some (0, l5)]) (st' := [(0, 0)]) rfl ?_
    exact Rn_ret1 rfl h
  · have h := h.2 hc
    refine Rn_pure 2 (i' := 116) (L' := [none, none, none, none, none, some (0, l5)]) (st' := [(0, 3)]) rfl ?_
    exact Rn_ret1 rfl h
-- EventLedgerModel.applies (III)V
theorem v_M_applies {K : Int} {S : Nat} {g r : ab_H} {p1 p2 p3 : Int} (P : ab_H → ab_H → Prop) (hr : SI r) (hK : 186 ≤ K) (h : ((wr p1 = 0 → ((0 : Int) ≤ p2 ∧ (p2 : Int) < 8) ∧ ∀ g1, g1 = ab_up g 182 p2 1 → ((0 : Int) ≤ p2 ∧ (p2 : Int) < 8) ∧ ∀ g2, g2 = ab_up g1 179 p2 0 → ((0 : Int) ≤ p2 ∧ (p2 : Int) < 8) ∧ ∀ g3, g3 = ab_up g2 180 p2 0 → ((0 : Int) ≤ 0 ∧ (0 : Int) < 3) ∧ ((0 : Int) ≤ p2 ∧ (p2 : Int) < 8) ∧ ∀ g4, g4 = ab_up g3 181 p2 (g3 178 0) → P g4 r) ∧ (wr p1 = 1 → ((0 : Int) ≤ p2 ∧ (p2 : Int) < 8) ∧ ((0 : Int) ≤ 0 ∧ (0 : Int) < 3) ∧ ((0 : Int) ≤ 1 ∧ (1 : Int) < 3) ∧ ((0 : Int) ≤ p2 ∧ (p2 : Int) < 8) ∧ ∀ g5, g5 = ab_up g 179 p2 (g 179 p2 + (g 178 0 - (g 178 1))) → P g5 r) ∧ (wr p1 = 2 → ((0 : Int) ≤ p2 ∧ (p2 : Int) < 8) ∧ ((0 : Int) ≤ 0 ∧ (0 : Int) < 3) ∧ ((0 : Int) ≤ 1 ∧ (1 : Int) < 3) ∧ ((0 : Int) ≤ p2 ∧ (p2 : Int) < 8) ∧ ∀ g6, g6 = ab_up g 179 p2 (g 179 p2 - (g 178 0 + (g 178 1))) → P g6 r) ∧ (wr p1 = 3 → ((0 : Int) ≤ p2 ∧ (p2 : Int) < 8) ∧ ((0 : Int) ≤ 0 ∧ (0 : Int) < 3) ∧ ((0 : Int) ≤ p2 ∧ (p2 : Int) < 8) ∧ ∀ g7, g7 = ab_up g 180 p2 (g 180 p2 + (g 178 0)) → P g7 r) ∧ (wr p1 = 4 → ((0 : Int) ≤ p2 ∧ (p2 : Int) < 8) ∧ ((0 : Int) ≤ 0 ∧ (0 : Int) < 3) ∧ ((0 : Int) ≤ p2 ∧ (p2 : Int) < 8) ∧ ∀ g8, g8 = ab_up g 180 p2 (g 180 p2 - (g 178 0)) → P g8 r) ∧ (wr p1 = 5 → ((0 : Int) ≤ p2 ∧ (p2 : Int) < 8) ∧ ∀ g9, g9 = ab_up g 182 p2 0 → P g9 r) ∧ (wr p1 < 0 ∨ 6 ≤ wr p1 → ((0 : Int) ≤ p2 ∧ (p2 : Int) < 8) ∧ ((0 : Int) ≤ 0 ∧ (0 : Int) < 3) ∧ ((0 : Int) ≤ 1 ∧ (1 : Int) < 3) ∧ ((0 : Int) ≤ p2 ∧ (p2 : Int) < 8) ∧ ∀ g10, g10 = ab_up g 179 p2 (g 179 p2 - (g 178 0 + (g 178 1))) → ((0 : Int) ≤ p3 ∧ (p3 : Int) < 8) ∧ ((0 : Int) ≤ 0 ∧ (0 : Int) < 3) ∧ ((0 : Int) ≤ p3 ∧ (p3 : Int) < 8) ∧ ∀ g11, g11 = ab_up g10 179 p3 (g10 179 p3 + (g10 178 0)) → P g11 r))) : ab_RV m_M_applies [(2, 161), (0, p1), (0, p2), (0, p3)] K S g r P := by
  show ab_Rn m_M_applies 0 [some (2, 161), some (0, p1), some (0, p2), some (0, p3)] [] (K, S, g, r) (ab_Qv K S P)
  refine Rn_pure 1 (i' := 1) (L' := [some (2, 161), some (0, p1), some (0, p2), some (0, p3)]) (st' := [(0, p1)]) rfl ?_
  refine Rn_ts rfl ?_
  have ht2 : (wr p1 = 0) → ab_Rn m_M_applies 2 [some (2, 161), some (0, p1), some (0, p2), some (0, p3)] [] (K, S, g, r) (ab_Qv K S P) := by
    intro hc
    have h := h.1 hc
    refine Rn_pure 1 (i' := 3) (L' := [some (2, 161), some (0, p1), some (0, p2), some (0, p3)]) (st' := [(2, 161)]) rfl ?_
    refine Rn_getR rfl (⟨rfl, (by omega : (0 : Int) ≤ 161), (by omega : (161 : Int) + 1 < K ∧ 5 < K)⟩) (hr 157 _ rfl) (by decide) ?_
    refine Rn_pure 2 (i' := 6) (L' := [some (2, 161), some (0, p1), some (0, p2), some (0, p3)]) (st' := [(0, 1), (0, p2), (2, 182)]) rfl ?_
    obtain ⟨hg, h⟩ := h
    refine Rn_zast rfl (⟨rfl, (by omega : (0 : Int) ≤ 182), (by omega : (182 : Int) + 1 < K ∧ 5 < K)⟩) hg (by decide) (fun g1 he_g1 => ?_)
    have h := h g1 he_g1
    refine Rn_pure 1 (i' := 8) (L' := [some (2, 161), some (0, p1), some (0, p2), some (0, p3)]) (st' := [(2, 161)]) rfl ?_
    refine Rn_getR rfl (⟨rfl, (by omega : (0 : Int) ≤ 161), (by omega : (161 : Int) + 1 < K ∧ 5 < K)⟩) (hr 154 _ rfl) (by decide) ?_
    refine Rn_pure 2 (i' := 11) (L' := [some (2, 161), some (0, p1), some (0, p2), some (0, p3)]) (st' := [(0, 0), (0, p2), (2, 179)]) rfl ?_
    obtain ⟨hg, h⟩ := h
    refine Rn_iast rfl (⟨rfl, (by omega : (0 : Int) ≤ 179), (by omega : (179 : Int) + 1 < K ∧ 5 < K)⟩) hg (fun g2 he_g2 => ?_)
    have h := h g2 he_g2
    refine Rn_pure 1 (i' := 13) (L' := [some (2, 161), some (0, p1), some (0, p2), some (0, p3)]) (st' := [(2, 161)]) rfl ?_
    refine Rn_getR rfl (⟨rfl, (by omega : (0 : Int) ≤ 161), (by omega : (161 : Int) + 1 < K ∧ 5 < K)⟩) (hr 155 _ rfl) (by decide) ?_
    refine Rn_pure 2 (i' := 16) (L' := [some (2, 161), some (0, p1), some (0, p2), some (0, p3)]) (st' := [(0, 0), (0, p2), (2, 180)]) rfl ?_
    obtain ⟨hg, h⟩ := h
    refine Rn_iast rfl (⟨rfl, (by omega : (0 : Int) ≤ 180), (by omega : (180 : Int) + 1 < K ∧ 5 < K)⟩) hg (fun g3 he_g3 => ?_)
    have h := h g3 he_g3
    refine Rn_pure 1 (i' := 18) (L' := [some (2, 161), some (0, p1), some (0, p2), some (0, p3)]) (st' := [(2, 161)]) rfl ?_
    refine Rn_getR rfl (⟨rfl, (by omega : (0 : Int) ≤ 161), (by omega : (161 : Int) + 1 < K ∧ 5 < K)⟩) (hr 156 _ rfl) (by decide) ?_
    refine Rn_pure 2 (i' := 21) (L' := [some (2, 161), some (0, p1), some (0, p2), some (0, p3)]) (st' := [(2, 161), (0, p2), (2, 181)]) rfl ?_
    refine Rn_getR rfl (⟨rfl, (by omega : (0 : Int) ≤ 161), (by omega : (161 : Int) + 1 < K ∧ 5 < K)⟩) (hr 153 _ rfl) (by decide) ?_
    refine Rn_pure 1 (i' := 23) (L' := [some (2, 161), some (0, p1), some (0, p2), some (0, p3)]) (st' := [(0, 0), (2, 178), (0, p2), (2, 181)]) rfl ?_
    obtain ⟨hg, h⟩ := h
    refine Rn_iald rfl (⟨rfl, (by omega : (0 : Int) ≤ 178), (by omega : (178 : Int) + 1 < K ∧ 5 < K)⟩) hg ?_
    obtain ⟨hg, h⟩ := h
    refine Rn_iast rfl (⟨rfl, (by omega : (0 : Int) ≤ 181), (by omega : (181 : Int) + 1 < K ∧ 5 < K)⟩) hg (fun g4 he_g4 => ?_)
    have h := h g4 he_g4
    refine Rn_pure 1 (i' := 117) (L' := [some (2, 161), some (0, p1), some (0, p2), some (0, p3)]) (st' := []) rfl ?_
    exact Rn_ret0 rfl h
  have ht26 : (wr p1 = 1) → ab_Rn m_M_applies 26 [some (2, 161), some (0, p1), some (0, p2), some (0, p3)] [] (K, S, g, r) (ab_Qv K S P) := by
    intro hc
    have h := h.2.1 hc
    refine Rn_pure 1 (i' := 27) (L' := [some (2, 161), some (0, p1), some (0, p2), some (0, p3)]) (st' := [(2, 161)]) rfl ?_
    refine Rn_getR rfl (⟨rfl, (by omega : (0 : Int) ≤ 161), (by omega : (161 : Int) + 1 < K ∧ 5 < K)⟩) (hr 154 _ rfl) (by decide) ?_
    refine Rn_pure 2 (i' := 30) (L' := [some (2, 161), some (0, p1), some (0, p2), some (0, p3)]) (st' := [(0, p2), (2, 179), (0, p2), (2, 179)]) rfl ?_
    obtain ⟨hg, h⟩ := h
    refine Rn_iald rfl (⟨rfl, (by omega : (0 : Int) ≤ 179), (by omega : (179 : Int) + 1 < K ∧ 5 < K)⟩) hg ?_
    refine Rn_pure 1 (i' := 32) (L' := [some (2, 161), some (0, p1), some (0, p2), some (0, p3)]) (st' := [(2, 161), (0, g 179 p2), (0, p2), (2, 179)]) rfl ?_
    refine Rn_getR rfl (⟨rfl, (by omega : (0 : Int) ≤ 161), (by omega : (161 : Int) + 1 < K ∧ 5 < K)⟩) (hr 153 _ rfl) (by decide) ?_
    refine Rn_pure 1 (i' := 34) (L' := [some (2, 161), some (0, p1), some (0, p2), some (0, p3)]) (st' := [(0, 0), (2, 178), (0, g 179 p2), (0, p2), (2, 179)]) rfl ?_
    obtain ⟨hg, h⟩ := h
    refine Rn_iald rfl (⟨rfl, (by omega : (0 : Int) ≤ 178), (by omega : (178 : Int) + 1 < K ∧ 5 < K)⟩) hg ?_
    refine Rn_pure 1 (i' := 36) (L' := [some (2, 161), some (0, p1), some (0, p2), some (0, p3)]) (st' := [(2, 161), (0, g 178 0), (0, g 179 p2), (0, p2), (2, 179)]) rfl ?_
    refine Rn_getR rfl (⟨rfl, (by omega : (0 : Int) ≤ 161), (by omega : (161 : Int) + 1 < K ∧ 5 < K)⟩) (hr 153 _ rfl) (by decide) ?_
    refine Rn_pure 1 (i' := 38) (L' := [some (2, 161), some (0, p1), some (0, p2), some (0, p3)]) (st' := [(0, 1), (2, 178), (0, g 178 0), (0, g 179 p2), (0, p2), (2, 179)]) rfl ?_
    obtain ⟨hg, h⟩ := h
    refine Rn_iald rfl (⟨rfl, (by omega : (0 : Int) ≤ 178), (by omega : (178 : Int) + 1 < K ∧ 5 < K)⟩) hg ?_
    refine Rn_pure 2 (i' := 41) (L' := [some (2, 161), some (0, p1), some (0, p2), some (0, p3)]) (st' := [(0, g 179 p2 + (g 178 0 - (g 178 1))), (0, p2), (2, 179)]) rfl ?_
    obtain ⟨hg, h⟩ := h
    refine Rn_iast rfl (⟨rfl, (by omega : (0 : Int) ≤ 179), (by omega : (179 : Int) + 1 < K ∧ 5 < K)⟩) hg (fun g5 he_g5 => ?_)
    have h := h g5 he_g5
    refine Rn_pure 1 (i' := 117) (L' := [some (2, 161), some (0, p1), some (0, p2), some (0, p3)]) (st' := []) rfl ?_
    exact Rn_ret0 rfl h
  have ht43 : (wr p1 = 2) → ab_Rn m_M_applies 43 [some (2, 161), some (0, p1), some (0, p2), some (0, p3)] [] (K, S, g, r) (ab_Qv K S P) := by
    intro hc
    have h := h.2.2.1 hc
    refine Rn_pure 1 (i' := 44) (L' := [some (2, 161), some (0, p1), some (0, p2), some (0, p3)]) (st' := [(2, 161)]) rfl ?_
    refine Rn_getR rfl (⟨rfl, (by omega : (0 : Int) ≤ 161), (by omega : (161 : Int) + 1 < K ∧ 5 < K)⟩) (hr 154 _ rfl) (by decide) ?_
    refine Rn_pure 2 (i' := 47) (L' := [some (2, 161), some (0, p1), some (0, p2), some (0, p3)]) (st' := [(0, p2), (2, 179), (0, p2), (2, 179)]) rfl ?_
    obtain ⟨hg, h⟩ := h
    refine Rn_iald rfl (⟨rfl, (by omega : (0 : Int) ≤ 179), (by omega : (179 : Int) + 1 < K ∧ 5 < K)⟩) hg ?_
    refine Rn_pure 1 (i' := 49) (L' := [some (2, 161), some (0, p1), some (0, p2), some (0, p3)]) (st' := [(2, 161), (0, g 179 p2), (0, p2), (2, 179)]) rfl ?_
    refine Rn_getR rfl (⟨rfl, (by omega : (0 : Int) ≤ 161), (by omega : (161 : Int) + 1 < K ∧ 5 < K)⟩) (hr 153 _ rfl) (by decide) ?_
    refine Rn_pure 1 (i' := 51) (L' := [some (2, 161), some (0, p1), some (0, p2), some (0, p3)]) (st' := [(0, 0), (2, 178), (0, g 179 p2), (0, p2), (2, 179)]) rfl ?_
    obtain ⟨hg, h⟩ := h
    refine Rn_iald rfl (⟨rfl, (by omega : (0 : Int) ≤ 178), (by omega : (178 : Int) + 1 < K ∧ 5 < K)⟩) hg ?_
    refine Rn_pure 1 (i' := 53) (L' := [some (2, 161), some (0, p1), some (0, p2), some (0, p3)]) (st' := [(2, 161), (0, g 178 0), (0, g 179 p2), (0, p2), (2, 179)]) rfl ?_
    refine Rn_getR rfl (⟨rfl, (by omega : (0 : Int) ≤ 161), (by omega : (161 : Int) + 1 < K ∧ 5 < K)⟩) (hr 153 _ rfl) (by decide) ?_
    refine Rn_pure 1 (i' := 55) (L' := [some (2, 161), some (0, p1), some (0, p2), some (0, p3)]) (st' := [(0, 1), (2, 178), (0, g 178 0), (0, g 179 p2), (0, p2), (2, 179)]) rfl ?_
    obtain ⟨hg, h⟩ := h
    refine Rn_iald rfl (⟨rfl, (by omega : (0 : Int) ≤ 178), (by omega : (178 : Int) + 1 < K ∧ 5 < K)⟩) hg ?_
    refine Rn_pure 2 (i' := 58) (L' := [some (2, 161), some (0, p1), some (0, p2), some (0, p3)]) (st' := [(0, g 179 p2 - (g 178 0 + (g 178 1))), (0, p2), (2, 179)]) rfl ?_
    obtain ⟨hg, h⟩ := h
    refine Rn_iast rfl (⟨rfl, (by omega : (0 : Int) ≤ 179), (by omega : (179 : Int) + 1 < K ∧ 5 < K)⟩) hg (fun g6 he_g6 => ?_)
    have h := h g6 he_g6
    refine Rn_pure 1 (i' := 117) (L' := [some (2, 161), some (0, p1), some (0, p2), some (0, p3)]) (st' := []) rfl ?_
    exact Rn_ret0 rfl h
  have ht60 : (wr p1 = 3) → ab_Rn m_M_applies 60 [some (2, 161), some (0, p1), some (0, p2), some (0, p3)] [] (K, S, g, r) (ab_Qv K S P) := by
    intro hc
    have h := h.2.2.2.1 hc
    refine Rn_pure 1 (i' := 61) (L' := [some (2, 161), some (0, p1), some (0, p2), some (0, p3)]) (st' := [(2, 161)]) rfl ?_
    refine Rn_getR rfl (⟨rfl, (by omega : (0 : Int) ≤ 161), (by omega : (161 : Int) + 1 < K ∧ 5 < K)⟩) (hr 155 _ rfl) (by decide) ?_
    refine Rn_pure 2 (i' := 64) (L' := [some (2, 161), some (0, p1), some (0, p2), some (0, p3)]) (st' := [(0, p2), (2, 180), (0, p2), (2, 180)]) rfl ?_
    obtain ⟨hg, h⟩ := h
    refine Rn_iald rfl (⟨rfl, (by omega : (0 : Int) ≤ 180), (by omega : (180 : Int) + 1 < K ∧ 5 < K)⟩) hg ?_
    refine Rn_pure 1 (i' := 66) (L' := [some (2, 161), some (0, p1), some (0, p2), some (0, p3)]) (st' := [(2, 161), (0, g 180 p2), (0, p2), (2, 180)]) rfl ?_
    refine Rn_getR rfl (⟨rfl, (by omega : (0 : Int) ≤ 161), (by omega : (161 : Int) + 1 < K ∧ 5 < K)⟩) (hr 153 _ rfl) (by decide) ?_
    refine Rn_pure 1 (i' := 68) (L' := [some (2, 161), some (0, p1), some (0, p2), some (0, p3)]) (st' := [(0, 0), (2, 178), (0, g 180 p2), (0, p2), (2, 180)]) rfl ?_
    obtain ⟨hg, h⟩ := h
    refine Rn_iald rfl (⟨rfl, (by omega : (0 : Int) ≤ 178), (by omega : (178 : Int) + 1 < K ∧ 5 < K)⟩) hg ?_
    refine Rn_pure 1 (i' := 70) (L' := [some (2, 161), some (0, p1), some (0, p2), some (0, p3)]) (st' := [(0, g 180 p2 + (g 178 0)), (0, p2), (2, 180)]) rfl ?_
    obtain ⟨hg, h⟩ := h
    refine Rn_iast rfl (⟨rfl, (by omega : (0 : Int) ≤ 180), (by omega : (180 : Int) + 1 < K ∧ 5 < K)⟩) hg (fun g7 he_g7 => ?_)
    have h := h g7 he_g7
    refine Rn_pure 1 (i' := 117) (L' := [some (2, 161), some (0, p1), some (0, p2), some (0, p3)]) (st' := []) rfl ?_
    exact Rn_ret0 rfl h
  have ht72 : (wr p1 = 4) → ab_Rn m_M_applies 72 [some (2, 161), some (0, p1), some (0, p2), some (0, p3)] [] (K, S, g, r) (ab_Qv K S P) := by
    intro hc
    have h := h.2.2.2.2.1 hc
    refine Rn_pure 1 (i' := 73) (L' := [some (2, 161), some (0, p1), some (0, p2), some (0, p3)]) (st' := [(2, 161)]) rfl ?_
    refine Rn_getR rfl (⟨rfl, (by omega : (0 : Int) ≤ 161), (by omega : (161 : Int) + 1 < K ∧ 5 < K)⟩) (hr 155 _ rfl) (by decide) ?_
    refine Rn_pure 2 (i' := 76) (L' := [some (2, 161), some (0, p1), some (0, p2), some (0, p3)]) (st' := [(0, p2), (2, 180), (0, p2), (2, 180)]) rfl ?_
    obtain ⟨hg, h⟩ := h
    refine Rn_iald rfl (⟨rfl, (by omega : (0 : Int) ≤ 180), (by omega : (180 : Int) + 1 < K ∧ 5 < K)⟩) hg ?_
    refine Rn_pure 1 (i' := 78) (L' := [some (2, 161), some (0, p1), some (0, p2), some (0, p3)]) (st' := [(2, 161), (0, g 180 p2), (0, p2), (2, 180)]) rfl ?_
    refine Rn_getR rfl (⟨rfl, (by omega : (0 : Int) ≤ 161), (by omega : (161 : Int) + 1 < K ∧ 5 < K)⟩) (hr 153 _ rfl) (by decide) ?_
    refine Rn_pure 1 (i' := 80) (L' := [some (2, 161), some (0, p1), some (0, p2), some (0, p3)]) (st' := [(0, 0), (2, 178), (0, g 180 p2), (0, p2), (2, 180)]) rfl ?_
    obtain ⟨hg, h⟩ := h
    refine Rn_iald rfl (⟨rfl, (by omega : (0 : Int) ≤ 178), (by omega : (178 : Int) + 1 < K ∧ 5 < K)⟩) hg ?_
    refine Rn_pure 1 (i' := 82) (L' := [some (2, 161), some (0, p1), some (0, p2), some (0, p3)]) (st' := [(0, g 180 p2 - (g 178 0)), (0, p2), (2, 180)]) rfl ?_
    obtain ⟨hg, h⟩ := h
    refine Rn_iast rfl (⟨rfl, (by omega : (0 : Int) ≤ 180), (by omega : (180 : Int) + 1 < K ∧ 5 < K)⟩) hg (fun g8 he_g8 => ?_)
    have h := h g8 he_g8
    refine Rn_pure 1 (i' := 117) (L' := [some (2, 161), some (0, p1), some (0, p2), some (0, p3)]) (st' := []) rfl ?_
    exact Rn_ret0 rfl h
  have ht84 : (wr p1 = 5) → ab_Rn m_M_applies 84 [some (2, 161), some (0, p1), some (0, p2), some (0, p3)] [] (K, S, g, r) (ab_Qv K S P) := by
    intro hc
    have h := h.2.2.2.2.2.1 hc
    refine Rn_pure 1 (i' := 85) (L' := [some (2, 161), some (0, p1), some (0, p2), some (0, p3)]) (st' := [(2, 161)]) rfl ?_
    refine Rn_getR rfl (⟨rfl, (by omega : (0 : Int) ≤ 161), (by omega : (161 : Int) + 1 < K ∧ 5 < K)⟩) (hr 157 _ rfl) (by decide) ?_
    refine Rn_pure 2 (i' := 88) (L' := [some (2, 161), some (0, p1), some (0, p2), some (0, p3)]) (st' := [(0, 0), (0, p2), (2, 182)]) rfl ?_
    obtain ⟨hg, h⟩ := h
    refine Rn_zast rfl (⟨rfl, (by omega : (0 : Int) ≤ 182), (by omega : (182 : Int) + 1 < K ∧ 5 < K)⟩) hg (by decide) (fun g9 he_g9 => ?_)
    have h := h g9 he_g9
    refine Rn_pure 1 (i' := 117) (L' := [some (2, 161), some (0, p1), some (0, p2), some (0, p3)]) (st' := []) rfl ?_
    exact Rn_ret0 rfl h
  have htd : (wr p1 < 0 ∨ 6 ≤ wr p1) → ab_Rn m_M_applies 90 [some (2, 161), some (0, p1), some (0, p2), some (0, p3)] [] (K, S, g, r) (ab_Qv K S P) := by
    intro hc
    have h := h.2.2.2.2.2.2 hc
    refine Rn_pure 1 (i' := 91) (L' := [some (2, 161), some (0, p1), some (0, p2), some (0, p3)]) (st' := [(2, 161)]) rfl ?_
    refine Rn_getR rfl (⟨rfl, (by omega : (0 : Int) ≤ 161), (by omega : (161 : Int) + 1 < K ∧ 5 < K)⟩) (hr 154 _ rfl) (by decide) ?_
    refine Rn_pure 2 (i' := 94) (L' := [some (2, 161), some (0, p1), some (0, p2), some (0, p3)]) (st' := [(0, p2), (2, 179), (0, p2), (2, 179)]) rfl ?_
    obtain ⟨hg, h⟩ := h
    refine Rn_iald rfl (⟨rfl, (by omega : (0 : Int) ≤ 179), (by omega : (179 : Int) + 1 < K ∧ 5 < K)⟩) hg ?_
    refine Rn_pure 1 (i' := 96) (L' := [some (2, 161), some (0, p1), some (0, p2), some (0, p3)]) (st' := [(2, 161), (0, g 179 p2), (0, p2), (2, 179)]) rfl ?_
    refine Rn_getR rfl (⟨rfl, (by omega : (0 : Int) ≤ 161), (by omega : (161 : Int) + 1 < K ∧ 5 < K)⟩) (hr 153 _ rfl) (by decide) ?_
    refine Rn_pure 1 (i' := 98) (L' := [some (2, 161), some (0, p1), some (0, p2), some (0, p3)]) (st' := [(0, 0), (2, 178), (0, g 179 p2), (0, p2), (2, 179)]) rfl ?_
    obtain ⟨hg, h⟩ := h
    refine Rn_iald rfl (⟨rfl, (by omega : (0 : Int) ≤ 178), (by omega : (178 : Int) + 1 < K ∧ 5 < K)⟩) hg ?_
    refine Rn_pure 1 (i' := 100) (L' := [some (2, 161), some (0, p1), some (0, p2), some (0, p3)]) (st' := [(2, 161), (0, g 178 0), (0, g 179 p2), (0, p2), (2, 179)]) rfl ?_
    refine Rn_getR rfl (⟨rfl, (by omega : (0 : Int) ≤ 161), (by omega : (161 : Int) + 1 < K ∧ 5 < K)⟩) (hr 153 _ rfl) (by decide) ?_
    refine Rn_pure 1 (i' := 102) (L' := [some (2, 161), some (0, p1), some (0, p2), some (0, p3)]) (st' := [(0, 1), (2, 178), (0, g 178 0), (0, g 179 p2), (0, p2), (2, 179)]) rfl ?_
    obtain ⟨hg, h⟩ := h
    refine Rn_iald rfl (⟨rfl, (by omega : (0 : Int) ≤ 178), (by omega : (178 : Int) + 1 < K ∧ 5 < K)⟩) hg ?_
    refine Rn_pure 2 (i' := 105) (L' := [some (2, 161), some (0, p1), some (0, p2), some (0, p3)]) (st' := [(0, g 179 p2 - (g 178 0 + (g 178 1))), (0, p2), (2, 179)]) rfl ?_
    obtain ⟨hg, h⟩ := h
    refine Rn_iast rfl (⟨rfl, (by omega : (0 : Int) ≤ 179), (by omega : (179 : Int) + 1 < K ∧ 5 < K)⟩) hg (fun g10 he_g10 => ?_)
    have h := h g10 he_g10
    refine Rn_pure 1 (i' := 107) (L' := [some (2, 161), some (0, p1), some (0, p2), some (0, p3)]) (st' := [(2, 161)]) rfl ?_
    refine Rn_getR rfl (⟨rfl, (by omega : (0 : Int) ≤ 161), (by omega : (161 : Int) + 1 < K ∧ 5 < K)⟩) (hr 154 _ rfl) (by decide) ?_
    refine Rn_pure 2 (i' := 110) (L' := [some (2, 161), some (0, p1), some (0, p2), some (0, p3)]) (st' := [(0, p3), (2, 179), (0, p3), (2, 179)]) rfl ?_
    obtain ⟨hg, h⟩ := h
    refine Rn_iald rfl (⟨rfl, (by omega : (0 : Int) ≤ 179), (by omega : (179 : Int) + 1 < K ∧ 5 < K)⟩) hg ?_
    refine Rn_pure 1 (i' := 112) (L' := [some (2, 161), some (0, p1), some (0, p2), some (0, p3)]) (st' := [(2, 161), (0, g10 179 p3), (0, p3), (2, 179)]) rfl ?_
    refine Rn_getR rfl (⟨rfl, (by omega : (0 : Int) ≤ 161), (by omega : (161 : Int) + 1 < K ∧ 5 < K)⟩) (hr 153 _ rfl) (by decide) ?_
    refine Rn_pure 1 (i' := 114) (L' := [some (2, 161), some (0, p1), some (0, p2), some (0, p3)]) (st' := [(0, 0), (2, 178), (0, g10 179 p3), (0, p3), (2, 179)]) rfl ?_
    obtain ⟨hg, h⟩ := h
    refine Rn_iald rfl (⟨rfl, (by omega : (0 : Int) ≤ 178), (by omega : (178 : Int) + 1 < K ∧ 5 < K)⟩) hg ?_
    refine Rn_pure 1 (i' := 116) (L' := [some (2, 161), some (0, p1), some (0, p2), some (0, p3)]) (st' := [(0, g10 179 p3 + (g10 178 0)), (0, p3), (2, 179)]) rfl ?_
    obtain ⟨hg, h⟩ := h
    refine Rn_iast rfl (⟨rfl, (by omega : (0 : Int) ≤ 179), (by omega : (179 : Int) + 1 < K ∧ 5 < K)⟩) hg (fun g11 he_g11 => ?_)
    have h := h g11 he_g11
    exact Rn_ret0 rfl h
  have hsp : wr p1 < 0 ∨ 6 ≤ wr p1 ∨ wr p1 = 0 ∨ wr p1 = 1 ∨ wr p1 = 2 ∨ wr p1 = 3 ∨ wr p1 = 4 ∨ wr p1 = 5 := by omega
  rcases hsp with hc | hc | hc | hc | hc | hc | hc | hc
  · rw [ab_ts_out (hT := (rfl : ab_nth ab_tsL 5 = some (0, 90, [2, 26, 43, 60, 72, 84]))) rfl (Or.inl hc)]; exact htd (by simp only [hc, true_or, or_true])
  · rw [ab_ts_out (hT := (rfl : ab_nth ab_tsL 5 = some (0, 90, [2, 26, 43, 60, 72, 84]))) rfl (Or.inr hc)]; exact htd (by simp only [hc, true_or, or_true])
  · rw [ab_ts_in (j := 0) (hT := (rfl : ab_nth ab_tsL 5 = some (0, 90, [2, 26, 43, 60, 72, 84]))) (by rw [hc]; rfl) rfl]; exact ht2 (by simp only [hc, true_or, or_true])
  · rw [ab_ts_in (j := 1) (hT := (rfl : ab_nth ab_tsL 5 = some (0, 90, [2, 26, 43, 60, 72, 84]))) (by rw [hc]; rfl) rfl]; exact ht26 (by simp only [hc, true_or, or_true])
  · rw [ab_ts_in (j := 2) (hT := (rfl : ab_nth ab_tsL 5 = some (0, 90, [2, 26, 43, 60, 72, 84]))) (by rw [hc]; rfl) rfl]; exact ht43 (by simp only [hc, true_or, or_true])
  · rw [ab_ts_in (j := 3) (hT := (rfl : ab_nth ab_tsL 5 = some (0, 90, [2, 26, 43, 60, 72, 84]))) (by rw [hc]; rfl) rfl]; exact ht60 (by simp only [hc, true_or, or_true])
  · rw [ab_ts_in (j := 4) (hT := (rfl : ab_nth ab_tsL 5 = some (0, 90, [2, 26, 43, 60, 72, 84]))) (by rw [hc]; rfl) rfl]; exact ht72 (by simp only [hc, true_or, or_true])
  · rw [ab_ts_in (j := 5) (hT := (rfl : ab_nth ab_tsL 5 = some (0, 90, [2, 26, 43, 60, 72, 84]))) (by rw [hc]; rfl) rfl]; exact ht84 (by simp only [hc, true_or, or_true])
-- EventLedgerModel.replays (IIII)V
theorem v_M_replays {K : Int} {S : Nat} {g r : ab_H} {p1 p2 p3 p4 : Int} (P : ab_H → ab_H → Prop) (hr : SI r) (hK : 186 ≤ K) (h : ab_Rn m_M_replays 2 [some (2, 161), some (0, p1), some (0, p2), some (0, p3), some (0, p4), some (0, 0), none, none, none] [] (K, S, g, r) (ab_Qv K S P)) : ab_RV m_M_replays [(2, 161), (0, p1), (0, p2), (0, p3), (0, p4)] K S g r P := by
  show ab_Rn m_M_replays 0 [some (2, 161), some (0, p1), some (0, p2), some (0, p3), some (0, p4), none, none, none, none] [] (K, S, g, r) (ab_Qv K S P)
  refine Rn_pure 2 (i' := 2) (L' := [some (2, 161), some (0, p1), some (0, p2), some (0, p3), some (0, p4), some (0, 0), none, none, none]) (st' := []) rfl ?_
  exact h
theorem v_M_replays_2 {K : Int} {S : Nat} {g r : ab_H} {l1 l2 l3 l4 l5 : Int} (P : ab_H → ab_H → Prop) (hr : SI r) (hK : 186 ≤ K) (h : ((wr 8 ≤ wr l5 → ∀ g1, g1 = ab_up g 161 41 (-2) → ∀ g2, g2 = ab_up g1 161 42 0 → ∀ g3, g3 = ab_up g2 161 43 (-2) → ab_Rn m_M_replays 38 [some (2, 161), some (0, l1), some (0, l2), some (0, l3), some (0, l4), some (0, 0), none, none, none] [] (K, S, g3, r) (ab_Qv K S P)) ∧ (wr l5 < wr 8 → ((0 : Int) ≤ l5 ∧ (l5 : Int) < 8) ∧ ∀ g4, g4 = ab_up g 179 l5 0 → ((0 : Int) ≤ l5 ∧ (l5 : Int) < 8) ∧ ∀ g5, g5 = ab_up g4 180 l5 0 → ((0 : Int) ≤ l5 ∧ (l5 : Int) < 8) ∧ ∀ g6, g6 = ab_up g5 181 l5 0 → ((0 : Int) ≤ l5 ∧ (l5 : Int) < 8) ∧ ∀ g7, g7 = ab_up g6 182 l5 0 → ab_Rn m_M_replays 2 [some (2, 161), some (0, l1), some (0, l2), some (0, l3), some (0, l4), some (0, l5 + 1), none, none, none] [] (K, S, g7, r) (ab_Qv K S P)))) : ab_Rn m_M_replays 2 [some (2, 161), some (0, l1), some (0, l2), some (0, l3), some (0, l4), some (0, l5), none, none, none] [] (K, S, g, r) (ab_Qv K S P) := by
  refine Rn_pure 2 (i' := 4) (L' := [some (2, 161), some (0, l1), some (0, l2), some (0, l3), some (0, l4), some (0, l5), none, none, none]) (st' := [(0, 8), (0, l5)]) rfl ?_
  refine Rn_icge rfl (fun hc => ?_) (fun hc => ?_)
  · have h := h.1 hc
    refine Rn_pure 2 (i' := 29) (L' := [some (2, 161), some (0, l1), some (0, l2), some (0, l3), some (0, l4), some (0, l5), none, none, none]) (st' := [(0, (-2)), (2, 161)]) rfl ?_
    refine Rn_putI rfl (⟨rfl, (by omega : (0 : Int) ≤ 161), (by omega : (161 : Int) + 1 < K ∧ 5 < K)⟩) (fun g1 he_g1 => ?_)
    have h := h g1 he_g1
    refine Rn_pure 2 (i' := 32) (L' := [some (2, 161), some (0, l1), some (0, l2), some (0, l3), some (0, l4), some (0, l5), none, none, none]) (st' := [(0, 0), (2, 161)]) rfl ?_
    refine Rn_putI rfl (⟨rfl, (by omega : (0 : Int) ≤ 161), (by omega : (161 : Int) + 1 < K ∧ 5 < K)⟩) (fun g2 he_g2 => ?_)
    have h := h g2 he_g2
    refine Rn_pure 2 (i' := 35) (L' := [some (2, 161), some (0, l1), some (0, l2), some (0, l3), some (0, l4), some (0, l5), none, none, none]) (st' := [(0, (-2)), (2, 161)]) rfl ?_
    refine Rn_putI rfl (⟨rfl, (by omega : (0 : Int) ≤ 161), (by omega : (161 : Int) + 1 < K ∧ 5 < K)⟩) (fun g3 he_g3 => ?_)
    have h := h g3 he_g3
    refine Rn_pure 2 (i' := 38) (L' := [some (2, 161), some (0, l1), some (0, l2), some (0, l3), some (0, l4), some (0, 0), none, none, none]) (st' := []) rfl ?_
    exact h
  · have h := h.2 hc
    refine Rn_pure 1 (i' := 6) (L' := [some (2, 161), some (0, l1), some (0, l2), some (0, l3), some (0, l4), some (0, l5), none, none, none]) (st' := [(2, 161)]) rfl ?_
    refine Rn_getR rfl (⟨rfl, (by omega : (0 : Int) ≤ 161), (by omega : (161 : Int) + 1 < K ∧ 5 < K)⟩) (hr 154 _ rfl) (by decide) ?_
    refine Rn_pure 2 (i' := 9) (L' := [some (2, 161), some (0, l1), some (0, l2), some (0, l3), some (0, l4), some (0, l5), none, none, none]) (st' := [(0, 0), (0, l5), (2, 179)]) rfl ?_
    obtain ⟨hg, h⟩ := h
    refine Rn_iast rfl (⟨rfl, (by omega : (0 : Int) ≤ 179), (by omega : (179 : Int) + 1 < K ∧ 5 < K)⟩) hg (fun g4 he_g4 => ?_)
    have h := h g4 he_g4
    refine Rn_pure 1 (i' := 11) (L' := [some (2, 161), some (0, l1), some (0, l2), some (0, l3), some (0, l4), some (0, l5), none, none, none]) (st' := [(2, 161)]) rfl ?_
    refine Rn_getR rfl (⟨rfl, (by omega : (0 : Int) ≤ 161), (by omega : (161 : Int) + 1 < K ∧ 5 < K)⟩) (hr 155 _ rfl) (by decide) ?_
    refine Rn_pure 2 (i' := 14) (L' := [some (2, 161), some (0, l1), some (0, l2), some (0, l3), some (0, l4), some (0, l5), none, none, none]) (st' := [(0, 0), (0, l5), (2, 180)]) rfl ?_
    obtain ⟨hg, h⟩ := h
    refine Rn_iast rfl (⟨rfl, (by omega : (0 : Int) ≤ 180), (by omega : (180 : Int) + 1 < K ∧ 5 < K)⟩) hg (fun g5 he_g5 => ?_)
    have h := h g5 he_g5
    refine Rn_pure 1 (i' := 16) (L' := [some (2, 161), some (0, l1), some (0, l2), some (0, l3), some (0, l4), some (0, l5), none, none, none]) (st' := [(2, 161)]) rfl ?_
    refine Rn_getR rfl (⟨rfl, (by omega : (0 : Int) ≤ 161), (by omega : (161 : Int) + 1 < K ∧ 5 < K)⟩) (hr 156 _ rfl) (by decide) ?_
    refine Rn_pure 2 (i' := 19) (L' := [some (2, 161), some (0, l1), some (0, l2), some (0, l3), some (0, l4), some (0, l5), none, none, none]) (st' := [(0, 0), (0, l5), (2, 181)]) rfl ?_
    obtain ⟨hg, h⟩ := h
    refine Rn_iast rfl (⟨rfl, (by omega : (0 : Int) ≤ 181), (by omega : (181 : Int) + 1 < K ∧ 5 < K)⟩) hg (fun g6 he_g6 => ?_)
    have h := h g6 he_g6
    refine Rn_pure 1 (i' := 21) (L' := [some (2, 161), some (0, l1), some (0, l2), some (0, l3), some (0, l4), some (0, l5), none, none, none]) (st' := [(2, 161)]) rfl ?_
    refine Rn_getR rfl (⟨rfl, (by omega : (0 : Int) ≤ 161), (by omega : (161 : Int) + 1 < K ∧ 5 < K)⟩) (hr 157 _ rfl) (by decide) ?_
    refine Rn_pure 2 (i' := 24) (L' := [some (2, 161), some (0, l1), some (0, l2), some (0, l3), some (0, l4), some (0, l5), none, none, none]) (st' := [(0, 0), (0, l5), (2, 182)]) rfl ?_
    obtain ⟨hg, h⟩ := h
    refine Rn_zast rfl (⟨rfl, (by omega : (0 : Int) ≤ 182), (by omega : (182 : Int) + 1 < K ∧ 5 < K)⟩) hg (by decide) (fun g7 he_g7 => ?_)
    have h := h g7 he_g7
    refine Rn_pure 2 (i' := 2) (L' := [some (2, 161), some (0, l1), some (0, l2), some (0, l3), some (0, l4), some (0, l5 + 1), none, none, none]) (st' := []) rfl ?_
    exact h
theorem v_M_replays_38 {K : Int} {S : Nat} {g r : ab_H} {l1 l2 l3 l4 l5 : Int} (P : ab_H → ab_H → Prop) (hr : SI r) (hK : 186 ≤ K) (h : ((wr l1 ≤ wr l5 → P g r) ∧ (wr l5 < wr l1 → ((0 : Int) ≤ l5 ∧ (l5 : Int) < 120) ∧ ∀ g1, g1 = ab_up g 183 l5 0 → ab_RI m_M_isVoid [(2, 161), (0, l5)] K S g1 r (fun x2 g' r' => g' = g1 ∧ r' = r ∧ (((¬ wr x2 = wr 0 → ab_Rn m_M_replays 69 [some (2, 161), some (0, l1), some (0, l2), some (0, l3), some (0, l4), some (0, l5), some (0, 9 * l5), none, none] [] (K, S, g1, r) (ab_Qv K S P)) ∧ (wr x2 = wr 0 → ((wr l5 = wr l2 → ab_Rn m_M_replays 69 [some (2, 161), some (0, l1), some (0, l2), some (0, l3), some (0, l4), some (0, l5), some (0, 9 * l5), none, none] [] (K, S, g1, r) (ab_Qv K S P)) ∧ (¬ wr l5 = wr l2 → ab_RI m_M_isVoided [(2, 161), (0, l5)] K S g1 r (fun x3 g' r' => g' = g1 ∧ r' = r ∧ (((wr x3 = wr 0 → ab_Rn m_M_replays 71 [some (2, 161), some (0, l1), some (0, l2), some (0, l3), some (0, l4), some (0, l5), some (0, 9 * l5), none, none] [] (K, S, g1, r) (ab_Qv K S P)) ∧ (¬ wr x3 = wr 0 → ((0 : Int) ≤ 9 * l5 + 8 ∧ (9 * l5 + 8 : Int) < 1607) ∧ ((wr l3 < wr (g1 174 (9 * l5 + 8)) → ab_Rn m_M_replays 71 [some (2, 161), some (0, l1), some (0, l2), some (0, l3), some (0, l4), some (0, l5), some (0, 9 * l5), none, none] [] (K, S, g1, r) (ab_Qv K S P)) ∧ (wr (g1 174 (9 * l5 + 8)) ≤ wr l3 → ab_Rn m_M_replays 69 [some (2, 161), some (0, l1), some (0, l2), some (0, l3), some (0, l4), some (0, l5), some (0, 9 * l5), none, none] [] (K, S, g1, r) (ab_Qv K S P)))))))))))))))) : ab_Rn m_M_replays 38 [some (2, 161), some (0, l1), some (0, l2), some (0, l3), some (0, l4), some (0, l5), none, none, none] [] (K, S, g, r) (ab_Qv K S P) := by
  refine Rn_pure 2 (i' := 40) (L' := [some (2, 161), some (0, l1), some (0, l2), some (0, l3), some (0, l4), some (0, l5), none, none, none]) (st' := [(0, l1), (0, l5)]) rfl ?_
  refine Rn_icge rfl (fun hc => ?_) (fun hc => ?_)
  · have h := h.1 hc
    exact Rn_ret0 rfl h
  · have h := h.2 hc
    refine Rn_pure 5 (i' := 46) (L' := [some (2, 161), some (0, l1), some (0, l2), some (0, l3), some (0, l4), some (0, l5), some (0, 9 * l5), none, none]) (st' := [(2, 161)]) rfl ?_
    refine Rn_getR rfl (⟨rfl, (by omega : (0 : Int) ≤ 161), (by omega : (161 : Int) + 1 < K ∧ 5 < K)⟩) (hr 158 _ rfl) (by decide) ?_
    refine Rn_pure 2 (i' := 49) (L' := [some (2, 161), some (0, l1), some (0, l2), some (0, l3), some (0, l4), some (0, l5), some (0, 9 * l5), none, none]) (st' := [(0, 0), (0, l5), (2, 183)]) rfl ?_
    obtain ⟨hg, h⟩ := h
    refine Rn_iast rfl (⟨rfl, (by omega : (0 : Int) ≤ 183), (by omega : (183 : Int) + 1 < K ∧ 5 < K)⟩) hg (fun g1 he_g1 => ?_)
    have h := h g1 he_g1
    refine Rn_pure 2 (i' := 52) (L' := [some (2, 161), some (0, l1), some (0, l2), some (0, l3), some (0, l4), some (0, l5), some (0, 9 * l5), none, none]) (st' := [(0, l5), (2, 161)]) rfl ?_
    refine Rn_callI [(2, 161), (0, l5)] [] rfl rfl rfl rfl (ab_rvB_of rfl (⟨rfl, (by omega : (0 : Int) ≤ 161), (by omega : (161 : Int) + 1 < K ∧ 5 < K)⟩)) ?_
    refine h.mono (fun x2 g' r' h => ?_)
    obtain ⟨hx, h⟩ := h
    replace hx := hx.symm
    subst hx
    obtain ⟨hx, h⟩ := h
    replace hx := hx.symm
    subst hx
    refine Rn_ifne rfl (fun hc => ?_) (fun hc => ?_)
    · have h := h.1 hc
      exact h
    · have h := h.2 hc
      refine Rn_pure 2 (i' := 56) (L' := [some (2, 161), some (0, l1), some (0, l2), some (0, l3), some (0, l4), some (0, l5), some (0, 9 * l5), none, none]) (st' := [(0, l2), (0, l5)]) rfl ?_
      refine Rn_iceq rfl (fun hc => ?_) (fun hc => ?_)
      · have h := h.1 hc
        exact h
      · have h := h.2 hc
        refine Rn_pure 2 (i' := 59) (L' := [some (2, 161), some (0, l1), some (0, l2), some (0, l3), some (0, l4), some (0, l5), some (0, 9 * l5), none, none]) (st' := [(0, l5), (2, 161)]) rfl ?_
        refine Rn_callI [(2, 161), (0, l5)] [] rfl rfl rfl rfl (ab_rvB_of rfl (⟨rfl, (by omega : (0 : Int) ≤ 161), (by omega : (161 : Int) + 1 < K ∧ 5 < K)⟩)) ?_
        refine h.mono (fun x3 g' r' h => ?_)
        obtain ⟨hx, h⟩ := h
        replace hx := hx.symm
        subst hx
        obtain ⟨hx, h⟩ := h
        replace hx := hx.symm
        subst hx
        refine Rn_ifeq rfl (fun hc => ?_) (fun hc => ?_)
        · have h := h.1 hc
          exact h
        · have h := h.2 hc
          refine Rn_pure 1 (i' := 62) (L' := [some (2, 161), some (0, l1), some (0, l2), some (0, l3), some (0, l4), some (0, l5), some (0, 9 * l5), none, none]) (st' := [(2, 161)]) rfl ?_
          refine Rn_getR rfl (⟨rfl, (by omega : (0 : Int) ≤ 161), (by omega : (161 : Int) + 1 < K ∧ 5 < K)⟩) (hr 149 _ rfl) (by decide) ?_
          refine Rn_pure 3 (i' := 66) (L' := [some (2, 161), some (0, l1), some (0, l2), some (0, l3), some (0, l4), some (0, l5), some (0, 9 * l5), none, none]) (st' := [(0, 9 * l5 + 8), (2, 174)]) rfl ?_
          obtain ⟨hg, h⟩ := h
          refine Rn_iald rfl (⟨rfl, (by omega : (0 : Int) ≤ 174), (by omega : (174 : Int) + 1 < K ∧ 5 < K)⟩) hg ?_
          refine Rn_pure 1 (i' := 68) (L' := [some (2, 161), some (0, l1), some (0, l2), some (0, l3), some (0, l4), some (0, l5), some (0, 9 * l5), none, none]) (st' := [(0, l3), (0, g1 174 (9 * l5 + 8))]) rfl ?_
          refine Rn_icgt rfl (fun hc => ?_) (fun hc => ?_)
          · have h := h.1 hc
            exact h
          · have h := h.2 hc
            exact h
theorem v_M_replays_69 {K : Int} {S : Nat} {g r : ab_H} {l1 l2 l3 l4 l5 l6 : Int} (P : ab_H → ab_H → Prop) (hr : SI r) (hK : 186 ≤ K) (h : ((¬ wr 1 = wr 0 → ab_Rn m_M_replays 129 [some (2, 161), some (0, l1), some (0, l2), some (0, l3), some (0, l4), some (0, l5), none, none, none] [] (K, S, g, r) (ab_Qv K S P)) ∧ (wr 1 = wr 0 → ab_RI m_M_breaks [(2, 161), (0, l5)] K S g r (fun x2 g1 r' => r' = r ∧ (((0 : Int) ≤ l6 + 0 ∧ (l6 + 0 : Int) < 1607) ∧ ((0 : Int) ≤ l6 + 1 ∧ (l6 + 1 : Int) < 1607) ∧ ((0 : Int) ≤ l6 + 2 ∧ (l6 + 2 : Int) < 1607) ∧ ab_RI m_M_causeOf [(2, 161), (0, g1 174 (l6 + 0)), (0, g1 174 (l6 + 1)), (0, g1 174 (l6 + 2)), (0, x2)] K S g1 r (fun x3 g' r' => g' = g1 ∧ r' = r ∧ (((0 : Int) ≤ l5 ∧ (l5 : Int) < 120) ∧ ∀ g4, g4 = ab_up g1 183 l5 x3 → ((0 : Int) ≤ l5 ∧ (l5 : Int) < 120) ∧ ((¬ wr (g4 183 l5) = wr 0 → ab_Rn m_M_replays 129 [some (2, 161), some (0, l1), some (0, l2), some (0, l3), some (0, l4), some (0, l5), none, none, none] [] (K, S, g4, r) (ab_Qv K S P)) ∧ (wr (g4 183 l5) = wr 0 → ((0 : Int) ≤ l6 + 0 ∧ (l6 + 0 : Int) < 1607) ∧ ((0 : Int) ≤ l6 + 1 ∧ (l6 + 1 : Int) < 1607) ∧ ((0 : Int) ≤ l6 + 2 ∧ (l6 + 2 : Int) < 1607) ∧ ab_RV m_M_applies [(2, 161), (0, g4 174 (l6 + 0)), (0, g4 174 (l6 + 1)), (0, g4 174 (l6 + 2))] K S g4 r (fun g5 r' => r' = r ∧ (ab_Rn m_M_replays 129 [some (2, 161), some (0, l1), some (0, l2), some (0, l3), some (0, l4), some (0, l5), none, none, none] [] (K, S, g5, r) (ab_Qv K S P)))))))))))) : ab_Rn m_M_replays 69 [some (2, 161), some (0, l1), some (0, l2), some (0, l3), some (0, l4), some (0, l5), some (0, l6), none, none] [] (K, S, g, r) (ab_Qv K S P) := by
  refine Rn_pure 4 (i' := 74) (L' := [some (2, 161), some (0, l1), some (0, l2), some (0, l3), some (0, l4), some (0, l5), some (0, l6), some (0, 1), none]) (st' := [(0, 1)]) rfl ?_
  refine Rn_ifne rfl (fun hc => ?_) (fun hc => ?_)
  · have h := h.1 hc
    refine Rn_weak (L' := [some (2, 161), some (0, l1), some (0, l2), some (0, l3), some (0, l4), some (0, l5), none, none, none]) ⟨rfl, ⟨rfl, ⟨rfl, ⟨rfl, ⟨rfl, ⟨rfl, trivial⟩⟩⟩⟩⟩⟩ ?_
    exact h
  · have h := h.2 hc
    refine Rn_pure 2 (i' := 77) (L' := [some (2, 161), some (0, l1), some (0, l2), some (0, l3), some (0, l4), some (0, l5), some (0, l6), some (0, 1), none]) (st' := [(0, l5), (2, 161)]) rfl ?_
    refine Rn_callI [(2, 161), (0, l5)] [] rfl rfl rfl rfl (ab_rvB_of rfl (⟨rfl, (by omega : (0 : Int) ≤ 161), (by omega : (161 : Int) + 1 < K ∧ 5 < K)⟩)) ?_
    refine h.mono (fun x2 g1 r' h => ?_)
    obtain ⟨hx, h⟩ := h
    replace hx := hx.symm
    subst hx
    refine Rn_pure 2 (i' := 80) (L' := [some (2, 161), some (0, l1), some (0, l2), some (0, l3), some (0, l4), some (0, l5), some (0, l6), some (0, 1), some (0, x2)]) (st' := [(2, 161)]) rfl ?_
    refine Rn_getR rfl (⟨rfl, (by omega : (0 : Int) ≤ 161), (by omega : (161 : Int) + 1 < K ∧ 5 < K)⟩) (hr 158 _ rfl) (by decide) ?_
    refine Rn_pure 3 (i' := 84) (L' := [some (2, 161), some (0, l1), some (0, l2), some (0, l3), some (0, l4), some (0, l5), some (0, l6), some (0, 1), some (0, x2)]) (st' := [(2, 161), (2, 161), (0, l5), (2, 183)]) rfl ?_
    refine Rn_getR rfl (⟨rfl, (by omega : (0 : Int) ≤ 161), (by omega : (161 : Int) + 1 < K ∧ 5 < K)⟩) (hr 149 _ rfl) (by decide) ?_
    refine Rn_pure 3 (i' := 88) (L' := [some (2, 161), some (0, l1), some (0, l2), some (0, l3), some (0, l4), some (0, l5), some (0, l6), some (0, 1), some (0, x2)]) (st' := [(0, l6 + 0), (2, 174), (2, 161), (0, l5), (2, 183)]) rfl ?_
    obtain ⟨hg, h⟩ := h
    refine Rn_iald rfl (⟨rfl, (by omega : (0 : Int) ≤ 174), (by omega : (174 : Int) + 1 < K ∧ 5 < K)⟩) hg ?_
    refine Rn_pure 1 (i' := 90) (L' := [some (2, 161), some (0, l1), some (0, l2), some (0, l3), some (0, l4), some (0, l5), some (0, l6), some (0, 1), some (0, x2)]) (st' := [(2, 161), (0, g1 174 (l6 + 0)), (2, 161), (0, l5), (2, 183)]) rfl ?_
    refine Rn_getR rfl (⟨rfl, (by omega : (0 : Int) ≤ 161), (by omega : (161 : Int) + 1 < K ∧ 5 < K)⟩) (hr 149 _ rfl) (by decide) ?_
    refine Rn_pure 3 (i' := 94) (L' := [some (2, 161), some (0, l1), some (0, l2), some (0, l3), some (0, l4), some (0, l5), some (0, l6), some (0, 1), some (0, x2)]) (st' := [(0, l6 + 1), (2, 174), (0, g1 174 (l6 + 0)), (2, 161), (0, l5), (2, 183)]) rfl ?_
    obtain ⟨hg, h⟩ := h
    refine Rn_iald rfl (⟨rfl, (by omega : (0 : Int) ≤ 174), (by omega : (174 : Int) + 1 < K ∧ 5 < K)⟩) hg ?_
    refine Rn_pure 1 (i' := 96) (L' := [some (2, 161), some (0, l1), some (0, l2), some (0, l3), some (0, l4), some (0, l5), some (0, l6), some (0, 1), some (0, x2)]) (st' := [(2, 161), (0, g1 174 (l6 + 1)), (0, g1 174 (l6 + 0)), (2, 161), (0, l5), (2, 183)]) rfl ?_
    refine Rn_getR rfl (⟨rfl, (by omega : (0 : Int) ≤ 161), (by omega : (161 : Int) + 1 < K ∧ 5 < K)⟩) (hr 149 _ rfl) (by decide) ?_
    refine Rn_pure 3 (i' := 100) (L' := [some (2, 161), some (0, l1), some (0, l2), some (0, l3), some (0, l4), some (0, l5), some (0, l6), some (0, 1), some (0, x2)]) (st' := [(0, l6 + 2), (2, 174), (0, g1 174 (l6 + 1)), (0, g1 174 (l6 + 0)), (2, 161), (0, l5), (2, 183)]) rfl ?_
    obtain ⟨hg, h⟩ := h
    refine Rn_iald rfl (⟨rfl, (by omega : (0 : Int) ≤ 174), (by omega : (174 : Int) + 1 < K ∧ 5 < K)⟩) hg ?_
    refine Rn_pure 1 (i' := 102) (L' := [some (2, 161), some (0, l1), some (0, l2), some (0, l3), some (0, l4), some (0, l5), some (0, l6), some (0, 1), some (0, x2)]) (st' := [(0, x2), (0, g1 174 (l6 + 2)), (0, g1 174 (l6 + 1)), (0, g1 174 (l6 + 0)), (2, 161), (0, l5), (2, 183)]) rfl ?_
    refine Rn_callI [(2, 161), (0, g1 174 (l6 + 0)), (0, g1 174 (l6 + 1)), (0, g1 174 (l6 + 2)), (0, x2)] [(0, l5), (2, 183)] rfl rfl rfl rfl (ab_rvB_of rfl (⟨rfl, (by omega : (0 : Int) ≤ 161), (by omega : (161 : Int) + 1 < K ∧ 5 < K)⟩)) ?_
    refine h.mono (fun x3 g' r' h => ?_)
    obtain ⟨hx, h⟩ := h
    replace hx := hx.symm
    subst hx
    obtain ⟨hx, h⟩ := h
    replace hx := hx.symm
    subst hx
    obtain ⟨hg, h⟩ := h
    refine Rn_iast rfl (⟨rfl, (by omega : (0 : Int) ≤ 183), (by omega : (183 : Int) + 1 < K ∧ 5 < K)⟩) hg (fun g4 he_g4 => ?_)
    have h := h g4 he_g4
    refine Rn_pure 1 (i' := 105) (L' := [some (2, 161), some (0, l1), some (0, l2), some (0, l3), some (0, l4), some (0, l5), some (0, l6), some (0, 1), some (0, x2)]) (st' := [(2, 161)]) rfl ?_
    refine Rn_getR rfl (⟨rfl, (by omega : (0 : Int) ≤ 161), (by omega : (161 : Int) + 1 < K ∧ 5 < K)⟩) (hr 158 _ rfl) (by decide) ?_
    refine Rn_pure 1 (i' := 107) (L' := [some (2, 161), some (0, l1), some (0, l2), some (0, l3), some (0, l4), some (0, l5), some (0, l6), some (0, 1), some (0, x2)]) (st' := [(0, l5), (2, 183)]) rfl ?_
    obtain ⟨hg, h⟩ := h
    refine Rn_iald rfl (⟨rfl, (by omega : (0 : Int) ≤ 183), (by omega : (183 : Int) + 1 < K ∧ 5 < K)⟩) hg ?_
    refine Rn_ifne rfl (fun hc => ?_) (fun hc => ?_)
    · have h := h.1 hc
      refine Rn_weak (L' := [some (2, 161), some (0, l1), some (0, l2), some (0, l3), some (0, l4), some (0, l5), none, none, none]) ⟨rfl, ⟨rfl, ⟨rfl, ⟨rfl, ⟨rfl, ⟨rfl, trivial⟩⟩⟩⟩⟩⟩ ?_
      exact h
    · have h := h.2 hc
      refine Rn_pure 2 (i' := 111) (L' := [some (2, 161), some (0, l1), some (0, l2), some (0, l3), some (0, l4), some (0, l5), some (0, l6), some (0, 1), some (0, x2)]) (st' := [(2, 161), (2, 161)]) rfl ?_
      refine Rn_getR rfl (⟨rfl, (by omega : (0 : Int) ≤ 161), (by omega : (161 : Int) + 1 < K ∧ 5 < K)⟩) (hr 149 _ rfl) (by decide) ?_
      refine Rn_pure 3 (i' := 115) (L' := [some (2, 161), some (0, l1), some (0, l2), some (0, l3), some (0, l4), some (0, l5), some (0, l6), some (0, 1), some (0, x2)]) (st' := [(0, l6 + 0), (2, 174), (2, 161)]) rfl ?_
      obtain ⟨hg, h⟩ := h
      refine Rn_iald rfl (⟨rfl, (by omega : (0 : Int) ≤ 174), (by omega : (174 : Int) + 1 < K ∧ 5 < K)⟩) hg ?_
      refine Rn_pure 1 (i' := 117) (L' := [some (2, 161), some (0, l1), some (0, l2), some (0, l3), some (0, l4), some (0, l5), some (0, l6), some (0, 1), some (0, x2)]) (st' := [(2, 161), (0, g4 174 (l6 + 0)), (2, 161)]) rfl ?_
      refine Rn_getR rfl (⟨rfl, (by omega : (0 : Int) ≤ 161), (by omega : (161 : Int) + 1 < K ∧ 5 < K)⟩) (hr 149 _ rfl) (by decide) ?_
      refine Rn_pure 3 (i' := 121) (L' := [some (2, 161), some (0, l1), some (0, l2), some (0, l3), some (0, l4), some (0, l5), some (0, l6), some (0, 1), some (0, x2)]) (st' := [(0, l6 + 1), (2, 174), (0, g4 174 (l6 + 0)), (2, 161)]) rfl ?_
      obtain ⟨hg, h⟩ := h
      refine Rn_iald rfl (⟨rfl, (by omega : (0 : Int) ≤ 174), (by omega : (174 : Int) + 1 < K ∧ 5 < K)⟩) hg ?_
      refine Rn_pure 1 (i' := 123) (L' := [some (2, 161), some (0, l1), some (0, l2), some (0, l3), some (0, l4), some (0, l5), some (0, l6), some (0, 1), some (0, x2)]) (st' := [(2, 161), (0, g4 174 (l6 + 1)), (0, g4 174 (l6 + 0)), (2, 161)]) rfl ?_
      refine Rn_getR rfl (⟨rfl, (by omega : (0 : Int) ≤ 161), (by omega : (161 : Int) + 1 < K ∧ 5 < K)⟩) (hr 149 _ rfl) (by decide) ?_
      refine Rn_pure 3 (i' := 127) (L' := [some (2, 161), some (0, l1), some (0, l2), some (0, l3), some (0, l4), some (0, l5), some (0, l6), some (0, 1), some (0, x2)]) (st' := [(0, l6 + 2), (2, 174), (0, g4 174 (l6 + 1)), (0, g4 174 (l6 + 0)), (2, 161)]) rfl ?_
      obtain ⟨hg, h⟩ := h
      refine Rn_iald rfl (⟨rfl, (by omega : (0 : Int) ≤ 174), (by omega : (174 : Int) + 1 < K ∧ 5 < K)⟩) hg ?_
      refine Rn_callV [(2, 161), (0, g4 174 (l6 + 0)), (0, g4 174 (l6 + 1)), (0, g4 174 (l6 + 2))] [] rfl rfl rfl rfl (ab_rvB_of rfl (⟨rfl, (by omega : (0 : Int) ≤ 161), (by omega : (161 : Int) + 1 < K ∧ 5 < K)⟩)) ?_
      refine h.mono (fun g5 r' h => ?_)
      obtain ⟨hx, h⟩ := h
      replace hx := hx.symm
      subst hx
      refine Rn_weak (L' := [some (2, 161), some (0, l1), some (0, l2), some (0, l3), some (0, l4), some (0, l5), none, none, none]) ⟨rfl, ⟨rfl, ⟨rfl, ⟨rfl, ⟨rfl, ⟨rfl, trivial⟩⟩⟩⟩⟩⟩ ?_
      exact h
theorem v_M_replays_71 {K : Int} {S : Nat} {g r : ab_H} {l1 l2 l3 l4 l5 l6 : Int} (P : ab_H → ab_H → Prop) (hr : SI r) (hK : 186 ≤ K) (h : ((¬ wr 0 = wr 0 → ab_Rn m_M_replays 129 [some (2, 161), some (0, l1), some (0, l2), some (0, l3), some (0, l4), some (0, l5), none, none, none] [] (K, S, g, r) (ab_Qv K S P)) ∧ (wr 0 = wr 0 → ab_RI m_M_breaks [(2, 161), (0, l5)] K S g r (fun x2 g1 r' => r' = r ∧ (((0 : Int) ≤ l6 + 0 ∧ (l6 + 0 : Int) < 1607) ∧ ((0 : Int) ≤ l6 + 1 ∧ (l6 + 1 : Int) < 1607) ∧ ((0 : Int) ≤ l6 + 2 ∧ (l6 + 2 : Int) < 1607) ∧ ab_RI m_M_causeOf [(2, 161), (0, g1 174 (l6 + 0)), (0, g1 174 (l6 + 1)), (0, g1 174 (l6 + 2)), (0, x2)] K S g1 r (fun x3 g' r' => g' = g1 ∧ r' = r ∧ (((0 : Int) ≤ l5 ∧ (l5 : Int) < 120) ∧ ∀ g4, g4 = ab_up g1 183 l5 x3 → ((0 : Int) ≤ l5 ∧ (l5 : Int) < 120) ∧ ((¬ wr (g4 183 l5) = wr 0 → ab_Rn m_M_replays 129 [some (2, 161), some (0, l1), some (0, l2), some (0, l3), some (0, l4), some (0, l5), none, none, none] [] (K, S, g4, r) (ab_Qv K S P)) ∧ (wr (g4 183 l5) = wr 0 → ((0 : Int) ≤ l6 + 0 ∧ (l6 + 0 : Int) < 1607) ∧ ((0 : Int) ≤ l6 + 1 ∧ (l6 + 1 : Int) < 1607) ∧ ((0 : Int) ≤ l6 + 2 ∧ (l6 + 2 : Int) < 1607) ∧ ab_RV m_M_applies [(2, 161), (0, g4 174 (l6 + 0)), (0, g4 174 (l6 + 1)), (0, g4 174 (l6 + 2))] K S g4 r (fun g5 r' => r' = r ∧ (ab_Rn m_M_replays 129 [some (2, 161), some (0, l1), some (0, l2), some (0, l3), some (0, l4), some (0, l5), none, none, none] [] (K, S, g5, r) (ab_Qv K S P)))))))))))) : ab_Rn m_M_replays 71 [some (2, 161), some (0, l1), some (0, l2), some (0, l3), some (0, l4), some (0, l5), some (0, l6), none, none] [] (K, S, g, r) (ab_Qv K S P) := by
  refine Rn_pure 3 (i' := 74) (L' := [some (2, 161), some (0, l1), some (0, l2), some (0, l3), some (0, l4), some (0, l5), some (0, l6), some (0, 0), none]) (st' := [(0, 0)]) rfl ?_
  refine Rn_ifne rfl (fun hc => ?_) (fun hc => ?_)
  · have h := h.1 hc
    refine Rn_weak (L' := [some (2, 161), some (0, l1), some (0, l2), some (0, l3), some (0, l4), some (0, l5), none, none, none]) ⟨rfl, ⟨rfl, ⟨rfl, ⟨rfl, ⟨rfl, ⟨rfl, trivial⟩⟩⟩⟩⟩⟩ ?_
    exact h
  · have h := h.2 hc
    refine Rn_pure 2 (i' := 77) (L' := [some (2, 161), some (0, l1), some (0, l2), some (0, l3), some (0, l4), some (0, l5), some (0, l6), some (0, 0), none]) (st' := [(0, l5), (2, 161)]) rfl ?_
    refine Rn_callI [(2, 161), (0, l5)] [] rfl rfl rfl rfl (ab_rvB_of rfl (⟨rfl, (by omega : (0 : Int) ≤ 161), (by omega : (161 : Int) + 1 < K ∧ 5 < K)⟩)) ?_
    refine h.mono (fun x2 g1 r' h => ?_)
    obtain ⟨hx, h⟩ := h
    replace hx := hx.symm
    subst hx
    refine Rn_pure 2 (i' := 80) (L' := [some (2, 161), some (0, l1), some (0, l2), some (0, l3), some (0, l4), some (0, l5), some (0, l6), some (0, 0), some (0, x2)]) (st' := [(2, 161)]) rfl ?_
    refine Rn_getR rfl (⟨rfl, (by omega : (0 : Int) ≤ 161), (by omega : (161 : Int) + 1 < K ∧ 5 < K)⟩) (hr 158 _ rfl) (by decide) ?_
    refine Rn_pure 3 (i' := 84) (L' := [some (2, 161), some (0, l1), some (0, l2), some (0, l3), some (0, l4), some (0, l5), some (0, l6), some (0, 0), some (0, x2)]) (st' := [(2, 161), (2, 161), (0, l5), (2, 183)]) rfl ?_
    refine Rn_getR rfl (⟨rfl, (by omega : (0 : Int) ≤ 161), (by omega : (161 : Int) + 1 < K ∧ 5 < K)⟩) (hr 149 _ rfl) (by decide) ?_
    refine Rn_pure 3 (i' := 88) (L' := [some (2, 161), some (0, l1), some (0, l2), some (0, l3), some (0, l4), some (0, l5), some (0, l6), some (0, 0), some (0, x2)]) (st' := [(0, l6 + 0), (2, 174), (2, 161), (0, l5), (2, 183)]) rfl ?_
    obtain ⟨hg, h⟩ := h
    refine Rn_iald rfl (⟨rfl, (by omega : (0 : Int) ≤ 174), (by omega : (174 : Int) + 1 < K ∧ 5 < K)⟩) hg ?_
    refine Rn_pure 1 (i' := 90) (L' := [some (2, 161), some (0, l1), some (0, l2), some (0, l3), some (0, l4), some (0, l5), some (0, l6), some (0, 0), some (0, x2)]) (st' := [(2, 161), (0, g1 174 (l6 + 0)), (2, 161), (0, l5), (2, 183)]) rfl ?_
    refine Rn_getR rfl (⟨rfl, (by omega : (0 : Int) ≤ 161), (by omega : (161 : Int) + 1 < K ∧ 5 < K)⟩) (hr 149 _ rfl) (by decide) ?_
    refine Rn_pure 3 (i' := 94) (L' := [some (2, 161), some (0, l1), some (0, l2), some (0, l3), some (0, l4), some (0, l5), some (0, l6), some (0, 0), some (0, x2)]) (st' := [(0, l6 + 1), (2, 174), (0, g1 174 (l6 + 0)), (2, 161), (0, l5), (2, 183)]) rfl ?_
    obtain ⟨hg, h⟩ := h
    refine Rn_iald rfl (⟨rfl, (by omega : (0 : Int) ≤ 174), (by omega : (174 : Int) + 1 < K ∧ 5 < K)⟩) hg ?_
    refine Rn_pure 1 (i' := 96) (L' := [some (2, 161), some (0, l1), some (0, l2), some (0, l3), some (0, l4), some (0, l5), some (0, l6), some (0, 0), some (0, x2)]) (st' := [(2, 161), (0, g1 174 (l6 + 1)), (0, g1 174 (l6 + 0)), (2, 161), (0, l5), (2, 183)]) rfl ?_
    refine Rn_getR rfl (⟨rfl, (by omega : (0 : Int) ≤ 161), (by omega : (161 : Int) + 1 < K ∧ 5 < K)⟩) (hr 149 _ rfl) (by decide) ?_
    refine Rn_pure 3 (i' := 100) (L' := [some (2, 161), some (0, l1), some (0, l2), some (0, l3), some (0, l4), some (0, l5), some (0, l6), some (0, 0), some (0, x2)]) (st' := [(0, l6 + 2), (2, 174), (0, g1 174 (l6 + 1)), (0, g1 174 (l6 + 0)), (2, 161), (0, l5), (2, 183)]) rfl ?_
    obtain ⟨hg, h⟩ := h
    refine Rn_iald rfl (⟨rfl, (by omega : (0 : Int) ≤ 174), (by omega : (174 : Int) + 1 < K ∧ 5 < K)⟩) hg ?_
    refine Rn_pure 1 (i' := 102) (L' := [some (2, 161), some (0, l1), some (0, l2), some (0, l3), some (0, l4), some (0, l5), some (0, l6), some (0, 0), some (0, x2)]) (st' := [(0, x2), (0, g1 174 (l6 + 2)), (0, g1 174 (l6 + 1)), (0, g1 174 (l6 + 0)), (2, 161), (0, l5), (2, 183)]) rfl ?_
    refine Rn_callI [(2, 161), (0, g1 174 (l6 + 0)), (0, g1 174 (l6 + 1)), (0, g1 174 (l6 + 2)), (0, x2)] [(0, l5), (2, 183)] rfl rfl rfl rfl (ab_rvB_of rfl (⟨rfl, (by omega : (0 : Int) ≤ 161), (by omega : (161 : Int) + 1 < K ∧ 5 < K)⟩)) ?_
    refine h.mono (fun x3 g' r' h => ?_)
    obtain ⟨hx, h⟩ := h
    replace hx := hx.symm
    subst hx
    obtain ⟨hx, h⟩ := h
    replace hx := hx.symm
    subst hx
    obtain ⟨hg, h⟩ := h
    refine Rn_iast rfl (⟨rfl, (by omega : (0 : Int) ≤ 183), (by omega : (183 : Int) + 1 < K ∧ 5 < K)⟩) hg (fun g4 he_g4 => ?_)
    have h := h g4 he_g4
    refine Rn_pure 1 (i' := 105) (L' := [some (2, 161), some (0, l1), some (0, l2), some (0, l3), some (0, l4), some (0, l5), some (0, l6), some (0, 0), some (0, x2)]) (st' := [(2, 161)]) rfl ?_
    refine Rn_getR rfl (⟨rfl, (by omega : (0 : Int) ≤ 161), (by omega : (161 : Int) + 1 < K ∧ 5 < K)⟩) (hr 158 _ rfl) (by decide) ?_
    refine Rn_pure 1 (i' := 107) (L' := [some (2, 161), some (0, l1), some (0, l2), some (0, l3), some (0, l4), some (0, l5), some (0, l6), some (0, 0), some (0, x2)]) (st' := [(0, l5), (2, 183)]) rfl ?_
    obtain ⟨hg, h⟩ := h
    refine Rn_iald rfl (⟨rfl, (by omega : (0 : Int) ≤ 183), (by omega : (183 : Int) + 1 < K ∧ 5 < K)⟩) hg ?_
    refine Rn_ifne rfl (fun hc => ?_) (fun hc => ?_)
    · have h := h.1 hc
      refine Rn_weak (L' := [some (2, 161), some (0, l1), some (0, l2), some (0, l3), some (0, l4), some (0, l5), none, none, none]) ⟨rfl, ⟨rfl, ⟨rfl, ⟨rfl, ⟨rfl, ⟨rfl, trivial⟩⟩⟩⟩⟩⟩ ?_
      exact h
    · have h := h.2 hc
      refine Rn_pure 2 (i' := 111) (L' := [some (2, 161), some (0, l1), some (0, l2), some (0, l3), some (0, l4), some (0, l5), some (0, l6), some (0, 0), some (0, x2)]) (st' := [(2, 161), (2, 161)]) rfl ?_
      refine Rn_getR rfl (⟨rfl, (by omega : (0 : Int) ≤ 161), (by omega : (161 : Int) + 1 < K ∧ 5 < K)⟩) (hr 149 _ rfl) (by decide) ?_
      refine Rn_pure 3 (i' := 115) (L' := [some (2, 161), some (0, l1), some (0, l2), some (0, l3), some (0, l4), some (0, l5), some (0, l6), some (0, 0), some (0, x2)]) (st' := [(0, l6 + 0), (2, 174), (2, 161)]) rfl ?_
      obtain ⟨hg, h⟩ := h
      refine Rn_iald rfl (⟨rfl, (by omega : (0 : Int) ≤ 174), (by omega : (174 : Int) + 1 < K ∧ 5 < K)⟩) hg ?_
      refine Rn_pure 1 (i' := 117) (L' := [some (2, 161), some (0, l1), some (0, l2), some (0, l3), some (0, l4), some (0, l5), some (0, l6), some (0, 0), some (0, x2)]) (st' := [(2, 161), (0, g4 174 (l6 + 0)), (2, 161)]) rfl ?_
      refine Rn_getR rfl (⟨rfl, (by omega : (0 : Int) ≤ 161), (by omega : (161 : Int) + 1 < K ∧ 5 < K)⟩) (hr 149 _ rfl) (by decide) ?_
      refine Rn_pure 3 (i' := 121) (L' := [some (2, 161), some (0, l1), some (0, l2), some (0, l3), some (0, l4), some (0, l5), some (0, l6), some (0, 0), some (0, x2)]) (st' := [(0, l6 + 1), (2, 174), (0, g4 174 (l6 + 0)), (2, 161)]) rfl ?_
      obtain ⟨hg, h⟩ := h
      refine Rn_iald rfl (⟨rfl, (by omega : (0 : Int) ≤ 174), (by omega : (174 : Int) + 1 < K ∧ 5 < K)⟩) hg ?_
      refine Rn_pure 1 (i' := 123) (L' := [some (2, 161), some (0, l1), some (0, l2), some (0, l3), some (0, l4), some (0, l5), some (0, l6), some (0, 0), some (0, x2)]) (st' := [(2, 161), (0, g4 174 (l6 + 1)), (0, g4 174 (l6 + 0)), (2, 161)]) rfl ?_
      refine Rn_getR rfl (⟨rfl, (by omega : (0 : Int) ≤ 161), (by omega : (161 : Int) + 1 < K ∧ 5 < K)⟩) (hr 149 _ rfl) (by decide) ?_
      refine Rn_pure 3 (i' := 127) (L' := [some (2, 161), some (0, l1), some (0, l2), some (0, l3), some (0, l4), some (0, l5), some (0, l6), some (0, 0), some (0, x2)]) (st' := [(0, l6 + 2), (2, 174), (0, g4 174 (l6 + 1)), (0, g4 174 (l6 + 0)), (2, 161)]) rfl ?_
      obtain ⟨hg, h⟩ := h
      refine Rn_iald rfl (⟨rfl, (by omega : (0 : Int) ≤ 174), (by omega : (174 : Int) + 1 < K ∧ 5 < K)⟩) hg ?_
      refine Rn_callV [(2, 161), (0, g4 174 (l6 + 0)), (0, g4 174 (l6 + 1)), (0, g4 174 (l6 + 2))] [] rfl rfl rfl rfl (ab_rvB_of rfl (⟨rfl, (by omega : (0 : Int) ≤ 161), (by omega : (161 : Int) + 1 < K ∧ 5 < K)⟩)) ?_
      refine h.mono (fun g5 r' h => ?_)
      obtain ⟨hx, h⟩ := h
      replace hx := hx.symm
      subst hx
      refine Rn_weak (L' := [some (2, 161), some (0, l1), some (0, l2), some (0, l3), some (0, l4), some (0, l5), none, none, none]) ⟨rfl, ⟨rfl, ⟨rfl, ⟨rfl, ⟨rfl, ⟨rfl, trivial⟩⟩⟩⟩⟩⟩ ?_
      exact h
theorem v_M_replays_129 {K : Int} {S : Nat} {g r : ab_H} {l1 l2 l3 l4 l5 : Int} (P : ab_H → ab_H → Prop) (hr : SI r) (hK : 186 ≤ K) (h : ((¬ wr l4 = wr (-1) → ((0 : Int) ≤ l4 ∧ (l4 : Int) < 8) ∧ ((wr 0 ≤ wr (g 179 l4) → ab_Rn m_M_replays 145 [some (2, 161), some (0, l1), some (0, l2), some (0, l3), some (0, l4), some (0, l5), none, none, none] [] (K, S, g, r) (ab_Qv K S P)) ∧ (wr (g 179 l4) < wr 0 → ((¬ wr (g 161 41) = wr (-2) → ab_Rn m_M_replays 145 [some (2, 161), some (0, l1), some (0, l2), some (0, l3), some (0, l4), some (0, l5), none, none, none] [] (K, S, g, r) (ab_Qv K S P)) ∧ (wr (g 161 41) = wr (-2) → ∀ g1, g1 = ab_up g 161 41 l5 → ab_Rn m_M_replays 145 [some (2, 161), some (0, l1), some (0, l2), some (0, l3), some (0, l4), some (0, l5), none, none, none] [] (K, S, g1, r) (ab_Qv K S P)))))) ∧ (wr l4 = wr (-1) → ab_Rn m_M_replays 161 [some (2, 161), some (0, l1), some (0, l2), some (0, l3), some (0, l4), some (0, l5), none, none, none] [] (K, S, g, r) (ab_Qv K S P)))) : ab_Rn m_M_replays 129 [some (2, 161), some (0, l1), some (0, l2), some (0, l3), some (0, l4), some (0, l5), none, none, none] [] (K, S, g, r) (ab_Qv K S P) := by
  refine Rn_pure 2 (i' := 131) (L' := [some (2, 161), some (0, l1), some (0, l2), some (0, l3), some (0, l4), some (0, l5), none, none, none]) (st' := [(0, (-1)), (0, l4)]) rfl ?_
  refine Rn_icne rfl (fun hc => ?_) (fun hc => ?_)
  · have h := h.1 hc
    refine Rn_pure 1 (i' := 134) (L' := [some (2, 161), some (0, l1), some (0, l2), some (0, l3), some (0, l4), some (0, l5), none, none, none]) (st' := [(2, 161)]) rfl ?_
    refine Rn_getR rfl (⟨rfl, (by omega : (0 : Int) ≤ 161), (by omega : (161 : Int) + 1 < K ∧ 5 < K)⟩) (hr 154 _ rfl) (by decide) ?_
    refine Rn_pure 1 (i' := 136) (L' := [some (2, 161), some (0, l1), some (0, l2), some (0, l3), some (0, l4), some (0, l5), none, none, none]) (st' := [(0, l4), (2, 179)]) rfl ?_
    obtain ⟨hg, h⟩ := h
    refine Rn_iald rfl (⟨rfl, (by omega : (0 : Int) ≤ 179), (by omega : (179 : Int) + 1 < K ∧ 5 < K)⟩) hg ?_
    refine Rn_ifge rfl (fun hc => ?_) (fun hc => ?_)
    · have h := h.1 hc
      exact h
    · have h := h.2 hc
      refine Rn_pure 1 (i' := 139) (L' := [some (2, 161), some (0, l1), some (0, l2), some (0, l3), some (0, l4), some (0, l5), none, none, none]) (st' := [(2, 161)]) rfl ?_
      refine Rn_getI rfl (⟨rfl, (by omega : (0 : Int) ≤ 161), (by omega : (161 : Int) + 1 < K ∧ 5 < K)⟩) ?_
      refine Rn_pure 1 (i' := 141) (L' := [some (2, 161), some (0, l1), some (0, l2), some (0, l3), some (0, l4), some (0, l5), none, none, none]) (st' := [(0, (-2)), (0, g 161 41)]) rfl ?_
      refine Rn_icne rfl (fun hc => ?_) (fun hc => ?_)
      · have h := h.1 hc
        exact h
      · have h := h.2 hc
        refine Rn_pure 2 (i' := 144) (L' := [some (2, 161), some (0, l1), some (0, l2), some (0, l3), some (0, l4), some (0, l5), none, none, none]) (st' := [(0, l5), (2, 161)]) rfl ?_
        refine Rn_putI rfl (⟨rfl, (by omega : (0 : Int) ≤ 161), (by omega : (161 : Int) + 1 < K ∧ 5 < K)⟩) (fun g1 he_g1 => ?_)
        have h := h g1 he_g1
        exact h
  · have h := h.2 hc
    refine Rn_pure 1 (i' := 161) (L' := [some (2, 161), some (0, l1), some (0, l2), some (0, l3), some (0, l4), some (0, l5), none, none, none]) (st' := []) rfl ?_
    exact h
theorem v_M_replays_145 {K : Int} {S : Nat} {g r : ab_H} {l1 l2 l3 l4 l5 : Int} (P : ab_H → ab_H → Prop) (hr : SI r) (hK : 186 ≤ K) (h : ((0 : Int) ≤ l4 ∧ (l4 : Int) < 8) ∧ ((wr (g 179 l4) ≤ wr (g 161 42) → ab_Rn m_M_replays 161 [some (2, 161), some (0, l1), some (0, l2), some (0, l3), some (0, l4), some (0, l5), none, none, none] [] (K, S, g, r) (ab_Qv K S P)) ∧ (wr (g 161 42) < wr (g 179 l4) → ((0 : Int) ≤ l4 ∧ (l4 : Int) < 8) ∧ ∀ g1, g1 = ab_up g 161 42 (g 179 l4) → ∀ g2, g2 = ab_up g1 161 43 l5 → ab_Rn m_M_replays 161 [some (2, 161), some (0, l1), some (0, l2), some (0, l3), some (0, l4), some (0, l5), none, none, none] [] (K, S, g2, r) (ab_Qv K S P)))) : ab_Rn m_M_replays 145 [some (2, 161), some (0, l1), some (0, l2), some (0, l3), some (0, l4), some (0, l5), none, none, none] [] (K, S, g, r) (ab_Qv K S P) := by
  refine Rn_pure 1 (i' := 146) (L' := [some (2, 161), some (0, l1), some (0, l2), some (0, l3), some (0, l4), some (0, l5), none, none, none]) (st' := [(2, 161)]) rfl ?_
  refine Rn_getR rfl (⟨rfl, (by omega : (0 : Int) ≤ 161), (by omega : (161 : Int) + 1 < K ∧ 5 < K)⟩) (hr 154 _ rfl) (by decide) ?_
  refine Rn_pure 1 (i' := 148) (L' := [some (2, 161), some (0, l1), some (0, l2), some (0, l3), some (0, l4), some (0, l5), none, none, none]) (st' := [(0, l4), (2, 179)]) rfl ?_
  obtain ⟨hg, h⟩ := h
  refine Rn_iald rfl (⟨rfl, (by omega : (0 : Int) ≤ 179), (by omega : (179 : Int) + 1 < K ∧ 5 < K)⟩) hg ?_
  refine Rn_pure 1 (i' := 150) (L' := [some (2, 161), some (0, l1), some (0, l2), some (0, l3), some (0, l4), some (0, l5), none, none, none]) (st' := [(2, 161), (0, g 179 l4)]) rfl ?_
  refine Rn_getI rfl (⟨rfl, (by omega : (0 : Int) ≤ 161), (by omega : (161 : Int) + 1 < K ∧ 5 < K)⟩) ?_
  refine Rn_icle rfl (fun hc => ?_) (fun hc => ?_)
  · have h := h.1 hc
    exact h
  · have h := h.2 hc
    refine Rn_pure 2 (i' := 154) (L' := [some (2, 161), some (0, l1), some (0, l2), some (0, l3), some (0, l4), some (0, l5), none, none, none]) (st' := [(2, 161), (2, 161)]) rfl ?_
    refine Rn_getR rfl (⟨rfl, (by omega : (0 : Int) ≤ 161), (by omega : (161 : Int) + 1 < K ∧ 5 < K)⟩) (hr 154 _ rfl) (by decide) ?_
    refine Rn_pure 1 (i' := 156) (L' := [some (2, 161), some (0, l1), some (0, l2), some (0, l3), some (0, l4), some (0, l5), none, none, none]) (st' := [(0, l4), (2, 179), (2, 161)]) rfl ?_
    obtain ⟨hg, h⟩ := h
    refine Rn_iald rfl (⟨rfl, (by omega : (0 : Int) ≤ 179), (by omega : (179 : Int) + 1 < K ∧ 5 < K)⟩) hg ?_
    refine Rn_putI rfl (⟨rfl, (by omega : (0 : Int) ≤ 161), (by omega : (161 : Int) + 1 < K ∧ 5 < K)⟩) (fun g1 he_g1 => ?_)
    have h := h g1 he_g1
    refine Rn_pure 2 (i' := 160) (L' := [some (2, 161), some (0, l1), some (0, l2), some (0, l3), some (0, l4), some (0, l5), none, none, none]) (st' := [(0, l5), (2, 161)]) rfl ?_
    refine Rn_putI rfl (⟨rfl, (by omega : (0 : Int) ≤ 161), (by omega : (161 : Int) + 1 < K ∧ 5 < K)⟩) (fun g2 he_g2 => ?_)
    have h := h g2 he_g2
    exact h
theorem v_M_replays_161 {K : Int} {S : Nat} {g r : ab_H} {l1 l2 l3 l4 l5 : Int} (P : ab_H → ab_H → Prop) (hr : SI r) (hK : 186 ≤ K) (h : ab_Rn m_M_replays 38 [some (2, 161), some (0, l1), some (0, l2), some (0, l3), some (0, l4), some (0, l5 + 1), none, none, none] [] (K, S, g, r) (ab_Qv K S P)) : ab_Rn m_M_replays 161 [some (2, 161), some (0, l1), some (0, l2), some (0, l3), some (0, l4), some (0, l5), none, none, none] [] (K, S, g, r) (ab_Qv K S P) := by
  refine Rn_pure 2 (i' := 38) (L' := [some (2, 161), some (0, l1), some (0, l2), some (0, l3), some (0, l4), some (0, l5 + 1), none, none, none]) (st' := []) rfl ?_
  exact h
-- EventLedgerModel.replaysAll ()V
theorem v_M_replaysAll {K : Int} {S : Nat} {g r : ab_H} (P : ab_H → ab_H → Prop) (hr : SI r) (hK : 186 ≤ K) (h : ab_RI m_M_many [(2, 161)] K S g r (fun x1 g' r' => g' = g ∧ r' = r ∧ (ab_RV m_M_replays [(2, 161), (0, x1), (0, (-1)), (0, 120), (0, (-1))] K S g r (fun g2 r' => r' = r ∧ (P g2 r))))) : ab_RV m_M_replaysAll [(2, 161)] K S g r P := by
  show ab_Rn m_M_replaysAll 0 [some (2, 161)] [] (K, S, g, r) (ab_Qv K S P)
  refine Rn_pure 2 (i' := 2) (L' := [some (2, 161)]) (st' := [(2, 161), (2, 161)]) rfl ?_
  refine Rn_callI [(2, 161)] [(2, 161)] rfl rfl rfl rfl (ab_rvB_of rfl (⟨rfl, (by omega : (0 : Int) ≤ 161), (by omega : (161 : Int) + 1 < K ∧ 5 < K)⟩)) ?_
  refine h.mono (fun x1 g' r' h => ?_)
  obtain ⟨hx, h⟩ := h
  replace hx := hx.symm
  subst hx
  obtain ⟨hx, h⟩ := h
  replace hx := hx.symm
  subst hx
  refine Rn_pure 3 (i' := 6) (L' := [some (2, 161)]) (st' := [(0, (-1)), (0, 120), (0, (-1)), (0, x1), (2, 161)]) rfl ?_
  refine Rn_callV [(2, 161), (0, x1), (0, (-1)), (0, 120), (0, (-1))] [] rfl rfl rfl rfl (ab_rvB_of rfl (⟨rfl, (by omega : (0 : Int) ≤ 161), (by omega : (161 : Int) + 1 < K ∧ 5 < K)⟩)) ?_
  refine h.mono (fun g2 r' h => ?_)
  obtain ⟨hx, h⟩ := h
  replace hx := hx.symm
  subst hx
  exact Rn_ret0 rfl h
