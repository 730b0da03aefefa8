-- EventLedger$Terms.clear ()V
theorem v_Te_clear {K : Int} {S : Nat} {g r : ab_H} {o : Int} (P : ab_H → ab_H → Prop) (hr : SI r) (hK : 186 ≤ K) (ho : isTe o) (h : ∀ g1, g1 = ab_up g o 1 0 → ∀ g2, g2 = ab_up g1 o 5 0 → ab_Rn m_Te_clear 8 [some (2, o), some (0, 0)] [] (K, S, g2, r) (ab_Qv K S P)) : ab_RV m_Te_clear [(2, o)] K S g r P := by
  show ab_Rn m_Te_clear 0 [some (2, o), none] [] (K, S, g, r) (ab_Qv K S P)
  refine Rn_pure 2 (i' := 2) (L' := [some (2, o), none]) (st' := [(0, 0), (2, o)]) rfl ?_
  refine Rn_putI rfl (ob_Te ho hK) (fun g1 he_g1 => ?_)
  have h := h g1 he_g1
  refine Rn_pure 2 (i' := 5) (L' := [some (2, o), none]) (st' := [(0, 0), (2, o)]) rfl ?_
  refine Rn_putI rfl (ob_Te ho hK) (fun g2 he_g2 => ?_)
  have h := h g2 he_g2
  refine Rn_pure 2 (i' := 8) (L' := [some (2, o), some (0, 0)]) (st' := []) rfl ?_
  exact h
theorem v_Te_clear_8 {K : Int} {S : Nat} {g r : ab_H} {o l1 : Int} (P : ab_H → ab_H → Prop) (hr : SI r) (hK : 186 ≤ K) (ho : isTe o) (h : ((wr 14 ≤ wr l1 → ∀ g1, g1 = ab_up g o 10 20 → ∀ g2, g2 = ab_up g1 o 11 3 → ∀ g3, g3 = ab_up g2 o 12 0 → P g3 r) ∧ (wr l1 < wr 14 → ((0 : Int) ≤ l1 ∧ (l1 : Int) < 14) ∧ ∀ g4, g4 = ab_up g (o + 5) l1 0 → ab_Rn m_Te_clear 8 [some (2, o), some (0, l1 + 1)] [] (K, S, g4, r) (ab_Qv K S P)))) : ab_Rn m_Te_clear 8 [some (2, o), some (0, l1)] [] (K, S, g, r) (ab_Qv K S P) := by
  refine Rn_pure 2 (i' := 10) (L' := [some (2, o), some (0, l1)]) (st' := [(0, 14), (0, l1)]) rfl ?_
  refine Rn_icge rfl (fun hc => ?_) (fun hc => ?_)
  · have h := h.1 hc
    refine Rn_pure 2 (i' := 20) (L' := [some (2, o), some (0, l1)]) (st' := [(0, 20), (2, o)]) rfl ?_
    refine Rn_putI rfl (ob_Te ho hK) (fun g1 he_g1 => ?_)
    have h := h g1 he_g1
    refine Rn_pure 2 (i' := 23) (L' := [some (2, o), some (0, l1)]) (st' := [(0, 3), (2, o)]) rfl ?_
    refine Rn_putI rfl (ob_Te ho hK) (fun g2 he_g2 => ?_)
    have h := h g2 he_g2
    refine Rn_pure 2 (i' := 26) (L' := [some (2, o), some (0, l1)]) (st' := [(0, 0), (2, o)]) rfl ?_
    refine Rn_putI rfl (ob_Te ho hK) (fun g3 he_g3 => ?_)
    have h := h g3 he_g3
    exact Rn_ret0 rfl h
  · have h := h.2 hc
    refine Rn_pure 1 (i' := 12) (L' := [some (2, o), some (0, l1)]) (st' := [(2, o)]) rfl ?_
    refine Rn_getR rfl (ob_Te ho hK) (fx_Te_6 hr ho) (show (o + 5 : Int) ≠ -1 by have := ho; unfold isTe at this; omega) ?_
    refine Rn_pure 2 (i' := 15) (L' := [some (2, o), some (0, l1)]) (st' := [(0, 0), (0, l1), (2, o + 5)]) rfl ?_
    obtain ⟨hg, h⟩ := h
    refine Rn_iast rfl (ar_Te_6 ho hK) hg (fun g4 he_g4 => ?_)
    have h := h g4 he_g4
    refine Rn_pure 2 (i' := 8) (L' := [some (2, o), some (0, l1 + 1)]) (st' := []) rfl ?_
    exact h
-- EventLedger$Terms.accountNamed (I)I
theorem v_Te_accountNamed {K : Int} {S : Nat} {g r : ab_H} {o p1 : Int} (P : Int → ab_H → ab_H → Prop) (hr : SI r) (hK : 186 ≤ K) (ho : isTe o) (h : ab_RI m_Te_find [(2, o + 1), (0, g o 1), (0, p1)] K S g r (fun x1 g' r' => g' = g ∧ r' = r ∧ (P x1 g r))) : ab_RI m_Te_accountNamed [(2, o), (0, p1)] K S g r P := by
  show ab_Rn m_Te_accountNamed 0 [some (2, o), some (0, p1)] [] (K, S, g, r) (ab_Qi K S P)
  refine Rn_pure 1 (i' := 1) (L' := [some (2, o), some (0, p1)]) (st' := [(2, o)]) rfl ?_
  refine Rn_getR rfl (ob_Te ho hK) (fx_Te_0 hr ho) (show (o + 1 : Int) ≠ -1 by have := ho; unfold isTe at this; omega) ?_
  refine Rn_pure 1 (i' := 3) (L' := [some (2, o), some (0, p1)]) (st' := [(2, o), (2, o + 1)]) rfl ?_
  refine Rn_getI rfl (ob_Te ho hK) ?_
  refine Rn_pure 1 (i' := 5) (L' := [some (2, o), some (0, p1)]) (st' := [(0, p1), (0, g o 1), (2, o + 1)]) rfl ?_
  refine Rn_callI [(2, o + 1), (0, g o 1), (0, p1)] [] rfl rfl rfl rfl (rfl) ?_
  refine h.mono (fun x1 g' r' h => ?_)
  obtain ⟨hx, h⟩ := h
  replace hx := hx.symm
  subst hx
  obtain ⟨hx, h⟩ := h
  replace hx := hx.symm
  subst hx
  exact Rn_ret1 rfl h
-- EventLedger$Terms.tallyNamed (I)I
theorem v_Te_tallyNamed {K : Int} {S : Nat} {g r : ab_H} {o p1 : Int} (P : Int → ab_H → ab_H → Prop) (hr : SI r) (hK : 186 ≤ K) (ho : isTe o) (h : ab_RI m_Te_find [(2, o + 2), (0, g o 5), (0, p1)] K S g r (fun x1 g' r' => g' = g ∧ r' = r ∧ (P x1 g r))) : ab_RI m_Te_tallyNamed [(2, o), (0, p1)] K S g r P := by
  show ab_Rn m_Te_tallyNamed 0 [some (2, o), some (0, p1)] [] (K, S, g, r) (ab_Qi K S P)
  refine Rn_pure 1 (i' := 1) (L' := [some (2, o), some (0, p1)]) (st' := [(2, o)]) rfl ?_
  refine Rn_getR rfl (ob_Te ho hK) (fx_Te_2 hr ho) (show (o + 2 : Int) ≠ -1 by have := ho; unfold isTe at this; omega) ?_
  refine Rn_pure 1 (i' := 3) (L' := [some (2, o), some (0, p1)]) (st' := [(2, o), (2, o + 2)]) rfl ?_
  refine Rn_getI rfl (ob_Te ho hK) ?_
  refine Rn_pure 1 (i' := 5) (L' := [some (2, o), some (0, p1)]) (st' := [(0, p1), (0, g o 5), (2, o + 2)]) rfl ?_
  refine Rn_callI [(2, o + 2), (0, g o 5), (0, p1)] [] rfl rfl rfl rfl (rfl) ?_
  refine h.mono (fun x1 g' r' h => ?_)
  obtain ⟨hx, h⟩ := h
  replace hx := hx.symm
  subst hx
  obtain ⟨hx, h⟩ := h
  replace hx := hx.symm
  subst hx
  exact Rn_ret1 rfl h
-- EventLedger$Terms.find ([III)I
theorem v_Te_find {K : Int} {S : Nat} {g r : ab_H} {p0 n0 p1 p2 : Int} (P : Int → ab_H → ab_H → Prop) (hr : SI r) (hK : 186 ≤ K) (hp0 : ab_AR K p0 100 n0) (h : ab_Rn m_Te_find 2 [some (2, p0), some (0, p1), some (0, p2), some (0, 0)] [] (K, S, g, r) (ab_Qi K S P)) : ab_RI m_Te_find [(2, p0), (0, p1), (0, p2)] K S g r P := by
  show ab_Rn m_Te_find 0 [some (2, p0), some (0, p1), some (0, p2), none] [] (K, S, g, r) (ab_Qi K S P)
  refine Rn_pure 2 (i' := 2) (L' := [some (2, p0), some (0, p1), some (0, p2), some (0, 0)]) (st' := []) rfl ?_
  exact h
theorem v_Te_find_2 {K : Int} {S : Nat} {g r : ab_H} {p0 n0 l1 l2 l3 : Int} (P : Int → ab_H → ab_H → Prop) (hr : SI r) (hK : 186 ≤ K) (hp0 : ab_AR K p0 100 n0) (h : ((wr l1 ≤ wr l3 → P (-1) g r) ∧ (wr l3 < wr l1 → ((wr n0 ≤ wr l3 → P (-1) g r) ∧ (wr l3 < wr n0 → ((0 : Int) ≤ l3 ∧ (l3 : Int) < n0) ∧ ((¬ wr (g p0 l3) = wr l2 → ab_Rn m_Te_find 2 [some (2, p0), some (0, l1), some (0, l2), some (0, l3 + 1)] [] (K, S, g, r) (ab_Qi K S P)) ∧ (wr (g p0 l3) = wr l2 → P l3 g r))))))) : ab_Rn m_Te_find 2 [some (2, p0), some (0, l1), some (0, l2), some (0, l3)] [] (K, S, g, r) (ab_Qi K S P) := by
  refine Rn_pure 2 (i' := 4) (L' := [some (2, p0), some (0, l1), some (0, l2), some (0, l3)]) (st' := [(0, l1), (0, l3)]) rfl ?_
  refine Rn_icge rfl (fun hc => ?_) (fun hc => ?_)
  · have h := h.1 hc
    refine Rn_pure 1 (i' := 19) (L' := [some (2, p0), some (0, l1), some (0, l2), some (0, l3)]) (st' := [(0, (-1))]) rfl ?_
    exact Rn_ret1 rfl h
  · have h := h.2 hc
    refine Rn_pure 2 (i' := 7) (L' := [some (2, p0), some (0, l1), some (0, l2), some (0, l3)]) (st' := [(2, p0), (0, l3)]) rfl ?_
    refine Rn_alen rfl (hp0) ?_
    refine Rn_icge rfl (fun hc => ?_) (fun hc => ?_)
    · have h := h.1 hc
      refine Rn_pure 1 (i' := 19) (L' := [some (2, p0), some (0, l1), some (0, l2), some (0, l3)]) (st' := [(0, (-1))]) rfl ?_
      exact Rn_ret1 rfl h
    · have h := h.2 hc
      refine Rn_pure 2 (i' := 11) (L' := [some (2, p0), some (0, l1), some (0, l2), some (0, l3)]) (st' := [(0, l3), (2, p0)]) rfl ?_
      obtain ⟨hg, h⟩ := h
      refine Rn_iald rfl (hp0) hg ?_
      refine Rn_pure 1 (i' := 13) (L' := [some (2, p0), some (0, l1), some (0, l2), some (0, l3)]) (st' := [(0, l2), (0, g p0 l3)]) rfl ?_
      refine Rn_icne rfl (fun hc => ?_) (fun hc => ?_)
      · have h := h.1 hc
        refine Rn_pure 2 (i' := 2) (L' := [some (2, p0), some (0, l1), some (0, l2), some (0, l3 + 1)]) (st' := []) rfl ?_
        exact h
      · have h := h.2 hc
        refine Rn_pure 1 (i' := 15) (L' := [some (2, p0), some (0, l1), some (0, l2), some (0, l3)]) (st' := [(0, l3)]) rfl ?_
        exact Rn_ret1 rfl h
-- EventLedger$Terms.addAccount (I)V
theorem v_Te_addAccount {K : Int} {S : Nat} {g r : ab_H} {o p1 : Int} (P : ab_H → ab_H → Prop) (hr : SI r) (hK : 186 ≤ K) (ho : isTe o) (h : ((wr 8 ≤ wr (g o 1) → P g r) ∧ (wr (g o 1) < wr 8 → ((0 : Int) ≤ g o 1 ∧ (g o 1 : Int) < 8) ∧ ∀ g1, g1 = ab_up g (o + 1) (g o 1) p1 → ∀ g2, g2 = ab_up g1 o 1 (g1 o 1 + 1) → P g2 r))) : ab_RV m_Te_addAccount [(2, o), (0, p1)] K S g r P := by
  show ab_Rn m_Te_addAccount 0 [some (2, o), some (0, p1)] [] (K, S, g, r) (ab_Qv K S P)
  refine Rn_pure 1 (i' := 1) (L' := [some (2, o), some (0, p1)]) (st' := [(2, o)]) rfl ?_
  refine Rn_getI rfl (ob_Te ho hK) ?_
  refine Rn_pure 1 (i' := 3) (L' := [some (2, o), some (0, p1)]) (st' := [(0, 8), (0, g o 1)]) rfl ?_
  refine Rn_icge rfl (fun hc => ?_) (fun hc => ?_)
  · have h := h.1 hc
    exact Rn_ret0 rfl h
  · have h := h.2 hc
    refine Rn_pure 1 (i' := 5) (L' := [some (2, o), some (0, p1)]) (st' := [(2, o)]) rfl ?_
    refine Rn_getR rfl (ob_Te ho hK) (fx_Te_0 hr ho) (show (o + 1 : Int) ≠ -1 by have := ho; unfold isTe at this; omega) ?_
    refine Rn_pure 1 (i' := 7) (L' := [some (2, o), some (0, p1)]) (st' := [(2, o), (2, o + 1)]) rfl ?_
    refine Rn_getI rfl (ob_Te ho hK) ?_
    refine Rn_pure 1 (i' := 9) (L' := [some (2, o), some (0, p1)]) (st' := [(0, p1), (0, g o 1), (2, o + 1)]) rfl ?_
    obtain ⟨hg, h⟩ := h
    refine Rn_iast rfl (ar_Te_0 ho hK) hg (fun g1 he_g1 => ?_)
    have h := h g1 he_g1
    refine Rn_pure 2 (i' := 12) (L' := [some (2, o), some (0, p1)]) (st' := [(2, o), (2, o)]) rfl ?_
    refine Rn_getI rfl (ob_Te ho hK) ?_
    refine Rn_pure 2 (i' := 15) (L' := [some (2, o), some (0, p1)]) (st' := [(0, g1 o 1 + 1), (2, o)]) rfl ?_
    refine Rn_putI rfl (ob_Te ho hK) (fun g2 he_g2 => ?_)
    have h := h g2 he_g2
    exact Rn_ret0 rfl h
-- EventLedger$Terms.addTally (III)V
theorem v_Te_addTally {K : Int} {S : Nat} {g r : ab_H} {o p1 p2 p3 : Int} (P : ab_H → ab_H → Prop) (hr : SI r) (hK : 186 ≤ K) (ho : isTe o) (h : ((wr 4 ≤ wr (g o 5) → P g r) ∧ (wr (g o 5) < wr 4 → ((0 : Int) ≤ g o 5 ∧ (g o 5 : Int) < 4) ∧ ∀ g1, g1 = ab_up g (o + 2) (g o 5) p1 → ((0 : Int) ≤ g1 o 5 ∧ (g1 o 5 : Int) < 4) ∧ ∀ g2, g2 = ab_up g1 (o + 3) (g1 o 5) p2 → ((0 : Int) ≤ g2 o 5 ∧ (g2 o 5 : Int) < 4) ∧ ∀ g3, g3 = ab_up g2 (o + 4) (g2 o 5) p3 → ∀ g4, g4 = ab_up g3 o 5 (g3 o 5 + 1) → P g4 r))) : ab_RV m_Te_addTally [(2, o), (0, p1), (0, p2), (0, p3)] K S g r P := by
  show ab_Rn m_Te_addTally 0 [some (2, o), some (0, p1), some (0, p2), some (0, p3)] [] (K, S, g, r) (ab_Qv K S P)
  refine Rn_pure 1 (i' := 1) (L' := [some (2, o), some (0, p1), some (0, p2), some (0, p3)]) (st' := [(2, o)]) rfl ?_
  refine Rn_getI rfl (ob_Te ho hK) ?_
  refine Rn_pure 1 (i' := 3) (L' := [some (2, o), some (0, p1), some (0, p2), some (0, p3)]) (st' := [(0, 4), (0, g o 5)]) rfl ?_
  refine Rn_icge rfl (fun hc => ?_) (fun hc => ?_)
  · have h := h.1 hc
    exact Rn_ret0 rfl h
  · have h := h.2 hc
    refine Rn_pure 1 (i' := 5) (L' := [some (2, o), some (0, p1), some (0, p2), some (0, p3)]) (st' := [(2, o)]) rfl ?_
    refine Rn_getR rfl (ob_Te ho hK) (fx_Te_2 hr ho) (show (o + 2 : Int) ≠ -1 by have := ho; unfold isTe at this; omega) ?_
    refine Rn_pure 1 (i' := 7) (L' := [some (2, o), some (0, p1), some (0, p2), some (0, p3)]) (st' := [(2, o), (2, o + 2)]) rfl ?_
    refine Rn_getI rfl (ob_Te ho hK) ?_
    refine Rn_pure 1 (i' := 9) (L' := [some (2, o), some (0, p1), some (0, p2), some (0, p3)]) (st' := [(0, p1), (0, g o 5), (2, o + 2)]) rfl ?_
    obtain ⟨hg, h⟩ := h
    refine Rn_iast rfl (ar_Te_2 ho hK) hg (fun g1 he_g1 => ?_)
    have h := h g1 he_g1
    refine Rn_pure 1 (i' := 11) (L' := [some (2, o), some (0, p1), some (0, p2), some (0, p3)]) (st' := [(2, o)]) rfl ?_
    refine Rn_getR rfl (ob_Te ho hK) (fx_Te_3 hr ho) (show (o + 3 : Int) ≠ -1 by have := ho; unfold isTe at this; omega) ?_
    refine Rn_pure 1 (i' := 13) (L' := [some (2, o), some (0, p1), some (0, p2), some (0, p3)]) (st' := [(2, o), (2, o + 3)]) rfl ?_
    refine Rn_getI rfl (ob_Te ho hK) ?_
    refine Rn_pure 1 (i' := 15) (L' := [some (2, o), some (0, p1), some (0, p2), some (0, p3)]) (st' := [(0, p2), (0, g1 o 5), (2, o + 3)]) rfl ?_
    obtain ⟨hg, h⟩ := h
    refine Rn_iast rfl (ar_Te_3 ho hK) hg (fun g2 he_g2 => ?_)
    have h := h g2 he_g2
    refine Rn_pure 1 (i' := 17) (L' := [some (2, o), some (0, p1), some (0, p2), some (0, p3)]) (st' := [(2, o)]) rfl ?_
    refine Rn_getR rfl (ob_Te ho hK) (fx_Te_4 hr ho) (show (o + 4 : Int) ≠ -1 by have := ho; unfold isTe at this; omega) ?_
    refine Rn_pure 1 (i' := 19) (L' := [some (2, o), some (0, p1), some (0, p2), some (0, p3)]) (st' := [(2, o), (2, o + 4)]) rfl ?_
    refine Rn_getI rfl (ob_Te ho hK) ?_
    refine Rn_pure 1 (i' := 21) (L' := [some (2, o), some (0, p1), some (0, p2), some (0, p3)]) (st' := [(0, p3), (0, g2 o 5), (2, o + 4)]) rfl ?_
    obtain ⟨hg, h⟩ := h
    refine Rn_iast rfl (ar_Te_4 ho hK) hg (fun g3 he_g3 => ?_)
    have h := h g3 he_g3
    refine Rn_pure 2 (i' := 24) (L' := [some (2, o), some (0, p1), some (0, p2), some (0, p3)]) (st' := [(2, o), (2, o)]) rfl ?_
    refine Rn_getI rfl (ob_Te ho hK) ?_
    refine Rn_pure 2 (i' := 27) (L' := [some (2, o), some (0, p1), some (0, p2), some (0, p3)]) (st' := [(0, g3 o 5 + 1), (2, o)]) rfl ?_
    refine Rn_putI rfl (ob_Te ho hK) (fun g4 he_g4 => ?_)
    have h := h g4 he_g4
    exact Rn_ret0 rfl h
-- EventLedger$Terms.group (II)I
theorem v_Te_group {K : Int} {S : Nat} {g r : ab_H} {p0 p1 : Int} (P : Int → ab_H → ab_H → Prop) (hr : SI r) (hK : 186 ≤ K) (h : P (2 * p0 + p1 - 1) g r) : ab_RI m_Te_group [(0, p0), (0, p1)] K S g r P := by
  show ab_Rn m_Te_group 0 [some (0, p0), some (0, p1)] [] (K, S, g, r) (ab_Qi K S P)
  refine Rn_pure 7 (i' := 7) (L' := [some (0, p0), some (0, p1)]) (st' := [(0, 2 * p0 + p1 - 1)]) rfl ?_
  exact Rn_ret1 rfl h
-- EventLedger$Terms.countSteps (II)I
theorem v_Te_countSteps {K : Int} {S : Nat} {g r : ab_H} {o p1 p2 : Int} (P : Int → ab_H → ab_H → Prop) (hr : SI r) (hK : 186 ≤ K) (ho : isTe o) (h : ab_RI m_Te_group [(0, p1), (0, p2)] K S g r (fun x1 g' r' => g' = g ∧ r' = r ∧ (((0 : Int) ≤ x1 ∧ (x1 : Int) < 14) ∧ P (g (o + 5) x1) g r))) : ab_RI m_Te_countSteps [(2, o), (0, p1), (0, p2)] K S g r P := by
  show ab_Rn m_Te_countSteps 0 [some (2, o), some (0, p1), some (0, p2)] [] (K, S, g, r) (ab_Qi K S P)
  refine Rn_pure 1 (i' := 1) (L' := [some (2, o), some (0, p1), some (0, p2)]) (st' := [(2, o)]) rfl ?_
  refine Rn_getR rfl (ob_Te ho hK) (fx_Te_6 hr ho) (show (o + 5 : Int) ≠ -1 by have := ho; unfold isTe at this; omega) ?_
  refine Rn_pure 2 (i' := 4) (L' := [some (2, o), some (0, p1), some (0, p2)]) (st' := [(0, p2), (0, p1), (2, o + 5)]) rfl ?_
  refine Rn_callI [(0, p1), (0, p2)] [(2, o + 5)] rfl rfl rfl rfl (rfl) ?_
  refine h.mono (fun x1 g' r' h => ?_)
  obtain ⟨hx, h⟩ := h
  replace hx := hx.symm
  subst hx
  obtain ⟨hx, h⟩ := h
  replace hx := hx.symm
  subst hx
  obtain ⟨hg, h⟩ := h
  refine Rn_iald rfl (ar_Te_6 ho hK) hg ?_
  exact Rn_ret1 rfl h
-- EventLedger$Terms.addStep (IIIII)V
theorem v_Te_addStep {K : Int} {S : Nat} {g r : ab_H} {o p1 p2 p3 p4 p5 : Int} (P : ab_H → ab_H → Prop) (hr : SI r) (hK : 186 ≤ K) (ho : isTe o) (h : ab_RI m_Te_group [(0, p1), (0, p2)] K S g r (fun x1 g' r' => g' = g ∧ r' = r ∧ (((0 : Int) ≤ x1 ∧ (x1 : Int) < 14) ∧ ((wr 4 ≤ wr (g (o + 5) x1) → P g r) ∧ (wr (g (o + 5) x1) < wr 4 → ((0 : Int) ≤ x1 ∧ (x1 : Int) < 14) ∧ ((0 : Int) ≤ 4 * x1 + (g (o + 5) x1) ∧ (4 * x1 + (g (o + 5) x1) : Int) < 56) ∧ ∀ g2, g2 = ab_up g (o + 6) (4 * x1 + (g (o + 5) x1)) p3 → ((0 : Int) ≤ 4 * x1 + (g (o + 5) x1) ∧ (4 * x1 + (g (o + 5) x1) : Int) < 56) ∧ ∀ g3, g3 = ab_up g2 (o + 7) (4 * x1 + (g (o + 5) x1)) p4 → ((0 : Int) ≤ 4 * x1 + (g (o + 5) x1) ∧ (4 * x1 + (g (o + 5) x1) : Int) < 56) ∧ ∀ g4, g4 = ab_up g3 (o + 8) (4 * x1 + (g (o + 5) x1)) p5 → ((0 : Int) ≤ x1 ∧ (x1 : Int) < 14) ∧ ((0 : Int) ≤ x1 ∧ (x1 : Int) < 14) ∧ ∀ g5, g5 = ab_up g4 (o + 5) x1 (g4 (o + 5) x1 + 1) → P g5 r))))) : ab_RV m_Te_addStep [(2, o), (0, p1), (0, p2), (0, p3), (0, p4), (0, p5)] K S g r P := by
  show ab_Rn m_Te_addStep 0 [some (2, o), some (0, p1), some (0, p2), some (0, p3), some (0, p4), some (0, p5), none, none] [] (K, S, g, r) (ab_Qv K S P)
  refine Rn_pure 2 (i' := 2) (L' := [some (2, o), some (0, p1), some (0, p2), some (0, p3), some (0, p4), some (0, p5), none, none]) (st' := [(0, p2), (0, p1)]) rfl ?_
  refine Rn_callI [(0, p1), (0, p2)] [] rfl rfl rfl rfl (rfl) ?_
  refine h.mono (fun x1 g' r' h => ?_)
  obtain ⟨hx, h⟩ := h
  replace hx := hx.symm
  subst hx
  obtain ⟨hx, h⟩ := h
  replace hx := hx.symm
  subst hx
  refine Rn_pure 2 (i' := 5) (L' := [some (2, o), some (0, p1), some (0, p2), some (0, p3), some (0, p4), some (0, p5), some (0, x1), none]) (st' := [(2, o)]) rfl ?_
  refine Rn_getR rfl (ob_Te ho hK) (fx_Te_6 hr ho) (show (o + 5 : Int) ≠ -1 by have := ho; unfold isTe at this; omega) ?_
  refine Rn_pure 1 (i' := 7) (L' := [some (2, o), some (0, p1), some (0, p2), some (0, p3), some (0, p4), some (0, p5), some (0, x1), none]) (st' := [(0, x1), (2, o + 5)]) rfl ?_
  obtain ⟨hg, h⟩ := h
  refine Rn_iald rfl (ar_Te_6 ho hK) hg ?_
  refine Rn_pure 1 (i' := 9) (L' := [some (2, o), some (0, p1), some (0, p2), some (0, p3), some (0, p4), some (0, p5), some (0, x1), none]) (st' := [(0, 4), (0, g (o + 5) x1)]) rfl ?_
  refine Rn_icge rfl (fun hc => ?_) (fun hc => ?_)
  · have h := h.1 hc
    exact Rn_ret0 rfl h
  · have h := h.2 hc
    refine Rn_pure 4 (i' := 14) (L' := [some (2, o), some (0, p1), some (0, p2), some (0, p3), some (0, p4), some (0, p5), some (0, x1), none]) (st' := [(2, o), (0, 4 * x1)]) rfl ?_
    refine Rn_getR rfl (ob_Te ho hK) (fx_Te_6 hr ho) (show (o + 5 : Int) ≠ -1 by have := ho; unfold isTe at this; omega) ?_
    refine Rn_pure 1 (i' := 16) (L' := [some (2, o), some (0, p1), some (0, p2), some (0, p3), some (0, p4), some (0, p5), some (0, x1), none]) (st' := [(0, x1), (2, o + 5), (0, 4 * x1)]) rfl ?_
    obtain ⟨hg, h⟩ := h
    refine Rn_iald rfl (ar_Te_6 ho hK) hg ?_
    refine Rn_pure 3 (i' := 20) (L' := [some (2, o), some (0, p1), some (0, p2), some (0, p3), some (0, p4), some (0, p5), some (0, x1), some (0, 4 * x1 + (g (o + 5) x1))]) (st' := [(2, o)]) rfl ?_
    refine Rn_getR rfl (ob_Te ho hK) (fx_Te_7 hr ho) (show (o + 6 : Int) ≠ -1 by have := ho; unfold isTe at this; omega) ?_
    refine Rn_pure 2 (i' := 23) (L' := [some (2, o), some (0, p1), some (0, p2), some (0, p3), some (0, p4), some (0, p5), some (0, x1), some (0, 4 * x1 + (g (o + 5) x1))]) (st' := [(0, p3), (0, 4 * x1 + (g (o + 5) x1)), (2, o + 6)]) rfl ?_
    obtain ⟨hg, h⟩ := h
    refine Rn_iast rfl (ar_Te_7 ho hK) hg (fun g2 he_g2 => ?_)
    have h := h g2 he_g2
    refine Rn_pure 1 (i' := 25) (L' := [some (2, o), some (0, p1), some (0, p2), some (0, p3), some (0, p4), some (0, p5), some (0, x1), some (0, 4 * x1 + (g (o + 5) x1))]) (st' := [(2, o)]) rfl ?_
    refine Rn_getR rfl (ob_Te ho hK) (fx_Te_8 hr ho) (show (o + 7 : Int) ≠ -1 by have := ho; unfold isTe at this; omega) ?_
    refine Rn_pure 2 (i' := 28) (L' := [some (2, o), some (0, p1), some (0, p2), some (0, p3), some (0, p4), some (0, p5), some (0, x1), some (0, 4 * x1 + (g (o + 5) x1))]) (st' := [(0, p4), (0, 4 * x1 + (g (o + 5) x1)), (2, o + 7)]) rfl ?_
    obtain ⟨hg, h⟩ := h
    refine Rn_iast rfl (ar_Te_8 ho hK) hg (fun g3 he_g3 => ?_)
    have h := h g3 he_g3
    refine Rn_pure 1 (i' := 30) (L' := [some (2, o), some (0, p1), some (0, p2), some (0, p3), some (0, p4), some (0, p5), some (0, x1), some (0, 4 * x1 + (g (o + 5) x1))]) (st' := [(2, o)]) rfl ?_
    refine Rn_getR rfl (ob_Te ho hK) (fx_Te_9 hr ho) (show (o + 8 : Int) ≠ -1 by have := ho; unfold isTe at this; omega) ?_
    refine Rn_pure 2 (i' := 33) (L' := [some (2, o), some (0, p1), some (0, p2), some (0, p3), some (0, p4), some (0, p5), some (0, x1), some (0, 4 * x1 + (g (o + 5) x1))]) (st' := [(0, p5), (0, 4 * x1 + (g (o + 5) x1)), (2, o + 8)]) rfl ?_
    obtain ⟨hg, h⟩ := h
    refine Rn_iast rfl (ar_Te_9 ho hK) hg (fun g4 he_g4 => ?_)
    have h := h g4 he_g4
    refine Rn_pure 1 (i' := 35) (L' := [some (2, o), some (0, p1), some (0, p2), some (0, p3), some (0, p4), some (0, p5), some (0, x1), some (0, 4 * x1 + (g (o + 5) x1))]) (st' := [(2, o)]) rfl ?_
    refine Rn_getR rfl (ob_Te ho hK) (fx_Te_6 hr ho) (show (o + 5 : Int) ≠ -1 by have := ho; unfold isTe at this; omega) ?_
    refine Rn_pure 2 (i' := 38) (L' := [some (2, o), some (0, p1), some (0, p2), some (0, p3), some (0, p4), some (0, p5), some (0, x1), some (0, 4 * x1 + (g (o + 5) x1))]) (st' := [(0, x1), (2, o + 5), (0, x1), (2, o + 5)]) rfl ?_
    obtain ⟨hg, h⟩ := h
    refine Rn_iald rfl (ar_Te_6 ho hK) hg ?_
    refine Rn_pure 2 (i' := 41) (L' := [some (2, o), some (0, p1), some (0, p2), some (0, p3), some (0, p4), some (0, p5), some (0, x1), some (0, 4 * x1 + (g (o + 5) x1))]) (st' := [(0, g4 (o + 5) x1 + 1), (0, x1), (2, o + 5)]) rfl ?_
    obtain ⟨hg, h⟩ := h
    refine Rn_iast rfl (ar_Te_6 ho hK) hg (fun g5 he_g5 => ?_)
    have h := h g5 he_g5
    exact Rn_ret0 rfl h
-- EventLedger$Terms.lift (LEventLedger$Log;III)V
theorem v_Te_lift {K : Int} {S : Nat} {g r : ab_H} {o p1 p2 p3 p4 : Int} (P : ab_H → ab_H → Prop) (hr : SI r) (hK : 186 ≤ K) (ho : isTe o) (hp1 : isLg p1) (h : ab_RV m_Lg_unlift [(2, p1), (0, p2)] K S g r (fun g1 r' => r' = r ∧ (((0 : Int) ≤ p2 ∧ (p2 : Int) < 120) ∧ ((¬ wr (g1 (p1 + 1) p2) = wr 7 → ((0 : Int) ≤ p2 ∧ (p2 : Int) < 120) ∧ ab_Rn m_Te_lift 17 [some (2, o), some (2, p1), some (0, p2), some (0, p3), some (0, p4), some (0, g1 (p1 + 1) p2), some (0, g1 (p1 + 5) p2), none, none, none, none] [] (K, S, g1, r) (ab_Qv K S P)) ∧ (wr (g1 (p1 + 1) p2) = wr 7 → P g1 r))))) : ab_RV m_Te_lift [(2, o), (2, p1), (0, p2), (0, p3), (0, p4)] K S g r P := by
  show ab_Rn m_Te_lift 0 [some (2, o), some (2, p1), some (0, p2), some (0, p3), some (0, p4), none, none, none, none, none, none] [] (K, S, g, r) (ab_Qv K S P)
  refine Rn_pure 2 (i' := 2) (L' := [some (2, o), some (2, p1), some (0, p2), some (0, p3), some (0, p4), none, none, none, none, none, none]) (st' := [(0, p2), (2, p1)]) rfl ?_
  refine Rn_callV [(2, p1), (0, p2)] [] rfl rfl rfl rfl (ab_rvB_of rfl (ob_Lg hp1 hK)) ?_
  refine h.mono (fun g1 r' h => ?_)
  obtain ⟨hx, h⟩ := h
  replace hx := hx.symm
  subst hx
  refine Rn_pure 1 (i' := 4) (L' := [some (2, o), some (2, p1), some (0, p2), some (0, p3), some (0, p4), none, none, none, none, none, none]) (st' := [(2, p1)]) rfl ?_
  refine Rn_getR rfl (ob_Lg hp1 hK) (fx_Lg_0 hr hp1) (show (p1 + 1 : Int) ≠ -1 by have := hp1; unfold isLg at this; omega) ?_
  refine Rn_pure 1 (i' := 6) (L' := [some (2, o), some (2, p1), some (0, p2), some (0, p3), some (0, p4), none, none, none, none, none, none]) (st' := [(0, p2), (2, p1 + 1)]) rfl ?_
  obtain ⟨hg, h⟩ := h
  refine Rn_iald rfl (ar_Lg_0 hp1 hK) hg ?_
  refine Rn_pure 3 (i' := 10) (L' := [some (2, o), some (2, p1), some (0, p2), some (0, p3), some (0, p4), some (0, g1 (p1 + 1) p2), none, none, none, none, none]) (st' := [(0, 7), (0, g1 (p1 + 1) p2)]) rfl ?_
  refine Rn_icne rfl (fun hc => ?_) (fun hc => ?_)
  · have h := h.1 hc
    refine Rn_pure 1 (i' := 13) (L' := [some (2, o), some (2, p1), some (0, p2), some (0, p3), some (0, p4), some (0, g1 (p1 + 1) p2), none, none, none, none, none]) (st' := [(2, p1)]) rfl ?_
    refine Rn_getR rfl (ob_Lg hp1 hK) (fx_Lg_4 hr hp1) (show (p1 + 5 : Int) ≠ -1 by have := hp1; unfold isLg at this; omega) ?_
    refine Rn_pure 1 (i' := 15) (L' := [some (2, o), some (2, p1), some (0, p2), some (0, p3), some (0, p4), some (0, g1 (p1 + 1) p2), none, none, none, none, none]) (st' := [(0, p2), (2, p1 + 5)]) rfl ?_
    obtain ⟨hg, h⟩ := h
    refine Rn_iald rfl (ar_Lg_4 hp1 hK) hg ?_
    refine Rn_pure 1 (i' := 17) (L' := [some (2, o), some (2, p1), some (0, p2), some (0, p3), some (0, p4), some (0, g1 (p1 + 1) p2), some (0, g1 (p1 + 5) p2), none, none, none, none]) (st' := []) rfl ?_
    exact h
  · have h := h.2 hc
    exact Rn_ret0 rfl h
theorem v_Te_lift_17 {K : Int} {S : Nat} {g r : ab_H} {o p1 l2 l3 l4 l5 l6 : Int} (P : ab_H → ab_H → Prop) (hr : SI r) (hK : 186 ≤ K) (ho : isTe o) (hp1 : isLg p1) (h : ((wr 3 ≤ wr l6 → P g r) ∧ (wr l6 < wr 3 → ab_RI m_Te_group [(0, l5), (0, l6)] K S g r (fun x1 g' r' => g' = g ∧ r' = r ∧ (((¬ wr l5 = wr l3 → ((0 : Int) ≤ x1 ∧ (x1 : Int) < 14) ∧ ab_Rn m_Te_lift 39 [some (2, o), some (2, p1), some (0, l2), some (0, l3), some (0, l4), some (0, l5), some (0, l6), some (0, x1), some (0, g (o + 5) x1), some (0, 0), none] [] (K, S, g, r) (ab_Qv K S P)) ∧ (wr l5 = wr l3 → ((¬ wr l6 = wr l4 → ((0 : Int) ≤ x1 ∧ (x1 : Int) < 14) ∧ ab_Rn m_Te_lift 39 [some (2, o), some (2, p1), some (0, l2), some (0, l3), some (0, l4), some (0, l5), some (0, l6), some (0, x1), some (0, g (o + 5) x1), some (0, 0), none] [] (K, S, g, r) (ab_Qv K S P)) ∧ (wr l6 = wr l4 → ab_Rn m_Te_lift 39 [some (2, o), some (2, p1), some (0, l2), some (0, l3), some (0, l4), some (0, l5), some (0, l6), some (0, x1), some (0, 0), some (0, 0), none] [] (K, S, g, r) (ab_Qv K S P)))))))))) : ab_Rn m_Te_lift 17 [some (2, o), some (2, p1), some (0, l2), some (0, l3), some (0, l4), some (0, l5), some (0, l6), none, none, none, none] [] (K, S, g, r) (ab_Qv K S P) := by
  refine Rn_pure 2 (i' := 19) (L' := [some (2, o), some (2, p1), some (0, l2), some (0, l3), some (0, l4), some (0, l5), some (0, l6), none, none, none, none]) (st' := [(0, 3), (0, l6)]) rfl ?_
  refine Rn_icge rfl (fun hc => ?_) (fun hc => ?_)
  · have h := h.1 hc
    exact Rn_ret0 rfl h
  · have h := h.2 hc
    refine Rn_pure 2 (i' := 22) (L' := [some (2, o), some (2, p1), some (0, l2), some (0, l3), some (0, l4), some (0, l5), some (0, l6), none, none, none, none]) (st' := [(0, l6), (0, l5)]) rfl ?_
    refine Rn_callI [(0, l5), (0, l6)] [] rfl rfl rfl rfl (rfl) ?_
    refine h.mono (fun x1 g' r' h => ?_)
    obtain ⟨hx, h⟩ := h
    replace hx := hx.symm
    subst hx
    obtain ⟨hx, h⟩ := h
    replace hx := hx.symm
    subst hx
    refine Rn_pure 3 (i' := 26) (L' := [some (2, o), some (2, p1), some (0, l2), some (0, l3), some (0, l4), some (0, l5), some (0, l6), some (0, x1), none, none, none]) (st' := [(0, l3), (0, l5)]) rfl ?_
    refine Rn_icne rfl (fun hc => ?_) (fun hc => ?_)
    · have h := h.1 hc
      refine Rn_pure 1 (i' := 33) (L' := [some (2, o), some (2, p1), some (0, l2), some (0, l3), some (0, l4), some (0, l5), some (0, l6), some (0, x1), none, none, none]) (st' := [(2, o)]) rfl ?_
      refine Rn_getR rfl (ob_Te ho hK) (fx_Te_6 hr ho) (show (o + 5 : Int) ≠ -1 by have := ho; unfold isTe at this; omega) ?_
      refine Rn_pure 1 (i' := 35) (L' := [some (2, o), some (2, p1), some (0, l2), some (0, l3), some (0, l4), some (0, l5), some (0, l6), some (0, x1), none, none, none]) (st' := [(0, x1), (2, o + 5)]) rfl ?_
      obtain ⟨hg, h⟩ := h
      refine Rn_iald rfl (ar_Te_6 ho hK) hg ?_
      refine Rn_pure 3 (i' := 39) (L' := [some (2, o), some (2, p1), some (0, l2), some (0, l3), some (0, l4), some (0, l5), some (0, l6), some (0, x1), some (0, g (o + 5) x1), some (0, 0), none]) (st' := []) rfl ?_
      exact h
    · have h := h.2 hc
      refine Rn_pure 2 (i' := 29) (L' := [some (2, o), some (2, p1), some (0, l2), some (0, l3), some (0, l4), some (0, l5), some (0, l6), some (0, x1), none, none, none]) (st' := [(0, l4), (0, l6)]) rfl ?_
      refine Rn_icne rfl (fun hc => ?_) (fun hc => ?_)
      · have h := h.1 hc
        refine Rn_pure 1 (i' := 33) (L' := [some (2, o), some (2, p1), some (0, l2), some (0, l3), some (0, l4), some (0, l5), some (0, l6), some (0, x1), none, none, none]) (st' := [(2, o)]) rfl ?_
        refine Rn_getR rfl (ob_Te ho hK) (fx_Te_6 hr ho) (show (o + 5 : Int) ≠ -1 by have := ho; unfold isTe at this; omega) ?_
        refine Rn_pure 1 (i' := 35) (L' := [some (2, o), some (2, p1), some (0, l2), some (0, l3), some (0, l4), some (0, l5), some (0, l6), some (0, x1), none, none, none]) (st' := [(0, x1), (2, o + 5)]) rfl ?_
        obtain ⟨hg, h⟩ := h
        refine Rn_iald rfl (ar_Te_6 ho hK) hg ?_
        refine Rn_pure 3 (i' := 39) (L' := [some (2, o), some (2, p1), some (0, l2), some (0, l3), some (0, l4), some (0, l5), some (0, l6), some (0, x1), some (0, g (o + 5) x1), some (0, 0), none]) (st' := []) rfl ?_
        exact h
      · have h := h.2 hc
        refine Rn_pure 5 (i' := 39) (L' := [some (2, o), some (2, p1), some (0, l2), some (0, l3), some (0, l4), some (0, l5), some (0, l6), some (0, x1), some (0, 0), some (0, 0), none]) (st' := []) rfl ?_
        exact h
theorem v_Te_lift_39 {K : Int} {S : Nat} {g r : ab_H} {o p1 l2 l3 l4 l5 l6 l7 l8 l9 : Int} (P : ab_H → ab_H → Prop) (hr : SI r) (hK : 186 ≤ K) (ho : isTe o) (hp1 : isLg p1) (h : ((wr l8 ≤ wr l9 → ab_Rn m_Te_lift 17 [some (2, o), some (2, p1), some (0, l2), some (0, l3), some (0, l4), some (0, l5), some (0, l6 + 1), none, none, none, none] [] (K, S, g, r) (ab_Qv K S P)) ∧ (wr l9 < wr l8 → ab_RV m_Te_takeStep [(2, o), (2, p1), (0, 3 * l2), (0, 4 * l7 + l9)] K S g r (fun g1 r' => r' = r ∧ (((0 : Int) ≤ 4 * l7 + l9 ∧ (4 * l7 + l9 : Int) < 56) ∧ ((0 : Int) ≤ 3 * l2 + (g1 (o + 7) (4 * l7 + l9)) - 1 ∧ (3 * l2 + (g1 (o + 7) (4 * l7 + l9)) - 1 : Int) < 360) ∧ ((wr (g1 (p1 + 7) (3 * l2 + (g1 (o + 7) (4 * l7 + l9)) - 1)) ≤ wr 1000000 → ab_Rn m_Te_lift 39 [some (2, o), some (2, p1), some (0, l2), some (0, l3), some (0, l4), some (0, l5), some (0, l6), some (0, l7), some (0, l8), some (0, l9 + 1), none] [] (K, S, g1, r) (ab_Qv K S P)) ∧ (wr 1000000 < wr (g1 (p1 + 7) (3 * l2 + (g1 (o + 7) (4 * l7 + l9)) - 1)) → ((0 : Int) ≤ l2 ∧ (l2 : Int) < 120) ∧ ∀ g3, g3 = ab_up g1 (p1 + 8) l2 1 → P g3 r))))))) : ab_Rn m_Te_lift 39 [some (2, o), some (2, p1), some (0, l2), some (0, l3), some (0, l4), some (0, l5), some (0, l6), some (0, l7), some (0, l8), some (0, l9), none] [] (K, S, g, r) (ab_Qv K S P) := by
  refine Rn_pure 2 (i' := 41) (L' := [some (2, o), some (2, p1), some (0, l2), some (0, l3), some (0, l4), some (0, l5), some (0, l6), some (0, l7), some (0, l8), some (0, l9), none]) (st' := [(0, l8), (0, l9)]) rfl ?_
  refine Rn_icge rfl (fun hc => ?_) (fun hc => ?_)
  · have h := h.1 hc
    refine Rn_pure 2 (i' := 17) (L' := [some (2, o), some (2, p1), some (0, l2), some (0, l3), some (0, l4), some (0, l5), some (0, l6 + 1), some (0, l7), some (0, l8), some (0, l9), none]) (st' := []) rfl ?_
    refine Rn_weak (L' := [some (2, o), some (2, p1), some (0, l2), some (0, l3), some (0, l4), some (0, l5), some (0, l6 + 1), none, none, none, none]) ⟨rfl, ⟨rfl, ⟨rfl, ⟨rfl, ⟨rfl, ⟨rfl, ⟨rfl, trivial⟩⟩⟩⟩⟩⟩⟩ ?_
    exact h
  · have h := h.2 hc
    refine Rn_pure 12 (i' := 54) (L' := [some (2, o), some (2, p1), some (0, l2), some (0, l3), some (0, l4), some (0, l5), some (0, l6), some (0, l7), some (0, l8), some (0, l9), some (0, 4 * l7 + l9)]) (st' := [(0, 4 * l7 + l9), (0, 3 * l2), (2, p1), (2, o)]) rfl ?_
    refine Rn_callV [(2, o), (2, p1), (0, 3 * l2), (0, 4 * l7 + l9)] [] rfl rfl rfl rfl (ab_rvB_of rfl (ob_Te ho hK)) ?_
    refine h.mono (fun g1 r' h => ?_)
    obtain ⟨hx, h⟩ := h
    replace hx := hx.symm
    subst hx
    refine Rn_pure 1 (i' := 56) (L' := [some (2, o), some (2, p1), some (0, l2), some (0, l3), some (0, l4), some (0, l5), some (0, l6), some (0, l7), some (0, l8), some (0, l9), some (0, 4 * l7 + l9)]) (st' := [(2, p1)]) rfl ?_
    refine Rn_getR rfl (ob_Lg hp1 hK) (fx_Lg_6 hr hp1) (show (p1 + 7 : Int) ≠ -1 by have := hp1; unfold isLg at this; omega) ?_
    refine Rn_pure 4 (i' := 61) (L' := [some (2, o), some (2, p1), some (0, l2), some (0, l3), some (0, l4), some (0, l5), some (0, l6), some (0, l7), some (0, l8), some (0, l9), some (0, 4 * l7 + l9)]) (st' := [(2, o), (0, 3 * l2), (2, p1 + 7)]) rfl ?_
    refine Rn_getR rfl (ob_Te ho hK) (fx_Te_8 hr ho) (show (o + 7 : Int) ≠ -1 by have := ho; unfold isTe at this; omega) ?_
    refine Rn_pure 1 (i' := 63) (L' := [some (2, o), some (2, p1), some (0, l2), some (0, l3), some (0, l4), some (0, l5), some (0, l6), some (0, l7), some (0, l8), some (0, l9), some (0, 4 * l7 + l9)]) (st' := [(0, 4 * l7 + l9), (2, o + 7), (0, 3 * l2), (2, p1 + 7)]) rfl ?_
    obtain ⟨hg, h⟩ := h
    refine Rn_iald rfl (ar_Te_8 ho hK) hg ?_
    refine Rn_pure 3 (i' := 67) (L' := [some (2, o), some (2, p1), some (0, l2), some (0, l3), some (0, l4), some (0, l5), some (0, l6), some (0, l7), some (0, l8), some (0, l9), some (0, 4 * l7 + l9)]) (st' := [(0, 3 * l2 + (g1 (o + 7) (4 * l7 + l9)) - 1), (2, p1 + 7)]) rfl ?_
    obtain ⟨hg, h⟩ := h
    refine Rn_iald rfl (ar_Lg_6 hp1 hK) hg ?_
    refine Rn_pure 1 (i' := 69) (L' := [some (2, o), some (2, p1), some (0, l2), some (0, l3), some (0, l4), some (0, l5), some (0, l6), some (0, l7), some (0, l8), some (0, l9), some (0, 4 * l7 + l9)]) (st' := [(0, 1000000), (0, g1 (p1 + 7) (3 * l2 + (g1 (o + 7) (4 * l7 + l9)) - 1))]) rfl ?_
    refine Rn_icle rfl (fun hc => ?_) (fun hc => ?_)
    · have h := h.1 hc
      refine Rn_pure 2 (i' := 39) (L' := [some (2, o), some (2, p1), some (0, l2), some (0, l3), some (0, l4), some (0, l5), some (0, l6), some (0, l7), some (0, l8), some (0, l9 + 1), some (0, 4 * l7 + l9)]) (st' := []) rfl ?_
      refine Rn_weak (L' := [some (2, o), some (2, p1), some (0, l2), some (0, l3), some (0, l4), some (0, l5), some (0, l6), some (0, l7), some (0, l8), some (0, l9 + 1), none]) ⟨rfl, ⟨rfl, ⟨rfl, ⟨rfl, ⟨rfl, ⟨rfl, ⟨rfl, ⟨rfl, ⟨rfl, ⟨rfl, trivial⟩⟩⟩⟩⟩⟩⟩⟩⟩⟩ ?_
      exact h
    · have h := h.2 hc
      refine Rn_pure 1 (i' := 71) (L' := [some (2, o), some (2, p1), some (0, l2), some (0, l3), some (0, l4), some (0, l5), some (0, l6), some (0, l7), some (0, l8), some (0, l9), some (0, 4 * l7 + l9)]) (st' := [(2, p1)]) rfl ?_
      refine Rn_getR rfl (ob_Lg hp1 hK) (fx_Lg_7 hr hp1) (show (p1 + 8 : Int) ≠ -1 by have := hp1; unfold isLg at this; omega) ?_
      refine Rn_pure 2 (i' := 74) (L' := [some (2, o), some (2, p1), some (0, l2), some (0, l3), some (0, l4), some (0, l5), some (0, l6), some (0, l7), some (0, l8), some (0, l9), some (0, 4 * l7 + l9)]) (st' := [(0, 1), (0, l2), (2, p1 + 8)]) rfl ?_
      obtain ⟨hg, h⟩ := h
      refine Rn_iast rfl (ar_Lg_7 hp1 hK) hg (fun g3 he_g3 => ?_)
      have h := h g3 he_g3
      exact Rn_ret0 rfl h
-- EventLedger$Terms.takeStep (LEventLedger$Log;II)V
theorem v_Te_takeStep {K : Int} {S : Nat} {g r : ab_H} {o p1 p2 p3 : Int} (P : ab_H → ab_H → Prop) (hr : SI r) (hK : 186 ≤ K) (ho : isTe o) (hp1 : isLg p1) (h : ((0 : Int) ≤ p3 ∧ (p3 : Int) < 56) ∧ ((0 : Int) ≤ p3 ∧ (p3 : Int) < 56) ∧ ((0 : Int) ≤ p3 ∧ (p3 : Int) < 56) ∧ ((wr (g (o + 6) p3) = 0 → ((0 : Int) ≤ p2 + (g (o + 7) p3) - 1 ∧ (p2 + (g (o + 7) p3) - 1 : Int) < 360) ∧ ∀ g1, g1 = ab_up g (p1 + 7) (p2 + (g (o + 7) p3) - 1) (g (o + 8) p3) → P g1 r) ∧ (wr (g (o + 6) p3) = 1 → ((0 : Int) ≤ p2 + (g (o + 7) p3) - 1 ∧ (p2 + (g (o + 7) p3) - 1 : Int) < 360) ∧ ((0 : Int) ≤ p2 + (g (o + 7) p3) - 1 ∧ (p2 + (g (o + 7) p3) - 1 : Int) < 360) ∧ ∀ g2, g2 = ab_up g (p1 + 7) (p2 + (g (o + 7) p3) - 1) ((g (p1 + 7) (p2 + (g (o + 7) p3) - 1)) * (g (o + 8) p3)) → P g2 r) ∧ (wr (g (o + 6) p3) = 2 → ((0 : Int) ≤ p2 + (g (o + 7) p3) - 1 ∧ (p2 + (g (o + 7) p3) - 1 : Int) < 360) ∧ ((0 : Int) ≤ p2 + (g (o + 7) p3) - 1 ∧ (p2 + (g (o + 7) p3) - 1 : Int) < 360) ∧ ∀ g3, g3 = ab_up g (p1 + 7) (p2 + (g (o + 7) p3) - 1) (g (p1 + 7) (p2 + (g (o + 7) p3) - 1) + (g (o + 8) p3)) → P g3 r) ∧ (wr (g (o + 6) p3) < 0 ∨ 3 ≤ wr (g (o + 6) p3) → ((0 : Int) ≤ p2 + (g (o + 8) p3) - 1 ∧ (p2 + (g (o + 8) p3) - 1 : Int) < 360) ∧ ((0 : Int) ≤ p2 + (g (o + 7) p3) - 1 ∧ (p2 + (g (o + 7) p3) - 1 : Int) < 360) ∧ ∀ g4, g4 = ab_up g (p1 + 7) (p2 + (g (o + 7) p3) - 1) (g (p1 + 7) (p2 + (g (o + 8) p3) - 1)) → P g4 r))) : ab_RV m_Te_takeStep [(2, o), (2, p1), (0, p2), (0, p3)] K S g r P := by
  show ab_Rn m_Te_takeStep 0 [some (2, o), some (2, p1), some (0, p2), some (0, p3), none, none] [] (K, S, g, r) (ab_Qv K S P)
  refine Rn_pure 2 (i' := 2) (L' := [some (2, o), some (2, p1), some (0, p2), some (0, p3), none, none]) (st' := [(2, o), (0, p2)]) rfl ?_
  refine Rn_getR rfl (ob_Te ho hK) (fx_Te_8 hr ho) (show (o + 7 : Int) ≠ -1 by have := ho; unfold isTe at this; omega) ?_
  refine Rn_pure 1 (i' := 4) (L' := [some (2, o), some (2, p1), some (0, p2), some (0, p3), none, none]) (st' := [(0, p3), (2, o + 7), (0, p2)]) rfl ?_
  obtain ⟨hg, h⟩ := h
  refine Rn_iald rfl (ar_Te_8 ho hK) hg ?_
  refine Rn_pure 5 (i' := 10) (L' := [some (2, o), some (2, p1), some (0, p2), some (0, p3), some (0, p2 + (g (o + 7) p3) - 1), none]) (st' := [(2, o)]) rfl ?_
  refine Rn_getR rfl (ob_Te ho hK) (fx_Te_9 hr ho) (show (o + 8 : Int) ≠ -1 by have := ho; unfold isTe at this; omega) ?_
  refine Rn_pure 1 (i' := 12) (L' := [some (2, o), some (2, p1), some (0, p2), some (0, p3), some (0, p2 + (g (o + 7) p3) - 1), none]) (st' := [(0, p3), (2, o + 8)]) rfl ?_
  obtain ⟨hg, h⟩ := h
  refine Rn_iald rfl (ar_Te_9 ho hK) hg ?_
  refine Rn_pure 2 (i' := 15) (L' := [some (2, o), some (2, p1), some (0, p2), some (0, p3), some (0, p2 + (g (o + 7) p3) - 1), some (0, g (o + 8) p3)]) (st' := [(2, o)]) rfl ?_
  refine Rn_getR rfl (ob_Te ho hK) (fx_Te_7 hr ho) (show (o + 6 : Int) ≠ -1 by have := ho; unfold isTe at this; omega) ?_
  refine Rn_pure 1 (i' := 17) (L' := [some (2, o), some (2, p1), some (0, p2), some (0, p3), some (0, p2 + (g (o + 7) p3) - 1), some (0, g (o + 8) p3)]) (st' := [(0, p3), (2, o + 6)]) rfl ?_
  obtain ⟨hg, h⟩ := h
  refine Rn_iald rfl (ar_Te_7 ho hK) hg ?_
  refine Rn_ts rfl ?_
  have ht19 : (wr (g (o + 6) p3) = 0) → ab_Rn m_Te_takeStep 19 [some (2, o), some (2, p1), some (0, p2), some (0, p3), some (0, p2 + (g (o + 7) p3) - 1), some (0, g (o + 8) p3)] [] (K, S, g, r) (ab_Qv K S P) := by
    intro hc
    have h := h.1 hc
    refine Rn_pure 1 (i' := 20) (L' := [some (2, o), some (2, p1), some (0, p2), some (0, p3), some (0, p2 + (g (o + 7) p3) - 1), some (0, g (o + 8) p3)]) (st' := [(2, p1)]) rfl ?_
    refine Rn_getR rfl (ob_Lg hp1 hK) (fx_Lg_6 hr hp1) (show (p1 + 7 : Int) ≠ -1 by have := hp1; unfold isLg at this; omega) ?_
    refine Rn_pure 2 (i' := 23) (L' := [some (2, o), some (2, p1), some (0, p2), some (0, p3), some (0, p2 + (g (o + 7) p3) - 1), some (0, g (o + 8) p3)]) (st' := [(0, g (o + 8) p3), (0, p2 + (g (o + 7) p3) - 1), (2, p1 + 7)]) rfl ?_
    obtain ⟨hg, h⟩ := h
    refine Rn_iast rfl (ar_Lg_6 hp1 hK) hg (fun g1 he_g1 => ?_)
    have h := h g1 he_g1
    refine Rn_pure 1 (i' := 55) (L' := [some (2, o), some (2, p1), some (0, p2), some (0, p3), some (0, p2 + (g (o + 7) p3) - 1), some (0, g (o + 8) p3)]) (st' := []) rfl ?_
    exact Rn_ret0 rfl h
  have ht25 : (wr (g (o + 6) p3) = 1) → ab_Rn m_Te_takeStep 25 [some (2, o), some (2, p1), some (0, p2), some (0, p3), some (0, p2 + (g (o + 7) p3) - 1), some (0, g (o + 8) p3)] [] (K, S, g, r) (ab_Qv K S P) := by
    intro hc
    have h := h.2.1 hc
    refine Rn_pure 1 (i' := 26) (L' := [some (2, o), some (2, p1), some (0, p2), some (0, p3), some (0, p2 + (g (o + 7) p3) - 1), some (0, g (o + 8) p3)]) (st' := [(2, p1)]) rfl ?_
    refine Rn_getR rfl (ob_Lg hp1 hK) (fx_Lg_6 hr hp1) (show (p1 + 7 : Int) ≠ -1 by have := hp1; unfold isLg at this; omega) ?_
    refine Rn_pure 2 (i' := 29) (L' := [some (2, o), some (2, p1), some (0, p2), some (0, p3), some (0, p2 + (g (o + 7) p3) - 1), some (0, g (o + 8) p3)]) (st' := [(0, p2 + (g (o + 7) p3) - 1), (2, p1 + 7), (0, p2 + (g (o + 7) p3) - 1), (2, p1 + 7)]) rfl ?_
    obtain ⟨hg, h⟩ := h
    refine Rn_iald rfl (ar_Lg_6 hp1 hK) hg ?_
    refine Rn_pure 2 (i' := 32) (L' := [some (2, o), some (2, p1), some (0, p2), some (0, p3), some (0, p2 + (g (o + 7) p3) - 1), some (0, g (o + 8) p3)]) (st' := [(0, (g (p1 + 7) (p2 + (g (o + 7) p3) - 1)) * (g (o + 8) p3)), (0, p2 + (g (o + 7) p3) - 1), (2, p1 + 7)]) rfl ?_
    obtain ⟨hg, h⟩ := h
    refine Rn_iast rfl (ar_Lg_6 hp1 hK) hg (fun g2 he_g2 => ?_)
    have h := h g2 he_g2
    refine Rn_pure 1 (i' := 55) (L' := [some (2, o), some (2, p1), some (0, p2), some (0, p3), some (0, p2 + (g (o + 7) p3) - 1), some (0, g (o + 8) p3)]) (st' := []) rfl ?_
    exact Rn_ret0 rfl h
  have ht34 : (wr (g (o + 6) p3) = 2) → ab_Rn m_Te_takeStep 34 [some (2, o), some (2, p1), some (0, p2), some (0, p3), some (0, p2 + (g (o + 7) p3) - 1), some (0, g (o + 8) p3)] [] (K, S, g, r) (ab_Qv K S P) := by
    intro hc
    have h := h.2.2.1 hc
    refine Rn_pure 1 (i' := 35) (L' := [some (2, o), some (2, p1), some (0, p2), some (0, p3), some (0, p2 + (g (o + 7) p3) - 1), some (0, g (o + 8) p3)]) (st' := [(2, p1)]) rfl ?_
    refine Rn_getR rfl (ob_Lg hp1 hK) (fx_Lg_6 hr hp1) (show (p1 + 7 : Int) ≠ -1 by have := hp1; unfold isLg at this; omega) ?_
    refine Rn_pure 2 (i' := 38) (L' := [some (2, o), some (2, p1), some (0, p2), some (0, p3), some (0, p2 + (g (o + 7) p3) - 1), some (0, g (o + 8) p3)]) (st' := [(0, p2 + (g (o + 7) p3) - 1), (2, p1 + 7), (0, p2 + (g (o + 7) p3) - 1), (2, p1 + 7)]) rfl ?_
    obtain ⟨hg, h⟩ := h
    refine Rn_iald rfl (ar_Lg_6 hp1 hK) hg ?_
    refine Rn_pure 2 (i' := 41) (L' := [some (2, o), some (2, p1), some (0, p2), some (0, p3), some (0, p2 + (g (o + 7) p3) - 1), some (0, g (o + 8) p3)]) (st' := [(0, g (p1 + 7) (p2 + (g (o + 7) p3) - 1) + (g (o + 8) p3)), (0, p2 + (g (o + 7) p3) - 1), (2, p1 + 7)]) rfl ?_
    obtain ⟨hg, h⟩ := h
    refine Rn_iast rfl (ar_Lg_6 hp1 hK) hg (fun g3 he_g3 => ?_)
    have h := h g3 he_g3
    refine Rn_pure 1 (i' := 55) (L' := [some (2, o), some (2, p1), some (0, p2), some (0, p3), some (0, p2 + (g (o + 7) p3) - 1), some (0, g (o + 8) p3)]) (st' := []) rfl ?_
    exact Rn_ret0 rfl h
  have htd : (wr (g (o + 6) p3) < 0 ∨ 3 ≤ wr (g (o + 6) p3)) → ab_Rn m_Te_takeStep 43 [some (2, o), some (2, p1), some (0, p2), some (0, p3), some (0, p2 + (g (o + 7) p3) - 1), some (0, g (o + 8) p3)] [] (K, S, g, r) (ab_Qv K S P) := by
    intro hc
    have h := h.2.2.2 hc
    refine Rn_pure 1 (i' := 44) (L' := [some (2, o), some (2, p1), some (0, p2), some (0, p3), some (0, p2 + (g (o + 7) p3) - 1), some (0, g (o + 8) p3)]) (st' := [(2, p1)]) rfl ?_
    refine Rn_getR rfl (ob_Lg hp1 hK) (fx_Lg_6 hr hp1) (show (p1 + 7 : Int) ≠ -1 by have := hp1; unfold isLg at this; omega) ?_
    refine Rn_pure 2 (i' := 47) (L' := [some (2, o), some (2, p1), some (0, p2), some (0, p3), some (0, p2 + (g (o + 7) p3) - 1), some (0, g (o + 8) p3)]) (st' := [(2, p1), (0, p2 + (g (o + 7) p3) - 1), (2, p1 + 7)]) rfl ?_
    refine Rn_getR rfl (ob_Lg hp1 hK) (fx_Lg_6 hr hp1) (show (p1 + 7 : Int) ≠ -1 by have := hp1; unfold isLg at this; omega) ?_
    refine Rn_pure 5 (i' := 53) (L' := [some (2, o), some (2, p1), some (0, p2), some (0, p3), some (0, p2 + (g (o + 7) p3) - 1), some (0, g (o + 8) p3)]) (st' := [(0, p2 + (g (o + 8) p3) - 1), (2, p1 + 7), (0, p2 + (g (o + 7) p3) - 1), (2, p1 + 7)]) rfl ?_
    obtain ⟨hg, h⟩ := h
    refine Rn_iald rfl (ar_Lg_6 hp1 hK) hg ?_
    obtain ⟨hg, h⟩ := h
    refine Rn_iast rfl (ar_Lg_6 hp1 hK) hg (fun g4 he_g4 => ?_)
    have h := h g4 he_g4
    exact Rn_ret0 rfl h
  have hsp : wr (g (o + 6) p3) < 0 ∨ 3 ≤ wr (g (o + 6) p3) ∨ wr (g (o + 6) p3) = 0 ∨ wr (g (o + 6) p3) = 1 ∨ wr (g (o + 6) p3) = 2 := by omega
  rcases hsp with hc | hc | hc | hc | hc
  · rw [ab_ts_out (hT := (rfl : ab_nth ab_tsL 14 = some (0, 43, [19, 25, 34]))) rfl (Or.inl hc)]; exact htd (by simp only [hc, true_or, or_true])
  · rw [ab_ts_out (hT := (rfl : ab_nth ab_tsL 14 = some (0, 43, [19, 25, 34]))) rfl (Or.inr hc)]; exact htd (by simp only [hc, true_or, or_true])
  · rw [ab_ts_in (j := 0) (hT := (rfl : ab_nth ab_tsL 14 = some (0, 43, [19, 25, 34]))) (by rw [hc]; rfl) rfl]; exact ht19 (by simp only [hc, true_or, or_true])
  · rw [ab_ts_in (j := 1) (hT := (rfl : ab_nth ab_tsL 14 = some (0, 43, [19, 25, 34]))) (by rw [hc]; rfl) rfl]; exact ht25 (by simp only [hc, true_or, or_true])
  · rw [ab_ts_in (j := 2) (hT := (rfl : ab_nth ab_tsL 14 = some (0, 43, [19, 25, 34]))) (by rw [hc]; rfl) rfl]; exact ht34 (by simp only [hc, true_or, or_true])
