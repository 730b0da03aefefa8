-- EventLedger$Tallies.clear ()V
theorem v_Ta_clear {K : Int} {S : Nat} {g r : ab_H} {o : Int} (P : ab_H → ab_H → Prop) (hr : SI r) (hK : 186 ≤ K) (ho : isTa o) (h : ab_Rn m_Ta_clear 2 [some (2, o), some (0, 0)] [] (K, S, g, r) (ab_Qv K S P)) : ab_RV m_Ta_clear [(2, o)] K S g r P := by
  show ab_Rn m_Ta_clear 0 [some (2, o), none] [] (K, S, g, r) (ab_Qv K S P)
  refine Rn_pure 2 (i' := 2) (L' := [some (2, o), some (0, 0)]) (st' := []) rfl ?_
  exact h
theorem v_Ta_clear_2 {K : Int} {S : Nat} {g r : ab_H} {o l1 : Int} (P : ab_H → ab_H → Prop) (hr : SI r) (hK : 186 ≤ K) (ho : isTa o) (h : ((wr 4 ≤ wr l1 → P g r) ∧ (wr l1 < wr 4 → ab_RV m_Ta_restart [(2, o), (0, l1)] K S g r (fun g1 r' => r' = r ∧ (ab_Rn m_Ta_clear 2 [some (2, o), some (0, l1 + 1)] [] (K, S, g1, r) (ab_Qv K S P)))))) : ab_Rn m_Ta_clear 2 [some (2, o), some (0, l1)] [] (K, S, g, r) (ab_Qv K S P) := by
  refine Rn_pure 2 (i' := 4) (L' := [some (2, o), some (0, l1)]) (st' := [(0, 4), (0, l1)]) rfl ?_
  refine Rn_icge rfl (fun hc => ?_) (fun hc => ?_)
  · have h := h.1 hc
    exact Rn_ret0 rfl h
  · have h := h.2 hc
    refine Rn_pure 2 (i' := 7) (L' := [some (2, o), some (0, l1)]) (st' := [(0, l1), (2, o)]) rfl ?_
    refine Rn_callV [(2, o), (0, l1)] [] rfl rfl rfl rfl (ab_rvB_of rfl (ob_Ta ho hK)) ?_
    refine h.mono (fun g1 r' h => ?_)
    obtain ⟨hx, h⟩ := h
    replace hx := hx.symm
    subst hx
    refine Rn_pure 2 (i' := 2) (L' := [some (2, o), some (0, l1 + 1)]) (st' := []) rfl ?_
    exact h
-- EventLedger$Tallies.restart (I)V
theorem v_Ta_restart {K : Int} {S : Nat} {g r : ab_H} {o p1 : Int} (P : ab_H → ab_H → Prop) (hr : SI r) (hK : 186 ≤ K) (ho : isTa o) (h : ((0 : Int) ≤ p1 ∧ (p1 : Int) < 4) ∧ ∀ g1, g1 = ab_up g (o + 1) p1 0 → ab_Rn m_Ta_restart 7 [some (2, o), some (0, p1), some (0, 0)] [] (K, S, g1, r) (ab_Qv K S P)) : ab_RV m_Ta_restart [(2, o), (0, p1)] K S g r P := by
  show ab_Rn m_Ta_restart 0 [some (2, o), some (0, p1), none] [] (K, S, g, r) (ab_Qv K S P)
  refine Rn_pure 1 (i' := 1) (L' := [some (2, o), some (0, p1), none]) (st' := [(2, o)]) rfl ?_
  refine Rn_getR rfl (ob_Ta ho hK) (fx_Ta_0 hr ho) (show (o + 1 : Int) ≠ -1 by have := ho; unfold isTa at this; omega) ?_
  refine Rn_pure 2 (i' := 4) (L' := [some (2, o), some (0, p1), none]) (st' := [(0, 0), (0, p1), (2, o + 1)]) rfl ?_
  obtain ⟨hg, h⟩ := h
  refine Rn_iast rfl (ar_Ta_0 ho hK) hg (fun g1 he_g1 => ?_)
  have h := h g1 he_g1
  refine Rn_pure 2 (i' := 7) (L' := [some (2, o), some (0, p1), some (0, 0)]) (st' := []) rfl ?_
  exact h
theorem v_Ta_restart_7 {K : Int} {S : Nat} {g r : ab_H} {o l1 l2 : Int} (P : ab_H → ab_H → Prop) (hr : SI r) (hK : 186 ≤ K) (ho : isTa o) (h : ((wr 120 ≤ wr l2 → P g r) ∧ (wr l2 < wr 120 → ab_RV m_Ta_takeOff [(2, o), (0, l1), (0, l2)] K S g r (fun g1 r' => r' = r ∧ (ab_Rn m_Ta_restart 7 [some (2, o), some (0, l1), some (0, l2 + 1)] [] (K, S, g1, r) (ab_Qv K S P)))))) : ab_Rn m_Ta_restart 7 [some (2, o), some (0, l1), some (0, l2)] [] (K, S, g, r) (ab_Qv K S P) := by
  refine Rn_pure 2 (i' := 9) (L' := [some (2, o), some (0, l1), some (0, l2)]) (st' := [(0, 120), (0, l2)]) rfl ?_
  refine Rn_icge rfl (fun hc => ?_) (fun hc => ?_)
  · have h := h.1 hc
    exact Rn_ret0 rfl h
  · have h := h.2 hc
    refine Rn_pure 3 (i' := 13) (L' := [some (2, o), some (0, l1), some (0, l2)]) (st' := [(0, l2), (0, l1), (2, o)]) rfl ?_
    refine Rn_callV [(2, o), (0, l1), (0, l2)] [] rfl rfl rfl rfl (ab_rvB_of rfl (ob_Ta ho hK)) ?_
    refine h.mono (fun g1 r' h => ?_)
    obtain ⟨hx, h⟩ := h
    replace hx := hx.symm
    subst hx
    refine Rn_pure 2 (i' := 7) (L' := [some (2, o), some (0, l1), some (0, l2 + 1)]) (st' := []) rfl ?_
    exact h
-- EventLedger$Tallies.putOn (II)V
theorem v_Ta_putOn {K : Int} {S : Nat} {g r : ab_H} {o p1 p2 : Int} (P : ab_H → ab_H → Prop) (hr : SI r) (hK : 186 ≤ K) (ho : isTa o) (h : ((0 : Int) ≤ p2 ∧ (p2 : Int) < 120) ∧ ((0 : Int) ≤ p2 ∧ (p2 : Int) < 120) ∧ ∀ g1, g1 = ab_up g (o + 2) p2 (ab_or (g (o + 2) p2) (ab_shl 1 p1)) → P g1 r) : ab_RV m_Ta_putOn [(2, o), (0, p1), (0, p2)] K S g r P := by
  show ab_Rn m_Ta_putOn 0 [some (2, o), some (0, p1), some (0, p2)] [] (K, S, g, r) (ab_Qv K S P)
  refine Rn_pure 1 (i' := 1) (L' := [some (2, o), some (0, p1), some (0, p2)]) (st' := [(2, o)]) rfl ?_
  refine Rn_getR rfl (ob_Ta ho hK) (fx_Ta_1 hr ho) (show (o + 2 : Int) ≠ -1 by have := ho; unfold isTa at this; omega) ?_
  refine Rn_pure 2 (i' := 4) (L' := [some (2, o), some (0, p1), some (0, p2)]) (st' := [(0, p2), (2, o + 2), (0, p2), (2, o + 2)]) rfl ?_
  obtain ⟨hg, h⟩ := h
  refine Rn_iald rfl (ar_Ta_1 ho hK) hg ?_
  refine Rn_pure 4 (i' := 9) (L' := [some (2, o), some (0, p1), some (0, p2)]) (st' := [(0, ab_or (g (o + 2) p2) (ab_shl 1 p1)), (0, p2), (2, o + 2)]) rfl ?_
  obtain ⟨hg, h⟩ := h
  refine Rn_iast rfl (ar_Ta_1 ho hK) hg (fun g1 he_g1 => ?_)
  have h := h g1 he_g1
  exact Rn_ret0 rfl h
-- EventLedger$Tallies.takeOff (II)V
theorem v_Ta_takeOff {K : Int} {S : Nat} {g r : ab_H} {o p1 p2 : Int} (P : ab_H → ab_H → Prop) (hr : SI r) (hK : 186 ≤ K) (ho : isTa o) (h : ((0 : Int) ≤ p2 ∧ (p2 : Int) < 120) ∧ ((0 : Int) ≤ p2 ∧ (p2 : Int) < 120) ∧ ∀ g1, g1 = ab_up g (o + 2) p2 (ab_and (g (o + 2) p2) (ab_xor (ab_shl 1 p1) (-1))) → P g1 r) : ab_RV m_Ta_takeOff [(2, o), (0, p1), (0, p2)] K S g r P := by
  show ab_Rn m_Ta_takeOff 0 [some (2, o), some (0, p1), some (0, p2)] [] (K, S, g, r) (ab_Qv K S P)
  refine Rn_pure 1 (i' := 1) (L' := [some (2, o), some (0, p1), some (0, p2)]) (st' := [(2, o)]) rfl ?_
  refine Rn_getR rfl (ob_Ta ho hK) (fx_Ta_1 hr ho) (show (o + 2 : Int) ≠ -1 by have := ho; unfold isTa at this; omega) ?_
  refine Rn_pure 2 (i' := 4) (L' := [some (2, o), some (0, p1), some (0, p2)]) (st' := [(0, p2), (2, o + 2), (0, p2), (2, o + 2)]) rfl ?_
  obtain ⟨hg, h⟩ := h
  refine Rn_iald rfl (ar_Ta_1 ho hK) hg ?_
  refine Rn_pure 6 (i' := 11) (L' := [some (2, o), some (0, p1), some (0, p2)]) (st' := [(0, ab_and (g (o + 2) p2) (ab_xor (ab_shl 1 p1) (-1))), (0, p2), (2, o + 2)]) rfl ?_
  obtain ⟨hg, h⟩ := h
  refine Rn_iast rfl (ar_Ta_1 ho hK) hg (fun g1 he_g1 => ?_)
  have h := h g1 he_g1
  exact Rn_ret0 rfl h
-- EventLedger$Tallies.isCounted (II)Z
theorem v_Ta_isCounted {K : Int} {S : Nat} {g r : ab_H} {o p1 p2 : Int} (P : Int → ab_H → ab_H → Prop) (hr : SI r) (hK : 186 ≤ K) (ho : isTa o) (h : ((0 : Int) ≤ p2 ∧ (p2 : Int) < 120) ∧ ((wr (ab_and (ab_shr (g (o + 2) p2) p1) 1) = wr 0 → P 0 g r) ∧ (¬ wr (ab_and (ab_shr (g (o + 2) p2) p1) 1) = wr 0 → P 1 g r))) : ab_RI m_Ta_isCounted [(2, o), (0, p1), (0, p2)] K S g r P := by
  show ab_Rn m_Ta_isCounted 0 [some (2, o), some (0, p1), some (0, p2)] [] (K, S, g, r) (ab_Qi K S P)
  refine Rn_pure 1 (i' := 1) (L' := [some (2, o), some (0, p1), some (0, p2)]) (st' := [(2, o)]) rfl ?_
  refine Rn_getR rfl (ob_Ta ho hK) (fx_Ta_1 hr ho) (show (o + 2 : Int) ≠ -1 by have := ho; unfold isTa at this; omega) ?_
  refine Rn_pure 1 (i' := 3) (L' := [some (2, o), some (0, p1), some (0, p2)]) (st' := [(0, p2), (2, o + 2)]) rfl ?_
  obtain ⟨hg, h⟩ := h
  refine Rn_iald rfl (ar_Ta_1 ho hK) hg ?_
  refine Rn_pure 4 (i' := 8) (L' := [some (2, o), some (0, p1), some (0, p2)]) (st' := [(0, ab_and (ab_shr (g (o + 2) p2) p1) 1)]) rfl ?_
  refine Rn_ifeq rfl (fun hc => ?_) (fun hc => ?_)
  · have h := h.1 hc
    refine Rn_pure 1 (i' := 12) (L' := [some (2, o), some (0, p1), some (0, p2)]) (st' := [(0, 0)]) rfl ?_
    exact Rn_ret2 rfl (by decide) h
  · have h := h.2 hc
    refine Rn_pure 2 (i' := 12) (L' := [some (2, o), some (0, p1), some (0, p2)]) (st' := [(0, 1)]) rfl ?_
    exact Rn_ret2 rfl (by decide) h
-- EventLedger$Tallies.countCounted (I)I
theorem v_Ta_countCounted {K : Int} {S : Nat} {g r : ab_H} {o p1 : Int} (P : Int → ab_H → ab_H → Prop) (hr : SI r) (hK : 186 ≤ K) (ho : isTa o) (h : ab_Rn m_Ta_countCounted 4 [some (2, o), some (0, p1), some (0, 0), some (0, 0)] [] (K, S, g, r) (ab_Qi K S P)) : ab_RI m_Ta_countCounted [(2, o), (0, p1)] K S g r P := by
  show ab_Rn m_Ta_countCounted 0 [some (2, o), some (0, p1), none, none] [] (K, S, g, r) (ab_Qi K S P)
  refine Rn_pure 4 (i' := 4) (L' := [some (2, o), some (0, p1), some (0, 0), some (0, 0)]) (st' := []) rfl ?_
  exact h
theorem v_Ta_countCounted_4 {K : Int} {S : Nat} {g r : ab_H} {o l1 l2 l3 : Int} (P : Int → ab_H → ab_H → Prop) (hr : SI r) (hK : 186 ≤ K) (ho : isTa o) (h : ((wr 120 ≤ wr l3 → P l2 g r) ∧ (wr l3 < wr 120 → ((0 : Int) ≤ l3 ∧ (l3 : Int) < 120) ∧ ab_Rn m_Ta_countCounted 4 [some (2, o), some (0, l1), some (0, l2 + (ab_and (ab_shr (g (o + 2) l3) l1) 1)), some (0, l3 + 1)] [] (K, S, g, r) (ab_Qi K S P)))) : ab_Rn m_Ta_countCounted 4 [some (2, o), some (0, l1), some (0, l2), some (0, l3)] [] (K, S, g, r) (ab_Qi K S P) := by
  refine Rn_pure 2 (i' := 6) (L' := [some (2, o), some (0, l1), some (0, l2), some (0, l3)]) (st' := [(0, 120), (0, l3)]) rfl ?_
  refine Rn_icge rfl (fun hc => ?_) (fun hc => ?_)
  · have h := h.1 hc
    refine Rn_pure 1 (i' := 21) (L' := [some (2, o), some (0, l1), some (0, l2), some (0, l3)]) (st' := [(0, l2)]) rfl ?_
    exact Rn_ret1 rfl h
  · have h := h.2 hc
    refine Rn_pure 2 (i' := 9) (L' := [some (2, o), some (0, l1), some (0, l2), some (0, l3)]) (st' := [(2, o), (0, l2)]) rfl ?_
    refine Rn_getR rfl (ob_Ta ho hK) (fx_Ta_1 hr ho) (show (o + 2 : Int) ≠ -1 by have := ho; unfold isTa at this; omega) ?_
    refine Rn_pure 1 (i' := 11) (L' := [some (2, o), some (0, l1), some (0, l2), some (0, l3)]) (st' := [(0, l3), (2, o + 2), (0, l2)]) rfl ?_
    obtain ⟨hg, h⟩ := h
    refine Rn_iald rfl (ar_Ta_1 ho hK) hg ?_
    refine Rn_pure 8 (i' := 4) (L' := [some (2, o), some (0, l1), some (0, l2 + (ab_and (ab_shr (g (o + 2) l3) l1) 1)), some (0, l3 + 1)]) (st' := []) rfl ?_
    exact h
-- EventLedger$Tallies.copyFrom (LEventLedger$Tallies;)V
theorem v_Ta_copyFrom {K : Int} {S : Nat} {g r : ab_H} {o p1 : Int} (P : ab_H → ab_H → Prop) (hr : SI r) (hK : 186 ≤ K) (ho : isTa o) (hp1 : isTa p1) (h : (187 ≤ K) ∧ ((p1 + 1 : Int) ≠ o + 1) ∧ ((0 : Int) ≤ 4 ∧ (0 : Int) ≤ 0 ∧ (0 : Int) ≤ 0 ∧ (0 + 4 : Int) ≤ 4 ∧ (0 + 4 : Int) ≤ 4) ∧ ∀ g1, g1 = ab_cpy g (p1 + 1) 0 (o + 1) 0 4 → (187 ≤ K) ∧ ((p1 + 2 : Int) ≠ o + 2) ∧ ((0 : Int) ≤ 120 ∧ (0 : Int) ≤ 0 ∧ (0 : Int) ≤ 0 ∧ (0 + 120 : Int) ≤ 120 ∧ (0 + 120 : Int) ≤ 120) ∧ ∀ g2, g2 = ab_cpy g1 (p1 + 2) 0 (o + 2) 0 120 → P g2 r) : ab_RV m_Ta_copyFrom [(2, o), (2, p1)] K S g r P := by
  show ab_Rn m_Ta_copyFrom 0 [some (2, o), some (2, p1)] [] (K, S, g, r) (ab_Qv K S P)
  refine Rn_pure 1 (i' := 1) (L' := [some (2, o), some (2, p1)]) (st' := [(2, p1)]) rfl ?_
  refine Rn_getR rfl (ob_Ta hp1 hK) (fx_Ta_0 hr hp1) (show (p1 + 1 : Int) ≠ -1 by have := hp1; unfold isTa at this; omega) ?_
  refine Rn_pure 2 (i' := 4) (L' := [some (2, o), some (2, p1)]) (st' := [(2, o), (0, 0), (2, p1 + 1)]) rfl ?_
  refine Rn_getR rfl (ob_Ta ho hK) (fx_Ta_0 hr ho) (show (o + 1 : Int) ≠ -1 by have := ho; unfold isTa at this; omega) ?_
  refine Rn_pure 2 (i' := 7) (L' := [some (2, o), some (2, p1)]) (st' := [(0, 4), (0, 0), (2, o + 1), (0, 0), (2, p1 + 1)]) rfl ?_
  obtain ⟨hg, h⟩ := h
  have hg1 := hg
  obtain ⟨hg, h⟩ := h
  have hg2 := hg
  obtain ⟨hg, h⟩ := h
  refine Rn_copy rfl (ar_Ta_0 hp1 hK) (ar_Ta_0 ho hK) (by decide) hg1 hg2 hg (fun g1 he_g1 => ?_)
  have h := h g1 he_g1
  refine Rn_pure 1 (i' := 9) (L' := [some (2, o), some (2, p1)]) (st' := [(2, p1)]) rfl ?_
  refine Rn_getR rfl (ob_Ta hp1 hK) (fx_Ta_1 hr hp1) (show (p1 + 2 : Int) ≠ -1 by have := hp1; unfold isTa at this; omega) ?_
  refine Rn_pure 2 (i' := 12) (L' := [some (2, o), some (2, p1)]) (st' := [(2, o), (0, 0), (2, p1 + 2)]) rfl ?_
  refine Rn_getR rfl (ob_Ta ho hK) (fx_Ta_1 hr ho) (show (o + 2 : Int) ≠ -1 by have := ho; unfold isTa at this; omega) ?_
  refine Rn_pure 2 (i' := 15) (L' := [some (2, o), some (2, p1)]) (st' := [(0, 120), (0, 0), (2, o + 2), (0, 0), (2, p1 + 2)]) rfl ?_
  obtain ⟨hg, h⟩ := h
  have hg1 := hg
  obtain ⟨hg, h⟩ := h
  have hg2 := hg
  obtain ⟨hg, h⟩ := h
  refine Rn_copy rfl (ar_Ta_1 hp1 hK) (ar_Ta_1 ho hK) (by decide) hg1 hg2 hg (fun g2 he_g2 => ?_)
  have h := h g2 he_g2
  exact Rn_ret0 rfl h
