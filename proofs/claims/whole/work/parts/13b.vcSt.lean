-- EventLedger$State.begin (II)V
theorem v_St_begin {K : Int} {S : Nat} {g r : ab_H} {o p1 p2 : Int} (P : ab_H → ab_H → Prop) (hr : SI r) (hK : 186 ≤ K) (ho : isSt o) (h : ab_Rn m_St_begin 2 [some (2, o), some (0, p1), some (0, p2), some (0, 0)] [] (K, S, g, r) (ab_Qv K S P)) : ab_RV m_St_begin [(2, o), (0, p1), (0, p2)] K S g r P := by
  show ab_Rn m_St_begin 0 [some (2, o), some (0, p1), some (0, p2), none] [] (K, S, g, r) (ab_Qv K S P)
  refine Rn_pure 2 (i' := 2) (L' := [some (2, o), some (0, p1), some (0, p2), some (0, 0)]) (st' := []) rfl ?_
  exact h
theorem v_St_begin_2 {K : Int} {S : Nat} {g r : ab_H} {o l1 l2 l3 : Int} (P : ab_H → ab_H → Prop) (hr : SI r) (hK : 186 ≤ K) (ho : isSt o) (h : ((wr 8 ≤ wr l3 → ∀ g1, g1 = ab_up g o 5 l1 → ∀ g2, g2 = ab_up g1 o 6 l2 → P g2 r) ∧ (wr l3 < wr 8 → ((0 : Int) ≤ l3 ∧ (l3 : Int) < 8) ∧ ∀ g3, g3 = ab_up g (o + 1) l3 0 → ((0 : Int) ≤ l3 ∧ (l3 : Int) < 8) ∧ ∀ g4, g4 = ab_up g3 (o + 2) l3 0 → ((0 : Int) ≤ l3 ∧ (l3 : Int) < 8) ∧ ∀ g5, g5 = ab_up g4 (o + 3) l3 0 → ((0 : Int) ≤ l3 ∧ (l3 : Int) < 8) ∧ ∀ g6, g6 = ab_up g5 (o + 4) l3 0 → ab_Rn m_St_begin 2 [some (2, o), some (0, l1), some (0, l2), some (0, l3 + 1)] [] (K, S, g6, r) (ab_Qv K S P)))) : ab_Rn m_St_begin 2 [some (2, o), some (0, l1), some (0, l2), some (0, l3)] [] (K, S, g, r) (ab_Qv K S P) := by
  refine Rn_pure 2 (i' := 4) (L' := [some (2, o), some (0, l1), some (0, l2), some (0, l3)]) (st' := [(0, 8), (0, l3)]) rfl ?_
  refine Rn_icge rfl (fun hc => ?_) (fun hc => ?_)
  · have h := h.1 hc
    refine Rn_pure 2 (i' := 29) (L' := [some (2, o), some (0, l1), some (0, l2), some (0, l3)]) (st' := [(0, l1), (2, o)]) rfl ?_
    refine Rn_putI rfl (ob_St ho hK) (fun g1 he_g1 => ?_)
    have h := h g1 he_g1
    refine Rn_pure 2 (i' := 32) (L' := [some (2, o), some (0, l1), some (0, l2), some (0, l3)]) (st' := [(0, l2), (2, o)]) rfl ?_
    refine Rn_putI rfl (ob_St ho hK) (fun g2 he_g2 => ?_)
    have h := h g2 he_g2
    exact Rn_ret0 rfl h
  · have h := h.2 hc
    refine Rn_pure 1 (i' := 6) (L' := [some (2, o), some (0, l1), some (0, l2), some (0, l3)]) (st' := [(2, o)]) rfl ?_
    refine Rn_getR rfl (ob_St ho hK) (fx_St_0 hr ho) (show (o + 1 : Int) ≠ -1 by have := ho; unfold isSt at this; omega) ?_
    refine Rn_pure 2 (i' := 9) (L' := [some (2, o), some (0, l1), some (0, l2), some (0, l3)]) (st' := [(0, 0), (0, l3), (2, o + 1)]) rfl ?_
    obtain ⟨hg, h⟩ := h
    refine Rn_iast rfl (ar_St_0 ho hK) hg (fun g3 he_g3 => ?_)
    have h := h g3 he_g3
    refine Rn_pure 1 (i' := 11) (L' := [some (2, o), some (0, l1), some (0, l2), some (0, l3)]) (st' := [(2, o)]) rfl ?_
    refine Rn_getR rfl (ob_St ho hK) (fx_St_1 hr ho) (show (o + 2 : Int) ≠ -1 by have := ho; unfold isSt at this; omega) ?_
    refine Rn_pure 2 (i' := 14) (L' := [some (2, o), some (0, l1), some (0, l2), some (0, l3)]) (st' := [(0, 0), (0, l3), (2, o + 2)]) rfl ?_
    obtain ⟨hg, h⟩ := h
    refine Rn_iast rfl (ar_St_1 ho hK) hg (fun g4 he_g4 => ?_)
    have h := h g4 he_g4
    refine Rn_pure 1 (i' := 16) (L' := [some (2, o), some (0, l1), some (0, l2), some (0, l3)]) (st' := [(2, o)]) rfl ?_
    refine Rn_getR rfl (ob_St ho hK) (fx_St_2 hr ho) (show (o + 3 : Int) ≠ -1 by have := ho; unfold isSt at this; omega) ?_
    refine Rn_pure 2 (i' := 19) (L' := [some (2, o), some (0, l1), some (0, l2), some (0, l3)]) (st' := [(0, 0), (0, l3), (2, o + 3)]) rfl ?_
    obtain ⟨hg, h⟩ := h
    refine Rn_iast rfl (ar_St_2 ho hK) hg (fun g5 he_g5 => ?_)
    have h := h g5 he_g5
    refine Rn_pure 1 (i' := 21) (L' := [some (2, o), some (0, l1), some (0, l2), some (0, l3)]) (st' := [(2, o)]) rfl ?_
    refine Rn_getR rfl (ob_St ho hK) (fx_St_3 hr ho) (show (o + 4 : Int) ≠ -1 by have := ho; unfold isSt at this; omega) ?_
    refine Rn_pure 2 (i' := 24) (L' := [some (2, o), some (0, l1), some (0, l2), some (0, l3)]) (st' := [(0, 0), (0, l3), (2, o + 4)]) rfl ?_
    obtain ⟨hg, h⟩ := h
    refine Rn_iast rfl (ar_St_3 ho hK) hg (fun g6 he_g6 => ?_)
    have h := h g6 he_g6
    refine Rn_pure 2 (i' := 2) (L' := [some (2, o), some (0, l1), some (0, l2), some (0, l3 + 1)]) (st' := []) rfl ?_
    exact h
-- EventLedger$State.replay (LEventLedger$Log;III)V
theorem v_St_replay {K : Int} {S : Nat} {g r : ab_H} {o p1 p2 p3 p4 : Int} (P : ab_H → ab_H → Prop) (hr : SI r) (hK : 186 ≤ K) (ho : isSt o) (hp1 : isLg p1) (h : ab_RV m_St_begin [(2, o), (0, p3), (0, p4)] K S g r (fun g1 r' => r' = r ∧ (ab_Rn m_St_replay 6 [some (2, o), some (2, p1), some (0, p2), none, none, some (0, 0)] [] (K, S, g1, r) (ab_Qv K S P)))) : ab_RV m_St_replay [(2, o), (2, p1), (0, p2), (0, p3), (0, p4)] K S g r P := by
  show ab_Rn m_St_replay 0 [some (2, o), some (2, p1), some (0, p2), some (0, p3), some (0, p4), none] [] (K, S, g, r) (ab_Qv K S P)
  refine Rn_pure 3 (i' := 3) (L' := [some (2, o), some (2, p1), some (0, p2), some (0, p3), some (0, p4), none]) (st' := [(0, p4), (0, p3), (2, o)]) rfl ?_
  refine Rn_callV [(2, o), (0, p3), (0, p4)] [] rfl rfl rfl rfl (ab_rvB_of rfl (ob_St ho hK)) ?_
  refine h.mono (fun g1 r' h => ?_)
  obtain ⟨hx, h⟩ := h
  replace hx := hx.symm
  subst hx
  refine Rn_pure 2 (i' := 6) (L' := [some (2, o), some (2, p1), some (0, p2), some (0, p3), some (0, p4), some (0, 0)]) (st' := []) rfl ?_
  refine Rn_weak (L' := [some (2, o), some (2, p1), some (0, p2), none, none, some (0, 0)]) ⟨rfl, ⟨rfl, ⟨rfl, ⟨rfl, trivial⟩⟩⟩⟩ ?_
  exact h
theorem v_St_replay_6 {K : Int} {S : Nat} {g r : ab_H} {o p1 l2 l5 : Int} (P : ab_H → ab_H → Prop) (hr : SI r) (hK : 186 ≤ K) (ho : isSt o) (hp1 : isLg p1) (h : ((wr l2 ≤ wr l5 → P g r) ∧ (wr l5 < wr l2 → ab_RV m_St_step [(2, o), (2, p1), (0, l5)] K S g r (fun g1 r' => r' = r ∧ (ab_Rn m_St_replay 6 [some (2, o), some (2, p1), some (0, l2), none, none, some (0, l5 + 1)] [] (K, S, g1, r) (ab_Qv K S P)))))) : ab_Rn m_St_replay 6 [some (2, o), some (2, p1), some (0, l2), none, none, some (0, l5)] [] (K, S, g, r) (ab_Qv K S P) := by
  refine Rn_pure 2 (i' := 8) (L' := [some (2, o), some (2, p1), some (0, l2), none, none, some (0, l5)]) (st' := [(0, l2), (0, l5)]) rfl ?_
  refine Rn_icge rfl (fun hc => ?_) (fun hc => ?_)
  · have h := h.1 hc
    exact Rn_ret0 rfl h
  · have h := h.2 hc
    refine Rn_pure 3 (i' := 12) (L' := [some (2, o), some (2, p1), some (0, l2), none, none, some (0, l5)]) (st' := [(0, l5), (2, p1), (2, o)]) rfl ?_
    refine Rn_callV [(2, o), (2, p1), (0, l5)] [] rfl rfl rfl rfl (ab_rvB_of rfl (ob_St ho hK)) ?_
    refine h.mono (fun g1 r' h => ?_)
    obtain ⟨hx, h⟩ := h
    replace hx := hx.symm
    subst hx
    refine Rn_pure 2 (i' := 6) (L' := [some (2, o), some (2, p1), some (0, l2), none, none, some (0, l5 + 1)]) (st' := []) rfl ?_
    exact h
-- EventLedger$State.step (LEventLedger$Log;I)V
theorem v_St_step {K : Int} {S : Nat} {g r : ab_H} {o p1 p2 : Int} (P : ab_H → ab_H → Prop) (hr : SI r) (hK : 186 ≤ K) (ho : isSt o) (hp1 : isLg p1) (h : ((0 : Int) ≤ p2 ∧ (p2 : Int) < 120) ∧ ∀ g1, g1 = ab_up g (o + 5) p2 0 → ab_RI m_St_passesOver [(2, o), (2, p1), (0, p2)] K S g1 r (fun x2 g' r' => g' = g1 ∧ r' = r ∧ (((¬ wr x2 = wr 0 → P g1 r) ∧ (wr x2 = wr 0 → ab_RI m_St_causeOf [(2, o), (2, p1), (0, p2)] K S g1 r (fun x3 g' r' => g' = g1 ∧ r' = r ∧ (((0 : Int) ≤ p2 ∧ (p2 : Int) < 120) ∧ ∀ g4, g4 = ab_up g1 (o + 5) p2 x3 → ((0 : Int) ≤ p2 ∧ (p2 : Int) < 120) ∧ ((¬ wr (g4 (o + 5) p2) = wr 0 → P g4 r) ∧ (wr (g4 (o + 5) p2) = wr 0 → ab_RV m_St_change [(2, o), (2, p1), (0, p2)] K S g4 r (fun g5 r' => r' = r ∧ (P g5 r))))))))))) : ab_RV m_St_step [(2, o), (2, p1), (0, p2)] K S g r P := by
  show ab_Rn m_St_step 0 [some (2, o), some (2, p1), some (0, p2)] [] (K, S, g, r) (ab_Qv K S P)
  refine Rn_pure 1 (i' := 1) (L' := [some (2, o), some (2, p1), some (0, p2)]) (st' := [(2, o)]) rfl ?_
  refine Rn_getR rfl (ob_St ho hK) (fx_St_4 hr ho) (show (o + 5 : Int) ≠ -1 by have := ho; unfold isSt at this; omega) ?_
  refine Rn_pure 2 (i' := 4) (L' := [some (2, o), some (2, p1), some (0, p2)]) (st' := [(0, 0), (0, p2), (2, o + 5)]) rfl ?_
  obtain ⟨hg, h⟩ := h
  refine Rn_iast rfl (ar_St_4 ho hK) hg (fun g1 he_g1 => ?_)
  have h := h g1 he_g1
  refine Rn_pure 3 (i' := 8) (L' := [some (2, o), some (2, p1), some (0, p2)]) (st' := [(0, p2), (2, p1), (2, o)]) rfl ?_
  refine Rn_callI [(2, o), (2, p1), (0, p2)] [] rfl rfl rfl rfl (ab_rvB_of rfl (ob_St ho hK)) ?_
  refine h.mono (fun x2 g' r' h => ?_)
  obtain ⟨hx, h⟩ := h
  replace hx := hx.symm
  subst hx
  obtain ⟨hx, h⟩ := h
  replace hx := hx.symm
  subst hx
  refine Rn_ifne rfl (fun hc => ?_) (fun hc => ?_)
  · have h := h.1 hc
    exact Rn_ret0 rfl h
  · have h := h.2 hc
    refine Rn_pure 1 (i' := 11) (L' := [some (2, o), some (2, p1), some (0, p2)]) (st' := [(2, o)]) rfl ?_
    refine Rn_getR rfl (ob_St ho hK) (fx_St_4 hr ho) (show (o + 5 : Int) ≠ -1 by have := ho; unfold isSt at this; omega) ?_
    refine Rn_pure 4 (i' := 16) (L' := [some (2, o), some (2, p1), some (0, p2)]) (st' := [(0, p2), (2, p1), (2, o), (0, p2), (2, o + 5)]) rfl ?_
    refine Rn_callI [(2, o), (2, p1), (0, p2)] [(0, p2), (2, o + 5)] rfl rfl rfl rfl (ab_rvB_of rfl (ob_St ho hK)) ?_
    refine h.mono (fun x3 g' r' h => ?_)
    obtain ⟨hx, h⟩ := h
    replace hx := hx.symm
    subst hx
    obtain ⟨hx, h⟩ := h
    replace hx := hx.symm
    subst hx
    obtain ⟨hg, h⟩ := h
    refine Rn_iast rfl (ar_St_4 ho hK) hg (fun g4 he_g4 => ?_)
    have h := h g4 he_g4
    refine Rn_pure 1 (i' := 19) (L' := [some (2, o), some (2, p1), some (0, p2)]) (st' := [(2, o)]) rfl ?_
    refine Rn_getR rfl (ob_St ho hK) (fx_St_4 hr ho) (show (o + 5 : Int) ≠ -1 by have := ho; unfold isSt at this; omega) ?_
    refine Rn_pure 1 (i' := 21) (L' := [some (2, o), some (2, p1), some (0, p2)]) (st' := [(0, p2), (2, o + 5)]) rfl ?_
    obtain ⟨hg, h⟩ := h
    refine Rn_iald rfl (ar_St_4 ho hK) hg ?_
    refine Rn_ifne rfl (fun hc => ?_) (fun hc => ?_)
    · have h := h.1 hc
      exact Rn_ret0 rfl h
    · have h := h.2 hc
      refine Rn_pure 3 (i' := 26) (L' := [some (2, o), some (2, p1), some (0, p2)]) (st' := [(0, p2), (2, p1), (2, o)]) rfl ?_
      refine Rn_callV [(2, o), (2, p1), (0, p2)] [] rfl rfl rfl rfl (ab_rvB_of rfl (ob_St ho hK)) ?_
      refine h.mono (fun g5 r' h => ?_)
      obtain ⟨hx, h⟩ := h
      replace hx := hx.symm
      subst hx
      exact Rn_ret0 rfl h
-- EventLedger$State.passesOver (LEventLedger$Log;I)Z
theorem v_St_passesOver {K : Int} {S : Nat} {g r : ab_H} {o p1 p2 : Int} (P : Int → ab_H → ab_H → Prop) (hr : SI r) (hK : 186 ≤ K) (ho : isSt o) (hp1 : isLg p1) (h : ((0 : Int) ≤ p2 ∧ (p2 : Int) < 120) ∧ ((0 : Int) ≤ p2 ∧ (p2 : Int) < 120) ∧ ((wr (g (p1 + 1) p2) = wr 7 → P 1 g r) ∧ (¬ wr (g (p1 + 1) p2) = wr 7 → ((wr p2 = wr (g o 6) → P 1 g r) ∧ (¬ wr p2 = wr (g o 6) → ((wr (g (p1 + 9) p2) = wr (-1) → P 0 g r) ∧ (¬ wr (g (p1 + 9) p2) = wr (-1) → ((wr (g o 5) ≤ wr (g (p1 + 9) p2) → P 0 g r) ∧ (wr (g (p1 + 9) p2) < wr (g o 5) → P 1 g r))))))))) : ab_RI m_St_passesOver [(2, o), (2, p1), (0, p2)] K S g r P := by
  show ab_Rn m_St_passesOver 0 [some (2, o), some (2, p1), some (0, p2), none] [] (K, S, g, r) (ab_Qi K S P)
  refine Rn_pure 1 (i' := 1) (L' := [some (2, o), some (2, p1), some (0, p2), none]) (st' := [(2, p1)]) rfl ?_
  refine Rn_getR rfl (ob_Lg hp1 hK) (fx_Lg_8 hr hp1) (show (p1 + 9 : Int) ≠ -1 by have := hp1; unfold isLg at this; omega) ?_
  refine Rn_pure 1 (i' := 3) (L' := [some (2, o), some (2, p1), some (0, p2), none]) (st' := [(0, p2), (2, p1 + 9)]) rfl ?_
  obtain ⟨hg, h⟩ := h
  refine Rn_iald rfl (ar_Lg_8 hp1 hK) hg ?_
  refine Rn_pure 2 (i' := 6) (L' := [some (2, o), some (2, p1), some (0, p2), some (0, g (p1 + 9) p2)]) (st' := [(2, p1)]) rfl ?_
  refine Rn_getR rfl (ob_Lg hp1 hK) (fx_Lg_0 hr hp1) (show (p1 + 1 : Int) ≠ -1 by have := hp1; unfold isLg at this; omega) ?_
  refine Rn_pure 1 (i' := 8) (L' := [some (2, o), some (2, p1), some (0, p2), some (0, g (p1 + 9) p2)]) (st' := [(0, p2), (2, p1 + 1)]) rfl ?_
  obtain ⟨hg, h⟩ := h
  refine Rn_iald rfl (ar_Lg_0 hp1 hK) hg ?_
  refine Rn_pure 1 (i' := 10) (L' := [some (2, o), some (2, p1), some (0, p2), some (0, g (p1 + 9) p2)]) (st' := [(0, 7), (0, g (p1 + 1) p2)]) rfl ?_
  refine Rn_iceq rfl (fun hc => ?_) (fun hc => ?_)
  · have h := h.1 hc
    refine Rn_pure 2 (i' := 25) (L' := [some (2, o), some (2, p1), some (0, p2), some (0, g (p1 + 9) p2)]) (st' := [(0, 1)]) rfl ?_
    exact Rn_ret2 rfl (by decide) h
  · have h := h.2 hc
    refine Rn_pure 2 (i' := 13) (L' := [some (2, o), some (2, p1), some (0, p2), some (0, g (p1 + 9) p2)]) (st' := [(2, o), (0, p2)]) rfl ?_
    refine Rn_getI rfl (ob_St ho hK) ?_
    refine Rn_iceq rfl (fun hc => ?_) (fun hc => ?_)
    · have h := h.1 hc
      refine Rn_pure 2 (i' := 25) (L' := [some (2, o), some (2, p1), some (0, p2), some (0, g (p1 + 9) p2)]) (st' := [(0, 1)]) rfl ?_
      exact Rn_ret2 rfl (by decide) h
    · have h := h.2 hc
      refine Rn_pure 2 (i' := 17) (L' := [some (2, o), some (2, p1), some (0, p2), some (0, g (p1 + 9) p2)]) (st' := [(0, (-1)), (0, g (p1 + 9) p2)]) rfl ?_
      refine Rn_iceq rfl (fun hc => ?_) (fun hc => ?_)
      · have h := h.1 hc
        refine Rn_pure 1 (i' := 25) (L' := [some (2, o), some (2, p1), some (0, p2), some (0, g (p1 + 9) p2)]) (st' := [(0, 0)]) rfl ?_
        exact Rn_ret2 rfl (by decide) h
      · have h := h.2 hc
        refine Rn_pure 2 (i' := 20) (L' := [some (2, o), some (2, p1), some (0, p2), some (0, g (p1 + 9) p2)]) (st' := [(2, o), (0, g (p1 + 9) p2)]) rfl ?_
        refine Rn_getI rfl (ob_St ho hK) ?_
        refine Rn_icge rfl (fun hc => ?_) (fun hc => ?_)
        · have h := h.1 hc
          refine Rn_pure 1 (i' := 25) (L' := [some (2, o), some (2, p1), some (0, p2), some (0, g (p1 + 9) p2)]) (st' := [(0, 0)]) rfl ?_
          exact Rn_ret2 rfl (by decide) h
        · have h := h.2 hc
          refine Rn_pure 2 (i' := 25) (L' := [some (2, o), some (2, p1), some (0, p2), some (0, g (p1 + 9) p2)]) (st' := [(0, 1)]) rfl ?_
          exact Rn_ret2 rfl (by decide) h
-- EventLedger$State.causeOf (LEventLedger$Log;I)I
theorem v_St_causeOf {K : Int} {S : Nat} {g r : ab_H} {o p1 p2 : Int} (P : Int → ab_H → ab_H → Prop) (hr : SI r) (hK : 186 ≤ K) (ho : isSt o) (hp1 : isLg p1) (h : ((0 : Int) ≤ p2 ∧ (p2 : Int) < 120) ∧ ((wr (g (p1 + 8) p2) = wr 0 → ((0 : Int) ≤ p2 ∧ (p2 : Int) < 120) ∧ ((0 : Int) ≤ p2 ∧ (p2 : Int) < 120) ∧ ((¬ wr (g (p1 + 1) p2) = wr 0 → ((0 : Int) ≤ g (p1 + 2) p2 ∧ (g (p1 + 2) p2 : Int) < 8) ∧ ((wr (g (o + 4) (g (p1 + 2) p2)) = wr 0 → P 2 g r) ∧ (¬ wr (g (o + 4) (g (p1 + 2) p2)) = wr 0 → ((¬ wr (g (p1 + 1) p2) = wr 6 → ((0 : Int) ≤ 3 * p2 ∧ (3 * p2 : Int) < 360) ∧ ((0 : Int) ≤ 3 * p2 + 1 ∧ (3 * p2 + 1 : Int) < 360) ∧ ab_RI m_St_isTooLittle [(2, o), (0, g (p1 + 1) p2), (0, g (p1 + 2) p2), (0, g (p1 + 7) (3 * p2)), (0, g (p1 + 7) (3 * p2 + 1))] K S g r (fun x1 g' r' => g' = g ∧ r' = r ∧ (((wr x1 = wr 0 → P 0 g r) ∧ (¬ wr x1 = wr 0 → P 3 g r))))) ∧ (wr (g (p1 + 1) p2) = wr 6 → ((0 : Int) ≤ p2 ∧ (p2 : Int) < 120) ∧ ((0 : Int) ≤ g (p1 + 3) p2 ∧ (g (p1 + 3) p2 : Int) < 8) ∧ ((¬ wr (g (o + 4) (g (p1 + 3) p2)) = wr 0 → ((0 : Int) ≤ 3 * p2 ∧ (3 * p2 : Int) < 360) ∧ ((0 : Int) ≤ 3 * p2 + 1 ∧ (3 * p2 + 1 : Int) < 360) ∧ ab_RI m_St_isTooLittle [(2, o), (0, g (p1 + 1) p2), (0, g (p1 + 2) p2), (0, g (p1 + 7) (3 * p2)), (0, g (p1 + 7) (3 * p2 + 1))] K S g r (fun x2 g' r' => g' = g ∧ r' = r ∧ (((wr x2 = wr 0 → P 0 g r) ∧ (¬ wr x2 = wr 0 → P 3 g r))))) ∧ (wr (g (o + 4) (g (p1 + 3) p2)) = wr 0 → P 2 g r))))))) ∧ (wr (g (p1 + 1) p2) = wr 0 → ((0 : Int) ≤ g (p1 + 2) p2 ∧ (g (p1 + 2) p2 : Int) < 8) ∧ ((wr (g (o + 4) (g (p1 + 2) p2)) = wr 0 → P 0 g r) ∧ (¬ wr (g (o + 4) (g (p1 + 2) p2)) = wr 0 → P 2 g r))))) ∧ (¬ wr (g (p1 + 8) p2) = wr 0 → P 1 g r))) : ab_RI m_St_causeOf [(2, o), (2, p1), (0, p2)] K S g r P := by
  show ab_Rn m_St_causeOf 0 [some (2, o), some (2, p1), some (0, p2), none, none, none, none] [] (K, S, g, r) (ab_Qi K S P)
  refine Rn_pure 1 (i' := 1) (L' := [some (2, o), some (2, p1), some (0, p2), none, none, none, none]) (st' := [(2, p1)]) rfl ?_
  refine Rn_getR rfl (ob_Lg hp1 hK) (fx_Lg_7 hr hp1) (show (p1 + 8 : Int) ≠ -1 by have := hp1; unfold isLg at this; omega) ?_
  refine Rn_pure 1 (i' := 3) (L' := [some (2, o), some (2, p1), some (0, p2), none, none, none, none]) (st' := [(0, p2), (2, p1 + 8)]) rfl ?_
  obtain ⟨hg, h⟩ := h
  refine Rn_iald rfl (ar_Lg_7 hp1 hK) hg ?_
  refine Rn_ifeq rfl (fun hc => ?_) (fun hc => ?_)
  · have h := h.1 hc
    refine Rn_pure 1 (i' := 8) (L' := [some (2, o), some (2, p1), some (0, p2), none, none, none, none]) (st' := [(2, p1)]) rfl ?_
    refine Rn_getR rfl (ob_Lg hp1 hK) (fx_Lg_0 hr hp1) (show (p1 + 1 : Int) ≠ -1 by have := hp1; unfold isLg at this; omega) ?_
    refine Rn_pure 1 (i' := 10) (L' := [some (2, o), some (2, p1), some (0, p2), none, none, none, none]) (st' := [(0, p2), (2, p1 + 1)]) rfl ?_
    obtain ⟨hg, h⟩ := h
    refine Rn_iald rfl (ar_Lg_0 hp1 hK) hg ?_
    refine Rn_pure 2 (i' := 13) (L' := [some (2, o), some (2, p1), some (0, p2), some (0, g (p1 + 1) p2), none, none, none]) (st' := [(2, p1)]) rfl ?_
    refine Rn_getR rfl (ob_Lg hp1 hK) (fx_Lg_1 hr hp1) (show (p1 + 2 : Int) ≠ -1 by have := hp1; unfold isLg at this; omega) ?_
    refine Rn_pure 1 (i' := 15) (L' := [some (2, o), some (2, p1), some (0, p2), some (0, g (p1 + 1) p2), none, none, none]) (st' := [(0, p2), (2, p1 + 2)]) rfl ?_
    obtain ⟨hg, h⟩ := h
    refine Rn_iald rfl (ar_Lg_1 hp1 hK) hg ?_
    refine Rn_pure 2 (i' := 18) (L' := [some (2, o), some (2, p1), some (0, p2), some (0, g (p1 + 1) p2), some (0, g (p1 + 2) p2), none, none]) (st' := [(0, g (p1 + 1) p2)]) rfl ?_
    refine Rn_ifne rfl (fun hc => ?_) (fun hc => ?_)
    · have h := h.1 hc
      refine Rn_pure 1 (i' := 29) (L' := [some (2, o), some (2, p1), some (0, p2), some (0, g (p1 + 1) p2), some (0, g (p1 + 2) p2), none, none]) (st' := [(2, o)]) rfl ?_
      refine Rn_getR rfl (ob_St ho hK) (fx_St_3 hr ho) (show (o + 4 : Int) ≠ -1 by have := ho; unfold isSt at this; omega) ?_
      refine Rn_pure 1 (i' := 31) (L' := [some (2, o), some (2, p1), some (0, p2), some (0, g (p1 + 1) p2), some (0, g (p1 + 2) p2), none, none]) (st' := [(0, g (p1 + 2) p2), (2, o + 4)]) rfl ?_
      obtain ⟨hg, h⟩ := h
      refine Rn_iald rfl (ar_St_3 ho hK) hg ?_
      refine Rn_ifeq rfl (fun hc => ?_) (fun hc => ?_)
      · have h := h.1 hc
        refine Rn_pure 1 (i' := 45) (L' := [some (2, o), some (2, p1), some (0, p2), some (0, g (p1 + 1) p2), some (0, g (p1 + 2) p2), none, none]) (st' := [(0, 2)]) rfl ?_
        exact Rn_ret1 rfl h
      · have h := h.2 hc
        refine Rn_pure 2 (i' := 35) (L' := [some (2, o), some (2, p1), some (0, p2), some (0, g (p1 + 1) p2), some (0, g (p1 + 2) p2), none, none]) (st' := [(0, 6), (0, g (p1 + 1) p2)]) rfl ?_
        refine Rn_icne rfl (fun hc => ?_) (fun hc => ?_)
        · have h := h.1 hc
          refine Rn_pure 1 (i' := 47) (L' := [some (2, o), some (2, p1), some (0, p2), some (0, g (p1 + 1) p2), some (0, g (p1 + 2) p2), none, none]) (st' := [(2, p1)]) rfl ?_
          refine Rn_getR rfl (ob_Lg hp1 hK) (fx_Lg_6 hr hp1) (show (p1 + 7 : Int) ≠ -1 by have := hp1; unfold isLg at this; omega) ?_
          refine Rn_pure 3 (i' := 51) (L' := [some (2, o), some (2, p1), some (0, p2), some (0, g (p1 + 1) p2), some (0, g (p1 + 2) p2), none, none]) (st' := [(0, 3 * p2), (2, p1 + 7)]) rfl ?_
          obtain ⟨hg, h⟩ := h
          refine Rn_iald rfl (ar_Lg_6 hp1 hK) hg ?_
          refine Rn_pure 2 (i' := 54) (L' := [some (2, o), some (2, p1), some (0, p2), some (0, g (p1 + 1) p2), some (0, g (p1 + 2) p2), some (0, g (p1 + 7) (3 * p2)), none]) (st' := [(2, p1)]) rfl ?_
          refine Rn_getR rfl (ob_Lg hp1 hK) (fx_Lg_6 hr hp1) (show (p1 + 7 : Int) ≠ -1 by have := hp1; unfold isLg at this; omega) ?_
          refine Rn_pure 5 (i' := 60) (L' := [some (2, o), some (2, p1), some (0, p2), some (0, g (p1 + 1) p2), some (0, g (p1 + 2) p2), some (0, g (p1 + 7) (3 * p2)), none]) (st' := [(0, 3 * p2 + 1), (2, p1 + 7)]) rfl ?_
          obtain ⟨hg, h⟩ := h
          refine Rn_iald rfl (ar_Lg_6 hp1 hK) hg ?_
          refine Rn_pure 6 (i' := 67) (L' := [some (2, o), some (2, p1), some (0, p2), some (0, g (p1 + 1) p2), some (0, g (p1 + 2) p2), some (0, g (p1 + 7) (3 * p2)), some (0, g (p1 + 7) (3 * p2 + 1))]) (st' := [(0, g (p1 + 7) (3 * p2 + 1)), (0, g (p1 + 7) (3 * p2)), (0, g (p1 + 2) p2), (0, g (p1 + 1) p2), (2, o)]) rfl ?_
          refine Rn_callI [(2, o), (0, g (p1 + 1) p2), (0, g (p1 + 2) p2), (0, g (p1 + 7) (3 * p2)), (0, g (p1 + 7) (3 * p2 + 1))] [] rfl rfl rfl rfl (ab_rvB_of rfl (ob_St ho hK)) ?_
          refine h.mono (fun x1 g' r' h => ?_)
          obtain ⟨hx, h⟩ := h
          replace hx := hx.symm
          subst hx
          obtain ⟨hx, h⟩ := h
          replace hx := hx.symm
          subst hx
          refine Rn_ifeq rfl (fun hc => ?_) (fun hc => ?_)
          · have h := h.1 hc
            refine Rn_pure 1 (i' := 72) (L' := [some (2, o), some (2, p1), some (0, p2), some (0, g (p1 + 1) p2), some (0, g (p1 + 2) p2), some (0, g (p1 + 7) (3 * p2)), some (0, g (p1 + 7) (3 * p2 + 1))]) (st' := [(0, 0)]) rfl ?_
            exact Rn_ret1 rfl h
          · have h := h.2 hc
            refine Rn_pure 2 (i' := 72) (L' := [some (2, o), some (2, p1), some (0, p2), some (0, g (p1 + 1) p2), some (0, g (p1 + 2) p2), some (0, g (p1 + 7) (3 * p2)), some (0, g (p1 + 7) (3 * p2 + 1))]) (st' := [(0, 3)]) rfl ?_
            exact Rn_ret1 rfl h
        · have h := h.2 hc
          refine Rn_pure 1 (i' := 37) (L' := [some (2, o), some (2, p1), some (0, p2), some (0, g (p1 + 1) p2), some (0, g (p1 + 2) p2), none, none]) (st' := [(2, o)]) rfl ?_
          refine Rn_getR rfl (ob_St ho hK) (fx_St_3 hr ho) (show (o + 4 : Int) ≠ -1 by have := ho; unfold isSt at this; omega) ?_
          refine Rn_pure 1 (i' := 39) (L' := [some (2, o), some (2, p1), some (0, p2), some (0, g (p1 + 1) p2), some (0, g (p1 + 2) p2), none, none]) (st' := [(2, p1), (2, o + 4)]) rfl ?_
          refine Rn_getR rfl (ob_Lg hp1 hK) (fx_Lg_2 hr hp1) (show (p1 + 3 : Int) ≠ -1 by have := hp1; unfold isLg at this; omega) ?_
          refine Rn_pure 1 (i' := 41) (L' := [some (2, o), some (2, p1), some (0, p2), some (0, g (p1 + 1) p2), some (0, g (p1 + 2) p2), none, none]) (st' := [(0, p2), (2, p1 + 3), (2, o + 4)]) rfl ?_
          obtain ⟨hg, h⟩ := h
          refine Rn_iald rfl (ar_Lg_2 hp1 hK) hg ?_
          obtain ⟨hg, h⟩ := h
          refine Rn_iald rfl (ar_St_3 ho hK) hg ?_
          refine Rn_ifne rfl (fun hc => ?_) (fun hc => ?_)
          · have h := h.1 hc
            refine Rn_pure 1 (i' := 47) (L' := [some (2, o), some (2, p1), some (0, p2), some (0, g (p1 + 1) p2), some (0, g (p1 + 2) p2), none, none]) (st' := [(2, p1)]) rfl ?_
            refine Rn_getR rfl (ob_Lg hp1 hK) (fx_Lg_6 hr hp1) (show (p1 + 7 : Int) ≠ -1 by have := hp1; unfold isLg at this; omega) ?_
            refine Rn_pure 3 (i' := 51) (L' := [some (2, o), some (2, p1), some (0, p2), some (0, g (p1 + 1) p2), some (0, g (p1 + 2) p2), none, none]) (st' := [(0, 3 * p2), (2, p1 + 7)]) rfl ?_
            obtain ⟨hg, h⟩ := h
            refine Rn_iald rfl (ar_Lg_6 hp1 hK) hg ?_
            refine Rn_pure 2 (i' := 54) (L' := [some (2, o), some (2, p1), some (0, p2), some (0, g (p1 + 1) p2), some (0, g (p1 + 2) p2), some (0, g (p1 + 7) (3 * p2)), none]) (st' := [(2, p1)]) rfl ?_
            refine Rn_getR rfl (ob_Lg hp1 hK) (fx_Lg_6 hr hp1) (show (p1 + 7 : Int) ≠ -1 by have := hp1; unfold isLg at this; omega) ?_
            refine Rn_pure 5 (i' := 60) (L' := [some (2, o), some (2, p1), some (0, p2), some (0, g (p1 + 1) p2), some (0, g (p1 + 2) p2), some (0, g (p1 + 7) (3 * p2)), none]) (st' := [(0, 3 * p2 + 1), (2, p1 + 7)]) rfl ?_
            obtain ⟨hg, h⟩ := h
            refine Rn_iald rfl (ar_Lg_6 hp1 hK) hg ?_
            refine Rn_pure 6 (i' := 67) (L' := [some (2, o), some (2, p1), some (0, p2), some (0, g (p1 + 1) p2), some (0, g (p1 + 2) p2), some (0, g (p1 + 7) (3 * p2)), some (0, g (p1 + 7) (3 * p2 + 1))]) (st' := [(0, g (p1 + 7) (3 * p2 + 1)), (0, g (p1 + 7) (3 * p2)), (0, g (p1 + 2) p2), (0, g (p1 + 1) p2), (2, o)]) rfl ?_
            refine Rn_callI [(2, o), (0, g (p1 + 1) p2), (0, g (p1 + 2) p2), (0, g (p1 + 7) (3 * p2)), (0, g (p1 + 7) (3 * p2 + 1))] [] rfl rfl rfl rfl (ab_rvB_of rfl (ob_St ho hK)) ?_
            refine h.mono (fun x2 g' r' h => ?_)
            obtain ⟨hx, h⟩ := h
            replace hx := hx.symm
            subst hx
            obtain ⟨hx, h⟩ := h
            replace hx := hx.symm
            subst hx
            refine Rn_ifeq rfl (fun hc => ?_) (fun hc => ?_)
            · have h := h.1 hc
              refine Rn_pure 1 (i' := 72) (L' := [some (2, o), some (2, p1), some (0, p2), some (0, g (p1 + 1) p2), some (0, g (p1 + 2) p2), some (0, g (p1 + 7) (3 * p2)), some (0, g (p1 + 7) (3 * p2 + 1))]) (st' := [(0, 0)]) rfl ?_
              exact Rn_ret1 rfl h
            · have h := h.2 hc
              refine Rn_pure 2 (i' := 72) (L' := [some (2, o), some (2, p1), some (0, p2), some (0, g (p1 + 1) p2), some (0, g (p1 + 2) p2), some (0, g (p1 + 7) (3 * p2)), some (0, g (p1 + 7) (3 * p2 + 1))]) (st' := [(0, 3)]) rfl ?_
              exact Rn_ret1 rfl h
          · have h := h.2 hc
            refine Rn_pure 1 (i' := 45) (L' := [some (2, o), some (2, p1), some (0, p2), some (0, g (p1 + 1) p2), some (0, g (p1 + 2) p2), none, none]) (st' := [(0, 2)]) rfl ?_
            exact Rn_ret1 rfl h
    · have h := h.2 hc
      refine Rn_pure 1 (i' := 20) (L' := [some (2, o), some (2, p1), some (0, p2), some (0, g (p1 + 1) p2), some (0, g (p1 + 2) p2), none, none]) (st' := [(2, o)]) rfl ?_
      refine Rn_getR rfl (ob_St ho hK) (fx_St_3 hr ho) (show (o + 4 : Int) ≠ -1 by have := ho; unfold isSt at this; omega) ?_
      refine Rn_pure 1 (i' := 22) (L' := [some (2, o), some (2, p1), some (0, p2), some (0, g (p1 + 1) p2), some (0, g (p1 + 2) p2), none, none]) (st' := [(0, g (p1 + 2) p2), (2, o + 4)]) rfl ?_
      obtain ⟨hg, h⟩ := h
      refine Rn_iald rfl (ar_St_3 ho hK) hg ?_
      refine Rn_ifeq rfl (fun hc => ?_) (fun hc => ?_)
      · have h := h.1 hc
        refine Rn_pure 1 (i' := 27) (L' := [some (2, o), some (2, p1), some (0, p2), some (0, g (p1 + 1) p2), some (0, g (p1 + 2) p2), none, none]) (st' := [(0, 0)]) rfl ?_
        exact Rn_ret1 rfl h
      · have h := h.2 hc
        refine Rn_pure 2 (i' := 27) (L' := [some (2, o), some (2, p1), some (0, p2), some (0, g (p1 + 1) p2), some (0, g (p1 + 2) p2), none, none]) (st' := [(0, 2)]) rfl ?_
        exact Rn_ret1 rfl h
  · have h := h.2 hc
    refine Rn_pure 1 (i' := 6) (L' := [some (2, o), some (2, p1), some (0, p2), none, none, none, none]) (st' := [(0, 1)]) rfl ?_
    exact Rn_ret1 rfl h
-- EventLedger$State.isTooLittle (IIII)Z
theorem v_St_isTooLittle {K : Int} {S : Nat} {g r : ab_H} {o p1 p2 p3 p4 : Int} (P : Int → ab_H → ab_H → Prop) (hr : SI r) (hK : 186 ≤ K) (ho : isSt o) (h : ((wr p1 = 2 ∨ wr p1 = 6 → ((0 : Int) ≤ p2 ∧ (p2 : Int) < 8) ∧ ((0 : Int) ≤ p2 ∧ (p2 : Int) < 8) ∧ ((0 : Int) ≤ p2 ∧ (p2 : Int) < 8) ∧ ((wr (-(g (o + 3) p2)) ≤ wr (g (o + 1) p2 - p3 - p4 - (g (o + 2) p2)) → P 0 g r) ∧ (wr (g (o + 1) p2 - p3 - p4 - (g (o + 2) p2)) < wr (-(g (o + 3) p2)) → P 1 g r))) ∧ (wr p1 = 3 → ((0 : Int) ≤ p2 ∧ (p2 : Int) < 8) ∧ ((0 : Int) ≤ p2 ∧ (p2 : Int) < 8) ∧ ((wr (g (o + 2) p2 + p3) ≤ wr (g (o + 1) p2) → P 0 g r) ∧ (wr (g (o + 1) p2) < wr (g (o + 2) p2 + p3) → P 1 g r))) ∧ (wr p1 = 4 → ((0 : Int) ≤ p2 ∧ (p2 : Int) < 8) ∧ ((wr 0 ≤ wr (g (o + 2) p2 - p3) → P 0 g r) ∧ (wr (g (o + 2) p2 - p3) < wr 0 → P 1 g r))) ∧ (wr p1 = 5 → ((0 : Int) ≤ p2 ∧ (p2 : Int) < 8) ∧ ((¬ wr (g (o + 1) p2) = wr 0 → P 1 g r) ∧ (wr (g (o + 1) p2) = wr 0 → ((0 : Int) ≤ p2 ∧ (p2 : Int) < 8) ∧ ((wr (g (o + 2) p2) = wr 0 → P 0 g r) ∧ (¬ wr (g (o + 2) p2) = wr 0 → P 1 g r))))) ∧ (wr p1 < 2 ∨ 7 ≤ wr p1 → P 0 g r))) : ab_RI m_St_isTooLittle [(2, o), (0, p1), (0, p2), (0, p3), (0, p4)] K S g r P := by
  show ab_Rn m_St_isTooLittle 0 [some (2, o), some (0, p1), some (0, p2), some (0, p3), some (0, p4)] [] (K, S, g, r) (ab_Qi K S P)
  refine Rn_pure 1 (i' := 1) (L' := [some (2, o), some (0, p1), some (0, p2), some (0, p3), some (0, p4)]) (st' := [(0, p1)]) rfl ?_
  refine Rn_ts rfl ?_
  have ht2 : (wr p1 = 2 ∨ wr p1 = 6) → ab_Rn m_St_isTooLittle 2 [some (2, o), some (0, p1), some (0, p2), some (0, p3), some (0, p4)] [] (K, S, g, r) (ab_Qi K S P) := by
    intro hc
    have h := h.1 hc
    refine Rn_pure 1 (i' := 3) (L' := [some (2, o), some (0, p1), some (0, p2), some (0, p3), some (0, p4)]) (st' := [(2, o)]) rfl ?_
    refine Rn_getR rfl (ob_St ho hK) (fx_St_0 hr ho) (show (o + 1 : Int) ≠ -1 by have := ho; unfold isSt at this; omega) ?_
    refine Rn_pure 1 (i' := 5) (L' := [some (2, o), some (0, p1), some (0, p2), some (0, p3), some (0, p4)]) (st' := [(0, p2), (2, o + 1)]) rfl ?_
    obtain ⟨hg, h⟩ := h
    refine Rn_iald rfl (ar_St_0 ho hK) hg ?_
    refine Rn_pure 5 (i' := 11) (L' := [some (2, o), some (0, p1), some (0, p2), some (0, p3), some (0, p4)]) (st' := [(2, o), (0, g (o + 1) p2 - p3 - p4)]) rfl ?_
    refine Rn_getR rfl (ob_St ho hK) (fx_St_1 hr ho) (show (o + 2 : Int) ≠ -1 by have := ho; unfold isSt at this; omega) ?_
    refine Rn_pure 1 (i' := 13) (L' := [some (2, o), some (0, p1), some (0, p2), some (0, p3), some (0, p4)]) (st' := [(0, p2), (2, o + 2), (0, g (o + 1) p2 - p3 - p4)]) rfl ?_
    obtain ⟨hg, h⟩ := h
    refine Rn_iald rfl (ar_St_1 ho hK) hg ?_
    refine Rn_pure 2 (i' := 16) (L' := [some (2, o), some (0, p1), some (0, p2), some (0, p3), some (0, p4)]) (st' := [(2, o), (0, g (o + 1) p2 - p3 - p4 - (g (o + 2) p2))]) rfl ?_
    refine Rn_getR rfl (ob_St ho hK) (fx_St_2 hr ho) (show (o + 3 : Int) ≠ -1 by have := ho; unfold isSt at this; omega) ?_
    refine Rn_pure 1 (i' := 18) (L' := [some (2, o), some (0, p1), some (0, p2), some (0, p3), some (0, p4)]) (st' := [(0, p2), (2, o + 3), (0, g (o + 1) p2 - p3 - p4 - (g (o + 2) p2))]) rfl ?_
    obtain ⟨hg, h⟩ := h
    refine Rn_iald rfl (ar_St_2 ho hK) hg ?_
    refine Rn_pure 1 (i' := 20) (L' := [some (2, o), some (0, p1), some (0, p2), some (0, p3), some (0, p4)]) (st' := [(0, -(g (o + 3) p2)), (0, g (o + 1) p2 - p3 - p4 - (g (o + 2) p2))]) rfl ?_
    refine Rn_icge rfl (fun hc => ?_) (fun hc => ?_)
    · have h := h.1 hc
      refine Rn_pure 1 (i' := 24) (L' := [some (2, o), some (0, p1), some (0, p2), some (0, p3), some (0, p4)]) (st' := [(0, 0)]) rfl ?_
      exact Rn_ret2 rfl (by decide) h
    · have h := h.2 hc
      refine Rn_pure 2 (i' := 24) (L' := [some (2, o), some (0, p1), some (0, p2), some (0, p3), some (0, p4)]) (st' := [(0, 1)]) rfl ?_
      exact Rn_ret2 rfl (by decide) h
  have ht25 : (wr p1 = 3) → ab_Rn m_St_isTooLittle 25 [some (2, o), some (0, p1), some (0, p2), some (0, p3), some (0, p4)] [] (K, S, g, r) (ab_Qi K S P) := by
    intro hc
    have h := h.2.1 hc
    refine Rn_pure 1 (i' := 26) (L' := [some (2, o), some (0, p1), some (0, p2), some (0, p3), some (0, p4)]) (st' := [(2, o)]) rfl ?_
    refine Rn_getR rfl (ob_St ho hK) (fx_St_1 hr ho) (show (o + 2 : Int) ≠ -1 by have := ho; unfold isSt at this; omega) ?_
    refine Rn_pure 1 (i' := 28) (L' := [some (2, o), some (0, p1), some (0, p2), some (0, p3), some (0, p4)]) (st' := [(0, p2), (2, o + 2)]) rfl ?_
    obtain ⟨hg, h⟩ := h
    refine Rn_iald rfl (ar_St_1 ho hK) hg ?_
    refine Rn_pure 3 (i' := 32) (L' := [some (2, o), some (0, p1), some (0, p2), some (0, p3), some (0, p4)]) (st' := [(2, o), (0, g (o + 2) p2 + p3)]) rfl ?_
    refine Rn_getR rfl (ob_St ho hK) (fx_St_0 hr ho) (show (o + 1 : Int) ≠ -1 by have := ho; unfold isSt at this; omega) ?_
    refine Rn_pure 1 (i' := 34) (L' := [some (2, o), some (0, p1), some (0, p2), some (0, p3), some (0, p4)]) (st' := [(0, p2), (2, o + 1), (0, g (o + 2) p2 + p3)]) rfl ?_
    obtain ⟨hg, h⟩ := h
    refine Rn_iald rfl (ar_St_0 ho hK) hg ?_
    refine Rn_icle rfl (fun hc => ?_) (fun hc => ?_)
    · have h := h.1 hc
      refine Rn_pure 1 (i' := 39) (L' := [some (2, o), some (0, p1), some (0, p2), some (0, p3), some (0, p4)]) (st' := [(0, 0)]) rfl ?_
      exact Rn_ret2 rfl (by decide) h
    · have h := h.2 hc
      refine Rn_pure 2 (i' := 39) (L' := [some (2, o), some (0, p1), some (0, p2), some (0, p3), some (0, p4)]) (st' := [(0, 1)]) rfl ?_
      exact Rn_ret2 rfl (by decide) h
  have ht40 : (wr p1 = 4) → ab_Rn m_St_isTooLittle 40 [some (2, o), some (0, p1), some (0, p2), some (0, p3), some (0, p4)] [] (K, S, g, r) (ab_Qi K S P) := by
    intro hc
    have h := h.2.2.1 hc
    refine Rn_pure 1 (i' := 41) (L' := [some (2, o), some (0, p1), some (0, p2), some (0, p3), some (0, p4)]) (st' := [(2, o)]) rfl ?_
    refine Rn_getR rfl (ob_St ho hK) (fx_St_1 hr ho) (show (o + 2 : Int) ≠ -1 by have := ho; unfold isSt at this; omega) ?_
    refine Rn_pure 1 (i' := 43) (L' := [some (2, o), some (0, p1), some (0, p2), some (0, p3), some (0, p4)]) (st' := [(0, p2), (2, o + 2)]) rfl ?_
    obtain ⟨hg, h⟩ := h
    refine Rn_iald rfl (ar_St_1 ho hK) hg ?_
    refine Rn_pure 2 (i' := 46) (L' := [some (2, o), some (0, p1), some (0, p2), some (0, p3), some (0, p4)]) (st' := [(0, g (o + 2) p2 - p3)]) rfl ?_
    refine Rn_ifge rfl (fun hc => ?_) (fun hc => ?_)
    · have h := h.1 hc
      refine Rn_pure 1 (i' := 50) (L' := [some (2, o), some (0, p1), some (0, p2), some (0, p3), some (0, p4)]) (st' := [(0, 0)]) rfl ?_
      exact Rn_ret2 rfl (by decide) h
    · have h := h.2 hc
      refine Rn_pure 2 (i' := 50) (L' := [some (2, o), some (0, p1), some (0, p2), some (0, p3), some (0, p4)]) (st' := [(0, 1)]) rfl ?_
      exact Rn_ret2 rfl (by decide) h
  have ht51 : (wr p1 = 5) → ab_Rn m_St_isTooLittle 51 [some (2, o), some (0, p1), some (0, p2), some (0, p3), some (0, p4)] [] (K, S, g, r) (ab_Qi K S P) := by
    intro hc
    have h := h.2.2.2.1 hc
    refine Rn_pure 1 (i' := 52) (L' := [some (2, o), some (0, p1), some (0, p2), some (0, p3), some (0, p4)]) (st' := [(2, o)]) rfl ?_
    refine Rn_getR rfl (ob_St ho hK) (fx_St_0 hr ho) (show (o + 1 : Int) ≠ -1 by have := ho; unfold isSt at this; omega) ?_
    refine Rn_pure 1 (i' := 54) (L' := [some (2, o), some (0, p1), some (0, p2), some (0, p3), some (0, p4)]) (st' := [(0, p2), (2, o + 1)]) rfl ?_
    obtain ⟨hg, h⟩ := h
    refine Rn_iald rfl (ar_St_0 ho hK) hg ?_
    refine Rn_ifne rfl (fun hc => ?_) (fun hc => ?_)
    · have h := h.1 hc
      refine Rn_pure 2 (i' := 64) (L' := [some (2, o), some (0, p1), some (0, p2), some (0, p3), some (0, p4)]) (st' := [(0, 1)]) rfl ?_
      exact Rn_ret2 rfl (by decide) h
    · have h := h.2 hc
      refine Rn_pure 1 (i' := 57) (L' := [some (2, o), some (0, p1), some (0, p2), some (0, p3), some (0, p4)]) (st' := [(2, o)]) rfl ?_
      refine Rn_getR rfl (ob_St ho hK) (fx_St_1 hr ho) (show (o + 2 : Int) ≠ -1 by have := ho; unfold isSt at this; omega) ?_
      refine Rn_pure 1 (i' := 59) (L' := [some (2, o), some (0, p1), some (0, p2), some (0, p3), some (0, p4)]) (st' := [(0, p2), (2, o + 2)]) rfl ?_
      obtain ⟨hg, h⟩ := h
      refine Rn_iald rfl (ar_St_1 ho hK) hg ?_
      refine Rn_ifeq rfl (fun hc => ?_) (fun hc => ?_)
      · have h := h.1 hc
        refine Rn_pure 1 (i' := 64) (L' := [some (2, o), some (0, p1), some (0, p2), some (0, p3), some (0, p4)]) (st' := [(0, 0)]) rfl ?_
        exact Rn_ret2 rfl (by decide) h
      · have h := h.2 hc
        refine Rn_pure 2 (i' := 64) (L' := [some (2, o), some (0, p1), some (0, p2), some (0, p3), some (0, p4)]) (st' := [(0, 1)]) rfl ?_
        exact Rn_ret2 rfl (by decide) h
  have htd : (wr p1 < 2 ∨ 7 ≤ wr p1) → ab_Rn m_St_isTooLittle 65 [some (2, o), some (0, p1), some (0, p2), some (0, p3), some (0, p4)] [] (K, S, g, r) (ab_Qi K S P) := by
    intro hc
    have h := h.2.2.2.2 hc
    refine Rn_pure 1 (i' := 66) (L' := [some (2, o), some (0, p1), some (0, p2), some (0, p3), some (0, p4)]) (st' := [(0, 0)]) rfl ?_
    exact Rn_ret2 rfl (by decide) h
  have hsp : wr p1 < 2 ∨ 7 ≤ wr p1 ∨ wr p1 = 2 ∨ wr p1 = 3 ∨ wr p1 = 4 ∨ wr p1 = 5 ∨ wr p1 = 6 := by omega
  rcases hsp with hc | hc | hc | hc | hc | hc | hc
  · rw [ab_ts_out (hT := (rfl : ab_nth ab_tsL 11 = some (2, 65, [2, 25, 40, 51, 2]))) rfl (Or.inl hc)]; exact htd (by simp only [hc, true_or, or_true])
  · rw [ab_ts_out (hT := (rfl : ab_nth ab_tsL 11 = some (2, 65, [2, 25, 40, 51, 2]))) rfl (Or.inr hc)]; exact htd (by simp only [hc, true_or, or_true])
  · rw [ab_ts_in (j := 0) (hT := (rfl : ab_nth ab_tsL 11 = some (2, 65, [2, 25, 40, 51, 2]))) (by rw [hc]; rfl) rfl]; exact ht2 (by simp only [hc, true_or, or_true])
  · rw [ab_ts_in (j := 1) (hT := (rfl : ab_nth ab_tsL 11 = some (2, 65, [2, 25, 40, 51, 2]))) (by rw [hc]; rfl) rfl]; exact ht25 (by simp only [hc, true_or, or_true])
  · rw [ab_ts_in (j := 2) (hT := (rfl : ab_nth ab_tsL 11 = some (2, 65, [2, 25, 40, 51, 2]))) (by rw [hc]; rfl) rfl]; exact ht40 (by simp only [hc, true_or, or_true])
  · rw [ab_ts_in (j := 3) (hT := (rfl : ab_nth ab_tsL 11 = some (2, 65, [2, 25, 40, 51, 2]))) (by rw [hc]; rfl) rfl]; exact ht51 (by simp only [hc, true_or, or_true])
  · rw [ab_ts_in (j := 4) (hT := (rfl : ab_nth ab_tsL 11 = some (2, 65, [2, 25, 40, 51, 2]))) (by rw [hc]; rfl) rfl]; exact ht2 (by simp only [hc, true_or, or_true])
-- EventLedger$State.change (LEventLedger$Log;I)V
theorem v_St_change {K : Int} {S : Nat} {g r : ab_H} {o p1 p2 : Int} (P : ab_H → ab_H → Prop) (hr : SI r) (hK : 186 ≤ K) (ho : isSt o) (hp1 : isLg p1) (h : ((0 : Int) ≤ p2 ∧ (p2 : Int) < 120) ∧ ((0 : Int) ≤ 3 * p2 ∧ (3 * p2 : Int) < 360) ∧ ((0 : Int) ≤ 3 * p2 + 1 ∧ (3 * p2 + 1 : Int) < 360) ∧ ((0 : Int) ≤ p2 ∧ (p2 : Int) < 120) ∧ ((wr (g (p1 + 1) p2) = 0 → ((0 : Int) ≤ g (p1 + 2) p2 ∧ (g (p1 + 2) p2 : Int) < 8) ∧ ∀ g1, g1 = ab_up g (o + 4) (g (p1 + 2) p2) 1 → ((0 : Int) ≤ g (p1 + 2) p2 ∧ (g (p1 + 2) p2 : Int) < 8) ∧ ∀ g2, g2 = ab_up g1 (o + 3) (g (p1 + 2) p2) (g (p1 + 7) (3 * p2)) → ((0 : Int) ≤ g (p1 + 2) p2 ∧ (g (p1 + 2) p2 : Int) < 8) ∧ ∀ g3, g3 = ab_up g2 (o + 1) (g (p1 + 2) p2) 0 → ((0 : Int) ≤ g (p1 + 2) p2 ∧ (g (p1 + 2) p2 : Int) < 8) ∧ ∀ g4, g4 = ab_up g3 (o + 2) (g (p1 + 2) p2) 0 → P g4 r) ∧ (wr (g (p1 + 1) p2) = 1 → ((0 : Int) ≤ g (p1 + 2) p2 ∧ (g (p1 + 2) p2 : Int) < 8) ∧ ((0 : Int) ≤ g (p1 + 2) p2 ∧ (g (p1 + 2) p2 : Int) < 8) ∧ ∀ g5, g5 = ab_up g (o + 1) (g (p1 + 2) p2) (g (o + 1) (g (p1 + 2) p2) + (g (p1 + 7) (3 * p2) - (g (p1 + 7) (3 * p2 + 1)))) → P g5 r) ∧ (wr (g (p1 + 1) p2) = 2 → ((0 : Int) ≤ g (p1 + 2) p2 ∧ (g (p1 + 2) p2 : Int) < 8) ∧ ((0 : Int) ≤ g (p1 + 2) p2 ∧ (g (p1 + 2) p2 : Int) < 8) ∧ ∀ g6, g6 = ab_up g (o + 1) (g (p1 + 2) p2) (g (o + 1) (g (p1 + 2) p2) - (g (p1 + 7) (3 * p2) + (g (p1 + 7) (3 * p2 + 1)))) → P g6 r) ∧ (wr (g (p1 + 1) p2) = 3 → ((0 : Int) ≤ g (p1 + 2) p2 ∧ (g (p1 + 2) p2 : Int) < 8) ∧ ((0 : Int) ≤ g (p1 + 2) p2 ∧ (g (p1 + 2) p2 : Int) < 8) ∧ ∀ g7, g7 = ab_up g (o + 2) (g (p1 + 2) p2) (g (o + 2) (g (p1 + 2) p2) + (g (p1 + 7) (3 * p2))) → P g7 r) ∧ (wr (g (p1 + 1) p2) = 4 → ((0 : Int) ≤ g (p1 + 2) p2 ∧ (g (p1 + 2) p2 : Int) < 8) ∧ ((0 : Int) ≤ g (p1 + 2) p2 ∧ (g (p1 + 2) p2 : Int) < 8) ∧ ∀ g8, g8 = ab_up g (o + 2) (g (p1 + 2) p2) (g (o + 2) (g (p1 + 2) p2) - (g (p1 + 7) (3 * p2))) → P g8 r) ∧ (wr (g (p1 + 1) p2) = 6 → ((0 : Int) ≤ g (p1 + 2) p2 ∧ (g (p1 + 2) p2 : Int) < 8) ∧ ((0 : Int) ≤ g (p1 + 2) p2 ∧ (g (p1 + 2) p2 : Int) < 8) ∧ ∀ g9, g9 = ab_up g (o + 1) (g (p1 + 2) p2) (g (o + 1) (g (p1 + 2) p2) - (g (p1 + 7) (3 * p2) + (g (p1 + 7) (3 * p2 + 1)))) → ((0 : Int) ≤ p2 ∧ (p2 : Int) < 120) ∧ ((0 : Int) ≤ g9 (p1 + 3) p2 ∧ (g9 (p1 + 3) p2 : Int) < 8) ∧ ((0 : Int) ≤ g9 (p1 + 3) p2 ∧ (g9 (p1 + 3) p2 : Int) < 8) ∧ ∀ g10, g10 = ab_up g9 (o + 1) (g9 (p1 + 3) p2) (g9 (o + 1) (g9 (p1 + 3) p2) + (g (p1 + 7) (3 * p2))) → P g10 r) ∧ (wr (g (p1 + 1) p2) < 0 ∨ 7 ≤ wr (g (p1 + 1) p2) ∨ wr (g (p1 + 1) p2) = 5 → ((0 : Int) ≤ g (p1 + 2) p2 ∧ (g (p1 + 2) p2 : Int) < 8) ∧ ∀ g11, g11 = ab_up g (o + 4) (g (p1 + 2) p2) 0 → P g11 r))) : ab_RV m_St_change [(2, o), (2, p1), (0, p2)] K S g r P := by
  show ab_Rn m_St_change 0 [some (2, o), some (2, p1), some (0, p2), none, none, none] [] (K, S, g, r) (ab_Qv K S P)
  refine Rn_pure 1 (i' := 1) (L' := [some (2, o), some (2, p1), some (0, p2), none, none, none]) (st' := [(2, p1)]) rfl ?_
  refine Rn_getR rfl (ob_Lg hp1 hK) (fx_Lg_1 hr hp1) (show (p1 + 2 : Int) ≠ -1 by have := hp1; unfold isLg at this; omega) ?_
  refine Rn_pure 1 (i' := 3) (L' := [some (2, o), some (2, p1), some (0, p2), none, none, none]) (st' := [(0, p2), (2, p1 + 2)]) rfl ?_
  obtain ⟨hg, h⟩ := h
  refine Rn_iald rfl (ar_Lg_1 hp1 hK) hg ?_
  refine Rn_pure 2 (i' := 6) (L' := [some (2, o), some (2, p1), some (0, p2), some (0, g (p1 + 2) p2), none, none]) (st' := [(2, p1)]) rfl ?_
  refine Rn_getR rfl (ob_Lg hp1 hK) (fx_Lg_6 hr hp1) (show (p1 + 7 : Int) ≠ -1 by have := hp1; unfold isLg at this; omega) ?_
  refine Rn_pure 3 (i' := 10) (L' := [some (2, o), some (2, p1), some (0, p2), some (0, g (p1 + 2) p2), none, none]) (st' := [(0, 3 * p2), (2, p1 + 7)]) rfl ?_
  obtain ⟨hg, h⟩ := h
  refine Rn_iald rfl (ar_Lg_6 hp1 hK) hg ?_
  refine Rn_pure 2 (i' := 13) (L' := [some (2, o), some (2, p1), some (0, p2), some (0, g (p1 + 2) p2), some (0, g (p1 + 7) (3 * p2)), none]) (st' := [(2, p1)]) rfl ?_
  refine Rn_getR rfl (ob_Lg hp1 hK) (fx_Lg_6 hr hp1) (show (p1 + 7 : Int) ≠ -1 by have := hp1; unfold isLg at this; omega) ?_
  refine Rn_pure 5 (i' := 19) (L' := [some (2, o), some (2, p1), some (0, p2), some (0, g (p1 + 2) p2), some (0, g (p1 + 7) (3 * p2)), none]) (st' := [(0, 3 * p2 + 1), (2, p1 + 7)]) rfl ?_
  obtain ⟨hg, h⟩ := h
  refine Rn_iald rfl (ar_Lg_6 hp1 hK) hg ?_
  refine Rn_pure 2 (i' := 22) (L' := [some (2, o), some (2, p1), some (0, p2), some (0, g (p1 + 2) p2), some (0, g (p1 + 7) (3 * p2)), some (0, g (p1 + 7) (3 * p2 + 1))]) (st' := [(2, p1)]) rfl ?_
  refine Rn_getR rfl (ob_Lg hp1 hK) (fx_Lg_0 hr hp1) (show (p1 + 1 : Int) ≠ -1 by have := hp1; unfold isLg at this; omega) ?_
  refine Rn_pure 1 (i' := 24) (L' := [some (2, o), some (2, p1), some (0, p2), some (0, g (p1 + 2) p2), some (0, g (p1 + 7) (3 * p2)), some (0, g (p1 + 7) (3 * p2 + 1))]) (st' := [(0, p2), (2, p1 + 1)]) rfl ?_
  obtain ⟨hg, h⟩ := h
  refine Rn_iald rfl (ar_Lg_0 hp1 hK) hg ?_
  refine Rn_ts rfl ?_
  have ht26 : (wr (g (p1 + 1) p2) = 0) → ab_Rn m_St_change 26 [some (2, o), some (2, p1), some (0, p2), some (0, g (p1 + 2) p2), some (0, g (p1 + 7) (3 * p2)), some (0, g (p1 + 7) (3 * p2 + 1))] [] (K, S, g, r) (ab_Qv K S P) := by
    intro hc
    have h := h.1 hc
    refine Rn_pure 1 (i' := 27) (L' := [some (2, o), some (2, p1), some (0, p2), some (0, g (p1 + 2) p2), some (0, g (p1 + 7) (3 * p2)), some (0, g (p1 + 7) (3 * p2 + 1))]) (st' := [(2, o)]) rfl ?_
    refine Rn_getR rfl (ob_St ho hK) (fx_St_3 hr ho) (show (o + 4 : Int) ≠ -1 by have := ho; unfold isSt at this; omega) ?_
    refine Rn_pure 2 (i' := 30) (L' := [some (2, o), some (2, p1), some (0, p2), some (0, g (p1 + 2) p2), some (0, g (p1 + 7) (3 * p2)), some (0, g (p1 + 7) (3 * p2 + 1))]) (st' := [(0, 1), (0, g (p1 + 2) p2), (2, o + 4)]) rfl ?_
    obtain ⟨hg, h⟩ := h
    refine Rn_iast rfl (ar_St_3 ho hK) hg (fun g1 he_g1 => ?_)
    have h := h g1 he_g1
    refine Rn_pure 1 (i' := 32) (L' := [some (2, o), some (2, p1), some (0, p2), some (0, g (p1 + 2) p2), some (0, g (p1 + 7) (3 * p2)), some (0, g (p1 + 7) (3 * p2 + 1))]) (st' := [(2, o)]) rfl ?_
    refine Rn_getR rfl (ob_St ho hK) (fx_St_2 hr ho) (show (o + 3 : Int) ≠ -1 by have := ho; unfold isSt at this; omega) ?_
    refine Rn_pure 2 (i' := 35) (L' := [some (2, o), some (2, p1), some (0, p2), some (0, g (p1 + 2) p2), some (0, g (p1 + 7) (3 * p2)), some (0, g (p1 + 7) (3 * p2 + 1))]) (st' := [(0, g (p1 + 7) (3 * p2)), (0, g (p1 + 2) p2), (2, o + 3)]) rfl ?_
    obtain ⟨hg, h⟩ := h
    refine Rn_iast rfl (ar_St_2 ho hK) hg (fun g2 he_g2 => ?_)
    have h := h g2 he_g2
    refine Rn_pure 1 (i' := 37) (L' := [some (2, o), some (2, p1), some (0, p2), some (0, g (p1 + 2) p2), some (0, g (p1 + 7) (3 * p2)), some (0, g (p1 + 7) (3 * p2 + 1))]) (st' := [(2, o)]) rfl ?_
    refine Rn_getR rfl (ob_St ho hK) (fx_St_0 hr ho) (show (o + 1 : Int) ≠ -1 by have := ho; unfold isSt at this; omega) ?_
    refine Rn_pure 2 (i' := 40) (L' := [some (2, o), some (2, p1), some (0, p2), some (0, g (p1 + 2) p2), some (0, g (p1 + 7) (3 * p2)), some (0, g (p1 + 7) (3 * p2 + 1))]) (st' := [(0, 0), (0, g (p1 + 2) p2), (2, o + 1)]) rfl ?_
    obtain ⟨hg, h⟩ := h
    refine Rn_iast rfl (ar_St_0 ho hK) hg (fun g3 he_g3 => ?_)
    have h := h g3 he_g3
    refine Rn_pure 1 (i' := 42) (L' := [some (2, o), some (2, p1), some (0, p2), some (0, g (p1 + 2) p2), some (0, g (p1 + 7) (3 * p2)), some (0, g (p1 + 7) (3 * p2 + 1))]) (st' := [(2, o)]) rfl ?_
    refine Rn_getR rfl (ob_St ho hK) (fx_St_1 hr ho) (show (o + 2 : Int) ≠ -1 by have := ho; unfold isSt at this; omega) ?_
    refine Rn_pure 2 (i' := 45) (L' := [some (2, o), some (2, p1), some (0, p2), some (0, g (p1 + 2) p2), some (0, g (p1 + 7) (3 * p2)), some (0, g (p1 + 7) (3 * p2 + 1))]) (st' := [(0, 0), (0, g (p1 + 2) p2), (2, o + 2)]) rfl ?_
    obtain ⟨hg, h⟩ := h
    refine Rn_iast rfl (ar_St_1 ho hK) hg (fun g4 he_g4 => ?_)
    have h := h g4 he_g4
    refine Rn_pure 1 (i' := 114) (L' := [some (2, o), some (2, p1), some (0, p2), some (0, g (p1 + 2) p2), some (0, g (p1 + 7) (3 * p2)), some (0, g (p1 + 7) (3 * p2 + 1))]) (st' := []) rfl ?_
    exact Rn_ret0 rfl h
  have ht47 : (wr (g (p1 + 1) p2) = 1) → ab_Rn m_St_change 47 [some (2, o), some (2, p1), some (0, p2), some (0, g (p1 + 2) p2), some (0, g (p1 + 7) (3 * p2)), some (0, g (p1 + 7) (3 * p2 + 1))] [] (K, S, g, r) (ab_Qv K S P) := by
    intro hc
    have h := h.2.1 hc
    refine Rn_pure 1 (i' := 48) (L' := [some (2, o), some (2, p1), some (0, p2), some (0, g (p1 + 2) p2), some (0, g (p1 + 7) (3 * p2)), some (0, g (p1 + 7) (3 * p2 + 1))]) (st' := [(2, o)]) rfl ?_
    refine Rn_getR rfl (ob_St ho hK) (fx_St_0 hr ho) (show (o + 1 : Int) ≠ -1 by have := ho; unfold isSt at this; omega) ?_
    refine Rn_pure 2 (i' := 51) (L' := [some (2, o), some (2, p1), some (0, p2), some (0, g (p1 + 2) p2), some (0, g (p1 + 7) (3 * p2)), some (0, g (p1 + 7) (3 * p2 + 1))]) (st' := [(0, g (p1 + 2) p2), (2, o + 1), (0, g (p1 + 2) p2), (2, o + 1)]) rfl ?_
    obtain ⟨hg, h⟩ := h
    refine Rn_iald rfl (ar_St_0 ho hK) hg ?_
    refine Rn_pure 4 (i' := 56) (L' := [some (2, o), some (2, p1), some (0, p2), some (0, g (p1 + 2) p2), some (0, g (p1 + 7) (3 * p2)), some (0, g (p1 + 7) (3 * p2 + 1))]) (st' := [(0, g (o + 1) (g (p1 + 2) p2) + (g (p1 + 7) (3 * p2) - (g (p1 + 7) (3 * p2 + 1)))), (0, g (p1 + 2) p2), (2, o + 1)]) rfl ?_
    obtain ⟨hg, h⟩ := h
    refine Rn_iast rfl (ar_St_0 ho hK) hg (fun g5 he_g5 => ?_)
    have h := h g5 he_g5
    refine Rn_pure 1 (i' := 114) (L' := [some (2, o), some (2, p1), some (0, p2), some (0, g (p1 + 2) p2), some (0, g (p1 + 7) (3 * p2)), some (0, g (p1 + 7) (3 * p2 + 1))]) (st' := []) rfl ?_
    exact Rn_ret0 rfl h
  have ht58 : (wr (g (p1 + 1) p2) = 2) → ab_Rn m_St_change 58 [some (2, o), some (2, p1), some (0, p2), some (0, g (p1 + 2) p2), some (0, g (p1 + 7) (3 * p2)), some (0, g (p1 + 7) (3 * p2 + 1))] [] (K, S, g, r) (ab_Qv K S P) := by
    intro hc
    have h := h.2.2.1 hc
    refine Rn_pure 1 (i' := 59) (L' := [some (2, o), some (2, p1), some (0, p2), some (0, g (p1 + 2) p2), some (0, g (p1 + 7) (3 * p2)), some (0, g (p1 + 7) (3 * p2 + 1))]) (st' := [(2, o)]) rfl ?_
    refine Rn_getR rfl (ob_St ho hK) (fx_St_0 hr ho) (show (o + 1 : Int) ≠ -1 by have := ho; unfold isSt at this; omega) ?_
    refine Rn_pure 2 (i' := 62) (L' := [some (2, o), some (2, p1), some (0, p2), some (0, g (p1 + 2) p2), some (0, g (p1 + 7) (3 * p2)), some (0, g (p1 + 7) (3 * p2 + 1))]) (st' := [(0, g (p1 + 2) p2), (2, o + 1), (0, g (p1 + 2) p2), (2, o + 1)]) rfl ?_
    obtain ⟨hg, h⟩ := h
    refine Rn_iald rfl (ar_St_0 ho hK) hg ?_
    refine Rn_pure 4 (i' := 67) (L' := [some (2, o), some (2, p1), some (0, p2), some (0, g (p1 + 2) p2), some (0, g (p1 + 7) (3 * p2)), some (0, g (p1 + 7) (3 * p2 + 1))]) (st' := [(0, g (o + 1) (g (p1 + 2) p2) - (g (p1 + 7) (3 * p2) + (g (p1 + 7) (3 * p2 + 1)))), (0, g (p1 + 2) p2), (2, o + 1)]) rfl ?_
    obtain ⟨hg, h⟩ := h
    refine Rn_iast rfl (ar_St_0 ho hK) hg (fun g6 he_g6 => ?_)
    have h := h g6 he_g6
    refine Rn_pure 1 (i' := 114) (L' := [some (2, o), some (2, p1), some (0, p2), some (0, g (p1 + 2) p2), some (0, g (p1 + 7) (3 * p2)), some (0, g (p1 + 7) (3 * p2 + 1))]) (st' := []) rfl ?_
    exact Rn_ret0 rfl h
  have ht69 : (wr (g (p1 + 1) p2) = 3) → ab_Rn m_St_change 69 [some (2, o), some (2, p1), some (0, p2), some (0, g (p1 + 2) p2), some (0, g (p1 + 7) (3 * p2)), some (0, g (p1 + 7) (3 * p2 + 1))] [] (K, S, g, r) (ab_Qv K S P) := by
    intro hc
    have h := h.2.2.2.1 hc
    refine Rn_pure 1 (i' := 70) (L' := [some (2, o), some (2, p1), some (0, p2), some (0, g (p1 + 2) p2), some (0, g (p1 + 7) (3 * p2)), some (0, g (p1 + 7) (3 * p2 + 1))]) (st' := [(2, o)]) rfl ?_
    refine Rn_getR rfl (ob_St ho hK) (fx_St_1 hr ho) (show (o + 2 : Int) ≠ -1 by have := ho; unfold isSt at this; omega) ?_
    refine Rn_pure 2 (i' := 73) (L' := [some (2, o), some (2, p1), some (0, p2), some (0, g (p1 + 2) p2), some (0, g (p1 + 7) (3 * p2)), some (0, g (p1 + 7) (3 * p2 + 1))]) (st' := [(0, g (p1 + 2) p2), (2, o + 2), (0, g (p1 + 2) p2), (2, o + 2)]) rfl ?_
    obtain ⟨hg, h⟩ := h
    refine Rn_iald rfl (ar_St_1 ho hK) hg ?_
    refine Rn_pure 2 (i' := 76) (L' := [some (2, o), some (2, p1), some (0, p2), some (0, g (p1 + 2) p2), some (0, g (p1 + 7) (3 * p2)), some (0, g (p1 + 7) (3 * p2 + 1))]) (st' := [(0, g (o + 2) (g (p1 + 2) p2) + (g (p1 + 7) (3 * p2))), (0, g (p1 + 2) p2), (2, o + 2)]) rfl ?_
    obtain ⟨hg, h⟩ := h
    refine Rn_iast rfl (ar_St_1 ho hK) hg (fun g7 he_g7 => ?_)
    have h := h g7 he_g7
    refine Rn_pure 1 (i' := 114) (L' := [some (2, o), some (2, p1), some (0, p2), some (0, g (p1 + 2) p2), some (0, g (p1 + 7) (3 * p2)), some (0, g (p1 + 7) (3 * p2 + 1))]) (st' := []) rfl ?_
    exact Rn_ret0 rfl h
  have ht78 : (wr (g (p1 + 1) p2) = 4) → ab_Rn m_St_change 78 [some (2, o), some (2, p1), some (0, p2), some (0, g (p1 + 2) p2), some (0, g (p1 + 7) (3 * p2)), some (0, g (p1 + 7) (3 * p2 + 1))] [] (K, S, g, r) (ab_Qv K S P) := by
    intro hc
    have h := h.2.2.2.2.1 hc
    refine Rn_pure 1 (i' := 79) (L' := [some (2, o), some (2, p1), some (0, p2), some (0, g (p1 + 2) p2), some (0, g (p1 + 7) (3 * p2)), some (0, g (p1 + 7) (3 * p2 + 1))]) (st' := [(2, o)]) rfl ?_
    refine Rn_getR rfl (ob_St ho hK) (fx_St_1 hr ho) (show (o + 2 : Int) ≠ -1 by have := ho; unfold isSt at this; omega) ?_
    refine Rn_pure 2 (i' := 82) (L' := [some (2, o), some (2, p1), some (0, p2), some (0, g (p1 + 2) p2), some (0, g (p1 + 7) (3 * p2)), some (0, g (p1 + 7) (3 * p2 + 1))]) (st' := [(0, g (p1 + 2) p2), (2, o + 2), (0, g (p1 + 2) p2), (2, o + 2)]) rfl ?_
    obtain ⟨hg, h⟩ := h
    refine Rn_iald rfl (ar_St_1 ho hK) hg ?_
    refine Rn_pure 2 (i' := 85) (L' := [some (2, o), some (2, p1), some (0, p2), some (0, g (p1 + 2) p2), some (0, g (p1 + 7) (3 * p2)), some (0, g (p1 + 7) (3 * p2 + 1))]) (st' := [(0, g (o + 2) (g (p1 + 2) p2) - (g (p1 + 7) (3 * p2))), (0, g (p1 + 2) p2), (2, o + 2)]) rfl ?_
    obtain ⟨hg, h⟩ := h
    refine Rn_iast rfl (ar_St_1 ho hK) hg (fun g8 he_g8 => ?_)
    have h := h g8 he_g8
    refine Rn_pure 1 (i' := 114) (L' := [some (2, o), some (2, p1), some (0, p2), some (0, g (p1 + 2) p2), some (0, g (p1 + 7) (3 * p2)), some (0, g (p1 + 7) (3 * p2 + 1))]) (st' := []) rfl ?_
    exact Rn_ret0 rfl h
  have ht87 : (wr (g (p1 + 1) p2) = 6) → ab_Rn m_St_change 87 [some (2, o), some (2, p1), some (0, p2), some (0, g (p1 + 2) p2), some (0, g (p1 + 7) (3 * p2)), some (0, g (p1 + 7) (3 * p2 + 1))] [] (K, S, g, r) (ab_Qv K S P) := by
    intro hc
    have h := h.2.2.2.2.2.1 hc
    refine Rn_pure 1 (i' := 88) (L' := [some (2, o), some (2, p1), some (0, p2), some (0, g (p1 + 2) p2), some (0, g (p1 + 7) (3 * p2)), some (0, g (p1 + 7) (3 * p2 + 1))]) (st' := [(2, o)]) rfl ?_
    refine Rn_getR rfl (ob_St ho hK) (fx_St_0 hr ho) (show (o + 1 : Int) ≠ -1 by have := ho; unfold isSt at this; omega) ?_
    refine Rn_pure 2 (i' := 91) (L' := [some (2, o), some (2, p1), some (0, p2), some (0, g (p1 + 2) p2), some (0, g (p1 + 7) (3 * p2)), some (0, g (p1 + 7) (3 * p2 + 1))]) (st' := [(0, g (p1 + 2) p2), (2, o + 1), (0, g (p1 + 2) p2), (2, o + 1)]) rfl ?_
    obtain ⟨hg, h⟩ := h
    refine Rn_iald rfl (ar_St_0 ho hK) hg ?_
    refine Rn_pure 4 (i' := 96) (L' := [some (2, o), some (2, p1), some (0, p2), some (0, g (p1 + 2) p2), some (0, g (p1 + 7) (3 * p2)), some (0, g (p1 + 7) (3 * p2 + 1))]) (st' := [(0, g (o + 1) (g (p1 + 2) p2) - (g (p1 + 7) (3 * p2) + (g (p1 + 7) (3 * p2 + 1)))), (0, g (p1 + 2) p2), (2, o + 1)]) rfl ?_
    obtain ⟨hg, h⟩ := h
    refine Rn_iast rfl (ar_St_0 ho hK) hg (fun g9 he_g9 => ?_)
    have h := h g9 he_g9
    refine Rn_pure 1 (i' := 98) (L' := [some (2, o), some (2, p1), some (0, p2), some (0, g (p1 + 2) p2), some (0, g (p1 + 7) (3 * p2)), some (0, g (p1 + 7) (3 * p2 + 1))]) (st' := [(2, o)]) rfl ?_
    refine Rn_getR rfl (ob_St ho hK) (fx_St_0 hr ho) (show (o + 1 : Int) ≠ -1 by have := ho; unfold isSt at this; omega) ?_
    refine Rn_pure 1 (i' := 100) (L' := [some (2, o), some (2, p1), some (0, p2), some (0, g (p1 + 2) p2), some (0, g (p1 + 7) (3 * p2)), some (0, g (p1 + 7) (3 * p2 + 1))]) (st' := [(2, p1), (2, o + 1)]) rfl ?_
    refine Rn_getR rfl (ob_Lg hp1 hK) (fx_Lg_2 hr hp1) (show (p1 + 3 : Int) ≠ -1 by have := hp1; unfold isLg at this; omega) ?_
    refine Rn_pure 1 (i' := 102) (L' := [some (2, o), some (2, p1), some (0, p2), some (0, g (p1 + 2) p2), some (0, g (p1 + 7) (3 * p2)), some (0, g (p1 + 7) (3 * p2 + 1))]) (st' := [(0, p2), (2, p1 + 3), (2, o + 1)]) rfl ?_
    obtain ⟨hg, h⟩ := h
    refine Rn_iald rfl (ar_Lg_2 hp1 hK) hg ?_
    refine Rn_pure 1 (i' := 104) (L' := [some (2, o), some (2, p1), some (0, p2), some (0, g (p1 + 2) p2), some (0, g (p1 + 7) (3 * p2)), some (0, g (p1 + 7) (3 * p2 + 1))]) (st' := [(0, g9 (p1 + 3) p2), (2, o + 1), (0, g9 (p1 + 3) p2), (2, o + 1)]) rfl ?_
    obtain ⟨hg, h⟩ := h
    refine Rn_iald rfl (ar_St_0 ho hK) hg ?_
    refine Rn_pure 2 (i' := 107) (L' := [some (2, o), some (2, p1), some (0, p2), some (0, g (p1 + 2) p2), some (0, g (p1 + 7) (3 * p2)), some (0, g (p1 + 7) (3 * p2 + 1))]) (st' := [(0, g9 (o + 1) (g9 (p1 + 3) p2) + (g (p1 + 7) (3 * p2))), (0, g9 (p1 + 3) p2), (2, o + 1)]) rfl ?_
    obtain ⟨hg, h⟩ := h
    refine Rn_iast rfl (ar_St_0 ho hK) hg (fun g10 he_g10 => ?_)
    have h := h g10 he_g10
    refine Rn_pure 1 (i' := 114) (L' := [some (2, o), some (2, p1), some (0, p2), some (0, g (p1 + 2) p2), some (0, g (p1 + 7) (3 * p2)), some (0, g (p1 + 7) (3 * p2 + 1))]) (st' := []) rfl ?_
    exact Rn_ret0 rfl h
  have htd : (wr (g (p1 + 1) p2) < 0 ∨ 7 ≤ wr (g (p1 + 1) p2) ∨ wr (g (p1 + 1) p2) = 5) → ab_Rn m_St_change 109 [some (2, o), some (2, p1), some (0, p2), some (0, g (p1 + 2) p2), some (0, g (p1 + 7) (3 * p2)), some (0, g (p1 + 7) (3 * p2 + 1))] [] (K, S, g, r) (ab_Qv K S P) := by
    intro hc
    have h := h.2.2.2.2.2.2 hc
    refine Rn_pure 1 (i' := 110) (L' := [some (2, o), some (2, p1), some (0, p2), some (0, g (p1 + 2) p2), some (0, g (p1 + 7) (3 * p2)), some (0, g (p1 + 7) (3 * p2 + 1))]) (st' := [(2, o)]) rfl ?_
    refine Rn_getR rfl (ob_St ho hK) (fx_St_3 hr ho) (show (o + 4 : Int) ≠ -1 by have := ho; unfold isSt at this; omega) ?_
    refine Rn_pure 2 (i' := 113) (L' := [some (2, o), some (2, p1), some (0, p2), some (0, g (p1 + 2) p2), some (0, g (p1 + 7) (3 * p2)), some (0, g (p1 + 7) (3 * p2 + 1))]) (st' := [(0, 0), (0, g (p1 + 2) p2), (2, o + 4)]) rfl ?_
    obtain ⟨hg, h⟩ := h
    refine Rn_iast rfl (ar_St_3 ho hK) hg (fun g11 he_g11 => ?_)
    have h := h g11 he_g11
    exact Rn_ret0 rfl h
  have hsp : wr (g (p1 + 1) p2) < 0 ∨ 7 ≤ wr (g (p1 + 1) p2) ∨ wr (g (p1 + 1) p2) = 0 ∨ wr (g (p1 + 1) p2) = 1 ∨ wr (g (p1 + 1) p2) = 2 ∨ wr (g (p1 + 1) p2) = 3 ∨ wr (g (p1 + 1) p2) = 4 ∨ wr (g (p1 + 1) p2) = 5 ∨ wr (g (p1 + 1) p2) = 6 := by omega
  rcases hsp with hc | hc | hc | hc | hc | hc | hc | hc | hc
  · rw [ab_ts_out (hT := (rfl : ab_nth ab_tsL 12 = some (0, 109, [26, 47, 58, 69, 78, 109, 87]))) rfl (Or.inl hc)]; exact htd (by simp only [hc, true_or, or_true])
  · rw [ab_ts_out (hT := (rfl : ab_nth ab_tsL 12 = some (0, 109, [26, 47, 58, 69, 78, 109, 87]))) rfl (Or.inr hc)]; exact htd (by simp only [hc, true_or, or_true])
  · rw [ab_ts_in (j := 0) (hT := (rfl : ab_nth ab_tsL 12 = some (0, 109, [26, 47, 58, 69, 78, 109, 87]))) (by rw [hc]; rfl) rfl]; exact ht26 (by simp only [hc, true_or, or_true])
  · rw [ab_ts_in (j := 1) (hT := (rfl : ab_nth ab_tsL 12 = some (0, 109, [26, 47, 58, 69, 78, 109, 87]))) (by rw [hc]; rfl) rfl]; exact ht47 (by simp only [hc, true_or, or_true])
  · rw [ab_ts_in (j := 2) (hT := (rfl : ab_nth ab_tsL 12 = some (0, 109, [26, 47, 58, 69, 78, 109, 87]))) (by rw [hc]; rfl) rfl]; exact ht58 (by simp only [hc, true_or, or_true])
  · rw [ab_ts_in (j := 3) (hT := (rfl : ab_nth ab_tsL 12 = some (0, 109, [26, 47, 58, 69, 78, 109, 87]))) (by rw [hc]; rfl) rfl]; exact ht69 (by simp only [hc, true_or, or_true])
  · rw [ab_ts_in (j := 4) (hT := (rfl : ab_nth ab_tsL 12 = some (0, 109, [26, 47, 58, 69, 78, 109, 87]))) (by rw [hc]; rfl) rfl]; exact ht78 (by simp only [hc, true_or, or_true])
  · rw [ab_ts_in (j := 5) (hT := (rfl : ab_nth ab_tsL 12 = some (0, 109, [26, 47, 58, 69, 78, 109, 87]))) (by rw [hc]; rfl) rfl]; exact htd (by simp only [hc, true_or, or_true])
  · rw [ab_ts_in (j := 6) (hT := (rfl : ab_nth ab_tsL 12 = some (0, 109, [26, 47, 58, 69, 78, 109, 87]))) (by rw [hc]; rfl) rfl]; exact ht87 (by simp only [hc, true_or, or_true])
-- EventLedger$State.look (II)I
theorem v_St_look {K : Int} {S : Nat} {g r : ab_H} {o p1 p2 : Int} (P : Int → ab_H → ab_H → Prop) (hr : SI r) (hK : 186 ≤ K) (ho : isSt o) (h : ((wr p2 = 0 → ((0 : Int) ≤ p1 ∧ (p1 : Int) < 8) ∧ P (g (o + 1) p1) g r) ∧ (wr p2 = 1 → ((0 : Int) ≤ p1 ∧ (p1 : Int) < 8) ∧ P (g (o + 2) p1) g r) ∧ (wr p2 = 2 → ((0 : Int) ≤ p1 ∧ (p1 : Int) < 8) ∧ P (g (o + 3) p1) g r) ∧ (wr p2 = 3 → ((0 : Int) ≤ p1 ∧ (p1 : Int) < 8) ∧ P (g (o + 4) p1) g r) ∧ (wr p2 < 0 ∨ 4 ≤ wr p2 → P (-2147483648) g r))) : ab_RI m_St_look [(2, o), (0, p1), (0, p2)] K S g r P := by
  show ab_Rn m_St_look 0 [some (2, o), some (0, p1), some (0, p2)] [] (K, S, g, r) (ab_Qi K S P)
  refine Rn_pure 1 (i' := 1) (L' := [some (2, o), some (0, p1), some (0, p2)]) (st' := [(0, p2)]) rfl ?_
  refine Rn_ts rfl ?_
  have ht2 : (wr p2 = 0) → ab_Rn m_St_look 2 [some (2, o), some (0, p1), some (0, p2)] [] (K, S, g, r) (ab_Qi K S P) := by
    intro hc
    have h := h.1 hc
    refine Rn_pure 1 (i' := 3) (L' := [some (2, o), some (0, p1), some (0, p2)]) (st' := [(2, o)]) rfl ?_
    refine Rn_getR rfl (ob_St ho hK) (fx_St_0 hr ho) (show (o + 1 : Int) ≠ -1 by have := ho; unfold isSt at this; omega) ?_
    refine Rn_pure 1 (i' := 5) (L' := [some (2, o), some (0, p1), some (0, p2)]) (st' := [(0, p1), (2, o + 1)]) rfl ?_
    obtain ⟨hg, h⟩ := h
    refine Rn_iald rfl (ar_St_0 ho hK) hg ?_
    exact Rn_ret1 rfl h
  have ht7 : (wr p2 = 1) → ab_Rn m_St_look 7 [some (2, o), some (0, p1), some (0, p2)] [] (K, S, g, r) (ab_Qi K S P) := by
    intro hc
    have h := h.2.1 hc
    refine Rn_pure 1 (i' := 8) (L' := [some (2, o), some (0, p1), some (0, p2)]) (st' := [(2, o)]) rfl ?_
    refine Rn_getR rfl (ob_St ho hK) (fx_St_1 hr ho) (show (o + 2 : Int) ≠ -1 by have := ho; unfold isSt at this; omega) ?_
    refine Rn_pure 1 (i' := 10) (L' := [some (2, o), some (0, p1), some (0, p2)]) (st' := [(0, p1), (2, o + 2)]) rfl ?_
    obtain ⟨hg, h⟩ := h
    refine Rn_iald rfl (ar_St_1 ho hK) hg ?_
    exact Rn_ret1 rfl h
  have ht12 : (wr p2 = 2) → ab_Rn m_St_look 12 [some (2, o), some (0, p1), some (0, p2)] [] (K, S, g, r) (ab_Qi K S P) := by
    intro hc
    have h := h.2.2.1 hc
    refine Rn_pure 1 (i' := 13) (L' := [some (2, o), some (0, p1), some (0, p2)]) (st' := [(2, o)]) rfl ?_
    refine Rn_getR rfl (ob_St ho hK) (fx_St_2 hr ho) (show (o + 3 : Int) ≠ -1 by have := ho; unfold isSt at this; omega) ?_
    refine Rn_pure 1 (i' := 15) (L' := [some (2, o), some (0, p1), some (0, p2)]) (st' := [(0, p1), (2, o + 3)]) rfl ?_
    obtain ⟨hg, h⟩ := h
    refine Rn_iald rfl (ar_St_2 ho hK) hg ?_
    exact Rn_ret1 rfl h
  have ht17 : (wr p2 = 3) → ab_Rn m_St_look 17 [some (2, o), some (0, p1), some (0, p2)] [] (K, S, g, r) (ab_Qi K S P) := by
    intro hc
    have h := h.2.2.2.1 hc
    refine Rn_pure 1 (i' := 18) (L' := [some (2, o), some (0, p1), some (0, p2)]) (st' := [(2, o)]) rfl ?_
    refine Rn_getR rfl (ob_St ho hK) (fx_St_3 hr ho) (show (o + 4 : Int) ≠ -1 by have := ho; unfold isSt at this; omega) ?_
    refine Rn_pure 1 (i' := 20) (L' := [some (2, o), some (0, p1), some (0, p2)]) (st' := [(0, p1), (2, o + 4)]) rfl ?_
    obtain ⟨hg, h⟩ := h
    refine Rn_iald rfl (ar_St_3 ho hK) hg ?_
    exact Rn_ret1 rfl h
  have htd : (wr p2 < 0 ∨ 4 ≤ wr p2) → ab_Rn m_St_look 22 [some (2, o), some (0, p1), some (0, p2)] [] (K, S, g, r) (ab_Qi K S P) := by
    intro hc
    have h := h.2.2.2.2 hc
    refine Rn_pure 1 (i' := 23) (L' := [some (2, o), some (0, p1), some (0, p2)]) (st' := [(0, (-2147483648))]) rfl ?_
    exact Rn_ret1 rfl h
  have hsp : wr p2 < 0 ∨ 4 ≤ wr p2 ∨ wr p2 = 0 ∨ wr p2 = 1 ∨ wr p2 = 2 ∨ wr p2 = 3 := by omega
  rcases hsp with hc | hc | hc | hc | hc | hc
  · rw [ab_ts_out (hT := (rfl : ab_nth ab_tsL 13 = some (0, 22, [2, 7, 12, 17]))) rfl (Or.inl hc)]; exact htd (by simp only [hc, true_or, or_true])
  · rw [ab_ts_out (hT := (rfl : ab_nth ab_tsL 13 = some (0, 22, [2, 7, 12, 17]))) rfl (Or.inr hc)]; exact htd (by simp only [hc, true_or, or_true])
  · rw [ab_ts_in (j := 0) (hT := (rfl : ab_nth ab_tsL 13 = some (0, 22, [2, 7, 12, 17]))) (by rw [hc]; rfl) rfl]; exact ht2 (by simp only [hc, true_or, or_true])
  · rw [ab_ts_in (j := 1) (hT := (rfl : ab_nth ab_tsL 13 = some (0, 22, [2, 7, 12, 17]))) (by rw [hc]; rfl) rfl]; exact ht7 (by simp only [hc, true_or, or_true])
  · rw [ab_ts_in (j := 2) (hT := (rfl : ab_nth ab_tsL 13 = some (0, 22, [2, 7, 12, 17]))) (by rw [hc]; rfl) rfl]; exact ht12 (by simp only [hc, true_or, or_true])
  · rw [ab_ts_in (j := 3) (hT := (rfl : ab_nth ab_tsL 13 = some (0, 22, [2, 7, 12, 17]))) (by rw [hc]; rfl) rfl]; exact ht17 (by simp only [hc, true_or, or_true])
-- EventLedger$State.countAside (II)I
theorem v_St_countAside {K : Int} {S : Nat} {g r : ab_H} {o p1 p2 : Int} (P : Int → ab_H → ab_H → Prop) (hr : SI r) (hK : 186 ≤ K) (ho : isSt o) (h : ab_Rn m_St_countAside 4 [some (2, o), none, some (0, p2), some (0, 0), some (0, p1)] [] (K, S, g, r) (ab_Qi K S P)) : ab_RI m_St_countAside [(2, o), (0, p1), (0, p2)] K S g r P := by
  show ab_Rn m_St_countAside 0 [some (2, o), some (0, p1), some (0, p2), none, none] [] (K, S, g, r) (ab_Qi K S P)
  refine Rn_pure 4 (i' := 4) (L' := [some (2, o), some (0, p1), some (0, p2), some (0, 0), some (0, p1)]) (st' := []) rfl ?_
  refine Rn_weak (L' := [some (2, o), none, some (0, p2), some (0, 0), some (0, p1)]) ⟨rfl, ⟨rfl, ⟨rfl, ⟨rfl, trivial⟩⟩⟩⟩ ?_
  exact h
theorem v_St_countAside_4 {K : Int} {S : Nat} {g r : ab_H} {o l2 l3 l4 : Int} (P : Int → ab_H → ab_H → Prop) (hr : SI r) (hK : 186 ≤ K) (ho : isSt o) (h : ((wr l2 ≤ wr l4 → P l3 g r) ∧ (wr l4 < wr l2 → ((0 : Int) ≤ l4 ∧ (l4 : Int) < 120) ∧ ((wr (g (o + 5) l4) = wr 0 → ab_Rn m_St_countAside 4 [some (2, o), none, some (0, l2), some (0, l3), some (0, l4 + 1)] [] (K, S, g, r) (ab_Qi K S P)) ∧ (¬ wr (g (o + 5) l4) = wr 0 → ab_Rn m_St_countAside 4 [some (2, o), none, some (0, l2), some (0, l3 + 1), some (0, l4 + 1)] [] (K, S, g, r) (ab_Qi K S P)))))) : ab_Rn m_St_countAside 4 [some (2, o), none, some (0, l2), some (0, l3), some (0, l4)] [] (K, S, g, r) (ab_Qi K S P) := by
  refine Rn_pure 2 (i' := 6) (L' := [some (2, o), none, some (0, l2), some (0, l3), some (0, l4)]) (st' := [(0, l2), (0, l4)]) rfl ?_
  refine Rn_icge rfl (fun hc => ?_) (fun hc => ?_)
  · have h := h.1 hc
    refine Rn_pure 1 (i' := 16) (L' := [some (2, o), none, some (0, l2), some (0, l3), some (0, l4)]) (st' := [(0, l3)]) rfl ?_
    exact Rn_ret1 rfl h
  · have h := h.2 hc
    refine Rn_pure 1 (i' := 8) (L' := [some (2, o), none, some (0, l2), some (0, l3), some (0, l4)]) (st' := [(2, o)]) rfl ?_
    refine Rn_getR rfl (ob_St ho hK) (fx_St_4 hr ho) (show (o + 5 : Int) ≠ -1 by have := ho; unfold isSt at this; omega) ?_
    refine Rn_pure 1 (i' := 10) (L' := [some (2, o), none, some (0, l2), some (0, l3), some (0, l4)]) (st' := [(0, l4), (2, o + 5)]) rfl ?_
    obtain ⟨hg, h⟩ := h
    refine Rn_iald rfl (ar_St_4 ho hK) hg ?_
    refine Rn_ifeq rfl (fun hc => ?_) (fun hc => ?_)
    · have h := h.1 hc
      refine Rn_pure 2 (i' := 4) (L' := [some (2, o), none, some (0, l2), some (0, l3), some (0, l4 + 1)]) (st' := []) rfl ?_
      exact h
    · have h := h.2 hc
      refine Rn_pure 3 (i' := 4) (L' := [some (2, o), none, some (0, l2), some (0, l3 + 1), some (0, l4 + 1)]) (st' := []) rfl ?_
      exact h
-- EventLedger$State.countOpen ()I
theorem v_St_countOpen {K : Int} {S : Nat} {g r : ab_H} {o : Int} (P : Int → ab_H → ab_H → Prop) (hr : SI r) (hK : 186 ≤ K) (ho : isSt o) (h : ab_Rn m_St_countOpen 4 [some (2, o), some (0, 0), some (0, 0)] [] (K, S, g, r) (ab_Qi K S P)) : ab_RI m_St_countOpen [(2, o)] K S g r P := by
  show ab_Rn m_St_countOpen 0 [some (2, o), none, none] [] (K, S, g, r) (ab_Qi K S P)
  refine Rn_pure 4 (i' := 4) (L' := [some (2, o), some (0, 0), some (0, 0)]) (st' := []) rfl ?_
  exact h
theorem v_St_countOpen_4 {K : Int} {S : Nat} {g r : ab_H} {o l1 l2 : Int} (P : Int → ab_H → ab_H → Prop) (hr : SI r) (hK : 186 ≤ K) (ho : isSt o) (h : ((wr 8 ≤ wr l2 → P l1 g r) ∧ (wr l2 < wr 8 → ((0 : Int) ≤ l2 ∧ (l2 : Int) < 8) ∧ ab_Rn m_St_countOpen 4 [some (2, o), some (0, l1 + (g (o + 4) l2)), some (0, l2 + 1)] [] (K, S, g, r) (ab_Qi K S P)))) : ab_Rn m_St_countOpen 4 [some (2, o), some (0, l1), some (0, l2)] [] (K, S, g, r) (ab_Qi K S P) := by
  refine Rn_pure 2 (i' := 6) (L' := [some (2, o), some (0, l1), some (0, l2)]) (st' := [(0, 8), (0, l2)]) rfl ?_
  refine Rn_icge rfl (fun hc => ?_) (fun hc => ?_)
  · have h := h.1 hc
    refine Rn_pure 1 (i' := 17) (L' := [some (2, o), some (0, l1), some (0, l2)]) (st' := [(0, l1)]) rfl ?_
    exact Rn_ret1 rfl h
  · have h := h.2 hc
    refine Rn_pure 2 (i' := 9) (L' := [some (2, o), some (0, l1), some (0, l2)]) (st' := [(2, o), (0, l1)]) rfl ?_
    refine Rn_getR rfl (ob_St ho hK) (fx_St_3 hr ho) (show (o + 4 : Int) ≠ -1 by have := ho; unfold isSt at this; omega) ?_
    refine Rn_pure 1 (i' := 11) (L' := [some (2, o), some (0, l1), some (0, l2)]) (st' := [(0, l2), (2, o + 4), (0, l1)]) rfl ?_
    obtain ⟨hg, h⟩ := h
    refine Rn_iald rfl (ar_St_3 ho hK) hg ?_
    refine Rn_pure 4 (i' := 4) (L' := [some (2, o), some (0, l1 + (g (o + 4) l2)), some (0, l2 + 1)]) (st' := []) rfl ?_
    exact h
-- EventLedger$State.sumBalances ()I
theorem v_St_sumBalances {K : Int} {S : Nat} {g r : ab_H} {o : Int} (P : Int → ab_H → ab_H → Prop) (hr : SI r) (hK : 186 ≤ K) (ho : isSt o) (h : ab_Rn m_St_sumBalances 4 [some (2, o), some (0, 0), some (0, 0)] [] (K, S, g, r) (ab_Qi K S P)) : ab_RI m_St_sumBalances [(2, o)] K S g r P := by
  show ab_Rn m_St_sumBalances 0 [some (2, o), none, none] [] (K, S, g, r) (ab_Qi K S P)
  refine Rn_pure 4 (i' := 4) (L' := [some (2, o), some (0, 0), some (0, 0)]) (st' := []) rfl ?_
  exact h
theorem v_St_sumBalances_4 {K : Int} {S : Nat} {g r : ab_H} {o l1 l2 : Int} (P : Int → ab_H → ab_H → Prop) (hr : SI r) (hK : 186 ≤ K) (ho : isSt o) (h : ((wr 8 ≤ wr l2 → P l1 g r) ∧ (wr l2 < wr 8 → ((0 : Int) ≤ l2 ∧ (l2 : Int) < 8) ∧ ab_Rn m_St_sumBalances 4 [some (2, o), some (0, l1 + (g (o + 1) l2)), some (0, l2 + 1)] [] (K, S, g, r) (ab_Qi K S P)))) : ab_Rn m_St_sumBalances 4 [some (2, o), some (0, l1), some (0, l2)] [] (K, S, g, r) (ab_Qi K S P) := by
  refine Rn_pure 2 (i' := 6) (L' := [some (2, o), some (0, l1), some (0, l2)]) (st' := [(0, 8), (0, l2)]) rfl ?_
  refine Rn_icge rfl (fun hc => ?_) (fun hc => ?_)
  · have h := h.1 hc
    refine Rn_pure 1 (i' := 17) (L' := [some (2, o), some (0, l1), some (0, l2)]) (st' := [(0, l1)]) rfl ?_
    exact Rn_ret1 rfl h
  · have h := h.2 hc
    refine Rn_pure 2 (i' := 9) (L' := [some (2, o), some (0, l1), some (0, l2)]) (st' := [(2, o), (0, l1)]) rfl ?_
    refine Rn_getR rfl (ob_St ho hK) (fx_St_0 hr ho) (show (o + 1 : Int) ≠ -1 by have := ho; unfold isSt at this; omega) ?_
    refine Rn_pure 1 (i' := 11) (L' := [some (2, o), some (0, l1), some (0, l2)]) (st' := [(0, l2), (2, o + 1), (0, l1)]) rfl ?_
    obtain ⟨hg, h⟩ := h
    refine Rn_iald rfl (ar_St_0 ho hK) hg ?_
    refine Rn_pure 4 (i' := 4) (L' := [some (2, o), some (0, l1 + (g (o + 1) l2)), some (0, l2 + 1)]) (st' := []) rfl ?_
    exact h
