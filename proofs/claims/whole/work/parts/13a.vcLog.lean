-- EventLedger$Log.clear ()V
theorem v_Lg_clear {K : Int} {S : Nat} {g r : ab_H} {o : Int} (P : ab_H → ab_H → Prop) (hr : SI r) (hK : 186 ≤ K) (ho : isLg o) (h : ∀ g1, g1 = ab_up g o 10 0 → P g1 r) : ab_RV m_Lg_clear [(2, o)] K S g r P := by
  show ab_Rn m_Lg_clear 0 [some (2, o)] [] (K, S, g, r) (ab_Qv K S P)
  refine Rn_pure 2 (i' := 2) (L' := [some (2, o)]) (st' := [(0, 0), (2, o)]) rfl ?_
  refine Rn_putI rfl (ob_Lg ho hK) (fun g1 he_g1 => ?_)
  have h := h g1 he_g1
  exact Rn_ret0 rfl h
-- EventLedger$Log.holds (I)Z
theorem v_Lg_holds {K : Int} {S : Nat} {g r : ab_H} {o p1 : Int} (P : Int → ab_H → ab_H → Prop) (hr : SI r) (hK : 186 ≤ K) (ho : isLg o) (h : ((wr p1 < wr 0 → P 0 g r) ∧ (wr 0 ≤ wr p1 → ((wr (g o 10) ≤ wr p1 → P 0 g r) ∧ (wr p1 < wr (g o 10) → P 1 g r))))) : ab_RI m_Lg_holds [(2, o), (0, p1)] K S g r P := by
  show ab_Rn m_Lg_holds 0 [some (2, o), some (0, p1)] [] (K, S, g, r) (ab_Qi K S P)
  refine Rn_pure 1 (i' := 1) (L' := [some (2, o), some (0, p1)]) (st' := [(0, p1)]) rfl ?_
  refine Rn_iflt rfl (fun hc => ?_) (fun hc => ?_)
  · have h := h.1 hc
    refine Rn_pure 1 (i' := 9) (L' := [some (2, o), some (0, p1)]) (st' := [(0, 0)]) rfl ?_
    exact Rn_ret2 rfl (by decide) h
  · have h := h.2 hc
    refine Rn_pure 2 (i' := 4) (L' := [some (2, o), some (0, p1)]) (st' := [(2, o), (0, p1)]) rfl ?_
    refine Rn_getI rfl (ob_Lg ho hK) ?_
    refine Rn_icge rfl (fun hc => ?_) (fun hc => ?_)
    · have h := h.1 hc
      refine Rn_pure 1 (i' := 9) (L' := [some (2, o), some (0, p1)]) (st' := [(0, 0)]) rfl ?_
      exact Rn_ret2 rfl (by decide) h
    · have h := h.2 hc
      refine Rn_pure 2 (i' := 9) (L' := [some (2, o), some (0, p1)]) (st' := [(0, 1)]) rfl ?_
      exact Rn_ret2 rfl (by decide) h
-- EventLedger$Log.holdsPlain (I)Z
theorem v_Lg_holdsPlain {K : Int} {S : Nat} {g r : ab_H} {o p1 : Int} (P : Int → ab_H → ab_H → Prop) (hr : SI r) (hK : 186 ≤ K) (ho : isLg o) (h : ab_RI m_Lg_holds [(2, o), (0, p1)] K S g r (fun x1 g' r' => g' = g ∧ r' = r ∧ (((wr x1 = wr 0 → P 0 g r) ∧ (¬ wr x1 = wr 0 → ((0 : Int) ≤ p1 ∧ (p1 : Int) < 120) ∧ ((wr (g (o + 1) p1) = wr 7 → P 0 g r) ∧ (¬ wr (g (o + 1) p1) = wr 7 → P 1 g r))))))) : ab_RI m_Lg_holdsPlain [(2, o), (0, p1)] K S g r P := by
  show ab_Rn m_Lg_holdsPlain 0 [some (2, o), some (0, p1)] [] (K, S, g, r) (ab_Qi K S P)
  refine Rn_pure 2 (i' := 2) (L' := [some (2, o), some (0, p1)]) (st' := [(0, p1), (2, o)]) rfl ?_
  refine Rn_callI [(2, o), (0, p1)] [] rfl rfl rfl rfl (ab_rvB_of rfl (ob_Lg ho hK)) ?_
  refine h.mono (fun x1 g' r' h => ?_)
  obtain ⟨hx, h⟩ := h
  replace hx := hx.symm
  subst hx
  obtain ⟨hx, h⟩ := h
  replace hx := hx.symm
  subst hx
  refine Rn_ifeq rfl (fun hc => ?_) (fun hc => ?_)
  · have h := h.1 hc
    refine Rn_pure 1 (i' := 13) (L' := [some (2, o), some (0, p1)]) (st' := [(0, 0)]) rfl ?_
    exact Rn_ret2 rfl (by decide) h
  · have h := h.2 hc
    refine Rn_pure 1 (i' := 5) (L' := [some (2, o), some (0, p1)]) (st' := [(2, o)]) rfl ?_
    refine Rn_getR rfl (ob_Lg ho hK) (fx_Lg_0 hr ho) (show (o + 1 : Int) ≠ -1 by have := ho; unfold isLg at this; omega) ?_
    refine Rn_pure 1 (i' := 7) (L' := [some (2, o), some (0, p1)]) (st' := [(0, p1), (2, o + 1)]) rfl ?_
    obtain ⟨hg, h⟩ := h
    refine Rn_iald rfl (ar_Lg_0 ho hK) hg ?_
    refine Rn_pure 1 (i' := 9) (L' := [some (2, o), some (0, p1)]) (st' := [(0, 7), (0, g (o + 1) p1)]) rfl ?_
    refine Rn_iceq rfl (fun hc => ?_) (fun hc => ?_)
    · have h := h.1 hc
      refine Rn_pure 1 (i' := 13) (L' := [some (2, o), some (0, p1)]) (st' := [(0, 0)]) rfl ?_
      exact Rn_ret2 rfl (by decide) h
    · have h := h.2 hc
      refine Rn_pure 2 (i' := 13) (L' := [some (2, o), some (0, p1)]) (st' := [(0, 1)]) rfl ?_
      exact Rn_ret2 rfl (by decide) h
-- EventLedger$Log.latestTime ()I
theorem v_Lg_latestTime {K : Int} {S : Nat} {g r : ab_H} {o : Int} (P : Int → ab_H → ab_H → Prop) (hr : SI r) (hK : 186 ≤ K) (ho : isLg o) (h : ((wr (g o 10) ≤ wr 0 → P (-2) g r) ∧ (wr 0 < wr (g o 10) → ((0 : Int) ≤ g o 10 - 1 ∧ (g o 10 - 1 : Int) < 120) ∧ P (g (o + 4) (g o 10 - 1)) g r))) : ab_RI m_Lg_latestTime [(2, o)] K S g r P := by
  show ab_Rn m_Lg_latestTime 0 [some (2, o)] [] (K, S, g, r) (ab_Qi K S P)
  refine Rn_pure 1 (i' := 1) (L' := [some (2, o)]) (st' := [(2, o)]) rfl ?_
  refine Rn_getI rfl (ob_Lg ho hK) ?_
  refine Rn_ifle rfl (fun hc => ?_) (fun hc => ?_)
  · have h := h.1 hc
    refine Rn_pure 1 (i' := 12) (L' := [some (2, o)]) (st' := [(0, (-2))]) rfl ?_
    exact Rn_ret1 rfl h
  · have h := h.2 hc
    refine Rn_pure 1 (i' := 4) (L' := [some (2, o)]) (st' := [(2, o)]) rfl ?_
    refine Rn_getR rfl (ob_Lg ho hK) (fx_Lg_3 hr ho) (show (o + 4 : Int) ≠ -1 by have := ho; unfold isLg at this; omega) ?_
    refine Rn_pure 1 (i' := 6) (L' := [some (2, o)]) (st' := [(2, o), (2, o + 4)]) rfl ?_
    refine Rn_getI rfl (ob_Lg ho hK) ?_
    refine Rn_pure 2 (i' := 9) (L' := [some (2, o)]) (st' := [(0, g o 10 - 1), (2, o + 4)]) rfl ?_
    obtain ⟨hg, h⟩ := h
    refine Rn_iald rfl (ar_Lg_3 ho hK) hg ?_
    refine Rn_pure 1 (i' := 12) (L' := [some (2, o)]) (st' := [(0, g (o + 4) (g o 10 - 1))]) rfl ?_
    exact Rn_ret1 rfl h
-- EventLedger$Log.add (IIIII[I)V
theorem v_Lg_add {K : Int} {S : Nat} {g r : ab_H} {o p1 p2 p3 p4 p5 p6 n6 : Int} (P : ab_H → ab_H → Prop) (hr : SI r) (hK : 186 ≤ K) (ho : isLg o) (hp6 : ab_AR K p6 100 n6) (h : ((wr 120 ≤ wr (g o 10) → P g r) ∧ (wr (g o 10) < wr 120 → ((wr n6 = wr 3 → ((0 : Int) ≤ g o 10 ∧ (g o 10 : Int) < 120) ∧ ∀ g1, g1 = ab_up g (o + 1) (g o 10) p1 → ((0 : Int) ≤ g1 o 10 ∧ (g1 o 10 : Int) < 120) ∧ ∀ g2, g2 = ab_up g1 (o + 2) (g1 o 10) p2 → ((0 : Int) ≤ g2 o 10 ∧ (g2 o 10 : Int) < 120) ∧ ∀ g3, g3 = ab_up g2 (o + 3) (g2 o 10) p3 → ((0 : Int) ≤ g3 o 10 ∧ (g3 o 10 : Int) < 120) ∧ ∀ g4, g4 = ab_up g3 (o + 4) (g3 o 10) p4 → ((0 : Int) ≤ g4 o 10 ∧ (g4 o 10 : Int) < 120) ∧ ∀ g5, g5 = ab_up g4 (o + 5) (g4 o 10) p5 → (187 ≤ K) ∧ ((p6 : Int) ≠ o + 6) ∧ ((0 : Int) ≤ 3 ∧ (0 : Int) ≤ 0 ∧ (0 : Int) ≤ 3 * (g5 o 10) ∧ (0 + 3 : Int) ≤ n6 ∧ (3 * (g5 o 10) + 3 : Int) ≤ 360) ∧ ∀ g6, g6 = ab_cpy g5 p6 0 (o + 6) (3 * (g5 o 10)) 3 → ((0 : Int) ≤ g6 o 10 ∧ (g6 o 10 : Int) < 120) ∧ ∀ g7, g7 = ab_up g6 (o + 8) (g6 o 10) 0 → ((0 : Int) ≤ g7 o 10 ∧ (g7 o 10 : Int) < 120) ∧ ∀ g8, g8 = ab_up g7 (o + 9) (g7 o 10) (-1) → ((0 : Int) ≤ g8 o 10 ∧ (g8 o 10 : Int) < 121) ∧ ((0 : Int) ≤ g8 o 10 + 1 ∧ (g8 o 10 + 1 : Int) < 121) ∧ ∀ g9, g9 = ab_up g8 (o + 10) (g8 o 10 + 1) (g8 (o + 10) (g8 o 10) + 1 + 3 - p5) → ∀ g10, g10 = ab_up g9 o 10 (g9 o 10 + 1) → P g10 r) ∧ (¬ wr n6 = wr 3 → P g r))))) : ab_RV m_Lg_add [(2, o), (0, p1), (0, p2), (0, p3), (0, p4), (0, p5), (2, p6)] K S g r P := by
  show ab_Rn m_Lg_add 0 [some (2, o), some (0, p1), some (0, p2), some (0, p3), some (0, p4), some (0, p5), some (2, p6)] [] (K, S, g, r) (ab_Qv K S P)
  refine Rn_pure 1 (i' := 1) (L' := [some (2, o), some (0, p1), some (0, p2), some (0, p3), some (0, p4), some (0, p5), some (2, p6)]) (st' := [(2, o)]) rfl ?_
  refine Rn_getI rfl (ob_Lg ho hK) ?_
  refine Rn_pure 1 (i' := 3) (L' := [some (2, o), some (0, p1), some (0, p2), some (0, p3), some (0, p4), some (0, p5), some (2, p6)]) (st' := [(0, 120), (0, g o 10)]) rfl ?_
  refine Rn_icge rfl (fun hc => ?_) (fun hc => ?_)
  · have h := h.1 hc
    exact Rn_ret0 rfl h
  · have h := h.2 hc
    refine Rn_pure 1 (i' := 5) (L' := [some (2, o), some (0, p1), some (0, p2), some (0, p3), some (0, p4), some (0, p5), some (2, p6)]) (st' := [(2, p6)]) rfl ?_
    refine Rn_alen rfl (hp6) ?_
    refine Rn_pure 1 (i' := 7) (L' := [some (2, o), some (0, p1), some (0, p2), some (0, p3), some (0, p4), some (0, p5), some (2, p6)]) (st' := [(0, 3), (0, n6)]) rfl ?_
    refine Rn_iceq rfl (fun hc => ?_) (fun hc => ?_)
    · have h := h.1 hc
      refine Rn_pure 1 (i' := 10) (L' := [some (2, o), some (0, p1), some (0, p2), some (0, p3), some (0, p4), some (0, p5), some (2, p6)]) (st' := [(2, o)]) rfl ?_
      refine Rn_getR rfl (ob_Lg ho hK) (fx_Lg_0 hr ho) (show (o + 1 : Int) ≠ -1 by have := ho; unfold isLg at this; omega) ?_
      refine Rn_pure 1 (i' := 12) (L' := [some (2, o), some (0, p1), some (0, p2), some (0, p3), some (0, p4), some (0, p5), some (2, p6)]) (st' := [(2, o), (2, o + 1)]) rfl ?_
      refine Rn_getI rfl (ob_Lg ho hK) ?_
      refine Rn_pure 1 (i' := 14) (L' := [some (2, o), some (0, p1), some (0, p2), some (0, p3), some (0, p4), some (0, p5), some (2, p6)]) (st' := [(0, p1), (0, g o 10), (2, o + 1)]) rfl ?_
      obtain ⟨hg, h⟩ := h
      refine Rn_iast rfl (ar_Lg_0 ho hK) hg (fun g1 he_g1 => ?_)
      have h := h g1 he_g1
      refine Rn_pure 1 (i' := 16) (L' := [some (2, o), some (0, p1), some (0, p2), some (0, p3), some (0, p4), some (0, p5), some (2, p6)]) (st' := [(2, o)]) rfl ?_
      refine Rn_getR rfl (ob_Lg ho hK) (fx_Lg_1 hr ho) (show (o + 2 : Int) ≠ -1 by have := ho; unfold isLg at this; omega) ?_
      refine Rn_pure 1 (i' := 18) (L' := [some (2, o), some (0, p1), some (0, p2), some (0, p3), some (0, p4), some (0, p5), some (2, p6)]) (st' := [(2, o), (2, o + 2)]) rfl ?_
      refine Rn_getI rfl (ob_Lg ho hK) ?_
      refine Rn_pure 1 (i' := 20) (L' := [some (2, o), some (0, p1), some (0, p2), some (0, p3), some (0, p4), some (0, p5), some (2, p6)]) (st' := [(0, p2), (0, g1 o 10), (2, o + 2)]) rfl ?_
      obtain ⟨hg, h⟩ := h
      refine Rn_iast rfl (ar_Lg_1 ho hK) hg (fun g2 he_g2 => ?_)
      have h := h g2 he_g2
      refine Rn_pure 1 (i' := 22) (L' := [some (2, o), some (0, p1), some (0, p2), some (0, p3), some (0, p4), some (0, p5), some (2, p6)]) (st' := [(2, o)]) rfl ?_
      refine Rn_getR rfl (ob_Lg ho hK) (fx_Lg_2 hr ho) (show (o + 3 : Int) ≠ -1 by have := ho; unfold isLg at this; omega) ?_
      refine Rn_pure 1 (i' := 24) (L' := [some (2, o), some (0, p1), some (0, p2), some (0, p3), some (0, p4), some (0, p5), some (2, p6)]) (st' := [(2, o), (2, o + 3)]) rfl ?_
      refine Rn_getI rfl (ob_Lg ho hK) ?_
      refine Rn_pure 1 (i' := 26) (L' := [some (2, o), some (0, p1), some (0, p2), some (0, p3), some (0, p4), some (0, p5), some (2, p6)]) (st' := [(0, p3), (0, g2 o 10), (2, o + 3)]) rfl ?_
      obtain ⟨hg, h⟩ := h
      refine Rn_iast rfl (ar_Lg_2 ho hK) hg (fun g3 he_g3 => ?_)
      have h := h g3 he_g3
      refine Rn_pure 1 (i' := 28) (L' := [some (2, o), some (0, p1), some (0, p2), some (0, p3), some (0, p4), some (0, p5), some (2, p6)]) (st' := [(2, o)]) rfl ?_
      refine Rn_getR rfl (ob_Lg ho hK) (fx_Lg_3 hr ho) (show (o + 4 : Int) ≠ -1 by have := ho; unfold isLg at this; omega) ?_
      refine Rn_pure 1 (i' := 30) (L' := [some (2, o), some (0, p1), some (0, p2), some (0, p3), some (0, p4), some (0, p5), some (2, p6)]) (st' := [(2, o), (2, o + 4)]) rfl ?_
      refine Rn_getI rfl (ob_Lg ho hK) ?_
      refine Rn_pure 1 (i' := 32) (L' := [some (2, o), some (0, p1), some (0, p2), some (0, p3), some (0, p4), some (0, p5), some (2, p6)]) (st' := [(0, p4), (0, g3 o 10), (2, o + 4)]) rfl ?_
      obtain ⟨hg, h⟩ := h
      refine Rn_iast rfl (ar_Lg_3 ho hK) hg (fun g4 he_g4 => ?_)
      have h := h g4 he_g4
      refine Rn_pure 1 (i' := 34) (L' := [some (2, o), some (0, p1), some (0, p2), some (0, p3), some (0, p4), some (0, p5), some (2, p6)]) (st' := [(2, o)]) rfl ?_
      refine Rn_getR rfl (ob_Lg ho hK) (fx_Lg_4 hr ho) (show (o + 5 : Int) ≠ -1 by have := ho; unfold isLg at this; omega) ?_
      refine Rn_pure 1 (i' := 36) (L' := [some (2, o), some (0, p1), some (0, p2), some (0, p3), some (0, p4), some (0, p5), some (2, p6)]) (st' := [(2, o), (2, o + 5)]) rfl ?_
      refine Rn_getI rfl (ob_Lg ho hK) ?_
      refine Rn_pure 1 (i' := 38) (L' := [some (2, o), some (0, p1), some (0, p2), some (0, p3), some (0, p4), some (0, p5), some (2, p6)]) (st' := [(0, p5), (0, g4 o 10), (2, o + 5)]) rfl ?_
      obtain ⟨hg, h⟩ := h
      refine Rn_iast rfl (ar_Lg_4 ho hK) hg (fun g5 he_g5 => ?_)
      have h := h g5 he_g5
      refine Rn_pure 3 (i' := 42) (L' := [some (2, o), some (0, p1), some (0, p2), some (0, p3), some (0, p4), some (0, p5), some (2, p6)]) (st' := [(2, o), (0, 0), (2, p6)]) rfl ?_
      refine Rn_getR rfl (ob_Lg ho hK) (fx_Lg_5 hr ho) (show (o + 6 : Int) ≠ -1 by have := ho; unfold isLg at this; omega) ?_
      refine Rn_pure 2 (i' := 45) (L' := [some (2, o), some (0, p1), some (0, p2), some (0, p3), some (0, p4), some (0, p5), some (2, p6)]) (st' := [(2, o), (0, 3), (2, o + 6), (0, 0), (2, p6)]) rfl ?_
      refine Rn_getI rfl (ob_Lg ho hK) ?_
      refine Rn_pure 2 (i' := 48) (L' := [some (2, o), some (0, p1), some (0, p2), some (0, p3), some (0, p4), some (0, p5), some (2, p6)]) (st' := [(0, 3), (0, 3 * (g5 o 10)), (2, o + 6), (0, 0), (2, p6)]) rfl ?_
      obtain ⟨hg, h⟩ := h
      have hg1 := hg
      obtain ⟨hg, h⟩ := h
      have hg2 := hg
      obtain ⟨hg, h⟩ := h
      refine Rn_copy rfl (hp6) (ar_Lg_5 ho hK) (by decide) hg1 hg2 hg (fun g6 he_g6 => ?_)
      have h := h g6 he_g6
      refine Rn_pure 1 (i' := 50) (L' := [some (2, o), some (0, p1), some (0, p2), some (0, p3), some (0, p4), some (0, p5), some (2, p6)]) (st' := [(2, o)]) rfl ?_
      refine Rn_getR rfl (ob_Lg ho hK) (fx_Lg_7 hr ho) (show (o + 8 : Int) ≠ -1 by have := ho; unfold isLg at this; omega) ?_
      refine Rn_pure 1 (i' := 52) (L' := [some (2, o), some (0, p1), some (0, p2), some (0, p3), some (0, p4), some (0, p5), some (2, p6)]) (st' := [(2, o), (2, o + 8)]) rfl ?_
      refine Rn_getI rfl (ob_Lg ho hK) ?_
      refine Rn_pure 1 (i' := 54) (L' := [some (2, o), some (0, p1), some (0, p2), some (0, p3), some (0, p4), some (0, p5), some (2, p6)]) (st' := [(0, 0), (0, g6 o 10), (2, o + 8)]) rfl ?_
      obtain ⟨hg, h⟩ := h
      refine Rn_iast rfl (ar_Lg_7 ho hK) hg (fun g7 he_g7 => ?_)
      have h := h g7 he_g7
      refine Rn_pure 1 (i' := 56) (L' := [some (2, o), some (0, p1), some (0, p2), some (0, p3), some (0, p4), some (0, p5), some (2, p6)]) (st' := [(2, o)]) rfl ?_
      refine Rn_getR rfl (ob_Lg ho hK) (fx_Lg_8 hr ho) (show (o + 9 : Int) ≠ -1 by have := ho; unfold isLg at this; omega) ?_
      refine Rn_pure 1 (i' := 58) (L' := [some (2, o), some (0, p1), some (0, p2), some (0, p3), some (0, p4), some (0, p5), some (2, p6)]) (st' := [(2, o), (2, o + 9)]) rfl ?_
      refine Rn_getI rfl (ob_Lg ho hK) ?_
      refine Rn_pure 1 (i' := 60) (L' := [some (2, o), some (0, p1), some (0, p2), some (0, p3), some (0, p4), some (0, p5), some (2, p6)]) (st' := [(0, (-1)), (0, g7 o 10), (2, o + 9)]) rfl ?_
      obtain ⟨hg, h⟩ := h
      refine Rn_iast rfl (ar_Lg_8 ho hK) hg (fun g8 he_g8 => ?_)
      have h := h g8 he_g8
      refine Rn_pure 1 (i' := 62) (L' := [some (2, o), some (0, p1), some (0, p2), some (0, p3), some (0, p4), some (0, p5), some (2, p6)]) (st' := [(2, o)]) rfl ?_
      refine Rn_getR rfl (ob_Lg ho hK) (fx_Lg_9 hr ho) (show (o + 10 : Int) ≠ -1 by have := ho; unfold isLg at this; omega) ?_
      refine Rn_pure 1 (i' := 64) (L' := [some (2, o), some (0, p1), some (0, p2), some (0, p3), some (0, p4), some (0, p5), some (2, p6)]) (st' := [(2, o), (2, o + 10)]) rfl ?_
      refine Rn_getI rfl (ob_Lg ho hK) ?_
      refine Rn_pure 3 (i' := 68) (L' := [some (2, o), some (0, p1), some (0, p2), some (0, p3), some (0, p4), some (0, p5), some (2, p6)]) (st' := [(2, o), (0, g8 o 10 + 1), (2, o + 10)]) rfl ?_
      refine Rn_getR rfl (ob_Lg ho hK) (fx_Lg_9 hr ho) (show (o + 10 : Int) ≠ -1 by have := ho; unfold isLg at this; omega) ?_
      refine Rn_pure 1 (i' := 70) (L' := [some (2, o), some (0, p1), some (0, p2), some (0, p3), some (0, p4), some (0, p5), some (2, p6)]) (st' := [(2, o), (2, o + 10), (0, g8 o 10 + 1), (2, o + 10)]) rfl ?_
      refine Rn_getI rfl (ob_Lg ho hK) ?_
      obtain ⟨hg, h⟩ := h
      refine Rn_iald rfl (ar_Lg_9 ho hK) hg ?_
      refine Rn_pure 6 (i' := 78) (L' := [some (2, o), some (0, p1), some (0, p2), some (0, p3), some (0, p4), some (0, p5), some (2, p6)]) (st' := [(0, g8 (o + 10) (g8 o 10) + 1 + 3 - p5), (0, g8 o 10 + 1), (2, o + 10)]) rfl ?_
      obtain ⟨hg, h⟩ := h
      refine Rn_iast rfl (ar_Lg_9 ho hK) hg (fun g9 he_g9 => ?_)
      have h := h g9 he_g9
      refine Rn_pure 2 (i' := 81) (L' := [some (2, o), some (0, p1), some (0, p2), some (0, p3), some (0, p4), some (0, p5), some (2, p6)]) (st' := [(2, o), (2, o)]) rfl ?_
      refine Rn_getI rfl (ob_Lg ho hK) ?_
      refine Rn_pure 2 (i' := 84) (L' := [some (2, o), some (0, p1), some (0, p2), some (0, p3), some (0, p4), some (0, p5), some (2, p6)]) (st' := [(0, g9 o 10 + 1), (2, o)]) rfl ?_
      refine Rn_putI rfl (ob_Lg ho hK) (fun g10 he_g10 => ?_)
      have h := h g10 he_g10
      exact Rn_ret0 rfl h
    · have h := h.2 hc
      exact Rn_ret0 rfl h
-- EventLedger$Log.addVoid (II)V
theorem v_Lg_addVoid {K : Int} {S : Nat} {g r : ab_H} {o p1 p2 : Int} (P : ab_H → ab_H → Prop) (hr : SI r) (hK : 186 ≤ K) (ho : isLg o) (h : ((wr 120 ≤ wr (g o 10) → P g r) ∧ (wr (g o 10) < wr 120 → ab_RI m_Lg_holds [(2, o), (0, p1)] K S g r (fun x1 g' r' => g' = g ∧ r' = r ∧ (((¬ wr x1 = wr 0 → ((0 : Int) ≤ g o 10 ∧ (g o 10 : Int) < 120) ∧ ∀ g2, g2 = ab_up g (o + 1) (g o 10) 7 → ((0 : Int) ≤ g2 o 10 ∧ (g2 o 10 : Int) < 120) ∧ ∀ g3, g3 = ab_up g2 (o + 2) (g2 o 10) (-1) → ((0 : Int) ≤ g3 o 10 ∧ (g3 o 10 : Int) < 120) ∧ ∀ g4, g4 = ab_up g3 (o + 3) (g3 o 10) p1 → ((0 : Int) ≤ g4 o 10 ∧ (g4 o 10 : Int) < 120) ∧ ∀ g5, g5 = ab_up g4 (o + 4) (g4 o 10) p2 → ((0 : Int) ≤ g5 o 10 ∧ (g5 o 10 : Int) < 120) ∧ ∀ g6, g6 = ab_up g5 (o + 5) (g5 o 10) 0 → ((0 : Int) ≤ g6 o 10 ∧ (g6 o 10 : Int) < 120) ∧ ∀ g7, g7 = ab_up g6 (o + 8) (g6 o 10) 0 → ((0 : Int) ≤ g7 o 10 ∧ (g7 o 10 : Int) < 120) ∧ ∀ g8, g8 = ab_up g7 (o + 9) (g7 o 10) (-1) → ((0 : Int) ≤ g8 o 10 ∧ (g8 o 10 : Int) < 121) ∧ ((0 : Int) ≤ g8 o 10 + 1 ∧ (g8 o 10 + 1 : Int) < 121) ∧ ∀ g9, g9 = ab_up g8 (o + 10) (g8 o 10 + 1) (g8 (o + 10) (g8 o 10) + 1) → ((0 : Int) ≤ p1 ∧ (p1 : Int) < 120) ∧ ∀ g10, g10 = ab_up g9 (o + 9) p1 (g9 o 10) → ∀ g11, g11 = ab_up g10 o 10 (g10 o 10 + 1) → P g11 r) ∧ (wr x1 = wr 0 → P g r))))))) : ab_RV m_Lg_addVoid [(2, o), (0, p1), (0, p2)] K S g r P := by
  show ab_Rn m_Lg_addVoid 0 [some (2, o), some (0, p1), some (0, p2)] [] (K, S, g, r) (ab_Qv K S P)
  refine Rn_pure 1 (i' := 1) (L' := [some (2, o), some (0, p1), some (0, p2)]) (st' := [(2, o)]) rfl ?_
  refine Rn_getI rfl (ob_Lg ho hK) ?_
  refine Rn_pure 1 (i' := 3) (L' := [some (2, o), some (0, p1), some (0, p2)]) (st' := [(0, 120), (0, g o 10)]) rfl ?_
  refine Rn_icge rfl (fun hc => ?_) (fun hc => ?_)
  · have h := h.1 hc
    exact Rn_ret0 rfl h
  · have h := h.2 hc
    refine Rn_pure 2 (i' := 6) (L' := [some (2, o), some (0, p1), some (0, p2)]) (st' := [(0, p1), (2, o)]) rfl ?_
    refine Rn_callI [(2, o), (0, p1)] [] rfl rfl rfl rfl (ab_rvB_of rfl (ob_Lg ho hK)) ?_
    refine h.mono (fun x1 g' r' h => ?_)
    obtain ⟨hx, h⟩ := h
    replace hx := hx.symm
    subst hx
    obtain ⟨hx, h⟩ := h
    replace hx := hx.symm
    subst hx
    refine Rn_ifne rfl (fun hc => ?_) (fun hc => ?_)
    · have h := h.1 hc
      refine Rn_pure 1 (i' := 10) (L' := [some (2, o), some (0, p1), some (0, p2)]) (st' := [(2, o)]) rfl ?_
      refine Rn_getR rfl (ob_Lg ho hK) (fx_Lg_0 hr ho) (show (o + 1 : Int) ≠ -1 by have := ho; unfold isLg at this; omega) ?_
      refine Rn_pure 1 (i' := 12) (L' := [some (2, o), some (0, p1), some (0, p2)]) (st' := [(2, o), (2, o + 1)]) rfl ?_
      refine Rn_getI rfl (ob_Lg ho hK) ?_
      refine Rn_pure 1 (i' := 14) (L' := [some (2, o), some (0, p1), some (0, p2)]) (st' := [(0, 7), (0, g o 10), (2, o + 1)]) rfl ?_
      obtain ⟨hg, h⟩ := h
      refine Rn_iast rfl (ar_Lg_0 ho hK) hg (fun g2 he_g2 => ?_)
      have h := h g2 he_g2
      refine Rn_pure 1 (i' := 16) (L' := [some (2, o), some (0, p1), some (0, p2)]) (st' := [(2, o)]) rfl ?_
      refine Rn_getR rfl (ob_Lg ho hK) (fx_Lg_1 hr ho) (show (o + 2 : Int) ≠ -1 by have := ho; unfold isLg at this; omega) ?_
      refine Rn_pure 1 (i' := 18) (L' := [some (2, o), some (0, p1), some (0, p2)]) (st' := [(2, o), (2, o + 2)]) rfl ?_
      refine Rn_getI rfl (ob_Lg ho hK) ?_
      refine Rn_pure 1 (i' := 20) (L' := [some (2, o), some (0, p1), some (0, p2)]) (st' := [(0, (-1)), (0, g2 o 10), (2, o + 2)]) rfl ?_
      obtain ⟨hg, h⟩ := h
      refine Rn_iast rfl (ar_Lg_1 ho hK) hg (fun g3 he_g3 => ?_)
      have h := h g3 he_g3
      refine Rn_pure 1 (i' := 22) (L' := [some (2, o), some (0, p1), some (0, p2)]) (st' := [(2, o)]) rfl ?_
      refine Rn_getR rfl (ob_Lg ho hK) (fx_Lg_2 hr ho) (show (o + 3 : Int) ≠ -1 by have := ho; unfold isLg at this; omega) ?_
      refine Rn_pure 1 (i' := 24) (L' := [some (2, o), some (0, p1), some (0, p2)]) (st' := [(2, o), (2, o + 3)]) rfl ?_
      refine Rn_getI rfl (ob_Lg ho hK) ?_
      refine Rn_pure 1 (i' := 26) (L' := [some (2, o), some (0, p1), some (0, p2)]) (st' := [(0, p1), (0, g3 o 10), (2, o + 3)]) rfl ?_
      obtain ⟨hg, h⟩ := h
      refine Rn_iast rfl (ar_Lg_2 ho hK) hg (fun g4 he_g4 => ?_)
      have h := h g4 he_g4
      refine Rn_pure 1 (i' := 28) (L' := [some (2, o), some (0, p1), some (0, p2)]) (st' := [(2, o)]) rfl ?_
      refine Rn_getR rfl (ob_Lg ho hK) (fx_Lg_3 hr ho) (show (o + 4 : Int) ≠ -1 by have := ho; unfold isLg at this; omega) ?_
      refine Rn_pure 1 (i' := 30) (L' := [some (2, o), some (0, p1), some (0, p2)]) (st' := [(2, o), (2, o + 4)]) rfl ?_
      refine Rn_getI rfl (ob_Lg ho hK) ?_
      refine Rn_pure 1 (i' := 32) (L' := [some (2, o), some (0, p1), some (0, p2)]) (st' := [(0, p2), (0, g4 o 10), (2, o + 4)]) rfl ?_
      obtain ⟨hg, h⟩ := h
      refine Rn_iast rfl (ar_Lg_3 ho hK) hg (fun g5 he_g5 => ?_)
      have h := h g5 he_g5
      refine Rn_pure 1 (i' := 34) (L' := [some (2, o), some (0, p1), some (0, p2)]) (st' := [(2, o)]) rfl ?_
      refine Rn_getR rfl (ob_Lg ho hK) (fx_Lg_4 hr ho) (show (o + 5 : Int) ≠ -1 by have := ho; unfold isLg at this; omega) ?_
      refine Rn_pure 1 (i' := 36) (L' := [some (2, o), some (0, p1), some (0, p2)]) (st' := [(2, o), (2, o + 5)]) rfl ?_
      refine Rn_getI rfl (ob_Lg ho hK) ?_
      refine Rn_pure 1 (i' := 38) (L' := [some (2, o), some (0, p1), some (0, p2)]) (st' := [(0, 0), (0, g5 o 10), (2, o + 5)]) rfl ?_
      obtain ⟨hg, h⟩ := h
      refine Rn_iast rfl (ar_Lg_4 ho hK) hg (fun g6 he_g6 => ?_)
      have h := h g6 he_g6
      refine Rn_pure 1 (i' := 40) (L' := [some (2, o), some (0, p1), some (0, p2)]) (st' := [(2, o)]) rfl ?_
      refine Rn_getR rfl (ob_Lg ho hK) (fx_Lg_7 hr ho) (show (o + 8 : Int) ≠ -1 by have := ho; unfold isLg at this; omega) ?_
      refine Rn_pure 1 (i' := 42) (L' := [some (2, o), some (0, p1), some (0, p2)]) (st' := [(2, o), (2, o + 8)]) rfl ?_
      refine Rn_getI rfl (ob_Lg ho hK) ?_
      refine Rn_pure 1 (i' := 44) (L' := [some (2, o), some (0, p1), some (0, p2)]) (st' := [(0, 0), (0, g6 o 10), (2, o + 8)]) rfl ?_
      obtain ⟨hg, h⟩ := h
      refine Rn_iast rfl (ar_Lg_7 ho hK) hg (fun g7 he_g7 => ?_)
      have h := h g7 he_g7
      refine Rn_pure 1 (i' := 46) (L' := [some (2, o), some (0, p1), some (0, p2)]) (st' := [(2, o)]) rfl ?_
      refine Rn_getR rfl (ob_Lg ho hK) (fx_Lg_8 hr ho) (show (o + 9 : Int) ≠ -1 by have := ho; unfold isLg at this; omega) ?_
      refine Rn_pure 1 (i' := 48) (L' := [some (2, o), some (0, p1), some (0, p2)]) (st' := [(2, o), (2, o + 9)]) rfl ?_
      refine Rn_getI rfl (ob_Lg ho hK) ?_
      refine Rn_pure 1 (i' := 50) (L' := [some (2, o), some (0, p1), some (0, p2)]) (st' := [(0, (-1)), (0, g7 o 10), (2, o + 9)]) rfl ?_
      obtain ⟨hg, h⟩ := h
      refine Rn_iast rfl (ar_Lg_8 ho hK) hg (fun g8 he_g8 => ?_)
      have h := h g8 he_g8
      refine Rn_pure 1 (i' := 52) (L' := [some (2, o), some (0, p1), some (0, p2)]) (st' := [(2, o)]) rfl ?_
      refine Rn_getR rfl (ob_Lg ho hK) (fx_Lg_9 hr ho) (show (o + 10 : Int) ≠ -1 by have := ho; unfold isLg at this; omega) ?_
      refine Rn_pure 1 (i' := 54) (L' := [some (2, o), some (0, p1), some (0, p2)]) (st' := [(2, o), (2, o + 10)]) rfl ?_
      refine Rn_getI rfl (ob_Lg ho hK) ?_
      refine Rn_pure 3 (i' := 58) (L' := [some (2, o), some (0, p1), some (0, p2)]) (st' := [(2, o), (0, g8 o 10 + 1), (2, o + 10)]) rfl ?_
      refine Rn_getR rfl (ob_Lg ho hK) (fx_Lg_9 hr ho) (show (o + 10 : Int) ≠ -1 by have := ho; unfold isLg at this; omega) ?_
      refine Rn_pure 1 (i' := 60) (L' := [some (2, o), some (0, p1), some (0, p2)]) (st' := [(2, o), (2, o + 10), (0, g8 o 10 + 1), (2, o + 10)]) rfl ?_
      refine Rn_getI rfl (ob_Lg ho hK) ?_
      obtain ⟨hg, h⟩ := h
      refine Rn_iald rfl (ar_Lg_9 ho hK) hg ?_
      refine Rn_pure 2 (i' := 64) (L' := [some (2, o), some (0, p1), some (0, p2)]) (st' := [(0, g8 (o + 10) (g8 o 10) + 1), (0, g8 o 10 + 1), (2, o + 10)]) rfl ?_
      obtain ⟨hg, h⟩ := h
      refine Rn_iast rfl (ar_Lg_9 ho hK) hg (fun g9 he_g9 => ?_)
      have h := h g9 he_g9
      refine Rn_pure 1 (i' := 66) (L' := [some (2, o), some (0, p1), some (0, p2)]) (st' := [(2, o)]) rfl ?_
      refine Rn_getR rfl (ob_Lg ho hK) (fx_Lg_8 hr ho) (show (o + 9 : Int) ≠ -1 by have := ho; unfold isLg at this; omega) ?_
      refine Rn_pure 2 (i' := 69) (L' := [some (2, o), some (0, p1), some (0, p2)]) (st' := [(2, o), (0, p1), (2, o + 9)]) rfl ?_
      refine Rn_getI rfl (ob_Lg ho hK) ?_
      obtain ⟨hg, h⟩ := h
      refine Rn_iast rfl (ar_Lg_8 ho hK) hg (fun g10 he_g10 => ?_)
      have h := h g10 he_g10
      refine Rn_pure 2 (i' := 73) (L' := [some (2, o), some (0, p1), some (0, p2)]) (st' := [(2, o), (2, o)]) rfl ?_
      refine Rn_getI rfl (ob_Lg ho hK) ?_
      refine Rn_pure 2 (i' := 76) (L' := [some (2, o), some (0, p1), some (0, p2)]) (st' := [(0, g10 o 10 + 1), (2, o)]) rfl ?_
      refine Rn_putI rfl (ob_Lg ho hK) (fun g11 he_g11 => ?_)
      have h := h g11 he_g11
      exact Rn_ret0 rfl h
    · have h := h.2 hc
      exact Rn_ret0 rfl h
-- EventLedger$Log.cutTo (I)V
theorem v_Lg_cutTo {K : Int} {S : Nat} {g r : ab_H} {o p1 : Int} (P : ab_H → ab_H → Prop) (hr : SI r) (hK : 186 ≤ K) (ho : isLg o) (h : ab_Rn m_Lg_cutTo 5 [some (2, o), some (0, p1), some (0, g o 10 - 1)] [] (K, S, g, r) (ab_Qv K S P)) : ab_RV m_Lg_cutTo [(2, o), (0, p1)] K S g r P := by
  show ab_Rn m_Lg_cutTo 0 [some (2, o), some (0, p1), none] [] (K, S, g, r) (ab_Qv K S P)
  refine Rn_pure 1 (i' := 1) (L' := [some (2, o), some (0, p1), none]) (st' := [(2, o)]) rfl ?_
  refine Rn_getI rfl (ob_Lg ho hK) ?_
  refine Rn_pure 3 (i' := 5) (L' := [some (2, o), some (0, p1), some (0, g o 10 - 1)]) (st' := []) rfl ?_
  exact h
theorem v_Lg_cutTo_5 {K : Int} {S : Nat} {g r : ab_H} {o l1 l2 : Int} (P : ab_H → ab_H → Prop) (hr : SI r) (hK : 186 ≤ K) (ho : isLg o) (h : ((wr l2 < wr l1 → P g r) ∧ (wr l1 ≤ wr l2 → ((wr l2 < wr 0 → P g r) ∧ (wr 0 ≤ wr l2 → ((0 : Int) ≤ l2 ∧ (l2 : Int) < 120) ∧ ((¬ wr (g (o + 1) l2) = wr 7 → ∀ g1, g1 = ab_up g o 10 l2 → ab_Rn m_Lg_cutTo 5 [some (2, o), some (0, l1), some (0, l2 + (-1))] [] (K, S, g1, r) (ab_Qv K S P)) ∧ (wr (g (o + 1) l2) = wr 7 → ((0 : Int) ≤ l2 ∧ (l2 : Int) < 120) ∧ ((0 : Int) ≤ g (o + 3) l2 ∧ (g (o + 3) l2 : Int) < 120) ∧ ∀ g2, g2 = ab_up g (o + 9) (g (o + 3) l2) (-1) → ∀ g3, g3 = ab_up g2 o 10 l2 → ab_Rn m_Lg_cutTo 5 [some (2, o), some (0, l1), some (0, l2 + (-1))] [] (K, S, g3, r) (ab_Qv K S P)))))))) : ab_Rn m_Lg_cutTo 5 [some (2, o), some (0, l1), some (0, l2)] [] (K, S, g, r) (ab_Qv K S P) := by
  refine Rn_pure 2 (i' := 7) (L' := [some (2, o), some (0, l1), some (0, l2)]) (st' := [(0, l1), (0, l2)]) rfl ?_
  refine Rn_iclt rfl (fun hc => ?_) (fun hc => ?_)
  · have h := h.1 hc
    exact Rn_ret0 rfl h
  · have h := h.2 hc
    refine Rn_pure 1 (i' := 9) (L' := [some (2, o), some (0, l1), some (0, l2)]) (st' := [(0, l2)]) rfl ?_
    refine Rn_iflt rfl (fun hc => ?_) (fun hc => ?_)
    · have h := h.1 hc
      exact Rn_ret0 rfl h
    · have h := h.2 hc
      refine Rn_pure 1 (i' := 11) (L' := [some (2, o), some (0, l1), some (0, l2)]) (st' := [(2, o)]) rfl ?_
      refine Rn_getR rfl (ob_Lg ho hK) (fx_Lg_0 hr ho) (show (o + 1 : Int) ≠ -1 by have := ho; unfold isLg at this; omega) ?_
      refine Rn_pure 1 (i' := 13) (L' := [some (2, o), some (0, l1), some (0, l2)]) (st' := [(0, l2), (2, o + 1)]) rfl ?_
      obtain ⟨hg, h⟩ := h
      refine Rn_iald rfl (ar_Lg_0 ho hK) hg ?_
      refine Rn_pure 1 (i' := 15) (L' := [some (2, o), some (0, l1), some (0, l2)]) (st' := [(0, 7), (0, g (o + 1) l2)]) rfl ?_
      refine Rn_icne rfl (fun hc => ?_) (fun hc => ?_)
      · have h := h.1 hc
        refine Rn_pure 2 (i' := 26) (L' := [some (2, o), some (0, l1), some (0, l2)]) (st' := [(0, l2), (2, o)]) rfl ?_
        refine Rn_putI rfl (ob_Lg ho hK) (fun g1 he_g1 => ?_)
        have h := h g1 he_g1
        refine Rn_pure 2 (i' := 5) (L' := [some (2, o), some (0, l1), some (0, l2 + (-1))]) (st' := []) rfl ?_
        exact h
      · have h := h.2 hc
        refine Rn_pure 1 (i' := 17) (L' := [some (2, o), some (0, l1), some (0, l2)]) (st' := [(2, o)]) rfl ?_
        refine Rn_getR rfl (ob_Lg ho hK) (fx_Lg_8 hr ho) (show (o + 9 : Int) ≠ -1 by have := ho; unfold isLg at this; omega) ?_
        refine Rn_pure 1 (i' := 19) (L' := [some (2, o), some (0, l1), some (0, l2)]) (st' := [(2, o), (2, o + 9)]) rfl ?_
        refine Rn_getR rfl (ob_Lg ho hK) (fx_Lg_2 hr ho) (show (o + 3 : Int) ≠ -1 by have := ho; unfold isLg at this; omega) ?_
        refine Rn_pure 1 (i' := 21) (L' := [some (2, o), some (0, l1), some (0, l2)]) (st' := [(0, l2), (2, o + 3), (2, o + 9)]) rfl ?_
        obtain ⟨hg, h⟩ := h
        refine Rn_iald rfl (ar_Lg_2 ho hK) hg ?_
        refine Rn_pure 1 (i' := 23) (L' := [some (2, o), some (0, l1), some (0, l2)]) (st' := [(0, (-1)), (0, g (o + 3) l2), (2, o + 9)]) rfl ?_
        obtain ⟨hg, h⟩ := h
        refine Rn_iast rfl (ar_Lg_8 ho hK) hg (fun g2 he_g2 => ?_)
        have h := h g2 he_g2
        refine Rn_pure 2 (i' := 26) (L' := [some (2, o), some (0, l1), some (0, l2)]) (st' := [(0, l2), (2, o)]) rfl ?_
        refine Rn_putI rfl (ob_Lg ho hK) (fun g3 he_g3 => ?_)
        have h := h g3 he_g3
        refine Rn_pure 2 (i' := 5) (L' := [some (2, o), some (0, l1), some (0, l2 + (-1))]) (st' := []) rfl ?_
        exact h
-- EventLedger$Log.unlift (I)V
theorem v_Lg_unlift {K : Int} {S : Nat} {g r : ab_H} {o p1 : Int} (P : ab_H → ab_H → Prop) (hr : SI r) (hK : 186 ≤ K) (ho : isLg o) (h : (187 ≤ K) ∧ ((o + 6 : Int) ≠ o + 7) ∧ ((0 : Int) ≤ 3 ∧ (0 : Int) ≤ 3 * p1 ∧ (0 : Int) ≤ 3 * p1 ∧ (3 * p1 + 3 : Int) ≤ 360 ∧ (3 * p1 + 3 : Int) ≤ 360) ∧ ∀ g1, g1 = ab_cpy g (o + 6) (3 * p1) (o + 7) (3 * p1) 3 → ((0 : Int) ≤ p1 ∧ (p1 : Int) < 120) ∧ ∀ g2, g2 = ab_up g1 (o + 8) p1 0 → P g2 r) : ab_RV m_Lg_unlift [(2, o), (0, p1)] K S g r P := by
  show ab_Rn m_Lg_unlift 0 [some (2, o), some (0, p1)] [] (K, S, g, r) (ab_Qv K S P)
  refine Rn_pure 1 (i' := 1) (L' := [some (2, o), some (0, p1)]) (st' := [(2, o)]) rfl ?_
  refine Rn_getR rfl (ob_Lg ho hK) (fx_Lg_5 hr ho) (show (o + 6 : Int) ≠ -1 by have := ho; unfold isLg at this; omega) ?_
  refine Rn_pure 4 (i' := 6) (L' := [some (2, o), some (0, p1)]) (st' := [(2, o), (0, 3 * p1), (2, o + 6)]) rfl ?_
  refine Rn_getR rfl (ob_Lg ho hK) (fx_Lg_6 hr ho) (show (o + 7 : Int) ≠ -1 by have := ho; unfold isLg at this; omega) ?_
  refine Rn_pure 4 (i' := 11) (L' := [some (2, o), some (0, p1)]) (st' := [(0, 3), (0, 3 * p1), (2, o + 7), (0, 3 * p1), (2, o + 6)]) rfl ?_
  obtain ⟨hg, h⟩ := h
  have hg1 := hg
  obtain ⟨hg, h⟩ := h
  have hg2 := hg
  obtain ⟨hg, h⟩ := h
  refine Rn_copy rfl (ar_Lg_5 ho hK) (ar_Lg_6 ho hK) (by decide) hg1 hg2 hg (fun g1 he_g1 => ?_)
  have h := h g1 he_g1
  refine Rn_pure 1 (i' := 13) (L' := [some (2, o), some (0, p1)]) (st' := [(2, o)]) rfl ?_
  refine Rn_getR rfl (ob_Lg ho hK) (fx_Lg_7 hr ho) (show (o + 8 : Int) ≠ -1 by have := ho; unfold isLg at this; omega) ?_
  refine Rn_pure 2 (i' := 16) (L' := [some (2, o), some (0, p1)]) (st' := [(0, 0), (0, p1), (2, o + 8)]) rfl ?_
  obtain ⟨hg, h⟩ := h
  refine Rn_iast rfl (ar_Lg_7 ho hK) hg (fun g2 he_g2 => ?_)
  have h := h g2 he_g2
  exact Rn_ret0 rfl h
-- EventLedger$Log.weights (II)I
theorem v_Lg_weights {K : Int} {S : Nat} {g r : ab_H} {o p1 p2 : Int} (P : Int → ab_H → ab_H → Prop) (hr : SI r) (hK : 186 ≤ K) (ho : isLg o) (h : ((0 : Int) ≤ p2 ∧ (p2 : Int) < 121) ∧ ((0 : Int) ≤ p1 ∧ (p1 : Int) < 121) ∧ P (g (o + 10) p2 - (g (o + 10) p1)) g r) : ab_RI m_Lg_weights [(2, o), (0, p1), (0, p2)] K S g r P := by
  show ab_Rn m_Lg_weights 0 [some (2, o), some (0, p1), some (0, p2)] [] (K, S, g, r) (ab_Qi K S P)
  refine Rn_pure 1 (i' := 1) (L' := [some (2, o), some (0, p1), some (0, p2)]) (st' := [(2, o)]) rfl ?_
  refine Rn_getR rfl (ob_Lg ho hK) (fx_Lg_9 hr ho) (show (o + 10 : Int) ≠ -1 by have := ho; unfold isLg at this; omega) ?_
  refine Rn_pure 1 (i' := 3) (L' := [some (2, o), some (0, p1), some (0, p2)]) (st' := [(0, p2), (2, o + 10)]) rfl ?_
  obtain ⟨hg, h⟩ := h
  refine Rn_iald rfl (ar_Lg_9 ho hK) hg ?_
  refine Rn_pure 1 (i' := 5) (L' := [some (2, o), some (0, p1), some (0, p2)]) (st' := [(2, o), (0, g (o + 10) p2)]) rfl ?_
  refine Rn_getR rfl (ob_Lg ho hK) (fx_Lg_9 hr ho) (show (o + 10 : Int) ≠ -1 by have := ho; unfold isLg at this; omega) ?_
  refine Rn_pure 1 (i' := 7) (L' := [some (2, o), some (0, p1), some (0, p2)]) (st' := [(0, p1), (2, o + 10), (0, g (o + 10) p2)]) rfl ?_
  obtain ⟨hg, h⟩ := h
  refine Rn_iald rfl (ar_Lg_9 ho hK) hg ?_
  refine Rn_pure 1 (i' := 9) (L' := [some (2, o), some (0, p1), some (0, p2)]) (st' := [(0, g (o + 10) p2 - (g (o + 10) p1))]) rfl ?_
  exact Rn_ret1 rfl h
-- EventLedger$Log.placeAt (I)I
theorem v_Lg_placeAt {K : Int} {S : Nat} {g r : ab_H} {o p1 : Int} (P : Int → ab_H → ab_H → Prop) (hr : SI r) (hK : 186 ≤ K) (ho : isLg o) (h : ab_Rn m_Lg_placeAt 2 [some (2, o), some (0, p1), some (0, 0)] [] (K, S, g, r) (ab_Qi K S P)) : ab_RI m_Lg_placeAt [(2, o), (0, p1)] K S g r P := by
  show ab_Rn m_Lg_placeAt 0 [some (2, o), some (0, p1), none] [] (K, S, g, r) (ab_Qi K S P)
  refine Rn_pure 2 (i' := 2) (L' := [some (2, o), some (0, p1), some (0, 0)]) (st' := []) rfl ?_
  exact h
theorem v_Lg_placeAt_2 {K : Int} {S : Nat} {g r : ab_H} {o l1 l2 : Int} (P : Int → ab_H → ab_H → Prop) (hr : SI r) (hK : 186 ≤ K) (ho : isLg o) (h : ((wr (g o 10) ≤ wr l2 → P l2 g r) ∧ (wr l2 < wr (g o 10) → ((0 : Int) ≤ l2 ∧ (l2 : Int) < 120) ∧ ((wr l1 < wr (g (o + 4) l2) → P l2 g r) ∧ (wr (g (o + 4) l2) ≤ wr l1 → ab_Rn m_Lg_placeAt 2 [some (2, o), some (0, l1), some (0, l2 + 1)] [] (K, S, g, r) (ab_Qi K S P)))))) : ab_Rn m_Lg_placeAt 2 [some (2, o), some (0, l1), some (0, l2)] [] (K, S, g, r) (ab_Qi K S P) := by
  refine Rn_pure 2 (i' := 4) (L' := [some (2, o), some (0, l1), some (0, l2)]) (st' := [(2, o), (0, l2)]) rfl ?_
  refine Rn_getI rfl (ob_Lg ho hK) ?_
  refine Rn_icge rfl (fun hc => ?_) (fun hc => ?_)
  · have h := h.1 hc
    refine Rn_pure 1 (i' := 15) (L' := [some (2, o), some (0, l1), some (0, l2)]) (st' := [(0, l2)]) rfl ?_
    exact Rn_ret1 rfl h
  · have h := h.2 hc
    refine Rn_pure 1 (i' := 7) (L' := [some (2, o), some (0, l1), some (0, l2)]) (st' := [(2, o)]) rfl ?_
    refine Rn_getR rfl (ob_Lg ho hK) (fx_Lg_3 hr ho) (show (o + 4 : Int) ≠ -1 by have := ho; unfold isLg at this; omega) ?_
    refine Rn_pure 1 (i' := 9) (L' := [some (2, o), some (0, l1), some (0, l2)]) (st' := [(0, l2), (2, o + 4)]) rfl ?_
    obtain ⟨hg, h⟩ := h
    refine Rn_iald rfl (ar_Lg_3 ho hK) hg ?_
    refine Rn_pure 1 (i' := 11) (L' := [some (2, o), some (0, l1), some (0, l2)]) (st' := [(0, l1), (0, g (o + 4) l2)]) rfl ?_
    refine Rn_icgt rfl (fun hc => ?_) (fun hc => ?_)
    · have h := h.1 hc
      refine Rn_pure 1 (i' := 15) (L' := [some (2, o), some (0, l1), some (0, l2)]) (st' := [(0, l2)]) rfl ?_
      exact Rn_ret1 rfl h
    · have h := h.2 hc
      refine Rn_pure 2 (i' := 2) (L' := [some (2, o), some (0, l1), some (0, l2 + 1)]) (st' := []) rfl ?_
      exact h
-- EventLedger$Log.countVoided ()I
theorem v_Lg_countVoided {K : Int} {S : Nat} {g r : ab_H} {o : Int} (P : Int → ab_H → ab_H → Prop) (hr : SI r) (hK : 186 ≤ K) (ho : isLg o) (h : ab_Rn m_Lg_countVoided 4 [some (2, o), some (0, 0), some (0, 0)] [] (K, S, g, r) (ab_Qi K S P)) : ab_RI m_Lg_countVoided [(2, o)] K S g r P := by
  show ab_Rn m_Lg_countVoided 0 [some (2, o), none, none] [] (K, S, g, r) (ab_Qi K S P)
  refine Rn_pure 4 (i' := 4) (L' := [some (2, o), some (0, 0), some (0, 0)]) (st' := []) rfl ?_
  exact h
theorem v_Lg_countVoided_4 {K : Int} {S : Nat} {g r : ab_H} {o l1 l2 : Int} (P : Int → ab_H → ab_H → Prop) (hr : SI r) (hK : 186 ≤ K) (ho : isLg o) (h : ((wr (g o 10) ≤ wr l2 → P l1 g r) ∧ (wr l2 < wr (g o 10) → ((0 : Int) ≤ l2 ∧ (l2 : Int) < 120) ∧ ((wr (g (o + 9) l2) = wr (-1) → ab_Rn m_Lg_countVoided 4 [some (2, o), some (0, l1), some (0, l2 + 1)] [] (K, S, g, r) (ab_Qi K S P)) ∧ (¬ wr (g (o + 9) l2) = wr (-1) → ab_Rn m_Lg_countVoided 4 [some (2, o), some (0, l1 + 1), some (0, l2 + 1)] [] (K, S, g, r) (ab_Qi K S P)))))) : ab_Rn m_Lg_countVoided 4 [some (2, o), some (0, l1), some (0, l2)] [] (K, S, g, r) (ab_Qi K S P) := by
  refine Rn_pure 2 (i' := 6) (L' := [some (2, o), some (0, l1), some (0, l2)]) (st' := [(2, o), (0, l2)]) rfl ?_
  refine Rn_getI rfl (ob_Lg ho hK) ?_
  refine Rn_icge rfl (fun hc => ?_) (fun hc => ?_)
  · have h := h.1 hc
    refine Rn_pure 1 (i' := 18) (L' := [some (2, o), some (0, l1), some (0, l2)]) (st' := [(0, l1)]) rfl ?_
    exact Rn_ret1 rfl h
  · have h := h.2 hc
    refine Rn_pure 1 (i' := 9) (L' := [some (2, o), some (0, l1), some (0, l2)]) (st' := [(2, o)]) rfl ?_
    refine Rn_getR rfl (ob_Lg ho hK) (fx_Lg_8 hr ho) (show (o + 9 : Int) ≠ -1 by have := ho; unfold isLg at this; omega) ?_
    refine Rn_pure 1 (i' := 11) (L' := [some (2, o), some (0, l1), some (0, l2)]) (st' := [(0, l2), (2, o + 9)]) rfl ?_
    obtain ⟨hg, h⟩ := h
    refine Rn_iald rfl (ar_Lg_8 ho hK) hg ?_
    refine Rn_pure 1 (i' := 13) (L' := [some (2, o), some (0, l1), some (0, l2)]) (st' := [(0, (-1)), (0, g (o + 9) l2)]) rfl ?_
    refine Rn_iceq rfl (fun hc => ?_) (fun hc => ?_)
    · have h := h.1 hc
      refine Rn_pure 2 (i' := 4) (L' := [some (2, o), some (0, l1), some (0, l2 + 1)]) (st' := []) rfl ?_
      exact h
    · have h := h.2 hc
      refine Rn_pure 3 (i' := 4) (L' := [some (2, o), some (0, l1 + 1), some (0, l2 + 1)]) (st' := []) rfl ?_
      exact h
-- EventLedger$Log.copyFrom (LEventLedger$Log;)V
theorem v_Lg_copyFrom {K : Int} {S : Nat} {g r : ab_H} {o p1 : Int} (P : ab_H → ab_H → Prop) (hr : SI r) (hK : 186 ≤ K) (ho : isLg o) (hp1 : isLg p1) (h : ∀ g1, g1 = ab_up g o 10 (g p1 10) → (187 ≤ K) ∧ ((p1 + 1 : Int) ≠ o + 1) ∧ ((0 : Int) ≤ g1 o 10 ∧ (0 : Int) ≤ 0 ∧ (0 : Int) ≤ 0 ∧ (0 + (g1 o 10) : Int) ≤ 120 ∧ (0 + (g1 o 10) : Int) ≤ 120) ∧ ∀ g2, g2 = ab_cpy g1 (p1 + 1) 0 (o + 1) 0 (g1 o 10) → (187 ≤ K) ∧ ((p1 + 2 : Int) ≠ o + 2) ∧ ((0 : Int) ≤ g2 o 10 ∧ (0 : Int) ≤ 0 ∧ (0 : Int) ≤ 0 ∧ (0 + (g2 o 10) : Int) ≤ 120 ∧ (0 + (g2 o 10) : Int) ≤ 120) ∧ ∀ g3, g3 = ab_cpy g2 (p1 + 2) 0 (o + 2) 0 (g2 o 10) → (187 ≤ K) ∧ ((p1 + 3 : Int) ≠ o + 3) ∧ ((0 : Int) ≤ g3 o 10 ∧ (0 : Int) ≤ 0 ∧ (0 : Int) ≤ 0 ∧ (0 + (g3 o 10) : Int) ≤ 120 ∧ (0 + (g3 o 10) : Int) ≤ 120) ∧ ∀ g4, g4 = ab_cpy g3 (p1 + 3) 0 (o + 3) 0 (g3 o 10) → (187 ≤ K) ∧ ((p1 + 4 : Int) ≠ o + 4) ∧ ((0 : Int) ≤ g4 o 10 ∧ (0 : Int) ≤ 0 ∧ (0 : Int) ≤ 0 ∧ (0 + (g4 o 10) : Int) ≤ 120 ∧ (0 + (g4 o 10) : Int) ≤ 120) ∧ ∀ g5, g5 = ab_cpy g4 (p1 + 4) 0 (o + 4) 0 (g4 o 10) → (187 ≤ K) ∧ ((p1 + 5 : Int) ≠ o + 5) ∧ ((0 : Int) ≤ g5 o 10 ∧ (0 : Int) ≤ 0 ∧ (0 : Int) ≤ 0 ∧ (0 + (g5 o 10) : Int) ≤ 120 ∧ (0 + (g5 o 10) : Int) ≤ 120) ∧ ∀ g6, g6 = ab_cpy g5 (p1 + 5) 0 (o + 5) 0 (g5 o 10) → (187 ≤ K) ∧ ((p1 + 6 : Int) ≠ o + 6) ∧ ((0 : Int) ≤ 3 * (g6 o 10) ∧ (0 : Int) ≤ 0 ∧ (0 : Int) ≤ 0 ∧ (0 + (3 * (g6 o 10)) : Int) ≤ 360 ∧ (0 + (3 * (g6 o 10)) : Int) ≤ 360) ∧ ∀ g7, g7 = ab_cpy g6 (p1 + 6) 0 (o + 6) 0 (3 * (g6 o 10)) → (187 ≤ K) ∧ ((p1 + 7 : Int) ≠ o + 7) ∧ ((0 : Int) ≤ 3 * (g7 o 10) ∧ (0 : Int) ≤ 0 ∧ (0 : Int) ≤ 0 ∧ (0 + (3 * (g7 o 10)) : Int) ≤ 360 ∧ (0 + (3 * (g7 o 10)) : Int) ≤ 360) ∧ ∀ g8, g8 = ab_cpy g7 (p1 + 7) 0 (o + 7) 0 (3 * (g7 o 10)) → (187 ≤ K) ∧ ((p1 + 8 : Int) ≠ o + 8) ∧ ((0 : Int) ≤ g8 o 10 ∧ (0 : Int) ≤ 0 ∧ (0 : Int) ≤ 0 ∧ (0 + (g8 o 10) : Int) ≤ 120 ∧ (0 + (g8 o 10) : Int) ≤ 120) ∧ ∀ g9, g9 = ab_cpy g8 (p1 + 8) 0 (o + 8) 0 (g8 o 10) → (187 ≤ K) ∧ ((p1 + 9 : Int) ≠ o + 9) ∧ ((0 : Int) ≤ g9 o 10 ∧ (0 : Int) ≤ 0 ∧ (0 : Int) ≤ 0 ∧ (0 + (g9 o 10) : Int) ≤ 120 ∧ (0 + (g9 o 10) : Int) ≤ 120) ∧ ∀ g10, g10 = ab_cpy g9 (p1 + 9) 0 (o + 9) 0 (g9 o 10) → (187 ≤ K) ∧ ((p1 + 10 : Int) ≠ o + 10) ∧ ((0 : Int) ≤ g10 o 10 + 1 ∧ (0 : Int) ≤ 0 ∧ (0 : Int) ≤ 0 ∧ (0 + (g10 o 10 + 1) : Int) ≤ 121 ∧ (0 + (g10 o 10 + 1) : Int) ≤ 121) ∧ ∀ g11, g11 = ab_cpy g10 (p1 + 10) 0 (o + 10) 0 (g10 o 10 + 1) → P g11 r) : ab_RV m_Lg_copyFrom [(2, o), (2, p1)] K S g r P := by
  show ab_Rn m_Lg_copyFrom 0 [some (2, o), some (2, p1)] [] (K, S, g, r) (ab_Qv K S P)
  refine Rn_pure 2 (i' := 2) (L' := [some (2, o), some (2, p1)]) (st' := [(2, p1), (2, o)]) rfl ?_
  refine Rn_getI rfl (ob_Lg hp1 hK) ?_
  refine Rn_putI rfl (ob_Lg ho hK) (fun g1 he_g1 => ?_)
  have h := h g1 he_g1
  refine Rn_pure 1 (i' := 5) (L' := [some (2, o), some (2, p1)]) (st' := [(2, p1)]) rfl ?_
  refine Rn_getR rfl (ob_Lg hp1 hK) (fx_Lg_0 hr hp1) (show (p1 + 1 : Int) ≠ -1 by have := hp1; unfold isLg at this; omega) ?_
  refine Rn_pure 2 (i' := 8) (L' := [some (2, o), some (2, p1)]) (st' := [(2, o), (0, 0), (2, p1 + 1)]) rfl ?_
  refine Rn_getR rfl (ob_Lg ho hK) (fx_Lg_0 hr ho) (show (o + 1 : Int) ≠ -1 by have := ho; unfold isLg at this; omega) ?_
  refine Rn_pure 2 (i' := 11) (L' := [some (2, o), some (2, p1)]) (st' := [(2, o), (0, 0), (2, o + 1), (0, 0), (2, p1 + 1)]) rfl ?_
  refine Rn_getI rfl (ob_Lg ho hK) ?_
  obtain ⟨hg, h⟩ := h
  have hg1 := hg
  obtain ⟨hg, h⟩ := h
  have hg2 := hg
  obtain ⟨hg, h⟩ := h
  refine Rn_copy rfl (ar_Lg_0 hp1 hK) (ar_Lg_0 ho hK) (by decide) hg1 hg2 hg (fun g2 he_g2 => ?_)
  have h := h g2 he_g2
  refine Rn_pure 1 (i' := 14) (L' := [some (2, o), some (2, p1)]) (st' := [(2, p1)]) rfl ?_
  refine Rn_getR rfl (ob_Lg hp1 hK) (fx_Lg_1 hr hp1) (show (p1 + 2 : Int) ≠ -1 by have := hp1; unfold isLg at this; omega) ?_
  refine Rn_pure 2 (i' := 17) (L' := [some (2, o), some (2, p1)]) (st' := [(2, o), (0, 0), (2, p1 + 2)]) rfl ?_
  refine Rn_getR rfl (ob_Lg ho hK) (fx_Lg_1 hr ho) (show (o + 2 : Int) ≠ -1 by have := ho; unfold isLg at this; omega) ?_
  refine Rn_pure 2 (i' := 20) (L' := [some (2, o), some (2, p1)]) (st' := [(2, o), (0, 0), (2, o + 2), (0, 0), (2, p1 + 2)]) rfl ?_
  refine Rn_getI rfl (ob_Lg ho hK) ?_
  obtain ⟨hg, h⟩ := h
  have hg1 := hg
  obtain ⟨hg, h⟩ := h
  have hg2 := hg
  obtain ⟨hg, h⟩ := h
  refine Rn_copy rfl (ar_Lg_1 hp1 hK) (ar_Lg_1 ho hK) (by decide) hg1 hg2 hg (fun g3 he_g3 => ?_)
  have h := h g3 he_g3
  refine Rn_pure 1 (i' := 23) (L' := [some (2, o), some (2, p1)]) (st' := [(2, p1)]) rfl ?_
  refine Rn_getR rfl (ob_Lg hp1 hK) (fx_Lg_2 hr hp1) (show (p1 + 3 : Int) ≠ -1 by have := hp1; unfold isLg at this; omega) ?_
  refine Rn_pure 2 (i' := 26) (L' := [some (2, o), some (2, p1)]) (st' := [(2, o), (0, 0), (2, p1 + 3)]) rfl ?_
  refine Rn_getR rfl (ob_Lg ho hK) (fx_Lg_2 hr ho) (show (o + 3 : Int) ≠ -1 by have := ho; unfold isLg at this; omega) ?_
  refine Rn_pure 2 (i' := 29) (L' := [some (2, o), some (2, p1)]) (st' := [(2, o), (0, 0), (2, o + 3), (0, 0), (2, p1 + 3)]) rfl ?_
  refine Rn_getI rfl (ob_Lg ho hK) ?_
  obtain ⟨hg, h⟩ := h
  have hg1 := hg
  obtain ⟨hg, h⟩ := h
  have hg2 := hg
  obtain ⟨hg, h⟩ := h
  refine Rn_copy rfl (ar_Lg_2 hp1 hK) (ar_Lg_2 ho hK) (by decide) hg1 hg2 hg (fun g4 he_g4 => ?_)
  have h := h g4 he_g4
  refine Rn_pure 1 (i' := 32) (L' := [some (2, o), some (2, p1)]) (st' := [(2, p1)]) rfl ?_
  refine Rn_getR rfl (ob_Lg hp1 hK) (fx_Lg_3 hr hp1) (show (p1 + 4 : Int) ≠ -1 by have := hp1; unfold isLg at this; omega) ?_
  refine Rn_pure 2 (i' := 35) (L' := [some (2, o), some (2, p1)]) (st' := [(2, o), (0, 0), (2, p1 + 4)]) rfl ?_
  refine Rn_getR rfl (ob_Lg ho hK) (fx_Lg_3 hr ho) (show (o + 4 : Int) ≠ -1 by have := ho; unfold isLg at this; omega) ?_
  refine Rn_pure 2 (i' := 38) (L' := [some (2, o), some (2, p1)]) (st' := [(2, o), (0, 0), (2, o + 4), (0, 0), (2, p1 + 4)]) rfl ?_
  refine Rn_getI rfl (ob_Lg ho hK) ?_
  obtain ⟨hg, h⟩ := h
  have hg1 := hg
  obtain ⟨hg, h⟩ := h
  have hg2 := hg
  obtain ⟨hg, h⟩ := h
  refine Rn_copy rfl (ar_Lg_3 hp1 hK) (ar_Lg_3 ho hK) (by decide) hg1 hg2 hg (fun g5 he_g5 => ?_)
  have h := h g5 he_g5
  refine Rn_pure 1 (i' := 41) (L' := [some (2, o), some (2, p1)]) (st' := [(2, p1)]) rfl ?_
  refine Rn_getR rfl (ob_Lg hp1 hK) (fx_Lg_4 hr hp1) (show (p1 + 5 : Int) ≠ -1 by have := hp1; unfold isLg at this; omega) ?_
  refine Rn_pure 2 (i' := 44) (L' := [some (2, o), some (2, p1)]) (st' := [(2, o), (0, 0), (2, p1 + 5)]) rfl ?_
  refine Rn_getR rfl (ob_Lg ho hK) (fx_Lg_4 hr ho) (show (o + 5 : Int) ≠ -1 by have := ho; unfold isLg at this; omega) ?_
  refine Rn_pure 2 (i' := 47) (L' := [some (2, o), some (2, p1)]) (st' := [(2, o), (0, 0), (2, o + 5), (0, 0), (2, p1 + 5)]) rfl ?_
  refine Rn_getI rfl (ob_Lg ho hK) ?_
  obtain ⟨hg, h⟩ := h
  have hg1 := hg
  obtain ⟨hg, h⟩ := h
  have hg2 := hg
  obtain ⟨hg, h⟩ := h
  refine Rn_copy rfl (ar_Lg_4 hp1 hK) (ar_Lg_4 ho hK) (by decide) hg1 hg2 hg (fun g6 he_g6 => ?_)
  have h := h g6 he_g6
  refine Rn_pure 1 (i' := 50) (L' := [some (2, o), some (2, p1)]) (st' := [(2, p1)]) rfl ?_
  refine Rn_getR rfl (ob_Lg hp1 hK) (fx_Lg_5 hr hp1) (show (p1 + 6 : Int) ≠ -1 by have := hp1; unfold isLg at this; omega) ?_
  refine Rn_pure 2 (i' := 53) (L' := [some (2, o), some (2, p1)]) (st' := [(2, o), (0, 0), (2, p1 + 6)]) rfl ?_
  refine Rn_getR rfl (ob_Lg ho hK) (fx_Lg_5 hr ho) (show (o + 6 : Int) ≠ -1 by have := ho; unfold isLg at this; omega) ?_
  refine Rn_pure 3 (i' := 57) (L' := [some (2, o), some (2, p1)]) (st' := [(2, o), (0, 3), (0, 0), (2, o + 6), (0, 0), (2, p1 + 6)]) rfl ?_
  refine Rn_getI rfl (ob_Lg ho hK) ?_
  refine Rn_pure 1 (i' := 59) (L' := [some (2, o), some (2, p1)]) (st' := [(0, 3 * (g6 o 10)), (0, 0), (2, o + 6), (0, 0), (2, p1 + 6)]) rfl ?_
  obtain ⟨hg, h⟩ := h
  have hg1 := hg
  obtain ⟨hg, h⟩ := h
  have hg2 := hg
  obtain ⟨hg, h⟩ := h
  refine Rn_copy rfl (ar_Lg_5 hp1 hK) (ar_Lg_5 ho hK) (by decide) hg1 hg2 hg (fun g7 he_g7 => ?_)
  have h := h g7 he_g7
  refine Rn_pure 1 (i' := 61) (L' := [some (2, o), some (2, p1)]) (st' := [(2, p1)]) rfl ?_
  refine Rn_getR rfl (ob_Lg hp1 hK) (fx_Lg_6 hr hp1) (show (p1 + 7 : Int) ≠ -1 by have := hp1; unfold isLg at this; omega) ?_
  refine Rn_pure 2 (i' := 64) (L' := [some (2, o), some (2, p1)]) (st' := [(2, o), (0, 0), (2, p1 + 7)]) rfl ?_
  refine Rn_getR rfl (ob_Lg ho hK) (fx_Lg_6 hr ho) (show (o + 7 : Int) ≠ -1 by have := ho; unfold isLg at this; omega) ?_
  refine Rn_pure 3 (i' := 68) (L' := [some (2, o), some (2, p1)]) (st' := [(2, o), (0, 3), (0, 0), (2, o + 7), (0, 0), (2, p1 + 7)]) rfl ?_
  refine Rn_getI rfl (ob_Lg ho hK) ?_
  refine Rn_pure 1 (i' := 70) (L' := [some (2, o), some (2, p1)]) (st' := [(0, 3 * (g7 o 10)), (0, 0), (2, o + 7), (0, 0), (2, p1 + 7)]) rfl ?_
  obtain ⟨hg, h⟩ := h
  have hg1 := hg
  obtain ⟨hg, h⟩ := h
  have hg2 := hg
  obtain ⟨hg, h⟩ := h
  refine Rn_copy rfl (ar_Lg_6 hp1 hK) (ar_Lg_6 ho hK) (by decide) hg1 hg2 hg (fun g8 he_g8 => ?_)
  have h := h g8 he_g8
  refine Rn_pure 1 (i' := 72) (L' := [some (2, o), some (2, p1)]) (st' := [(2, p1)]) rfl ?_
  refine Rn_getR rfl (ob_Lg hp1 hK) (fx_Lg_7 hr hp1) (show (p1 + 8 : Int) ≠ -1 by have := hp1; unfold isLg at this; omega) ?_
  refine Rn_pure 2 (i' := 75) (L' := [some (2, o), some (2, p1)]) (st' := [(2, o), (0, 0), (2, p1 + 8)]) rfl ?_
  refine Rn_getR rfl (ob_Lg ho hK) (fx_Lg_7 hr ho) (show (o + 8 : Int) ≠ -1 by have := ho; unfold isLg at this; omega) ?_
  refine Rn_pure 2 (i' := 78) (L' := [some (2, o), some (2, p1)]) (st' := [(2, o), (0, 0), (2, o + 8), (0, 0), (2, p1 + 8)]) rfl ?_
  refine Rn_getI rfl (ob_Lg ho hK) ?_
  obtain ⟨hg, h⟩ := h
  have hg1 := hg
  obtain ⟨hg, h⟩ := h
  have hg2 := hg
  obtain ⟨hg, h⟩ := h
  refine Rn_copy rfl (ar_Lg_7 hp1 hK) (ar_Lg_7 ho hK) (by decide) hg1 hg2 hg (fun g9 he_g9 => ?_)
  have h := h g9 he_g9
  refine Rn_pure 1 (i' := 81) (L' := [some (2, o), some (2, p1)]) (st' := [(2, p1)]) rfl ?_
  refine Rn_getR rfl (ob_Lg hp1 hK) (fx_Lg_8 hr hp1) (show (p1 + 9 : Int) ≠ -1 by have := hp1; unfold isLg at this; omega) ?_
  refine Rn_pure 2 (i' := 84) (L' := [some (2, o), some (2, p1)]) (st' := [(2, o), (0, 0), (2, p1 + 9)]) rfl ?_
  refine Rn_getR rfl (ob_Lg ho hK) (fx_Lg_8 hr ho) (show (o + 9 : Int) ≠ -1 by have := ho; unfold isLg at this; omega) ?_
  refine Rn_pure 2 (i' := 87) (L' := [some (2, o), some (2, p1)]) (st' := [(2, o), (0, 0), (2, o + 9), (0, 0), (2, p1 + 9)]) rfl ?_
  refine Rn_getI rfl (ob_Lg ho hK) ?_
  obtain ⟨hg, h⟩ := h
  have hg1 := hg
  obtain ⟨hg, h⟩ := h
  have hg2 := hg
  obtain ⟨hg, h⟩ := h
  refine Rn_copy rfl (ar_Lg_8 hp1 hK) (ar_Lg_8 ho hK) (by decide) hg1 hg2 hg (fun g10 he_g10 => ?_)
  have h := h g10 he_g10
  refine Rn_pure 1 (i' := 90) (L' := [some (2, o), some (2, p1)]) (st' := [(2, p1)]) rfl ?_
  refine Rn_getR rfl (ob_Lg hp1 hK) (fx_Lg_9 hr hp1) (show (p1 + 10 : Int) ≠ -1 by have := hp1; unfold isLg at this; omega) ?_
  refine Rn_pure 2 (i' := 93) (L' := [some (2, o), some (2, p1)]) (st' := [(2, o), (0, 0), (2, p1 + 10)]) rfl ?_
  refine Rn_getR rfl (ob_Lg ho hK) (fx_Lg_9 hr ho) (show (o + 10 : Int) ≠ -1 by have := ho; unfold isLg at this; omega) ?_
  refine Rn_pure 2 (i' := 96) (L' := [some (2, o), some (2, p1)]) (st' := [(2, o), (0, 0), (2, o + 10), (0, 0), (2, p1 + 10)]) rfl ?_
  refine Rn_getI rfl (ob_Lg ho hK) ?_
  refine Rn_pure 2 (i' := 99) (L' := [some (2, o), some (2, p1)]) (st' := [(0, g10 o 10 + 1), (0, 0), (2, o + 10), (0, 0), (2, p1 + 10)]) rfl ?_
  obtain ⟨hg, h⟩ := h
  have hg1 := hg
  obtain ⟨hg, h⟩ := h
  have hg2 := hg
  obtain ⟨hg, h⟩ := h
  refine Rn_copy rfl (ar_Lg_9 hp1 hK) (ar_Lg_9 ho hK) (by decide) hg1 hg2 hg (fun g11 he_g11 => ?_)
  have h := h g11 he_g11
  exact Rn_ret0 rfl h
