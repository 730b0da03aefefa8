-- EventLedger$Shots.retake (LEventLedger$Log;I)I
theorem v_Sh_retake {K : Int} {S : Nat} {g r : ab_H} {o p1 p2 : Int} (P : Int → ab_H → ab_H → Prop) (hr : SI r) (hK : 186 ≤ K) (ho : isSh o) (hp1 : isLg p1) (h : ∀ g1, g1 = ab_up g o 1 0 → ab_Rn m_Sh_retake 7 [some (2, o), some (2, p1), some (0, p2), some (0, 0), some (0, 0), none] [] (K, S, g1, r) (ab_Qi K S P)) : ab_RI m_Sh_retake [(2, o), (2, p1), (0, p2)] K S g r P := by
  show ab_Rn m_Sh_retake 0 [some (2, o), some (2, p1), some (0, p2), none, none, none] [] (K, S, g, r) (ab_Qi K S P)
  refine Rn_pure 2 (i' := 2) (L' := [some (2, o), some (2, p1), some (0, p2), none, none, none]) (st' := [(0, 0), (2, o)]) rfl ?_
  refine Rn_putI rfl (ob_Sh ho hK) (fun g1 he_g1 => ?_)
  have h := h g1 he_g1
  refine Rn_pure 4 (i' := 7) (L' := [some (2, o), some (2, p1), some (0, p2), some (0, 0), some (0, 0), none]) (st' := []) rfl ?_
  exact h
theorem v_Sh_retake_7 {K : Int} {S : Nat} {g r : ab_H} {o p1 l2 l3 l4 : Int} (P : Int → ab_H → ab_H → Prop) (hr : SI r) (hK : 186 ≤ K) (ho : isSh o) (hp1 : isLg p1) (h : ((wr (g p1 10) ≤ wr l4 → P l3 g r) ∧ (wr l4 < wr (g p1 10) → ((0 : Int) ≤ l4 ∧ (l4 : Int) < 120) ∧ ((¬ wr (g (p1 + 1) l4) = wr 7 → ab_Rn m_Sh_retake 23 [some (2, o), some (2, p1), some (0, l2), some (0, l3), some (0, l4), none] [] (K, S, g, r) (ab_Qi K S P)) ∧ (wr (g (p1 + 1) l4) = wr 7 → ((0 : Int) ≤ l4 ∧ (l4 : Int) < 120) ∧ ab_RV m_Sh_letGoAbove [(2, o), (0, g (p1 + 3) l4)] K S g r (fun g1 r' => r' = r ∧ (ab_Rn m_Sh_retake 23 [some (2, o), some (2, p1), some (0, l2), some (0, l3), some (0, l4), none] [] (K, S, g1, r) (ab_Qi K S P)))))))) : ab_Rn m_Sh_retake 7 [some (2, o), some (2, p1), some (0, l2), some (0, l3), some (0, l4), none] [] (K, S, g, r) (ab_Qi K S P) := by
  refine Rn_pure 2 (i' := 9) (L' := [some (2, o), some (2, p1), some (0, l2), some (0, l3), some (0, l4), none]) (st' := [(2, p1), (0, l4)]) rfl ?_
  refine Rn_getI rfl (ob_Lg hp1 hK) ?_
  refine Rn_icge rfl (fun hc => ?_) (fun hc => ?_)
  · have h := h.1 hc
    refine Rn_pure 1 (i' := 80) (L' := [some (2, o), some (2, p1), some (0, l2), some (0, l3), some (0, l4), none]) (st' := [(0, l3)]) rfl ?_
    exact Rn_ret1 rfl h
  · have h := h.2 hc
    refine Rn_pure 1 (i' := 12) (L' := [some (2, o), some (2, p1), some (0, l2), some (0, l3), some (0, l4), none]) (st' := [(2, p1)]) rfl ?_
    refine Rn_getR rfl (ob_Lg hp1 hK) (fx_Lg_0 hr hp1) (show (p1 + 1 : Int) ≠ -1 by have := hp1; unfold isLg at this; omega) ?_
    refine Rn_pure 1 (i' := 14) (L' := [some (2, o), some (2, p1), some (0, l2), some (0, l3), some (0, l4), none]) (st' := [(0, l4), (2, p1 + 1)]) rfl ?_
    obtain ⟨hg, h⟩ := h
    refine Rn_iald rfl (ar_Lg_0 hp1 hK) hg ?_
    refine Rn_pure 1 (i' := 16) (L' := [some (2, o), some (2, p1), some (0, l2), some (0, l3), some (0, l4), none]) (st' := [(0, 7), (0, g (p1 + 1) l4)]) rfl ?_
    refine Rn_icne rfl (fun hc => ?_) (fun hc => ?_)
    · have h := h.1 hc
      exact h
    · have h := h.2 hc
      refine Rn_pure 2 (i' := 19) (L' := [some (2, o), some (2, p1), some (0, l2), some (0, l3), some (0, l4), none]) (st' := [(2, p1), (2, o)]) rfl ?_
      refine Rn_getR rfl (ob_Lg hp1 hK) (fx_Lg_2 hr hp1) (show (p1 + 3 : Int) ≠ -1 by have := hp1; unfold isLg at this; omega) ?_
      refine Rn_pure 1 (i' := 21) (L' := [some (2, o), some (2, p1), some (0, l2), some (0, l3), some (0, l4), none]) (st' := [(0, l4), (2, p1 + 3), (2, o)]) rfl ?_
      obtain ⟨hg, h⟩ := h
      refine Rn_iald rfl (ar_Lg_2 hp1 hK) hg ?_
      refine Rn_callV [(2, o), (0, g (p1 + 3) l4)] [] rfl rfl rfl rfl (ab_rvB_of rfl (ob_Sh ho hK)) ?_
      refine h.mono (fun g1 r' h => ?_)
      obtain ⟨hx, h⟩ := h
      replace hx := hx.symm
      subst hx
      exact h
theorem v_Sh_retake_23 {K : Int} {S : Nat} {g r : ab_H} {o p1 l2 l3 l4 : Int} (P : Int → ab_H → ab_H → Prop) (hr : SI r) (hK : 186 ≤ K) (ho : isSh o) (hp1 : isLg p1) (h : ab_RI m_Sh_latestUpTo [(2, o), (0, l4)] K S g r (fun x1 g' r' => g' = g ∧ r' = r ∧ (ab_RI m_Lg_weights [(2, p1), (0, x1), (0, l4 + 1)] K S g r (fun x2 g' r' => g' = g ∧ r' = r ∧ (((wr x2 < wr (g o 2) → ((wr 0 = wr 0 → ab_Rn m_Sh_retake 77 [some (2, o), some (2, p1), some (0, l2), some (0, l3), some (0, l4), none] [] (K, S, g, r) (ab_Qi K S P)) ∧ (¬ wr 0 = wr 0 → ((wr 6 < wr (g o 1) → ab_Rn m_Sh_retake 77 [some (2, o), some (2, p1), some (0, l2), some (0, l3), some (0, l4), none] [] (K, S, g, r) (ab_Qi K S P)) ∧ (wr (g o 1) ≤ wr 6 → ((0 : Int) ≤ g o 1 ∧ (g o 1 : Int) < 7) ∧ ∀ g3, g3 = ab_up g (o + 1) (g o 1) (l4 + 1) → ∀ g4, g4 = ab_up g3 o 1 (g3 o 1 + 1) → ((wr l4 < wr l2 → ((wr (g4 o 1) ≤ wr (g4 o 3) → ab_Rn m_Sh_retake 77 [some (2, o), some (2, p1), some (0, l2), some (0, l3 + 0), some (0, l4), none] [] (K, S, g4, r) (ab_Qi K S P)) ∧ (wr (g4 o 3) < wr (g4 o 1) → ab_RI m_Sh_leastWorth [(2, o), (2, p1)] K S g4 r (fun x5 g' r' => g' = g4 ∧ r' = r ∧ (ab_RV m_Sh_letGo [(2, o), (0, x5)] K S g4 r (fun g6 r' => r' = r ∧ (ab_Rn m_Sh_retake 77 [some (2, o), some (2, p1), some (0, l2), some (0, l3 + 0), some (0, l4), none] [] (K, S, g6, r) (ab_Qi K S P)))))))) ∧ (wr l2 ≤ wr l4 → ((wr (g4 o 1) ≤ wr (g4 o 3) → ab_Rn m_Sh_retake 77 [some (2, o), some (2, p1), some (0, l2), some (0, l3 + 1), some (0, l4), none] [] (K, S, g4, r) (ab_Qi K S P)) ∧ (wr (g4 o 3) < wr (g4 o 1) → ab_RI m_Sh_leastWorth [(2, o), (2, p1)] K S g4 r (fun x8 g' r' => g' = g4 ∧ r' = r ∧ (ab_RV m_Sh_letGo [(2, o), (0, x8)] K S g4 r (fun g9 r' => r' = r ∧ (ab_Rn m_Sh_retake 77 [some (2, o), some (2, p1), some (0, l2), some (0, l3 + 1), some (0, l4), none] [] (K, S, g9, r) (ab_Qi K S P)))))))))))))) ∧ (wr (g o 2) ≤ wr x2 → ((wr 1 = wr 0 → ab_Rn m_Sh_retake 77 [some (2, o), some (2, p1), some (0, l2), some (0, l3), some (0, l4), none] [] (K, S, g, r) (ab_Qi K S P)) ∧ (¬ wr 1 = wr 0 → ((wr 6 < wr (g o 1) → ab_Rn m_Sh_retake 77 [some (2, o), some (2, p1), some (0, l2), some (0, l3), some (0, l4), none] [] (K, S, g, r) (ab_Qi K S P)) ∧ (wr (g o 1) ≤ wr 6 → ((0 : Int) ≤ g o 1 ∧ (g o 1 : Int) < 7) ∧ ∀ g11, g11 = ab_up g (o + 1) (g o 1) (l4 + 1) → ∀ g12, g12 = ab_up g11 o 1 (g11 o 1 + 1) → ((wr l4 < wr l2 → ((wr (g12 o 1) ≤ wr (g12 o 3) → ab_Rn m_Sh_retake 77 [some (2, o), some (2, p1), some (0, l2), some (0, l3 + 0), some (0, l4), none] [] (K, S, g12, r) (ab_Qi K S P)) ∧ (wr (g12 o 3) < wr (g12 o 1) → ab_RI m_Sh_leastWorth [(2, o), (2, p1)] K S g12 r (fun x13 g' r' => g' = g12 ∧ r' = r ∧ (ab_RV m_Sh_letGo [(2, o), (0, x13)] K S g12 r (fun g14 r' => r' = r ∧ (ab_Rn m_Sh_retake 77 [some (2, o), some (2, p1), some (0, l2), some (0, l3 + 0), some (0, l4), none] [] (K, S, g14, r) (ab_Qi K S P)))))))) ∧ (wr l2 ≤ wr l4 → ((wr (g12 o 1) ≤ wr (g12 o 3) → ab_Rn m_Sh_retake 77 [some (2, o), some (2, p1), some (0, l2), some (0, l3 + 1), some (0, l4), none] [] (K, S, g12, r) (ab_Qi K S P)) ∧ (wr (g12 o 3) < wr (g12 o 1) → ab_RI m_Sh_leastWorth [(2, o), (2, p1)] K S g12 r (fun x16 g' r' => g' = g12 ∧ r' = r ∧ (ab_RV m_Sh_letGo [(2, o), (0, x16)] K S g12 r (fun g17 r' => r' = r ∧ (ab_Rn m_Sh_retake 77 [some (2, o), some (2, p1), some (0, l2), some (0, l3 + 1), some (0, l4), none] [] (K, S, g17, r) (ab_Qi K S P)))))))))))))))))))) : ab_Rn m_Sh_retake 23 [some (2, o), some (2, p1), some (0, l2), some (0, l3), some (0, l4), none] [] (K, S, g, r) (ab_Qi K S P) := by
  refine Rn_pure 3 (i' := 26) (L' := [some (2, o), some (2, p1), some (0, l2), some (0, l3), some (0, l4), none]) (st' := [(0, l4), (2, o), (2, p1)]) rfl ?_
  refine Rn_callI [(2, o), (0, l4)] [(2, p1)] rfl rfl rfl rfl (ab_rvB_of rfl (ob_Sh ho hK)) ?_
  refine h.mono (fun x1 g' r' h => ?_)
  obtain ⟨hx, h⟩ := h
  replace hx := hx.symm
  subst hx
  obtain ⟨hx, h⟩ := h
  replace hx := hx.symm
  subst hx
  refine Rn_pure 3 (i' := 30) (L' := [some (2, o), some (2, p1), some (0, l2), some (0, l3), some (0, l4), none]) (st' := [(0, l4 + 1), (0, x1), (2, p1)]) rfl ?_
  refine Rn_callI [(2, p1), (0, x1), (0, l4 + 1)] [] rfl rfl rfl rfl (ab_rvB_of rfl (ob_Lg hp1 hK)) ?_
  refine h.mono (fun x2 g' r' h => ?_)
  obtain ⟨hx, h⟩ := h
  replace hx := hx.symm
  subst hx
  obtain ⟨hx, h⟩ := h
  replace hx := hx.symm
  subst hx
  refine Rn_pure 1 (i' := 32) (L' := [some (2, o), some (2, p1), some (0, l2), some (0, l3), some (0, l4), none]) (st' := [(2, o), (0, x2)]) rfl ?_
  refine Rn_getI rfl (ob_Sh ho hK) ?_
  refine Rn_iclt rfl (fun hc => ?_) (fun hc => ?_)
  · have h := h.1 hc
    refine Rn_pure 3 (i' := 39) (L' := [some (2, o), some (2, p1), some (0, l2), some (0, l3), some (0, l4), some (0, 0)]) (st' := [(0, 0)]) rfl ?_
    refine Rn_ifeq rfl (fun hc => ?_) (fun hc => ?_)
    · have h := h.1 hc
      refine Rn_weak (L' := [some (2, o), some (2, p1), some (0, l2), some (0, l3), some (0, l4), none]) ⟨rfl, ⟨rfl, ⟨rfl, ⟨rfl, ⟨rfl, trivial⟩⟩⟩⟩⟩ ?_
      exact h
    · have h := h.2 hc
      refine Rn_pure 1 (i' := 41) (L' := [some (2, o), some (2, p1), some (0, l2), some (0, l3), some (0, l4), some (0, 0)]) (st' := [(2, o)]) rfl ?_
      refine Rn_getI rfl (ob_Sh ho hK) ?_
      refine Rn_pure 1 (i' := 43) (L' := [some (2, o), some (2, p1), some (0, l2), some (0, l3), some (0, l4), some (0, 0)]) (st' := [(0, 6), (0, g o 1)]) rfl ?_
      refine Rn_icgt rfl (fun hc => ?_) (fun hc => ?_)
      · have h := h.1 hc
        refine Rn_weak (L' := [some (2, o), some (2, p1), some (0, l2), some (0, l3), some (0, l4), none]) ⟨rfl, ⟨rfl, ⟨rfl, ⟨rfl, ⟨rfl, trivial⟩⟩⟩⟩⟩ ?_
        exact h
      · have h := h.2 hc
        refine Rn_pure 1 (i' := 45) (L' := [some (2, o), some (2, p1), some (0, l2), some (0, l3), some (0, l4), some (0, 0)]) (st' := [(2, o)]) rfl ?_
        refine Rn_getR rfl (ob_Sh ho hK) (fx_Sh_0 hr ho) (show (o + 1 : Int) ≠ -1 by have := ho; unfold isSh at this; omega) ?_
        refine Rn_pure 1 (i' := 47) (L' := [some (2, o), some (2, p1), some (0, l2), some (0, l3), some (0, l4), some (0, 0)]) (st' := [(2, o), (2, o + 1)]) rfl ?_
        refine Rn_getI rfl (ob_Sh ho hK) ?_
        refine Rn_pure 3 (i' := 51) (L' := [some (2, o), some (2, p1), some (0, l2), some (0, l3), some (0, l4), some (0, 0)]) (st' := [(0, l4 + 1), (0, g o 1), (2, o + 1)]) rfl ?_
        obtain ⟨hg, h⟩ := h
        refine Rn_iast rfl (ar_Sh_0 ho hK) hg (fun g3 he_g3 => ?_)
        have h := h g3 he_g3
        refine Rn_pure 2 (i' := 54) (L' := [some (2, o), some (2, p1), some (0, l2), some (0, l3), some (0, l4), some (0, 0)]) (st' := [(2, o), (2, o)]) rfl ?_
        refine Rn_getI rfl (ob_Sh ho hK) ?_
        refine Rn_pure 2 (i' := 57) (L' := [some (2, o), some (2, p1), some (0, l2), some (0, l3), some (0, l4), some (0, 0)]) (st' := [(0, g3 o 1 + 1), (2, o)]) rfl ?_
        refine Rn_putI rfl (ob_Sh ho hK) (fun g4 he_g4 => ?_)
        have h := h g4 he_g4
        refine Rn_pure 3 (i' := 61) (L' := [some (2, o), some (2, p1), some (0, l2), some (0, l3), some (0, l4), some (0, 0)]) (st' := [(0, l2), (0, l4), (0, l3)]) rfl ?_
        refine Rn_iclt rfl (fun hc => ?_) (fun hc => ?_)
        · have h := h.1 hc
          refine Rn_pure 4 (i' := 68) (L' := [some (2, o), some (2, p1), some (0, l2), some (0, l3 + 0), some (0, l4), some (0, 0)]) (st' := [(2, o)]) rfl ?_
          refine Rn_getI rfl (ob_Sh ho hK) ?_
          refine Rn_pure 1 (i' := 70) (L' := [some (2, o), some (2, p1), some (0, l2), some (0, l3 + 0), some (0, l4), some (0, 0)]) (st' := [(2, o), (0, g4 o 1)]) rfl ?_
          refine Rn_getI rfl (ob_Sh ho hK) ?_
          refine Rn_icle rfl (fun hc => ?_) (fun hc => ?_)
          · have h := h.1 hc
            refine Rn_weak (L' := [some (2, o), some (2, p1), some (0, l2), some (0, l3 + 0), some (0, l4), none]) ⟨rfl, ⟨rfl, ⟨rfl, ⟨rfl, ⟨rfl, trivial⟩⟩⟩⟩⟩ ?_
            exact h
          · have h := h.2 hc
            refine Rn_pure 3 (i' := 75) (L' := [some (2, o), some (2, p1), some (0, l2), some (0, l3 + 0), some (0, l4), some (0, 0)]) (st' := [(2, p1), (2, o), (2, o)]) rfl ?_
            refine Rn_callI [(2, o), (2, p1)] [(2, o)] rfl rfl rfl rfl (ab_rvB_of rfl (ob_Sh ho hK)) ?_
            refine h.mono (fun x5 g' r' h => ?_)
            obtain ⟨hx, h⟩ := h
            replace hx := hx.symm
            subst hx
            obtain ⟨hx, h⟩ := h
            replace hx := hx.symm
            subst hx
            refine Rn_callV [(2, o), (0, x5)] [] rfl rfl rfl rfl (ab_rvB_of rfl (ob_Sh ho hK)) ?_
            refine h.mono (fun g6 r' h => ?_)
            obtain ⟨hx, h⟩ := h
            replace hx := hx.symm
            subst hx
            refine Rn_weak (L' := [some (2, o), some (2, p1), some (0, l2), some (0, l3 + 0), some (0, l4), none]) ⟨rfl, ⟨rfl, ⟨rfl, ⟨rfl, ⟨rfl, trivial⟩⟩⟩⟩⟩ ?_
            exact h
        · have h := h.2 hc
          refine Rn_pure 5 (i' := 68) (L' := [some (2, o), some (2, p1), some (0, l2), some (0, l3 + 1), some (0, l4), some (0, 0)]) (st' := [(2, o)]) rfl ?_
          refine Rn_getI rfl (ob_Sh ho hK) ?_
          refine Rn_pure 1 (i' := 70) (L' := [some (2, o), some (2, p1), some (0, l2), some (0, l3 + 1), some (0, l4), some (0, 0)]) (st' := [(2, o), (0, g4 o 1)]) rfl ?_
          refine Rn_getI rfl (ob_Sh ho hK) ?_
          refine Rn_icle rfl (fun hc => ?_) (fun hc => ?_)
          · have h := h.1 hc
            refine Rn_weak (L' := [some (2, o), some (2, p1), some (0, l2), some (0, l3 + 1), some (0, l4), none]) ⟨rfl, ⟨rfl, ⟨rfl, ⟨rfl, ⟨rfl, trivial⟩⟩⟩⟩⟩ ?_
            exact h
          · have h := h.2 hc
            refine Rn_pure 3 (i' := 75) (L' := [some (2, o), some (2, p1), some (0, l2), some (0, l3 + 1), some (0, l4), some (0, 0)]) (st' := [(2, p1), (2, o), (2, o)]) rfl ?_
            refine Rn_callI [(2, o), (2, p1)] [(2, o)] rfl rfl rfl rfl (ab_rvB_of rfl (ob_Sh ho hK)) ?_
            refine h.mono (fun x8 g' r' h => ?_)
            obtain ⟨hx, h⟩ := h
            replace hx := hx.symm
            subst hx
            obtain ⟨hx, h⟩ := h
            replace hx := hx.symm
            subst hx
            refine Rn_callV [(2, o), (0, x8)] [] rfl rfl rfl rfl (ab_rvB_of rfl (ob_Sh ho hK)) ?_
            refine h.mono (fun g9 r' h => ?_)
            obtain ⟨hx, h⟩ := h
            replace hx := hx.symm
            subst hx
            refine Rn_weak (L' := [some (2, o), some (2, p1), some (0, l2), some (0, l3 + 1), some (0, l4), none]) ⟨rfl, ⟨rfl, ⟨rfl, ⟨rfl, ⟨rfl, trivial⟩⟩⟩⟩⟩ ?_
            exact h
  · have h := h.2 hc
    refine Rn_pure 4 (i' := 39) (L' := [some (2, o), some (2, p1), some (0, l2), some (0, l3), some (0, l4), some (0, 1)]) (st' := [(0, 1)]) rfl ?_
    refine Rn_ifeq rfl (fun hc => ?_) (fun hc => ?_)
    · have h := h.1 hc
      refine Rn_weak (L' := [some (2, o), some (2, p1), some (0, l2), some (0, l3), some (0, l4), none]) ⟨rfl, ⟨rfl, ⟨rfl, ⟨rfl, ⟨rfl, trivial⟩⟩⟩⟩⟩ ?_
      exact h
    · have h := h.2 hc
      refine Rn_pure 1 (i' := 41) (L' := [some (2, o), some (2, p1), some (0, l2), some (0, l3), some (0, l4), some (0, 1)]) (st' := [(2, o)]) rfl ?_
      refine Rn_getI rfl (ob_Sh ho hK) ?_
      refine Rn_pure 1 (i' := 43) (L' := [some (2, o), some (2, p1), some (0, l2), some (0, l3), some (0, l4), some (0, 1)]) (st' := [(0, 6), (0, g o 1)]) rfl ?_
      refine Rn_icgt rfl (fun hc => ?_) (fun hc => ?_)
      · have h := h.1 hc
        refine Rn_weak (L' := [some (2, o), some (2, p1), some (0, l2), some (0, l3), some (0, l4), none]) ⟨rfl, ⟨rfl, ⟨rfl, ⟨rfl, ⟨rfl, trivial⟩⟩⟩⟩⟩ ?_
        exact h
      · have h := h.2 hc
        refine Rn_pure 1 (i' := 45) (L' := [some (2, o), some (2, p1), some (0, l2), some (0, l3), some (0, l4), some (0, 1)]) (st' := [(2, o)]) rfl ?_
        refine Rn_getR rfl (ob_Sh ho hK) (fx_Sh_0 hr ho) (show (o + 1 : Int) ≠ -1 by have := ho; unfold isSh at this; omega) ?_
        refine Rn_pure 1 (i' := 47) (L' := [some (2, o), some (2, p1), some (0, l2), some (0, l3), some (0, l4), some (0, 1)]) (st' := [(2, o), (2, o + 1)]) rfl ?_
        refine Rn_getI rfl (ob_Sh ho hK) ?_
        refine Rn_pure 3 (i' := 51) (L' := [some (2, o), some (2, p1), some (0, l2), some (0, l3), some (0, l4), some (0, 1)]) (st' := [(0, l4 + 1), (0, g o 1), (2, o + 1)]) rfl ?_
        obtain ⟨hg, h⟩ := h
        refine Rn_iast rfl (ar_Sh_0 ho hK) hg (fun g11 he_g11 => ?_)
        have h := h g11 he_g11
        refine Rn_pure 2 (i' := 54) (L' := [some (2, o), some (2, p1), some (0, l2), some (0, l3), some (0, l4), some (0, 1)]) (st' := [(2, o), (2, o)]) rfl ?_
        refine Rn_getI rfl (ob_Sh ho hK) ?_
        refine Rn_pure 2 (i' := 57) (L' := [some (2, o), some (2, p1), some (0, l2), some (0, l3), some (0, l4), some (0, 1)]) (st' := [(0, g11 o 1 + 1), (2, o)]) rfl ?_
        refine Rn_putI rfl (ob_Sh ho hK) (fun g12 he_g12 => ?_)
        have h := h g12 he_g12
        refine Rn_pure 3 (i' := 61) (L' := [some (2, o), some (2, p1), some (0, l2), some (0, l3), some (0, l4), some (0, 1)]) (st' := [(0, l2), (0, l4), (0, l3)]) rfl ?_
        refine Rn_iclt rfl (fun hc => ?_) (fun hc => ?_)
        · have h := h.1 hc
          refine Rn_pure 4 (i' := 68) (L' := [some (2, o), some (2, p1), some (0, l2), some (0, l3 + 0), some (0, l4), some (0, 1)]) (st' := [(2, o)]) rfl ?_
          refine Rn_getI rfl (ob_Sh ho hK) ?_
          refine Rn_pure 1 (i' := 70) (L' := [some (2, o), some (2, p1), some (0, l2), some (0, l3 + 0), some (0, l4), some (0, 1)]) (st' := [(2, o), (0, g12 o 1)]) rfl ?_
          refine Rn_getI rfl (ob_Sh ho hK) ?_
          refine Rn_icle rfl (fun hc => ?_) (fun hc => ?_)
          · have h := h.1 hc
            refine Rn_weak (L' := [some (2, o), some (2, p1), some (0, l2), some (0, l3 + 0), some (0, l4), none]) ⟨rfl, ⟨rfl, ⟨rfl, ⟨rfl, ⟨rfl, trivial⟩⟩⟩⟩⟩ ?_
            exact h
          · have h := h.2 hc
            refine Rn_pure 3 (i' := 75) (L' := [some (2, o), some (2, p1), some (0, l2), some (0, l3 + 0), some (0, l4), some (0, 1)]) (st' := [(2, p1), (2, o), (2, o)]) rfl ?_
            refine Rn_callI [(2, o), (2, p1)] [(2, o)] rfl rfl rfl rfl (ab_rvB_of rfl (ob_Sh ho hK)) ?_
            refine h.mono (fun x13 g' r' h => ?_)
            obtain ⟨hx, h⟩ := h
            replace hx := hx.symm
            subst hx
            obtain ⟨hx, h⟩ := h
            replace hx := hx.symm
            subst hx
            refine Rn_callV [(2, o), (0, x13)] [] rfl rfl rfl rfl (ab_rvB_of rfl (ob_Sh ho hK)) ?_
            refine h.mono (fun g14 r' h => ?_)
            obtain ⟨hx, h⟩ := h
            replace hx := hx.symm
            subst hx
            refine Rn_weak (L' := [some (2, o), some (2, p1), some (0, l2), some (0, l3 + 0), some (0, l4), none]) ⟨rfl, ⟨rfl, ⟨rfl, ⟨rfl, ⟨rfl, trivial⟩⟩⟩⟩⟩ ?_
            exact h
        · have h := h.2 hc
          refine Rn_pure 5 (i' := 68) (L' := [some (2, o), some (2, p1), some (0, l2), some (0, l3 + 1), some (0, l4), some (0, 1)]) (st' := [(2, o)]) rfl ?_
          refine Rn_getI rfl (ob_Sh ho hK) ?_
          refine Rn_pure 1 (i' := 70) (L' := [some (2, o), some (2, p1), some (0, l2), some (0, l3 + 1), some (0, l4), some (0, 1)]) (st' := [(2, o), (0, g12 o 1)]) rfl ?_
          refine Rn_getI rfl (ob_Sh ho hK) ?_
          refine Rn_icle rfl (fun hc => ?_) (fun hc => ?_)
          · have h := h.1 hc
            refine Rn_weak (L' := [some (2, o), some (2, p1), some (0, l2), some (0, l3 + 1), some (0, l4), none]) ⟨rfl, ⟨rfl, ⟨rfl, ⟨rfl, ⟨rfl, trivial⟩⟩⟩⟩⟩ ?_
            exact h
          · have h := h.2 hc
            refine Rn_pure 3 (i' := 75) (L' := [some (2, o), some (2, p1), some (0, l2), some (0, l3 + 1), some (0, l4), some (0, 1)]) (st' := [(2, p1), (2, o), (2, o)]) rfl ?_
            refine Rn_callI [(2, o), (2, p1)] [(2, o)] rfl rfl rfl rfl (ab_rvB_of rfl (ob_Sh ho hK)) ?_
            refine h.mono (fun x16 g' r' h => ?_)
            obtain ⟨hx, h⟩ := h
            replace hx := hx.symm
            subst hx
            obtain ⟨hx, h⟩ := h
            replace hx := hx.symm
            subst hx
            refine Rn_callV [(2, o), (0, x16)] [] rfl rfl rfl rfl (ab_rvB_of rfl (ob_Sh ho hK)) ?_
            refine h.mono (fun g17 r' h => ?_)
            obtain ⟨hx, h⟩ := h
            replace hx := hx.symm
            subst hx
            refine Rn_weak (L' := [some (2, o), some (2, p1), some (0, l2), some (0, l3 + 1), some (0, l4), none]) ⟨rfl, ⟨rfl, ⟨rfl, ⟨rfl, ⟨rfl, trivial⟩⟩⟩⟩⟩ ?_
            exact h
theorem v_Sh_retake_77 {K : Int} {S : Nat} {g r : ab_H} {o p1 l2 l3 l4 : Int} (P : Int → ab_H → ab_H → Prop) (hr : SI r) (hK : 186 ≤ K) (ho : isSh o) (hp1 : isLg p1) (h : ab_Rn m_Sh_retake 7 [some (2, o), some (2, p1), some (0, l2), some (0, l3), some (0, l4 + 1), none] [] (K, S, g, r) (ab_Qi K S P)) : ab_Rn m_Sh_retake 77 [some (2, o), some (2, p1), some (0, l2), some (0, l3), some (0, l4), none] [] (K, S, g, r) (ab_Qi K S P) := by
  refine Rn_pure 2 (i' := 7) (L' := [some (2, o), some (2, p1), some (0, l2), some (0, l3), some (0, l4 + 1), none]) (st' := []) rfl ?_
  exact h
-- EventLedger$Shots.letGoAbove (I)V
theorem v_Sh_letGoAbove {K : Int} {S : Nat} {g r : ab_H} {o p1 : Int} (P : ab_H → ab_H → Prop) (hr : SI r) (hK : 186 ≤ K) (ho : isSh o) (h : ab_Rn m_Sh_letGoAbove 0 [some (2, o), some (0, p1)] [] (K, S, g, r) (ab_Qv K S P)) : ab_RV m_Sh_letGoAbove [(2, o), (0, p1)] K S g r P := by
  show ab_Rn m_Sh_letGoAbove 0 [some (2, o), some (0, p1)] [] (K, S, g, r) (ab_Qv K S P)
  exact h
theorem v_Sh_letGoAbove_0 {K : Int} {S : Nat} {g r : ab_H} {o l1 : Int} (P : ab_H → ab_H → Prop) (hr : SI r) (hK : 186 ≤ K) (ho : isSh o) (h : ((wr (g o 1) ≤ wr 0 → P g r) ∧ (wr 0 < wr (g o 1) → ((0 : Int) ≤ g o 1 - 1 ∧ (g o 1 - 1 : Int) < 7) ∧ ((wr (g (o + 1) (g o 1 - 1)) ≤ wr l1 → P g r) ∧ (wr l1 < wr (g (o + 1) (g o 1 - 1)) → ∀ g1, g1 = ab_up g o 1 (g o 1 - 1) → ab_Rn m_Sh_letGoAbove 0 [some (2, o), some (0, l1)] [] (K, S, g1, r) (ab_Qv K S P)))))) : ab_Rn m_Sh_letGoAbove 0 [some (2, o), some (0, l1)] [] (K, S, g, r) (ab_Qv K S P) := by
  refine Rn_pure 1 (i' := 1) (L' := [some (2, o), some (0, l1)]) (st' := [(2, o)]) rfl ?_
  refine Rn_getI rfl (ob_Sh ho hK) ?_
  refine Rn_ifle rfl (fun hc => ?_) (fun hc => ?_)
  · have h := h.1 hc
    exact Rn_ret0 rfl h
  · have h := h.2 hc
    refine Rn_pure 1 (i' := 4) (L' := [some (2, o), some (0, l1)]) (st' := [(2, o)]) rfl ?_
    refine Rn_getR rfl (ob_Sh ho hK) (fx_Sh_0 hr ho) (show (o + 1 : Int) ≠ -1 by have := ho; unfold isSh at this; omega) ?_
    refine Rn_pure 1 (i' := 6) (L' := [some (2, o), some (0, l1)]) (st' := [(2, o), (2, o + 1)]) rfl ?_
    refine Rn_getI rfl (ob_Sh ho hK) ?_
    refine Rn_pure 2 (i' := 9) (L' := [some (2, o), some (0, l1)]) (st' := [(0, g o 1 - 1), (2, o + 1)]) rfl ?_
    obtain ⟨hg, h⟩ := h
    refine Rn_iald rfl (ar_Sh_0 ho hK) hg ?_
    refine Rn_pure 1 (i' := 11) (L' := [some (2, o), some (0, l1)]) (st' := [(0, l1), (0, g (o + 1) (g o 1 - 1))]) rfl ?_
    refine Rn_icle rfl (fun hc => ?_) (fun hc => ?_)
    · have h := h.1 hc
      exact Rn_ret0 rfl h
    · have h := h.2 hc
      refine Rn_pure 2 (i' := 14) (L' := [some (2, o), some (0, l1)]) (st' := [(2, o), (2, o)]) rfl ?_
      refine Rn_getI rfl (ob_Sh ho hK) ?_
      refine Rn_pure 2 (i' := 17) (L' := [some (2, o), some (0, l1)]) (st' := [(0, g o 1 - 1), (2, o)]) rfl ?_
      refine Rn_putI rfl (ob_Sh ho hK) (fun g1 he_g1 => ?_)
      have h := h g1 he_g1
      refine Rn_pure 1 (i' := 0) (L' := [some (2, o), some (0, l1)]) (st' := []) rfl ?_
      exact h
-- EventLedger$Shots.leastWorth (LEventLedger$Log;)I
theorem v_Sh_leastWorth {K : Int} {S : Nat} {g r : ab_H} {o p1 : Int} (P : Int → ab_H → ab_H → Prop) (hr : SI r) (hK : 186 ≤ K) (ho : isSh o) (hp1 : isLg p1) (h : ((¬ wr (g o 3) = wr 0 → ab_Rn m_Sh_leastWorth 14 [some (2, o), some (2, p1), some (0, 0), some (0, 2147483647), some (0, 0), none] [] (K, S, g, r) (ab_Qi K S P)) ∧ (wr (g o 3) = wr 0 → P (g o 1 - 1) g r))) : ab_RI m_Sh_leastWorth [(2, o), (2, p1)] K S g r P := by
  show ab_Rn m_Sh_leastWorth 0 [some (2, o), some (2, p1), none, none, none, none] [] (K, S, g, r) (ab_Qi K S P)
  refine Rn_pure 1 (i' := 1) (L' := [some (2, o), some (2, p1), none, none, none, none]) (st' := [(2, o)]) rfl ?_
  refine Rn_getI rfl (ob_Sh ho hK) ?_
  refine Rn_ifne rfl (fun hc => ?_) (fun hc => ?_)
  · have h := h.1 hc
    refine Rn_pure 6 (i' := 14) (L' := [some (2, o), some (2, p1), some (0, 0), some (0, 2147483647), some (0, 0), none]) (st' := []) rfl ?_
    exact h
  · have h := h.2 hc
    refine Rn_pure 1 (i' := 4) (L' := [some (2, o), some (2, p1), none, none, none, none]) (st' := [(2, o)]) rfl ?_
    refine Rn_getI rfl (ob_Sh ho hK) ?_
    refine Rn_pure 2 (i' := 7) (L' := [some (2, o), some (2, p1), none, none, none, none]) (st' := [(0, g o 1 - 1)]) rfl ?_
    exact Rn_ret1 rfl h
theorem v_Sh_leastWorth_14 {K : Int} {S : Nat} {g r : ab_H} {o p1 l2 l3 l4 : Int} (P : Int → ab_H → ab_H → Prop) (hr : SI r) (hK : 186 ≤ K) (ho : isSh o) (hp1 : isLg p1) (h : ((wr (g o 1 - 1) ≤ wr l4 → P l2 g r) ∧ (wr l4 < wr (g o 1 - 1) → ((wr l4 ≤ wr 0 → ((0 : Int) ≤ l4 + 1 ∧ (l4 + 1 : Int) < 7) ∧ ab_RI m_Lg_weights [(2, p1), (0, 0), (0, g (o + 1) (l4 + 1))] K S g r (fun x1 g' r' => g' = g ∧ r' = r ∧ (((wr l3 ≤ wr x1 → ab_Rn m_Sh_leastWorth 14 [some (2, o), some (2, p1), some (0, l2), some (0, l3), some (0, l4 + 1), none] [] (K, S, g, r) (ab_Qi K S P)) ∧ (wr x1 < wr l3 → ab_Rn m_Sh_leastWorth 14 [some (2, o), some (2, p1), some (0, l4), some (0, x1), some (0, l4 + 1), none] [] (K, S, g, r) (ab_Qi K S P)))))) ∧ (wr 0 < wr l4 → ((0 : Int) ≤ l4 - 1 ∧ (l4 - 1 : Int) < 7) ∧ ((0 : Int) ≤ l4 + 1 ∧ (l4 + 1 : Int) < 7) ∧ ab_RI m_Lg_weights [(2, p1), (0, g (o + 1) (l4 - 1)), (0, g (o + 1) (l4 + 1))] K S g r (fun x2 g' r' => g' = g ∧ r' = r ∧ (((wr l3 ≤ wr x2 → ab_Rn m_Sh_leastWorth 14 [some (2, o), some (2, p1), some (0, l2), some (0, l3), some (0, l4 + 1), none] [] (K, S, g, r) (ab_Qi K S P)) ∧ (wr x2 < wr l3 → ab_Rn m_Sh_leastWorth 14 [some (2, o), some (2, p1), some (0, l4), some (0, x2), some (0, l4 + 1), none] [] (K, S, g, r) (ab_Qi K S P)))))))))) : ab_Rn m_Sh_leastWorth 14 [some (2, o), some (2, p1), some (0, l2), some (0, l3), some (0, l4), none] [] (K, S, g, r) (ab_Qi K S P) := by
  refine Rn_pure 2 (i' := 16) (L' := [some (2, o), some (2, p1), some (0, l2), some (0, l3), some (0, l4), none]) (st' := [(2, o), (0, l4)]) rfl ?_
  refine Rn_getI rfl (ob_Sh ho hK) ?_
  refine Rn_pure 2 (i' := 19) (L' := [some (2, o), some (2, p1), some (0, l2), some (0, l3), some (0, l4), none]) (st' := [(0, g o 1 - 1), (0, l4)]) rfl ?_
  refine Rn_icge rfl (fun hc => ?_) (fun hc => ?_)
  · have h := h.1 hc
    refine Rn_pure 1 (i' := 49) (L' := [some (2, o), some (2, p1), some (0, l2), some (0, l3), some (0, l4), none]) (st' := [(0, l2)]) rfl ?_
    exact Rn_ret1 rfl h
  · have h := h.2 hc
    refine Rn_pure 2 (i' := 22) (L' := [some (2, o), some (2, p1), some (0, l2), some (0, l3), some (0, l4), none]) (st' := [(0, l4), (2, p1)]) rfl ?_
    refine Rn_ifle rfl (fun hc => ?_) (fun hc => ?_)
    · have h := h.1 hc
      refine Rn_pure 2 (i' := 32) (L' := [some (2, o), some (2, p1), some (0, l2), some (0, l3), some (0, l4), none]) (st' := [(2, o), (0, 0), (2, p1)]) rfl ?_
      refine Rn_getR rfl (ob_Sh ho hK) (fx_Sh_0 hr ho) (show (o + 1 : Int) ≠ -1 by have := ho; unfold isSh at this; omega) ?_
      refine Rn_pure 3 (i' := 36) (L' := [some (2, o), some (2, p1), some (0, l2), some (0, l3), some (0, l4), none]) (st' := [(0, l4 + 1), (2, o + 1), (0, 0), (2, p1)]) rfl ?_
      obtain ⟨hg, h⟩ := h
      refine Rn_iald rfl (ar_Sh_0 ho hK) hg ?_
      refine Rn_callI [(2, p1), (0, 0), (0, g (o + 1) (l4 + 1))] [] rfl rfl rfl rfl (ab_rvB_of rfl (ob_Lg hp1 hK)) ?_
      refine h.mono (fun x1 g' r' h => ?_)
      obtain ⟨hx, h⟩ := h
      replace hx := hx.symm
      subst hx
      obtain ⟨hx, h⟩ := h
      replace hx := hx.symm
      subst hx
      refine Rn_pure 3 (i' := 41) (L' := [some (2, o), some (2, p1), some (0, l2), some (0, l3), some (0, l4), some (0, x1)]) (st' := [(0, l3), (0, x1)]) rfl ?_
      refine Rn_icge rfl (fun hc => ?_) (fun hc => ?_)
      · have h := h.1 hc
        refine Rn_pure 2 (i' := 14) (L' := [some (2, o), some (2, p1), some (0, l2), some (0, l3), some (0, l4 + 1), some (0, x1)]) (st' := []) rfl ?_
        refine Rn_weak (L' := [some (2, o), some (2, p1), some (0, l2), some (0, l3), some (0, l4 + 1), none]) ⟨rfl, ⟨rfl, ⟨rfl, ⟨rfl, ⟨rfl, trivial⟩⟩⟩⟩⟩ ?_
        exact h
      · have h := h.2 hc
        refine Rn_pure 6 (i' := 14) (L' := [some (2, o), some (2, p1), some (0, l4), some (0, x1), some (0, l4 + 1), some (0, x1)]) (st' := []) rfl ?_
        refine Rn_weak (L' := [some (2, o), some (2, p1), some (0, l4), some (0, x1), some (0, l4 + 1), none]) ⟨rfl, ⟨rfl, ⟨rfl, ⟨rfl, ⟨rfl, trivial⟩⟩⟩⟩⟩ ?_
        exact h
    · have h := h.2 hc
      refine Rn_pure 1 (i' := 24) (L' := [some (2, o), some (2, p1), some (0, l2), some (0, l3), some (0, l4), none]) (st' := [(2, o), (2, p1)]) rfl ?_
      refine Rn_getR rfl (ob_Sh ho hK) (fx_Sh_0 hr ho) (show (o + 1 : Int) ≠ -1 by have := ho; unfold isSh at this; omega) ?_
      refine Rn_pure 3 (i' := 28) (L' := [some (2, o), some (2, p1), some (0, l2), some (0, l3), some (0, l4), none]) (st' := [(0, l4 - 1), (2, o + 1), (2, p1)]) rfl ?_
      obtain ⟨hg, h⟩ := h
      refine Rn_iald rfl (ar_Sh_0 ho hK) hg ?_
      refine Rn_pure 2 (i' := 32) (L' := [some (2, o), some (2, p1), some (0, l2), some (0, l3), some (0, l4), none]) (st' := [(2, o), (0, g (o + 1) (l4 - 1)), (2, p1)]) rfl ?_
      refine Rn_getR rfl (ob_Sh ho hK) (fx_Sh_0 hr ho) (show (o + 1 : Int) ≠ -1 by have := ho; unfold isSh at this; omega) ?_
      refine Rn_pure 3 (i' := 36) (L' := [some (2, o), some (2, p1), some (0, l2), some (0, l3), some (0, l4), none]) (st' := [(0, l4 + 1), (2, o + 1), (0, g (o + 1) (l4 - 1)), (2, p1)]) rfl ?_
      obtain ⟨hg, h⟩ := h
      refine Rn_iald rfl (ar_Sh_0 ho hK) hg ?_
      refine Rn_callI [(2, p1), (0, g (o + 1) (l4 - 1)), (0, g (o + 1) (l4 + 1))] [] rfl rfl rfl rfl (ab_rvB_of rfl (ob_Lg hp1 hK)) ?_
      refine h.mono (fun x2 g' r' h => ?_)
      obtain ⟨hx, h⟩ := h
      replace hx := hx.symm
      subst hx
      obtain ⟨hx, h⟩ := h
      replace hx := hx.symm
      subst hx
      refine Rn_pure 3 (i' := 41) (L' := [some (2, o), some (2, p1), some (0, l2), some (0, l3), some (0, l4), some (0, x2)]) (st' := [(0, l3), (0, x2)]) rfl ?_
      refine Rn_icge rfl (fun hc => ?_) (fun hc => ?_)
      · have h := h.1 hc
        refine Rn_pure 2 (i' := 14) (L' := [some (2, o), some (2, p1), some (0, l2), some (0, l3), some (0, l4 + 1), some (0, x2)]) (st' := []) rfl ?_
        refine Rn_weak (L' := [some (2, o), some (2, p1), some (0, l2), some (0, l3), some (0, l4 + 1), none]) ⟨rfl, ⟨rfl, ⟨rfl, ⟨rfl, ⟨rfl, trivial⟩⟩⟩⟩⟩ ?_
        exact h
      · have h := h.2 hc
        refine Rn_pure 6 (i' := 14) (L' := [some (2, o), some (2, p1), some (0, l4), some (0, x2), some (0, l4 + 1), some (0, x2)]) (st' := []) rfl ?_
        refine Rn_weak (L' := [some (2, o), some (2, p1), some (0, l4), some (0, x2), some (0, l4 + 1), none]) ⟨rfl, ⟨rfl, ⟨rfl, ⟨rfl, ⟨rfl, trivial⟩⟩⟩⟩⟩ ?_
        exact h
-- EventLedger$Shots.letGo (I)V
theorem v_Sh_letGo {K : Int} {S : Nat} {g r : ab_H} {o p1 : Int} (P : ab_H → ab_H → Prop) (hr : SI r) (hK : 186 ≤ K) (ho : isSh o) (h : ab_Rn m_Sh_letGo 4 [some (2, o), none, some (0, p1 + 1)] [] (K, S, g, r) (ab_Qv K S P)) : ab_RV m_Sh_letGo [(2, o), (0, p1)] K S g r P := by
  show ab_Rn m_Sh_letGo 0 [some (2, o), some (0, p1), none] [] (K, S, g, r) (ab_Qv K S P)
  refine Rn_pure 4 (i' := 4) (L' := [some (2, o), some (0, p1), some (0, p1 + 1)]) (st' := []) rfl ?_
  refine Rn_weak (L' := [some (2, o), none, some (0, p1 + 1)]) ⟨rfl, ⟨rfl, trivial⟩⟩ ?_
  exact h
theorem v_Sh_letGo_4 {K : Int} {S : Nat} {g r : ab_H} {o l2 : Int} (P : ab_H → ab_H → Prop) (hr : SI r) (hK : 186 ≤ K) (ho : isSh o) (h : ((wr (g o 1) ≤ wr l2 → ∀ g1, g1 = ab_up g o 1 (g o 1 - 1) → P g1 r) ∧ (wr l2 < wr (g o 1) → ((0 : Int) ≤ l2 ∧ (l2 : Int) < 7) ∧ ((0 : Int) ≤ l2 - 1 ∧ (l2 - 1 : Int) < 7) ∧ ∀ g2, g2 = ab_up g (o + 1) (l2 - 1) (g (o + 1) l2) → ab_Rn m_Sh_letGo 4 [some (2, o), none, some (0, l2 + 1)] [] (K, S, g2, r) (ab_Qv K S P)))) : ab_Rn m_Sh_letGo 4 [some (2, o), none, some (0, l2)] [] (K, S, g, r) (ab_Qv K S P) := by
  refine Rn_pure 2 (i' := 6) (L' := [some (2, o), none, some (0, l2)]) (st' := [(2, o), (0, l2)]) rfl ?_
  refine Rn_getI rfl (ob_Sh ho hK) ?_
  refine Rn_icge rfl (fun hc => ?_) (fun hc => ?_)
  · have h := h.1 hc
    refine Rn_pure 2 (i' := 22) (L' := [some (2, o), none, some (0, l2)]) (st' := [(2, o), (2, o)]) rfl ?_
    refine Rn_getI rfl (ob_Sh ho hK) ?_
    refine Rn_pure 2 (i' := 25) (L' := [some (2, o), none, some (0, l2)]) (st' := [(0, g o 1 - 1), (2, o)]) rfl ?_
    refine Rn_putI rfl (ob_Sh ho hK) (fun g1 he_g1 => ?_)
    have h := h g1 he_g1
    exact Rn_ret0 rfl h
  · have h := h.2 hc
    refine Rn_pure 1 (i' := 9) (L' := [some (2, o), none, some (0, l2)]) (st' := [(2, o)]) rfl ?_
    refine Rn_getR rfl (ob_Sh ho hK) (fx_Sh_0 hr ho) (show (o + 1 : Int) ≠ -1 by have := ho; unfold isSh at this; omega) ?_
    refine Rn_pure 4 (i' := 14) (L' := [some (2, o), none, some (0, l2)]) (st' := [(2, o), (0, l2 - 1), (2, o + 1)]) rfl ?_
    refine Rn_getR rfl (ob_Sh ho hK) (fx_Sh_0 hr ho) (show (o + 1 : Int) ≠ -1 by have := ho; unfold isSh at this; omega) ?_
    refine Rn_pure 1 (i' := 16) (L' := [some (2, o), none, some (0, l2)]) (st' := [(0, l2), (2, o + 1), (0, l2 - 1), (2, o + 1)]) rfl ?_
    obtain ⟨hg, h⟩ := h
    refine Rn_iald rfl (ar_Sh_0 ho hK) hg ?_
    obtain ⟨hg, h⟩ := h
    refine Rn_iast rfl (ar_Sh_0 ho hK) hg (fun g2 he_g2 => ?_)
    have h := h g2 he_g2
    refine Rn_pure 2 (i' := 4) (L' := [some (2, o), none, some (0, l2 + 1)]) (st' := []) rfl ?_
    exact h
-- EventLedger$Shots.latestUpTo (I)I
theorem v_Sh_latestUpTo {K : Int} {S : Nat} {g r : ab_H} {o p1 : Int} (P : Int → ab_H → ab_H → Prop) (hr : SI r) (hK : 186 ≤ K) (ho : isSh o) (h : ab_Rn m_Sh_latestUpTo 4 [some (2, o), some (0, p1), some (0, 0), some (0, 0)] [] (K, S, g, r) (ab_Qi K S P)) : ab_RI m_Sh_latestUpTo [(2, o), (0, p1)] K S g r P := by
  show ab_Rn m_Sh_latestUpTo 0 [some (2, o), some (0, p1), none, none] [] (K, S, g, r) (ab_Qi K S P)
  refine Rn_pure 4 (i' := 4) (L' := [some (2, o), some (0, p1), some (0, 0), some (0, 0)]) (st' := []) rfl ?_
  exact h
theorem v_Sh_latestUpTo_4 {K : Int} {S : Nat} {g r : ab_H} {o l1 l2 l3 : Int} (P : Int → ab_H → ab_H → Prop) (hr : SI r) (hK : 186 ≤ K) (ho : isSh o) (h : ((wr (g o 1) ≤ wr l3 → P l2 g r) ∧ (wr l3 < wr (g o 1) → ((0 : Int) ≤ l3 ∧ (l3 : Int) < 7) ∧ ((wr l1 < wr (g (o + 1) l3) → ab_Rn m_Sh_latestUpTo 4 [some (2, o), some (0, l1), some (0, l2), some (0, l3 + 1)] [] (K, S, g, r) (ab_Qi K S P)) ∧ (wr (g (o + 1) l3) ≤ wr l1 → ((0 : Int) ≤ l3 ∧ (l3 : Int) < 7) ∧ ab_Rn m_Sh_latestUpTo 4 [some (2, o), some (0, l1), some (0, g (o + 1) l3), some (0, l3 + 1)] [] (K, S, g, r) (ab_Qi K S P)))))) : ab_Rn m_Sh_latestUpTo 4 [some (2, o), some (0, l1), some (0, l2), some (0, l3)] [] (K, S, g, r) (ab_Qi K S P) := by
  refine Rn_pure 2 (i' := 6) (L' := [some (2, o), some (0, l1), some (0, l2), some (0, l3)]) (st' := [(2, o), (0, l3)]) rfl ?_
  refine Rn_getI rfl (ob_Sh ho hK) ?_
  refine Rn_icge rfl (fun hc => ?_) (fun hc => ?_)
  · have h := h.1 hc
    refine Rn_pure 1 (i' := 22) (L' := [some (2, o), some (0, l1), some (0, l2), some (0, l3)]) (st' := [(0, l2)]) rfl ?_
    exact Rn_ret1 rfl h
  · have h := h.2 hc
    refine Rn_pure 1 (i' := 9) (L' := [some (2, o), some (0, l1), some (0, l2), some (0, l3)]) (st' := [(2, o)]) rfl ?_
    refine Rn_getR rfl (ob_Sh ho hK) (fx_Sh_0 hr ho) (show (o + 1 : Int) ≠ -1 by have := ho; unfold isSh at this; omega) ?_
    refine Rn_pure 1 (i' := 11) (L' := [some (2, o), some (0, l1), some (0, l2), some (0, l3)]) (st' := [(0, l3), (2, o + 1)]) rfl ?_
    obtain ⟨hg, h⟩ := h
    refine Rn_iald rfl (ar_Sh_0 ho hK) hg ?_
    refine Rn_pure 1 (i' := 13) (L' := [some (2, o), some (0, l1), some (0, l2), some (0, l3)]) (st' := [(0, l1), (0, g (o + 1) l3)]) rfl ?_
    refine Rn_icgt rfl (fun hc => ?_) (fun hc => ?_)
    · have h := h.1 hc
      refine Rn_pure 2 (i' := 4) (L' := [some (2, o), some (0, l1), some (0, l2), some (0, l3 + 1)]) (st' := []) rfl ?_
      exact h
    · have h := h.2 hc
      refine Rn_pure 1 (i' := 15) (L' := [some (2, o), some (0, l1), some (0, l2), some (0, l3)]) (st' := [(2, o)]) rfl ?_
      refine Rn_getR rfl (ob_Sh ho hK) (fx_Sh_0 hr ho) (show (o + 1 : Int) ≠ -1 by have := ho; unfold isSh at this; omega) ?_
      refine Rn_pure 1 (i' := 17) (L' := [some (2, o), some (0, l1), some (0, l2), some (0, l3)]) (st' := [(0, l3), (2, o + 1)]) rfl ?_
      obtain ⟨hg, h⟩ := h
      refine Rn_iald rfl (ar_Sh_0 ho hK) hg ?_
      refine Rn_pure 3 (i' := 4) (L' := [some (2, o), some (0, l1), some (0, g (o + 1) l3), some (0, l3 + 1)]) (st' := []) rfl ?_
      exact h
-- EventLedger$Shots.nextBehind (II)I
theorem v_Sh_nextBehind {K : Int} {S : Nat} {g r : ab_H} {o p1 p2 : Int} (P : Int → ab_H → ab_H → Prop) (hr : SI r) (hK : 186 ≤ K) (ho : isSh o) (h : ab_Rn m_Sh_nextBehind 2 [some (2, o), some (0, p1), some (0, p2), some (0, 0)] [] (K, S, g, r) (ab_Qi K S P)) : ab_RI m_Sh_nextBehind [(2, o), (0, p1), (0, p2)] K S g r P := by
  show ab_Rn m_Sh_nextBehind 0 [some (2, o), some (0, p1), some (0, p2), none] [] (K, S, g, r) (ab_Qi K S P)
  refine Rn_pure 2 (i' := 2) (L' := [some (2, o), some (0, p1), some (0, p2), some (0, 0)]) (st' := []) rfl ?_
  exact h
theorem v_Sh_nextBehind_2 {K : Int} {S : Nat} {g r : ab_H} {o l1 l2 l3 : Int} (P : Int → ab_H → ab_H → Prop) (hr : SI r) (hK : 186 ≤ K) (ho : isSh o) (h : ((wr (g o 1) ≤ wr l3 → P l2 g r) ∧ (wr l3 < wr (g o 1) → ((0 : Int) ≤ l3 ∧ (l3 : Int) < 7) ∧ ((wr (g (o + 1) l3) ≤ wr l1 → ab_Rn m_Sh_nextBehind 2 [some (2, o), some (0, l1), some (0, l2), some (0, l3 + 1)] [] (K, S, g, r) (ab_Qi K S P)) ∧ (wr l1 < wr (g (o + 1) l3) → ((0 : Int) ≤ l3 ∧ (l3 : Int) < 7) ∧ P (g (o + 1) l3) g r))))) : ab_Rn m_Sh_nextBehind 2 [some (2, o), some (0, l1), some (0, l2), some (0, l3)] [] (K, S, g, r) (ab_Qi K S P) := by
  refine Rn_pure 2 (i' := 4) (L' := [some (2, o), some (0, l1), some (0, l2), some (0, l3)]) (st' := [(2, o), (0, l3)]) rfl ?_
  refine Rn_getI rfl (ob_Sh ho hK) ?_
  refine Rn_icge rfl (fun hc => ?_) (fun hc => ?_)
  · have h := h.1 hc
    refine Rn_pure 1 (i' := 20) (L' := [some (2, o), some (0, l1), some (0, l2), some (0, l3)]) (st' := [(0, l2)]) rfl ?_
    exact Rn_ret1 rfl h
  · have h := h.2 hc
    refine Rn_pure 1 (i' := 7) (L' := [some (2, o), some (0, l1), some (0, l2), some (0, l3)]) (st' := [(2, o)]) rfl ?_
    refine Rn_getR rfl (ob_Sh ho hK) (fx_Sh_0 hr ho) (show (o + 1 : Int) ≠ -1 by have := ho; unfold isSh at this; omega) ?_
    refine Rn_pure 1 (i' := 9) (L' := [some (2, o), some (0, l1), some (0, l2), some (0, l3)]) (st' := [(0, l3), (2, o + 1)]) rfl ?_
    obtain ⟨hg, h⟩ := h
    refine Rn_iald rfl (ar_Sh_0 ho hK) hg ?_
    refine Rn_pure 1 (i' := 11) (L' := [some (2, o), some (0, l1), some (0, l2), some (0, l3)]) (st' := [(0, l1), (0, g (o + 1) l3)]) rfl ?_
    refine Rn_icle rfl (fun hc => ?_) (fun hc => ?_)
    · have h := h.1 hc
      refine Rn_pure 2 (i' := 2) (L' := [some (2, o), some (0, l1), some (0, l2), some (0, l3 + 1)]) (st' := []) rfl ?_
      exact h
    · have h := h.2 hc
      refine Rn_pure 1 (i' := 13) (L' := [some (2, o), some (0, l1), some (0, l2), some (0, l3)]) (st' := [(2, o)]) rfl ?_
      refine Rn_getR rfl (ob_Sh ho hK) (fx_Sh_0 hr ho) (show (o + 1 : Int) ≠ -1 by have := ho; unfold isSh at this; omega) ?_
      refine Rn_pure 1 (i' := 15) (L' := [some (2, o), some (0, l1), some (0, l2), some (0, l3)]) (st' := [(0, l3), (2, o + 1)]) rfl ?_
      obtain ⟨hg, h⟩ := h
      refine Rn_iald rfl (ar_Sh_0 ho hK) hg ?_
      exact Rn_ret1 rfl h
