/-! of: what ends it may be thrown -/
def ab_Qt (K : Int) (S : Nat) (P T : Int → ab_H → ab_H → Prop) : List ab_V → ab_W → Prop := fun v w' => ab_Qi K S P v w' ∨ ∃ c g' r', v = [(9, c)] ∧ w' = (K, S, g', r') ∧ T c g' r'
theorem Rn_ret1t {k i nx : Nat} {b : Int} {L : ab_F} {K : Int} {S : Nat} {g r : ab_H} {x : Int} (ho : ab_nth (ab_cod k) i = some (0, 1, b, nx)) {P T : Int → ab_H → ab_H → Prop} (h : P x g r) : ab_Rn k i L [(0, x)] (K, S, g, r) (ab_Qt K S P T) := by
  refine ⟨1, [(0, x)], (K, S, g, r), ?_, Or.inl ⟨x, g, r, rfl, rfl, h⟩⟩
  rw [ab_run, show ab_rt k i [(0, x)] = some [(0, x)] by unfold ab_rt; rw [ho]; rfl]
theorem Rn_thr {k i nx c : Nat} {b : Int} {L : ab_F} {K : Int} {S : Nat} {g r : ab_H} (ho : ab_nth (ab_cod k) i = some (72, c, b, nx)) {P T : Int → ab_H → ab_H → Prop} (h : T c g r) : ab_Rn k i L [] (K, S, g, r) (ab_Qt K S P T) := by
  refine ⟨1, [(9, (c : Int))], (K, S, g, r), ?_, Or.inr ⟨c, g, r, rfl, rfl, h⟩⟩
  rw [ab_run, show ab_rt k i [] = some [(9, (c : Int))] by unfold ab_rt; rw [ho]; rfl]
theorem v_EL_of {K : Int} {S : Nat} {g r : ab_H} {p1 p2 : Int} (P : Int → ab_H → ab_H → Prop) (T : Int → ab_H → ab_H → Prop) (hr : SI r) (hK : 186 ≤ K) (h : (isLg (r 0 5)) ∧ ab_RI m_Lg_holds [(2, r 0 5), (0, p1)] K S g r (fun x2 g' r' => g' = g ∧ r' = r ∧ (((¬ wr x2 = wr 0 → ((wr p2 = 0 → (isLg (r 0 5)) ∧ ((0 : Int) ≤ p1 ∧ (p1 : Int) < 120) ∧ P (g (r 0 5 + 1) p1) g r) ∧ (wr p2 = 1 → (isLg (r 0 5)) ∧ ((0 : Int) ≤ p1 ∧ (p1 : Int) < 120) ∧ ((¬ wr (g (r 0 5 + 1) p1) = wr 7 → (isLg (r 0 5)) ∧ ((0 : Int) ≤ p1 ∧ (p1 : Int) < 120) ∧ P (g (r 0 5 + 2) p1) g r) ∧ (wr (g (r 0 5 + 1) p1) = wr 7 → P (-2) g r))) ∧ (wr p2 = 2 → (isLg (r 0 5)) ∧ ((0 : Int) ≤ p1 ∧ (p1 : Int) < 120) ∧ ((wr (g (r 0 5 + 1) p1) = wr 7 → (isLg (r 0 5)) ∧ ((0 : Int) ≤ p1 ∧ (p1 : Int) < 120) ∧ P (g (r 0 5 + 3) p1) g r) ∧ (¬ wr (g (r 0 5 + 1) p1) = wr 7 → (isLg (r 0 5)) ∧ ((0 : Int) ≤ p1 ∧ (p1 : Int) < 120) ∧ ((¬ wr (g (r 0 5 + 1) p1) = wr 6 → P (-2) g r) ∧ (wr (g (r 0 5 + 1) p1) = wr 6 → (isLg (r 0 5)) ∧ ((0 : Int) ≤ p1 ∧ (p1 : Int) < 120) ∧ P (g (r 0 5 + 3) p1) g r))))) ∧ (wr p2 = 3 → (isLg (r 0 5)) ∧ ((0 : Int) ≤ p1 ∧ (p1 : Int) < 120) ∧ P (g (r 0 5 + 4) p1) g r) ∧ (wr p2 = 4 → (isLg (r 0 5)) ∧ ((0 : Int) ≤ p1 ∧ (p1 : Int) < 120) ∧ P (g (r 0 5 + 5) p1) g r) ∧ (wr p2 = 5 → ((0 : Int) ≤ p1 ∧ (p1 : Int) < 120) ∧ P (g 50 p1) g r) ∧ (wr p2 = 6 → (isLg (r 0 5)) ∧ ((0 : Int) ≤ p1 ∧ (p1 : Int) < 120) ∧ ((wr (g (r 0 5 + 9) p1) = wr (-1) → P 0 g r) ∧ (¬ wr (g (r 0 5 + 9) p1) = wr (-1) → P 1 g r))) ∧ (wr p2 = 7 → (isLg (r 0 5)) ∧ ab_RI m_Lg_weights [(2, r 0 5), (0, p1), (0, p1 + 1)] K S g r (fun x14 g' r' => g' = g ∧ r' = r ∧ (P x14 g r))) ∧ (wr p2 < 0 ∨ 8 ≤ wr p2 → T 2 g r))) ∧ (wr x2 = wr 0 → T 1 g r))))) : ab_Rn m_EL_of 0 (ab_en m_EL_of [(2, 0), (0, p1), (0, p2)]) [] (K, S, g, r) (ab_Qt K S P T) := by
  show ab_Rn m_EL_of 0 [some (2, 0), some (0, p1), some (0, p2)] [] (K, S, g, r) (ab_Qt K S P T)
  refine Rn_pure 1 (i' := 1) (L' := [some (2, 0), some (0, p1), some (0, p2)]) (st' := [(2, 0)]) rfl ?_
  obtain ⟨hf1, h⟩ := h
  refine Rn_getR rfl (⟨rfl, (by omega : (0 : Int) ≤ 0), (by omega : (0 : Int) + 1 < K ∧ 5 < K)⟩) rfl (nn_Lg hf1) ?_
  refine Rn_pure 1 (i' := 3) (L' := [some (2, 0), some (0, p1), some (0, p2)]) (st' := [(0, p1), (2, r 0 5)]) rfl ?_
  refine Rn_callI [(2, r 0 5), (0, p1)] [] rfl rfl rfl rfl (ab_rvB_of rfl (ob_Lg hf1 hK)) ?_
  refine h.mono (fun x2 g' r' h => ?_)
  obtain ⟨hx, h⟩ := h
  replace hx := hx.symm
  subst hx
  obtain ⟨hx, h⟩ := h
  replace hx := hx.symm
  subst hx
  refine Rn_ifne rfl (fun hc => ?_) (fun hc => ?_)
  · have h := h.1 hc
    refine Rn_pure 1 (i' := 11) (L' := [some (2, 0), some (0, p1), some (0, p2)]) (st' := [(0, p2)]) rfl ?_
    refine Rn_ts rfl ?_
    have ht12 : (wr p2 = 0) → ab_Rn m_EL_of 12 [some (2, 0), some (0, p1), some (0, p2)] [] (K, S, g, r) (ab_Qt K S P T) := by
      intro hc
      have h := h.1 hc
      refine Rn_pure 1 (i' := 13) (L' := [some (2, 0), some (0, p1), some (0, p2)]) (st' := [(2, 0)]) rfl ?_
      obtain ⟨hf3, h⟩ := h
      refine Rn_getR rfl (⟨rfl, (by omega : (0 : Int) ≤ 0), (by omega : (0 : Int) + 1 < K ∧ 5 < K)⟩) rfl (nn_Lg hf3) ?_
      refine Rn_getR rfl (ob_Lg hf3 hK) (fx_Lg_0 hr hf3) (show (r 0 5 + 1 : Int) ≠ -1 by have := hf3; unfold isLg at this; omega) ?_
      refine Rn_pure 1 (i' := 16) (L' := [some (2, 0), some (0, p1), some (0, p2)]) (st' := [(0, p1), (2, r 0 5 + 1)]) rfl ?_
      obtain ⟨hg, h⟩ := h
      refine Rn_iald rfl (ar_Lg_0 hf3 hK) hg ?_
      exact Rn_ret1t rfl h
    have ht18 : (wr p2 = 1) → ab_Rn m_EL_of 18 [some (2, 0), some (0, p1), some (0, p2)] [] (K, S, g, r) (ab_Qt K S P T) := by
      intro hc
      have h := h.2.1 hc
      refine Rn_pure 1 (i' := 19) (L' := [some (2, 0), some (0, p1), some (0, p2)]) (st' := [(2, 0)]) rfl ?_
      obtain ⟨hf4, h⟩ := h
      refine Rn_getR rfl (⟨rfl, (by omega : (0 : Int) ≤ 0), (by omega : (0 : Int) + 1 < K ∧ 5 < K)⟩) rfl (nn_Lg hf4) ?_
      refine Rn_getR rfl (ob_Lg hf4 hK) (fx_Lg_0 hr hf4) (show (r 0 5 + 1 : Int) ≠ -1 by have := hf4; unfold isLg at this; omega) ?_
      refine Rn_pure 1 (i' := 22) (L' := [some (2, 0), some (0, p1), some (0, p2)]) (st' := [(0, p1), (2, r 0 5 + 1)]) rfl ?_
      obtain ⟨hg, h⟩ := h
      refine Rn_iald rfl (ar_Lg_0 hf4 hK) hg ?_
      refine Rn_pure 1 (i' := 24) (L' := [some (2, 0), some (0, p1), some (0, p2)]) (st' := [(0, 7), (0, g (r 0 5 + 1) p1)]) rfl ?_
      refine Rn_icne rfl (fun hc => ?_) (fun hc => ?_)
      · have h := h.1 hc
        refine Rn_pure 1 (i' := 28) (L' := [some (2, 0), some (0, p1), some (0, p2)]) (st' := [(2, 0)]) rfl ?_
        obtain ⟨hf5, h⟩ := h
        refine Rn_getR rfl (⟨rfl, (by omega : (0 : Int) ≤ 0), (by omega : (0 : Int) + 1 < K ∧ 5 < K)⟩) rfl (nn_Lg hf5) ?_
        refine Rn_getR rfl (ob_Lg hf5 hK) (fx_Lg_1 hr hf5) (show (r 0 5 + 2 : Int) ≠ -1 by have := hf5; unfold isLg at this; omega) ?_
        refine Rn_pure 1 (i' := 31) (L' := [some (2, 0), some (0, p1), some (0, p2)]) (st' := [(0, p1), (2, r 0 5 + 2)]) rfl ?_
        obtain ⟨hg, h⟩ := h
        refine Rn_iald rfl (ar_Lg_1 hf5 hK) hg ?_
        exact Rn_ret1t rfl h
      · have h := h.2 hc
        refine Rn_pure 2 (i' := 32) (L' := [some (2, 0), some (0, p1), some (0, p2)]) (st' := [(0, (-2))]) rfl ?_
        exact Rn_ret1t rfl h
    have ht33 : (wr p2 = 2) → ab_Rn m_EL_of 33 [some (2, 0), some (0, p1), some (0, p2)] [] (K, S, g, r) (ab_Qt K S P T) := by
      intro hc
      have h := h.2.2.1 hc
      refine Rn_pure 1 (i' := 34) (L' := [some (2, 0), some (0, p1), some (0, p2)]) (st' := [(2, 0)]) rfl ?_
      obtain ⟨hf6, h⟩ := h
      refine Rn_getR rfl (⟨rfl, (by omega : (0 : Int) ≤ 0), (by omega : (0 : Int) + 1 < K ∧ 5 < K)⟩) rfl (nn_Lg hf6) ?_
      refine Rn_getR rfl (ob_Lg hf6 hK) (fx_Lg_0 hr hf6) (show (r 0 5 + 1 : Int) ≠ -1 by have := hf6; unfold isLg at this; omega) ?_
      refine Rn_pure 1 (i' := 37) (L' := [some (2, 0), some (0, p1), some (0, p2)]) (st' := [(0, p1), (2, r 0 5 + 1)]) rfl ?_
      obtain ⟨hg, h⟩ := h
      refine Rn_iald rfl (ar_Lg_0 hf6 hK) hg ?_
      refine Rn_pure 1 (i' := 39) (L' := [some (2, 0), some (0, p1), some (0, p2)]) (st' := [(0, 7), (0, g (r 0 5 + 1) p1)]) rfl ?_
      refine Rn_iceq rfl (fun hc => ?_) (fun hc => ?_)
      · have h := h.1 hc
        refine Rn_pure 1 (i' := 48) (L' := [some (2, 0), some (0, p1), some (0, p2)]) (st' := [(2, 0)]) rfl ?_
        obtain ⟨hf7, h⟩ := h
        refine Rn_getR rfl (⟨rfl, (by omega : (0 : Int) ≤ 0), (by omega : (0 : Int) + 1 < K ∧ 5 < K)⟩) rfl (nn_Lg hf7) ?_
        refine Rn_getR rfl (ob_Lg hf7 hK) (fx_Lg_2 hr hf7) (show (r 0 5 + 3 : Int) ≠ -1 by have := hf7; unfold isLg at this; omega) ?_
        refine Rn_pure 1 (i' := 51) (L' := [some (2, 0), some (0, p1), some (0, p2)]) (st' := [(0, p1), (2, r 0 5 + 3)]) rfl ?_
        obtain ⟨hg, h⟩ := h
        refine Rn_iald rfl (ar_Lg_2 hf7 hK) hg ?_
        refine Rn_pure 1 (i' := 54) (L' := [some (2, 0), some (0, p1), some (0, p2)]) (st' := [(0, g (r 0 5 + 3) p1)]) rfl ?_
        exact Rn_ret1t rfl h
      · have h := h.2 hc
        refine Rn_pure 1 (i' := 41) (L' := [some (2, 0), some (0, p1), some (0, p2)]) (st' := [(2, 0)]) rfl ?_
        obtain ⟨hf8, h⟩ := h
        refine Rn_getR rfl (⟨rfl, (by omega : (0 : Int) ≤ 0), (by omega : (0 : Int) + 1 < K ∧ 5 < K)⟩) rfl (nn_Lg hf8) ?_
        refine Rn_getR rfl (ob_Lg hf8 hK) (fx_Lg_0 hr hf8) (show (r 0 5 + 1 : Int) ≠ -1 by have := hf8; unfold isLg at this; omega) ?_
        refine Rn_pure 1 (i' := 44) (L' := [some (2, 0), some (0, p1), some (0, p2)]) (st' := [(0, p1), (2, r 0 5 + 1)]) rfl ?_
        obtain ⟨hg, h⟩ := h
        refine Rn_iald rfl (ar_Lg_0 hf8 hK) hg ?_
        refine Rn_pure 1 (i' := 46) (L' := [some (2, 0), some (0, p1), some (0, p2)]) (st' := [(0, 6), (0, g (r 0 5 + 1) p1)]) rfl ?_
        refine Rn_icne rfl (fun hc => ?_) (fun hc => ?_)
        · have h := h.1 hc
          refine Rn_pure 1 (i' := 54) (L' := [some (2, 0), some (0, p1), some (0, p2)]) (st' := [(0, (-2))]) rfl ?_
          exact Rn_ret1t rfl h
        · have h := h.2 hc
          refine Rn_pure 1 (i' := 48) (L' := [some (2, 0), some (0, p1), some (0, p2)]) (st' := [(2, 0)]) rfl ?_
          obtain ⟨hf9, h⟩ := h
          refine Rn_getR rfl (⟨rfl, (by omega : (0 : Int) ≤ 0), (by omega : (0 : Int) + 1 < K ∧ 5 < K)⟩) rfl (nn_Lg hf9) ?_
          refine Rn_getR rfl (ob_Lg hf9 hK) (fx_Lg_2 hr hf9) (show (r 0 5 + 3 : Int) ≠ -1 by have := hf9; unfold isLg at this; omega) ?_
          refine Rn_pure 1 (i' := 51) (L' := [some (2, 0), some (0, p1), some (0, p2)]) (st' := [(0, p1), (2, r 0 5 + 3)]) rfl ?_
          obtain ⟨hg, h⟩ := h
          refine Rn_iald rfl (ar_Lg_2 hf9 hK) hg ?_
          refine Rn_pure 1 (i' := 54) (L' := [some (2, 0), some (0, p1), some (0, p2)]) (st' := [(0, g (r 0 5 + 3) p1)]) rfl ?_
          exact Rn_ret1t rfl h
    have ht55 : (wr p2 = 3) → ab_Rn m_EL_of 55 [some (2, 0), some (0, p1), some (0, p2)] [] (K, S, g, r) (ab_Qt K S P T) := by
      intro hc
      have h := h.2.2.2.1 hc
      refine Rn_pure 1 (i' := 56) (L' := [some (2, 0), some (0, p1), some (0, p2)]) (st' := [(2, 0)]) rfl ?_
      obtain ⟨hf10, h⟩ := h
      refine Rn_getR rfl (⟨rfl, (by omega : (0 : Int) ≤ 0), (by omega : (0 : Int) + 1 < K ∧ 5 < K)⟩) rfl (nn_Lg hf10) ?_
      refine Rn_getR rfl (ob_Lg hf10 hK) (fx_Lg_3 hr hf10) (show (r 0 5 + 4 : Int) ≠ -1 by have := hf10; unfold isLg at this; omega) ?_
      refine Rn_pure 1 (i' := 59) (L' := [some (2, 0), some (0, p1), some (0, p2)]) (st' := [(0, p1), (2, r 0 5 + 4)]) rfl ?_
      obtain ⟨hg, h⟩ := h
      refine Rn_iald rfl (ar_Lg_3 hf10 hK) hg ?_
      exact Rn_ret1t rfl h
    have ht61 : (wr p2 = 4) → ab_Rn m_EL_of 61 [some (2, 0), some (0, p1), some (0, p2)] [] (K, S, g, r) (ab_Qt K S P T) := by
      intro hc
      have h := h.2.2.2.2.1 hc
      refine Rn_pure 1 (i' := 62) (L' := [some (2, 0), some (0, p1), some (0, p2)]) (st' := [(2, 0)]) rfl ?_
      obtain ⟨hf11, h⟩ := h
      refine Rn_getR rfl (⟨rfl, (by omega : (0 : Int) ≤ 0), (by omega : (0 : Int) + 1 < K ∧ 5 < K)⟩) rfl (nn_Lg hf11) ?_
      refine Rn_getR rfl (ob_Lg hf11 hK) (fx_Lg_4 hr hf11) (show (r 0 5 + 5 : Int) ≠ -1 by have := hf11; unfold isLg at this; omega) ?_
      refine Rn_pure 1 (i' := 65) (L' := [some (2, 0), some (0, p1), some (0, p2)]) (st' := [(0, p1), (2, r 0 5 + 5)]) rfl ?_
      obtain ⟨hg, h⟩ := h
      refine Rn_iald rfl (ar_Lg_4 hf11 hK) hg ?_
      exact Rn_ret1t rfl h
    have ht67 : (wr p2 = 5) → ab_Rn m_EL_of 67 [some (2, 0), some (0, p1), some (0, p2)] [] (K, S, g, r) (ab_Qt K S P T) := by
      intro hc
      have h := h.2.2.2.2.2.1 hc
      refine Rn_pure 1 (i' := 68) (L' := [some (2, 0), some (0, p1), some (0, p2)]) (st' := [(2, 0)]) rfl ?_
      refine Rn_getR rfl (⟨rfl, (by omega : (0 : Int) ≤ 0), (by omega : (0 : Int) + 1 < K ∧ 5 < K)⟩) (hr 2 _ rfl) (by decide) ?_
      refine Rn_getR rfl (⟨rfl, (by omega : (0 : Int) ≤ 45), (by omega : (45 : Int) + 1 < K ∧ 5 < K)⟩) (hr 54 _ rfl) (by decide) ?_
      refine Rn_pure 1 (i' := 71) (L' := [some (2, 0), some (0, p1), some (0, p2)]) (st' := [(0, p1), (2, 50)]) rfl ?_
      obtain ⟨hg, h⟩ := h
      refine Rn_iald rfl (⟨rfl, (by omega : (0 : Int) ≤ 50), (by omega : (50 : Int) + 1 < K ∧ 5 < K)⟩) hg ?_
      exact Rn_ret1t rfl h
    have ht73 : (wr p2 = 6) → ab_Rn m_EL_of 73 [some (2, 0), some (0, p1), some (0, p2)] [] (K, S, g, r) (ab_Qt K S P T) := by
      intro hc
      have h := h.2.2.2.2.2.2.1 hc
      refine Rn_pure 1 (i' := 74) (L' := [some (2, 0), some (0, p1), some (0, p2)]) (st' := [(2, 0)]) rfl ?_
      obtain ⟨hf12, h⟩ := h
      refine Rn_getR rfl (⟨rfl, (by omega : (0 : Int) ≤ 0), (by omega : (0 : Int) + 1 < K ∧ 5 < K)⟩) rfl (nn_Lg hf12) ?_
      refine Rn_getR rfl (ob_Lg hf12 hK) (fx_Lg_8 hr hf12) (show (r 0 5 + 9 : Int) ≠ -1 by have := hf12; unfold isLg at this; omega) ?_
      refine Rn_pure 1 (i' := 77) (L' := [some (2, 0), some (0, p1), some (0, p2)]) (st' := [(0, p1), (2, r 0 5 + 9)]) rfl ?_
      obtain ⟨hg, h⟩ := h
      refine Rn_iald rfl (ar_Lg_8 hf12 hK) hg ?_
      refine Rn_pure 1 (i' := 79) (L' := [some (2, 0), some (0, p1), some (0, p2)]) (st' := [(0, (-1)), (0, g (r 0 5 + 9) p1)]) rfl ?_
      refine Rn_iceq rfl (fun hc => ?_) (fun hc => ?_)
      · have h := h.1 hc
        refine Rn_pure 1 (i' := 83) (L' := [some (2, 0), some (0, p1), some (0, p2)]) (st' := [(0, 0)]) rfl ?_
        exact Rn_ret1t rfl h
      · have h := h.2 hc
        refine Rn_pure 2 (i' := 83) (L' := [some (2, 0), some (0, p1), some (0, p2)]) (st' := [(0, 1)]) rfl ?_
        exact Rn_ret1t rfl h
    have ht84 : (wr p2 = 7) → ab_Rn m_EL_of 84 [some (2, 0), some (0, p1), some (0, p2)] [] (K, S, g, r) (ab_Qt K S P T) := by
      intro hc
      have h := h.2.2.2.2.2.2.2.1 hc
      refine Rn_pure 1 (i' := 85) (L' := [some (2, 0), some (0, p1), some (0, p2)]) (st' := [(2, 0)]) rfl ?_
      obtain ⟨hf13, h⟩ := h
      refine Rn_getR rfl (⟨rfl, (by omega : (0 : Int) ≤ 0), (by omega : (0 : Int) + 1 < K ∧ 5 < K)⟩) rfl (nn_Lg hf13) ?_
      refine Rn_pure 4 (i' := 90) (L' := [some (2, 0), some (0, p1), some (0, p2)]) (st' := [(0, p1 + 1), (0, p1), (2, r 0 5)]) rfl ?_
      refine Rn_callI [(2, r 0 5), (0, p1), (0, p1 + 1)] [] rfl rfl rfl rfl (ab_rvB_of rfl (ob_Lg hf13 hK)) ?_
      refine h.mono (fun x14 g' r' h => ?_)
      obtain ⟨hx, h⟩ := h
      replace hx := hx.symm
      subst hx
      obtain ⟨hx, h⟩ := h
      replace hx := hx.symm
      subst hx
      exact Rn_ret1t rfl h
    have htd : (wr p2 < 0 ∨ 8 ≤ wr p2) → ab_Rn m_EL_of 92 [some (2, 0), some (0, p1), some (0, p2)] [] (K, S, g, r) (ab_Qt K S P T) := by
      intro hc
      have h := h.2.2.2.2.2.2.2.2 hc
      exact Rn_thr rfl h
    have hsp : wr p2 < 0 ∨ 8 ≤ wr p2 ∨ wr p2 = 0 ∨ wr p2 = 1 ∨ wr p2 = 2 ∨ wr p2 = 3 ∨ wr p2 = 4 ∨ wr p2 = 5 ∨ wr p2 = 6 ∨ wr p2 = 7 := by omega
    rcases hsp with hc | hc | hc | hc | hc | hc | hc | hc | hc | hc
    · rw [ab_ts_out (hT := (rfl : ab_nth ab_tsL 0 = some (0, 92, [12, 18, 33, 55, 61, 67, 73, 84]))) rfl (Or.inl hc)]; exact htd (by simp only [hc, true_or, or_true])
    · rw [ab_ts_out (hT := (rfl : ab_nth ab_tsL 0 = some (0, 92, [12, 18, 33, 55, 61, 67, 73, 84]))) rfl (Or.inr hc)]; exact htd (by simp only [hc, true_or, or_true])
    · rw [ab_ts_in (j := 0) (hT := (rfl : ab_nth ab_tsL 0 = some (0, 92, [12, 18, 33, 55, 61, 67, 73, 84]))) (by rw [hc]; rfl) rfl]; exact ht12 (by simp only [hc, true_or, or_true])
    · rw [ab_ts_in (j := 1) (hT := (rfl : ab_nth ab_tsL 0 = some (0, 92, [12, 18, 33, 55, 61, 67, 73, 84]))) (by rw [hc]; rfl) rfl]; exact ht18 (by simp only [hc, true_or, or_true])
    · rw [ab_ts_in (j := 2) (hT := (rfl : ab_nth ab_tsL 0 = some (0, 92, [12, 18, 33, 55, 61, 67, 73, 84]))) (by rw [hc]; rfl) rfl]; exact ht33 (by simp only [hc, true_or, or_true])
    · rw [ab_ts_in (j := 3) (hT := (rfl : ab_nth ab_tsL 0 = some (0, 92, [12, 18, 33, 55, 61, 67, 73, 84]))) (by rw [hc]; rfl) rfl]; exact ht55 (by simp only [hc, true_or, or_true])
    · rw [ab_ts_in (j := 4) (hT := (rfl : ab_nth ab_tsL 0 = some (0, 92, [12, 18, 33, 55, 61, 67, 73, 84]))) (by rw [hc]; rfl) rfl]; exact ht61 (by simp only [hc, true_or, or_true])
    · rw [ab_ts_in (j := 5) (hT := (rfl : ab_nth ab_tsL 0 = some (0, 92, [12, 18, 33, 55, 61, 67, 73, 84]))) (by rw [hc]; rfl) rfl]; exact ht67 (by simp only [hc, true_or, or_true])
    · rw [ab_ts_in (j := 6) (hT := (rfl : ab_nth ab_tsL 0 = some (0, 92, [12, 18, 33, 55, 61, 67, 73, 84]))) (by rw [hc]; rfl) rfl]; exact ht73 (by simp only [hc, true_or, or_true])
    · rw [ab_ts_in (j := 7) (hT := (rfl : ab_nth ab_tsL 0 = some (0, 92, [12, 18, 33, 55, 61, 67, 73, 84]))) (by rw [hc]; rfl) rfl]; exact ht84 (by simp only [hc, true_or, or_true])
  · have h := h.2 hc
    exact Rn_thr rfl h
/-- what is thrown; what is answered -/
def thr_of (g : ab_H) (e w : Int) : Int := if 0 ≤ e ∧ e < ss g 1080 then (if 0 ≤ w ∧ w < 8 then 0 else 2) else 1
def V_of (g : ab_H) (e w : Int) : Int := if w = 5 then (rp g (-1) 120 (ss g 1080)).2.2.2.2 e else if w = 6 then (if ss g (9 * e + 8) = 0 then 0 else 1) else if w = 7 then wts (ss g) e else ss g (9 * e + w)
/-- the reference: its word behind it says what it would throw -/
theorem m_of {K : Int} {S : Nat} {g r : ab_H} {e w : Int} (hr : SI r) (hK : 186 ≤ K) (R : Rel g r) (he : I32 e) (hw : I32 w) : ab_RI m_M_of [(2, 161), (0, e), (0, w)] K S g r (fun y g2 r2 => r2 = r ∧ Scr g g2 r ∧ g2 161 0 = thr_of g e w ∧ (thr_of g e w = 0 → y = V_of g e w)) := by
  unfold I32 at he hw
  apply v_M_of _ hr hK
  intro g1 hg1
  have f1 := Scr_t R hg1
  have R1 := Rel_scr R f1
  have G1 := R1.2.2.2.1.1
  have n1 := G1.1
  have ess : ss g1 = ss g := Scr_ss f1
  have e0 : g1 161 0 = 0 := by rw [hg1, up_s]
  apply s_M_isEvent _ hr hK (Rel_many R1) G1.1 he
  intro x hx
  rw [ess] at hx n1 G1
  refine ⟨rfl, rfl, And.intro (fun h1 => ?_) (fun h1 g8 hg8 => ⟨rfl, Scr_tr f1 (Scr_t R1 hg8), ?_, ?_⟩)⟩
  · have he2 : 0 ≤ e ∧ e < ss g 1080 := by simp only [wr] at h1; omega
    have c0 := G1.2.1 e he2.1 he2.2
    have sj : ∀ f : Int, 0 ≤ f → f < 9 → g1 174 (9 * e + f) = ss g (9 * e + f) := fun f a b => by
      have := Rel_EvS R1 (9 * e + f) (by omega) (by omega)
      rw [ess] at this; exact this
    have ok : ∀ (y : Int), 0 ≤ w ∧ w < 8 → y = V_of g e w → (r = r ∧ Scr g g1 r ∧ g1 161 0 = thr_of g e w ∧ (thr_of g e w = 0 → y = V_of g e w)) := fun y h2 hy => ⟨rfl, f1, by unfold thr_of; rw [if_pos he2, if_pos h2]; exact e0, fun _ => hy⟩
    have ev : ∀ f : Int, f ≠ 5 → f ≠ 6 → f ≠ 7 → w = f → V_of g e w = ss g (9 * e + f) := fun f a b c d => by unfold V_of; rw [d, if_neg a, if_neg b, if_neg c]
    have w32 : wr w = w := by simp only [wr]; omega
    refine And.intro (fun h2 => ⟨by omega, ok _ (by omega) (by rw [sj 0 (by omega) (by omega), ev 0 (by omega) (by omega) (by omega) (by omega)])⟩) (And.intro (fun h2 => ⟨by omega, ok _ (by omega) (by rw [sj 1 (by omega) (by omega), ev 1 (by omega) (by omega) (by omega) (by omega)])⟩) (And.intro (fun h2 => ⟨by omega, ok _ (by omega) (by rw [sj 2 (by omega) (by omega), ev 2 (by omega) (by omega) (by omega) (by omega)])⟩) (And.intro (fun h2 => ⟨by omega, ok _ (by omega) (by rw [sj 3 (by omega) (by omega), ev 3 (by omega) (by omega) (by omega) (by omega)])⟩) (And.intro (fun h2 => ⟨by omega, ok _ (by omega) (by rw [sj 4 (by omega) (by omega), ev 4 (by omega) (by omega) (by omega) (by omega)])⟩) (And.intro (fun h2 => ?_) (And.intro (fun h2 => ?_) (And.intro (fun h2 => ?_) (fun h2 g7 hg7 => ⟨rfl, Scr_tr f1 (Scr_t R1 hg7), ?_, ?_⟩))))))))
    · apply u_M_replaysAll _ hr hK R1
      intro g3 fm f3 hq
      refine ⟨rfl, by omega, rfl, Scr_tr f1 f3, ?_, fun _ => ?_⟩
      · unfold thr_of
        rw [if_pos he2, if_pos (by omega), fm.2 0 (by omega) (by omega) (by omega)]
        exact e0
      · have hq5 : g3 183 e = _ := hq.2 e he2.1 (by rw [ess]; exact he2.2)
        rw [hq5]
        unfold V_of
        rw [if_pos (by omega), ← Scr_rp f1, ← ess]
        rfl
    · apply s_M_isVoided _ hr hK (by omega) (by rw [sj 8 (by omega) (by omega)]; have := c0.2.2.2.2.2; omega)
      intro y hy
      rw [sj 8 (by omega) (by omega)] at hy
      have e6 : V_of g e w = if ss g (9 * e + 8) = 0 then 0 else 1 := by unfold V_of; rw [if_neg (by omega), if_pos (by omega)]
      refine ⟨rfl, rfl, And.intro (fun h3 => ok _ (by omega) ?_) (fun h3 => ok _ (by omega) ?_)⟩
      · rw [e6, if_pos (by simp only [wr] at h3; omega)]
      · rw [e6, if_neg (by simp only [wr] at h3; omega)]
    · apply s_M_weightOf (s := ss g) (n := ss g 1080) _ hr hK (by have := Rel_EvS R1; rw [ess] at this; exact this) G1.2.1 n1.2 he2
      exact ⟨rfl, rfl, ok _ (by omega) (by unfold V_of; rw [if_neg (by omega), if_neg (by omega), if_pos (by omega)])⟩
    · unfold thr_of
      rw [if_pos he2, if_neg (by omega), hg7, up_s]
    · unfold thr_of
      rw [if_pos he2, if_neg (by omega)]
      intro hc; omega
  · unfold thr_of
    rw [if_neg (by simp only [wr] at h1; omega), hg8, up_s]
  · unfold thr_of
    rw [if_neg (by simp only [wr] at h1; omega)]
    intro hc; omega
/-- the class: it answers, or it throws -/
theorem s_EL_of {K : Int} {S : Nat} {g r : ab_H} {e w : Int} (P T : Int → ab_H → ab_H → Prop) (hr : SI r) (hK : 186 ≤ K) (R : Rel g r) (he : I32 e) (hw : I32 w) (h0 : thr_of g e w = 0 → P (V_of g e w) g r) (h1 : thr_of g e w ≠ 0 → T (thr_of g e w) g r) : ab_Rn m_EL_of 0 (ab_en m_EL_of [(2, 0), (0, e), (0, w)]) [] (K, S, g, r) (ab_Qt K S P T) := by
  unfold I32 at he hw
  have S1 := R.2.2.2.1
  have G := S1.1
  have n1 := G.1
  have L5 := Rel_Lg R
  have w32 : wr w = w := by simp only [wr]; omega
  apply v_EL_of _ _ hr hK
  refine ⟨L5, ?_⟩
  apply s_Lg_holds _ hr hK L5 S1.2.1.1 n1 he
  intro x hx
  refine ⟨rfl, rfl, And.intro (fun h2 => ?_) (fun h2 => ?_)⟩
  · have he2 : 0 ≤ e ∧ e < ss g 1080 := by simp only [wr] at h2; omega
    have c0 := G.2.1 e he2.1 he2.2
    have a0 := G.2.2.2.1 e he2.1 he2.2
    have v0 := S1.2.1.2.2.1 e he2.1 he2.2
    have eb : 0 ≤ e ∧ e < 120 := by omega
    have ok : ∀ y : Int, 0 ≤ w ∧ w < 8 → y = V_of g e w → P y g r := fun y a b => by rw [b]; exact h0 (by unfold thr_of; rw [if_pos he2, if_pos a])
    have ev : ∀ f : Int, f ≠ 5 → f ≠ 6 → f ≠ 7 → w = f → V_of g e w = ss g (9 * e + f) := fun f a b c d => by unfold V_of; rw [d, if_neg a, if_neg b, if_neg c]
    have hk : wr (g (r 0 5 + 1) e) = ss g (9 * e + 0) := by rw [v0.1]; simp only [wr]; omega
    have w7 : wr 7 = 7 := by decide
    have w6 : wr 6 = 6 := by decide
    rw [hk, w7, w6]
    refine And.intro (fun h3 => ⟨L5, eb, ok _ (by omega) (by rw [v0.1, ev 0 (by omega) (by omega) (by omega) (by omega)])⟩) (And.intro (fun h3 => ⟨L5, eb, And.intro (fun h4 => ⟨L5, eb, ok _ (by omega) (by rw [v0.2.1 h4, ev 1 (by omega) (by omega) (by omega) (by omega)])⟩) (fun h4 => ok _ (by omega) (by rw [ev 1 (by omega) (by omega) (by omega) (by omega), a0.2.2.1 h4]))⟩) (And.intro (fun h3 => ⟨L5, eb, And.intro (fun h4 => ⟨L5, eb, ok _ (by omega) (by rw [v0.2.2.1 (Or.inr h4), ev 2 (by omega) (by omega) (by omega) (by omega)])⟩) (fun h4 => ⟨L5, eb, And.intro (fun h5 => ok _ (by omega) (by rw [ev 2 (by omega) (by omega) (by omega) (by omega), a0.2.2.2 h5 h4])) (fun h5 => ⟨L5, eb, ok _ (by omega) (by rw [v0.2.2.1 (Or.inl h5), ev 2 (by omega) (by omega) (by omega) (by omega)])⟩)⟩)⟩) (And.intro (fun h3 => ⟨L5, eb, ok _ (by omega) (by rw [v0.2.2.2.1, ev 3 (by omega) (by omega) (by omega) (by omega)])⟩) (And.intro (fun h3 => ⟨L5, eb, ok _ (by omega) (by rw [v0.2.2.2.2.1, ev 4 (by omega) (by omega) (by omega) (by omega)])⟩) (And.intro (fun h3 => ⟨eb, ok _ (by omega) ?_⟩) (And.intro (fun h3 => ⟨L5, eb, ?_⟩) (And.intro (fun h3 => ⟨L5, ?_⟩) (fun h3 => ?_))))))))
    · have h5 := S1.2.2.2.2.2.1.2 e he2.1 he2.2
      unfold V_of
      rw [if_pos (by omega)]
      exact h5
    · have h9 := v0.2.2.2.2.2.1
      have e6 : V_of g e w = if ss g (9 * e + 8) = 0 then 0 else 1 := by unfold V_of; rw [if_neg (by omega), if_pos (by omega)]
      refine And.intro (fun h4 => ok _ (by omega) ?_) (fun h4 => ok _ (by omega) ?_)
      · rw [e6, if_pos (by simp only [wr] at h4; omega)]
      · rw [e6, if_neg (by simp only [wr] at h4; omega)]
    · apply s_Lg_weights _ hr hK L5 S1.2.1 (by omega) (by omega)
      refine ⟨rfl, rfl, ok _ (by omega) ?_⟩
      unfold V_of
      rw [if_neg (by omega), if_neg (by omega), if_pos (by omega), psm_1 he2.1]
    · have ht : thr_of g e w = 2 := by unfold thr_of; rw [if_pos he2, if_neg (by omega)]
      have := h1 (by omega)
      rw [ht] at this
      exact this
  · have ht : thr_of g e w = 1 := by unfold thr_of; rw [if_neg (by simp only [wr] at h2; omega)]
    have := h1 (by omega)
    rw [ht] at this
    exact this
