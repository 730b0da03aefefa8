-- EventLedger$Parser.parse ([BILEventLedger$Terms;LEventLedger$Log;)I
theorem v_Pa_parse {K : Int} {S : Nat} {g r : ab_H} {p1 n1 p2 p3 p4 : Int} (P : Int → ab_H → ab_H → Prop) (hr : SI r) (hK : 186 ≤ K) (hp1 : ab_AR K p1 101 n1) (hp3 : isTe p3) (hp4 : isLg p4) (h : ∀ r1, r1 = ab_up r 2 2 p3 → (isTe (r1 2 2)) ∧ ab_RV m_Te_clear [(2, r1 2 2)] K S g r1 (fun g4 r' => r' = r1 ∧ (∀ r6, r6 = ab_up r1 2 3 p4 → (isLg (r6 2 3)) ∧ ab_RV m_Lg_clear [(2, r6 2 3)] K S g4 r6 (fun g9 r' => r' = r6 ∧ (∀ g11, g11 = ab_up g9 2 4 0 → ∀ g12, g12 = ab_up g11 2 5 0 → ∀ g13, g13 = ab_up g12 2 6 0 → ∀ g14, g14 = ab_up g13 2 7 (-1) → ab_RV m_To_begin [(2, 4), (2, p1), (0, p2)] K S g14 r6 (fun g15 r16 => SI r16 ∧ (ab_Rn m_Pa_parse 31 [some (2, 2), none, some (0, p2), none, none, some (0, 0)] [] (K, S, g15, r16) (ab_Qi K S P)))))))) : ab_RI m_Pa_parse [(2, 2), (2, p1), (0, p2), (2, p3), (2, p4)] K S g r P := by
  show ab_Rn m_Pa_parse 0 [some (2, 2), some (2, p1), some (0, p2), some (2, p3), some (2, p4), none] [] (K, S, g, r) (ab_Qi K S P)
  refine Rn_pure 2 (i' := 2) (L' := [some (2, 2), some (2, p1), some (0, p2), some (2, p3), some (2, p4), none]) (st' := [(2, p3), (2, 2)]) rfl ?_
  refine Rn_putR rfl (⟨rfl, (by omega : (0 : Int) ≤ 2), (by omega : (2 : Int) + 1 < K ∧ 5 < K)⟩) (nn_Te hp3) (fun r1 he_r1 => ?_)
  have h := h r1 he_r1
  have hr2 : SI r1 := by rw [he_r1]; exact SI_up hr (by decide)
  refine Rn_pure 1 (i' := 4) (L' := [some (2, 2), some (2, p1), some (0, p2), some (2, p3), some (2, p4), none]) (st' := [(2, 2)]) rfl ?_
  obtain ⟨hf3, h⟩ := h
  refine Rn_getR rfl (⟨rfl, (by omega : (0 : Int) ≤ 2), (by omega : (2 : Int) + 1 < K ∧ 5 < K)⟩) rfl (nn_Te hf3) ?_
  refine Rn_callV [(2, r1 2 2)] [] rfl rfl rfl rfl (ab_rvB_of rfl (ob_Te hf3 hK)) ?_
  refine h.mono (fun g4 r' h => ?_)
  obtain ⟨hx, h⟩ := h
  replace hx := hx.symm
  subst hx
  refine Rn_pure 2 (i' := 8) (L' := [some (2, 2), some (2, p1), some (0, p2), some (2, p3), some (2, p4), none]) (st' := [(2, p4), (2, 2)]) rfl ?_
  refine Rn_putR rfl (⟨rfl, (by omega : (0 : Int) ≤ 2), (by omega : (2 : Int) + 1 < K ∧ 5 < K)⟩) (nn_Lg hp4) (fun r6 he_r6 => ?_)
  have h := h r6 he_r6
  have hr7 : SI r6 := by rw [he_r6]; exact SI_up hr2 (by decide)
  refine Rn_pure 1 (i' := 10) (L' := [some (2, 2), some (2, p1), some (0, p2), some (2, p3), some (2, p4), none]) (st' := [(2, 2)]) rfl ?_
  obtain ⟨hf8, h⟩ := h
  refine Rn_getR rfl (⟨rfl, (by omega : (0 : Int) ≤ 2), (by omega : (2 : Int) + 1 < K ∧ 5 < K)⟩) rfl (nn_Lg hf8) ?_
  refine Rn_callV [(2, r6 2 3)] [] rfl rfl rfl rfl (ab_rvB_of rfl (ob_Lg hf8 hK)) ?_
  refine h.mono (fun g9 r' h => ?_)
  obtain ⟨hx, h⟩ := h
  replace hx := hx.symm
  subst hx
  refine Rn_pure 2 (i' := 14) (L' := [some (2, 2), some (2, p1), some (0, p2), some (2, p3), some (2, p4), none]) (st' := [(0, 0), (2, 2)]) rfl ?_
  refine Rn_putZ rfl (⟨rfl, (by omega : (0 : Int) ≤ 2), (by omega : (2 : Int) + 1 < K ∧ 5 < K)⟩) (by decide) (fun g11 he_g11 => ?_)
  have h := h g11 he_g11
  refine Rn_pure 2 (i' := 17) (L' := [some (2, 2), some (2, p1), some (0, p2), some (2, p3), some (2, p4), none]) (st' := [(0, 0), (2, 2)]) rfl ?_
  refine Rn_putZ rfl (⟨rfl, (by omega : (0 : Int) ≤ 2), (by omega : (2 : Int) + 1 < K ∧ 5 < K)⟩) (by decide) (fun g12 he_g12 => ?_)
  have h := h g12 he_g12
  refine Rn_pure 2 (i' := 20) (L' := [some (2, 2), some (2, p1), some (0, p2), some (2, p3), some (2, p4), none]) (st' := [(0, 0), (2, 2)]) rfl ?_
  refine Rn_putI rfl (⟨rfl, (by omega : (0 : Int) ≤ 2), (by omega : (2 : Int) + 1 < K ∧ 5 < K)⟩) (fun g13 he_g13 => ?_)
  have h := h g13 he_g13
  refine Rn_pure 2 (i' := 23) (L' := [some (2, 2), some (2, p1), some (0, p2), some (2, p3), some (2, p4), none]) (st' := [(0, (-1)), (2, 2)]) rfl ?_
  refine Rn_putI rfl (⟨rfl, (by omega : (0 : Int) ≤ 2), (by omega : (2 : Int) + 1 < K ∧ 5 < K)⟩) (fun g14 he_g14 => ?_)
  have h := h g14 he_g14
  refine Rn_pure 1 (i' := 25) (L' := [some (2, 2), some (2, p1), some (0, p2), some (2, p3), some (2, p4), none]) (st' := [(2, 2)]) rfl ?_
  refine Rn_getR rfl (⟨rfl, (by omega : (0 : Int) ≤ 2), (by omega : (2 : Int) + 1 < K ∧ 5 < K)⟩) (hr7 13 _ rfl) (by decide) ?_
  refine Rn_pure 2 (i' := 28) (L' := [some (2, 2), some (2, p1), some (0, p2), some (2, p3), some (2, p4), none]) (st' := [(0, p2), (2, p1), (2, 4)]) rfl ?_
  refine Rn_callV [(2, 4), (2, p1), (0, p2)] [] rfl rfl rfl rfl (ab_rvB_of rfl (⟨rfl, (by omega : (0 : Int) ≤ 4), (by omega : (4 : Int) + 1 < K ∧ 5 < K)⟩)) ?_
  refine h.mono (fun g15 r16 h => ?_)
  obtain ⟨hr18, h⟩ := h
  refine Rn_pure 2 (i' := 31) (L' := [some (2, 2), some (2, p1), some (0, p2), some (2, p3), some (2, p4), some (0, 0)]) (st' := []) rfl ?_
  refine Rn_weak (L' := [some (2, 2), none, some (0, p2), none, none, some (0, 0)]) ⟨rfl, ⟨rfl, ⟨rfl, trivial⟩⟩⟩ ?_
  exact h
theorem v_Pa_parse_31 {K : Int} {S : Nat} {g r : ab_H} {l2 l5 : Int} (P : Int → ab_H → ab_H → Prop) (hr : SI r) (hK : 186 ≤ K) (h : ((wr l2 ≤ wr l5 → ((¬ wr (g 2 6) = wr 0 → P (-1) g r) ∧ (wr (g 2 6) = wr 0 → P l5 g r))) ∧ (wr l5 < wr l2 → ((¬ wr (g 2 6) = wr 0 → ((¬ wr (g 2 6) = wr 0 → P (-1) g r) ∧ (wr (g 2 6) = wr 0 → P l5 g r))) ∧ (wr (g 2 6) = wr 0 → ((wr (g 4 3) = wr 0 → ((¬ wr (g 2 6) = wr 0 → P (-1) g r) ∧ (wr (g 2 6) = wr 0 → P l5 g r))) ∧ (¬ wr (g 4 3) = wr 0 → ab_RI m_Pa_stands [(2, 2), (0, 1)] K S g r (fun x2 g1 r' => r' = r ∧ (((wr x2 = wr 0 → ab_Rn m_Pa_parse 31 [some (2, 2), none, some (0, l2), none, none, some (0, l5 + 1)] [] (K, S, g1, r) (ab_Qi K S P)) ∧ (¬ wr x2 = wr 0 → (isWd (r 4 5)) ∧ ab_RV m_Pa_readLine [(2, 2), (2, r 4 5)] K S g1 r (fun g4 r5 => SI r5 ∧ (ab_Rn m_Pa_parse 31 [some (2, 2), none, some (0, l2), none, none, some (0, l5 + 1)] [] (K, S, g4, r5) (ab_Qi K S P)))))))))))))) : ab_Rn m_Pa_parse 31 [some (2, 2), none, some (0, l2), none, none, some (0, l5)] [] (K, S, g, r) (ab_Qi K S P) := by
  refine Rn_pure 2 (i' := 33) (L' := [some (2, 2), none, some (0, l2), none, none, some (0, l5)]) (st' := [(0, l2), (0, l5)]) rfl ?_
  refine Rn_icge rfl (fun hc => ?_) (fun hc => ?_)
  · have h := h.1 hc
    refine Rn_pure 1 (i' := 53) (L' := [some (2, 2), none, some (0, l2), none, none, some (0, l5)]) (st' := [(2, 2)]) rfl ?_
    refine Rn_getI rfl (⟨rfl, (by omega : (0 : Int) ≤ 2), (by omega : (2 : Int) + 1 < K ∧ 5 < K)⟩) ?_
    refine Rn_ifne rfl (fun hc => ?_) (fun hc => ?_)
    · have h := h.1 hc
      refine Rn_pure 1 (i' := 58) (L' := [some (2, 2), none, some (0, l2), none, none, some (0, l5)]) (st' := [(0, (-1))]) rfl ?_
      exact Rn_ret1 rfl h
    · have h := h.2 hc
      refine Rn_pure 2 (i' := 58) (L' := [some (2, 2), none, some (0, l2), none, none, some (0, l5)]) (st' := [(0, l5)]) rfl ?_
      exact Rn_ret1 rfl h
  · have h := h.2 hc
    refine Rn_pure 1 (i' := 35) (L' := [some (2, 2), none, some (0, l2), none, none, some (0, l5)]) (st' := [(2, 2)]) rfl ?_
    refine Rn_getI rfl (⟨rfl, (by omega : (0 : Int) ≤ 2), (by omega : (2 : Int) + 1 < K ∧ 5 < K)⟩) ?_
    refine Rn_ifne rfl (fun hc => ?_) (fun hc => ?_)
    · have h := h.1 hc
      refine Rn_pure 1 (i' := 53) (L' := [some (2, 2), none, some (0, l2), none, none, some (0, l5)]) (st' := [(2, 2)]) rfl ?_
      refine Rn_getI rfl (⟨rfl, (by omega : (0 : Int) ≤ 2), (by omega : (2 : Int) + 1 < K ∧ 5 < K)⟩) ?_
      refine Rn_ifne rfl (fun hc => ?_) (fun hc => ?_)
      · have h := h.1 hc
        refine Rn_pure 1 (i' := 58) (L' := [some (2, 2), none, some (0, l2), none, none, some (0, l5)]) (st' := [(0, (-1))]) rfl ?_
        exact Rn_ret1 rfl h
      · have h := h.2 hc
        refine Rn_pure 2 (i' := 58) (L' := [some (2, 2), none, some (0, l2), none, none, some (0, l5)]) (st' := [(0, l5)]) rfl ?_
        exact Rn_ret1 rfl h
    · have h := h.2 hc
      refine Rn_pure 1 (i' := 38) (L' := [some (2, 2), none, some (0, l2), none, none, some (0, l5)]) (st' := [(2, 2)]) rfl ?_
      refine Rn_getR rfl (⟨rfl, (by omega : (0 : Int) ≤ 2), (by omega : (2 : Int) + 1 < K ∧ 5 < K)⟩) (hr 13 _ rfl) (by decide) ?_
      refine Rn_getI rfl (⟨rfl, (by omega : (0 : Int) ≤ 4), (by omega : (4 : Int) + 1 < K ∧ 5 < K)⟩) ?_
      refine Rn_ifeq rfl (fun hc => ?_) (fun hc => ?_)
      · have h := h.1 hc
        refine Rn_pure 1 (i' := 53) (L' := [some (2, 2), none, some (0, l2), none, none, some (0, l5)]) (st' := [(2, 2)]) rfl ?_
        refine Rn_getI rfl (⟨rfl, (by omega : (0 : Int) ≤ 2), (by omega : (2 : Int) + 1 < K ∧ 5 < K)⟩) ?_
        refine Rn_ifne rfl (fun hc => ?_) (fun hc => ?_)
        · have h := h.1 hc
          refine Rn_pure 1 (i' := 58) (L' := [some (2, 2), none, some (0, l2), none, none, some (0, l5)]) (st' := [(0, (-1))]) rfl ?_
          exact Rn_ret1 rfl h
        · have h := h.2 hc
          refine Rn_pure 2 (i' := 58) (L' := [some (2, 2), none, some (0, l2), none, none, some (0, l5)]) (st' := [(0, l5)]) rfl ?_
          exact Rn_ret1 rfl h
      · have h := h.2 hc
        refine Rn_pure 2 (i' := 43) (L' := [some (2, 2), none, some (0, l2), none, none, some (0, l5)]) (st' := [(0, 1), (2, 2)]) rfl ?_
        refine Rn_callI [(2, 2), (0, 1)] [] rfl rfl rfl rfl (ab_rvB_of rfl (⟨rfl, (by omega : (0 : Int) ≤ 2), (by omega : (2 : Int) + 1 < K ∧ 5 < K)⟩)) ?_
        refine h.mono (fun x2 g1 r' h => ?_)
        obtain ⟨hx, h⟩ := h
        replace hx := hx.symm
        subst hx
        refine Rn_ifeq rfl (fun hc => ?_) (fun hc => ?_)
        · have h := h.1 hc
          refine Rn_pure 2 (i' := 31) (L' := [some (2, 2), none, some (0, l2), none, none, some (0, l5 + 1)]) (st' := []) rfl ?_
          exact h
        · have h := h.2 hc
          refine Rn_pure 2 (i' := 47) (L' := [some (2, 2), none, some (0, l2), none, none, some (0, l5)]) (st' := [(2, 2), (2, 2)]) rfl ?_
          refine Rn_getR rfl (⟨rfl, (by omega : (0 : Int) ≤ 2), (by omega : (2 : Int) + 1 < K ∧ 5 < K)⟩) (hr 13 _ rfl) (by decide) ?_
          obtain ⟨hf3, h⟩ := h
          refine Rn_getR rfl (⟨rfl, (by omega : (0 : Int) ≤ 4), (by omega : (4 : Int) + 1 < K ∧ 5 < K)⟩) rfl (nn_Wd hf3) ?_
          refine Rn_callV [(2, 2), (2, r 4 5)] [] rfl rfl rfl rfl (ab_rvB_of rfl (⟨rfl, (by omega : (0 : Int) ≤ 2), (by omega : (2 : Int) + 1 < K ∧ 5 < K)⟩)) ?_
          refine h.mono (fun g4 r5 h => ?_)
          obtain ⟨hr7, h⟩ := h
          refine Rn_pure 2 (i' := 31) (L' := [some (2, 2), none, some (0, l2), none, none, some (0, l5 + 1)]) (st' := []) rfl ?_
          exact h
-- EventLedger$Parser.readLine (LEventLedger$Word;)V
theorem v_Pa_readLine {K : Int} {S : Nat} {g r : ab_H} {p1 : Int} (P : ab_H → ab_H → Prop) (hr : SI r) (hK : 186 ≤ K) (hp1 : isWd p1) (h : ((0 : Int) ≤ -5 - p1 ∧ (-5 - p1 : Int) < 17) ∧ ((wr ((ab_nth ab_swm (-5 - p1).toNat).getD 0) = 1 → ab_RV m_Pa_readAccount [(2, 2)] K S g r (fun g1 r2 => SI r2 ∧ (P g1 r2))) ∧ (wr ((ab_nth ab_swm (-5 - p1).toNat).getD 0) = 2 → ab_RV m_Pa_readLift [(2, 2)] K S g r (fun g5 r6 => SI r6 ∧ (P g5 r6))) ∧ (wr ((ab_nth ab_swm (-5 - p1).toNat).getD 0) = 3 → ab_RV m_Pa_readTally [(2, 2)] K S g r (fun g9 r10 => SI r10 ∧ (P g9 r10))) ∧ (wr ((ab_nth ab_swm (-5 - p1).toNat).getD 0) = 4 → ab_RV m_Pa_readSnap [(2, 2)] K S g r (fun g13 r14 => SI r14 ∧ (P g13 r14))) ∧ (wr ((ab_nth ab_swm (-5 - p1).toNat).getD 0) = 5 → ab_RV m_Pa_readSeed [(2, 2)] K S g r (fun g17 r18 => SI r18 ∧ (P g17 r18))) ∧ (wr ((ab_nth ab_swm (-5 - p1).toNat).getD 0) = 6 → ab_RV m_Pa_readVoid [(2, 2)] K S g r (fun g21 r22 => SI r22 ∧ (P g21 r22))) ∧ (wr ((ab_nth ab_swm (-5 - p1).toNat).getD 0) < 1 ∨ 7 ≤ wr ((ab_nth ab_swm (-5 - p1).toNat).getD 0) → ab_RV m_Pa_readEvent [(2, 2), (0, ((ab_nth ab_wt (-5 - p1).toNat).getD (0, 0, 0)).2.1)] K S g r (fun g25 r26 => SI r26 ∧ (P g25 r26))))) : ab_RV m_Pa_readLine [(2, 2), (2, p1)] K S g r P := by
  show ab_Rn m_Pa_readLine 0 [some (2, 2), some (2, p1)] [] (K, S, g, r) (ab_Qv K S P)
  refine Rn_pure 2 (i' := 2) (L' := [some (2, 2), some (2, p1)]) (st' := [(2, p1), (2, (-4))]) rfl ?_
  refine Rn_word rfl (by decide) ⟨hp1.2, hp1.1⟩ ?_
  obtain ⟨hg, h⟩ := h
  refine Rn_swld rfl hg ?_
  refine Rn_ts rfl ?_
  have ht5 : (wr ((ab_nth ab_swm (-5 - p1).toNat).getD 0) = 1) → ab_Rn m_Pa_readLine 5 [some (2, 2), some (2, p1)] [] (K, S, g, r) (ab_Qv K S P) := by
    intro hc
    have h := h.1 hc
    refine Rn_pure 1 (i' := 6) (L' := [some (2, 2), some (2, p1)]) (st' := [(2, 2)]) rfl ?_
    refine Rn_callV [(2, 2)] [] rfl rfl rfl rfl (ab_rvB_of rfl (⟨rfl, (by omega : (0 : Int) ≤ 2), (by omega : (2 : Int) + 1 < K ∧ 5 < K)⟩)) ?_
    refine h.mono (fun g1 r2 h => ?_)
    obtain ⟨hr4, h⟩ := h
    refine Rn_pure 1 (i' := 27) (L' := [some (2, 2), some (2, p1)]) (st' := []) rfl ?_
    exact Rn_ret0 rfl h
  have ht8 : (wr ((ab_nth ab_swm (-5 - p1).toNat).getD 0) = 2) → ab_Rn m_Pa_readLine 8 [some (2, 2), some (2, p1)] [] (K, S, g, r) (ab_Qv K S P) := by
    intro hc
    have h := h.2.1 hc
    refine Rn_pure 1 (i' := 9) (L' := [some (2, 2), some (2, p1)]) (st' := [(2, 2)]) rfl ?_
    refine Rn_callV [(2, 2)] [] rfl rfl rfl rfl (ab_rvB_of rfl (⟨rfl, (by omega : (0 : Int) ≤ 2), (by omega : (2 : Int) + 1 < K ∧ 5 < K)⟩)) ?_
    refine h.mono (fun g5 r6 h => ?_)
    obtain ⟨hr8, h⟩ := h
    refine Rn_pure 1 (i' := 27) (L' := [some (2, 2), some (2, p1)]) (st' := []) rfl ?_
    exact Rn_ret0 rfl h
  have ht11 : (wr ((ab_nth ab_swm (-5 - p1).toNat).getD 0) = 3) → ab_Rn m_Pa_readLine 11 [some (2, 2), some (2, p1)] [] (K, S, g, r) (ab_Qv K S P) := by
    intro hc
    have h := h.2.2.1 hc
    refine Rn_pure 1 (i' := 12) (L' := [some (2, 2), some (2, p1)]) (st' := [(2, 2)]) rfl ?_
    refine Rn_callV [(2, 2)] [] rfl rfl rfl rfl (ab_rvB_of rfl (⟨rfl, (by omega : (0 : Int) ≤ 2), (by omega : (2 : Int) + 1 < K ∧ 5 < K)⟩)) ?_
    refine h.mono (fun g9 r10 h => ?_)
    obtain ⟨hr12, h⟩ := h
    refine Rn_pure 1 (i' := 27) (L' := [some (2, 2), some (2, p1)]) (st' := []) rfl ?_
    exact Rn_ret0 rfl h
  have ht14 : (wr ((ab_nth ab_swm (-5 - p1).toNat).getD 0) = 4) → ab_Rn m_Pa_readLine 14 [some (2, 2), some (2, p1)] [] (K, S, g, r) (ab_Qv K S P) := by
    intro hc
    have h := h.2.2.2.1 hc
    refine Rn_pure 1 (i' := 15) (L' := [some (2, 2), some (2, p1)]) (st' := [(2, 2)]) rfl ?_
    refine Rn_callV [(2, 2)] [] rfl rfl rfl rfl (ab_rvB_of rfl (⟨rfl, (by omega : (0 : Int) ≤ 2), (by omega : (2 : Int) + 1 < K ∧ 5 < K)⟩)) ?_
    refine h.mono (fun g13 r14 h => ?_)
    obtain ⟨hr16, h⟩ := h
    refine Rn_pure 1 (i' := 27) (L' := [some (2, 2), some (2, p1)]) (st' := []) rfl ?_
    exact Rn_ret0 rfl h
  have ht17 : (wr ((ab_nth ab_swm (-5 - p1).toNat).getD 0) = 5) → ab_Rn m_Pa_readLine 17 [some (2, 2), some (2, p1)] [] (K, S, g, r) (ab_Qv K S P) := by
    intro hc
    have h := h.2.2.2.2.1 hc
    refine Rn_pure 1 (i' := 18) (L' := [some (2, 2), some (2, p1)]) (st' := [(2, 2)]) rfl ?_
    refine Rn_callV [(2, 2)] [] rfl rfl rfl rfl (ab_rvB_of rfl (⟨rfl, (by omega : (0 : Int) ≤ 2), (by omega : (2 : Int) + 1 < K ∧ 5 < K)⟩)) ?_
    refine h.mono (fun g17 r18 h => ?_)
    obtain ⟨hr20, h⟩ := h
    refine Rn_pure 1 (i' := 27) (L' := [some (2, 2), some (2, p1)]) (st' := []) rfl ?_
    exact Rn_ret0 rfl h
  have ht20 : (wr ((ab_nth ab_swm (-5 - p1).toNat).getD 0) = 6) → ab_Rn m_Pa_readLine 20 [some (2, 2), some (2, p1)] [] (K, S, g, r) (ab_Qv K S P) := by
    intro hc
    have h := h.2.2.2.2.2.1 hc
    refine Rn_pure 1 (i' := 21) (L' := [some (2, 2), some (2, p1)]) (st' := [(2, 2)]) rfl ?_
    refine Rn_callV [(2, 2)] [] rfl rfl rfl rfl (ab_rvB_of rfl (⟨rfl, (by omega : (0 : Int) ≤ 2), (by omega : (2 : Int) + 1 < K ∧ 5 < K)⟩)) ?_
    refine h.mono (fun g21 r22 h => ?_)
    obtain ⟨hr24, h⟩ := h
    refine Rn_pure 1 (i' := 27) (L' := [some (2, 2), some (2, p1)]) (st' := []) rfl ?_
    exact Rn_ret0 rfl h
  have htd : (wr ((ab_nth ab_swm (-5 - p1).toNat).getD 0) < 1 ∨ 7 ≤ wr ((ab_nth ab_swm (-5 - p1).toNat).getD 0)) → ab_Rn m_Pa_readLine 23 [some (2, 2), some (2, p1)] [] (K, S, g, r) (ab_Qv K S P) := by
    intro hc
    have h := h.2.2.2.2.2.2 hc
    refine Rn_pure 2 (i' := 25) (L' := [some (2, 2), some (2, p1)]) (st' := [(2, p1), (2, 2)]) rfl ?_
    refine Rn_wkind rfl ⟨hp1.2, hp1.1⟩ ?_
    refine Rn_callV [(2, 2), (0, ((ab_nth ab_wt (-5 - p1).toNat).getD (0, 0, 0)).2.1)] [] rfl rfl rfl rfl (ab_rvB_of rfl (⟨rfl, (by omega : (0 : Int) ≤ 2), (by omega : (2 : Int) + 1 < K ∧ 5 < K)⟩)) ?_
    refine h.mono (fun g25 r26 h => ?_)
    obtain ⟨hr28, h⟩ := h
    exact Rn_ret0 rfl h
  have hsp : wr ((ab_nth ab_swm (-5 - p1).toNat).getD 0) < 1 ∨ 7 ≤ wr ((ab_nth ab_swm (-5 - p1).toNat).getD 0) ∨ wr ((ab_nth ab_swm (-5 - p1).toNat).getD 0) = 1 ∨ wr ((ab_nth ab_swm (-5 - p1).toNat).getD 0) = 2 ∨ wr ((ab_nth ab_swm (-5 - p1).toNat).getD 0) = 3 ∨ wr ((ab_nth ab_swm (-5 - p1).toNat).getD 0) = 4 ∨ wr ((ab_nth ab_swm (-5 - p1).toNat).getD 0) = 5 ∨ wr ((ab_nth ab_swm (-5 - p1).toNat).getD 0) = 6 := by omega
  rcases hsp with hc | hc | hc | hc | hc | hc | hc | hc
  · rw [ab_ts_out (hT := (rfl : ab_nth ab_tsL 10 = some (1, 23, [5, 8, 11, 14, 17, 20]))) rfl (Or.inl hc)]; exact htd (by simp only [hc, true_or, or_true])
  · rw [ab_ts_out (hT := (rfl : ab_nth ab_tsL 10 = some (1, 23, [5, 8, 11, 14, 17, 20]))) rfl (Or.inr hc)]; exact htd (by simp only [hc, true_or, or_true])
  · rw [ab_ts_in (j := 0) (hT := (rfl : ab_nth ab_tsL 10 = some (1, 23, [5, 8, 11, 14, 17, 20]))) (by rw [hc]; rfl) rfl]; exact ht5 (by simp only [hc, true_or, or_true])
  · rw [ab_ts_in (j := 1) (hT := (rfl : ab_nth ab_tsL 10 = some (1, 23, [5, 8, 11, 14, 17, 20]))) (by rw [hc]; rfl) rfl]; exact ht8 (by simp only [hc, true_or, or_true])
  · rw [ab_ts_in (j := 2) (hT := (rfl : ab_nth ab_tsL 10 = some (1, 23, [5, 8, 11, 14, 17, 20]))) (by rw [hc]; rfl) rfl]; exact ht11 (by simp only [hc, true_or, or_true])
  · rw [ab_ts_in (j := 3) (hT := (rfl : ab_nth ab_tsL 10 = some (1, 23, [5, 8, 11, 14, 17, 20]))) (by rw [hc]; rfl) rfl]; exact ht14 (by simp only [hc, true_or, or_true])
  · rw [ab_ts_in (j := 4) (hT := (rfl : ab_nth ab_tsL 10 = some (1, 23, [5, 8, 11, 14, 17, 20]))) (by rw [hc]; rfl) rfl]; exact ht17 (by simp only [hc, true_or, or_true])
  · rw [ab_ts_in (j := 5) (hT := (rfl : ab_nth ab_tsL 10 = some (1, 23, [5, 8, 11, 14, 17, 20]))) (by rw [hc]; rfl) rfl]; exact ht20 (by simp only [hc, true_or, or_true])
-- EventLedger$Parser.readAccount ()V
theorem v_Pa_readAccount {K : Int} {S : Nat} {g r : ab_H} (P : ab_H → ab_H → Prop) (hr : SI r) (hK : 186 ≤ K) (h : (isTe (r 2 2)) ∧ ab_RV m_Pa_needRoom [(2, 2), (0, g (r 2 2) 1), (0, 8)] K S g r (fun g2 r' => r' = r ∧ (ab_RV m_To_advance [(2, 4)] K S g2 r (fun g4 r5 => SI r5 ∧ (ab_RI m_Pa_takeName [(2, 2)] K S g4 r5 (fun x10 g8 r9 => SI r9 ∧ ((isTe (r9 2 2)) ∧ ab_RI m_Te_accountNamed [(2, r9 2 2), (0, x10)] K S g8 r9 (fun x13 g' r' => g' = g8 ∧ r' = r9 ∧ (((wr x13 = wr (-1) → ab_RV m_Pa_takeStop [(2, 2)] K S g8 r9 (fun g14 r15 => SI r15 ∧ (((¬ wr (g14 2 6) = wr 0 → P g14 r15) ∧ (wr (g14 2 6) = wr 0 → (isTe (r15 2 2)) ∧ ab_RV m_Te_addAccount [(2, r15 2 2), (0, x10)] K S g14 r15 (fun g19 r' => r' = r15 ∧ (P g19 r15))))))) ∧ (¬ wr x13 = wr (-1) → ab_RV m_Pa_fail [(2, 2), (0, 3), (0, g4 4 4)] K S g8 r9 (fun g21 r' => r' = r9 ∧ (ab_RV m_Pa_takeStop [(2, 2)] K S g21 r9 (fun g23 r24 => SI r24 ∧ (((¬ wr (g23 2 6) = wr 0 → P g23 r24) ∧ (wr (g23 2 6) = wr 0 → (isTe (r24 2 2)) ∧ ab_RV m_Te_addAccount [(2, r24 2 2), (0, x10)] K S g23 r24 (fun g28 r' => r' = r24 ∧ (P g28 r24))))))))))))))))))) : ab_RV m_Pa_readAccount [(2, 2)] K S g r P := by
  show ab_Rn m_Pa_readAccount 0 [some (2, 2), none, none] [] (K, S, g, r) (ab_Qv K S P)
  refine Rn_pure 2 (i' := 2) (L' := [some (2, 2), none, none]) (st' := [(2, 2), (2, 2)]) rfl ?_
  obtain ⟨hf1, h⟩ := h
  refine Rn_getR rfl (⟨rfl, (by omega : (0 : Int) ≤ 2), (by omega : (2 : Int) + 1 < K ∧ 5 < K)⟩) rfl (nn_Te hf1) ?_
  refine Rn_getI rfl (ob_Te hf1 hK) ?_
  refine Rn_pure 1 (i' := 5) (L' := [some (2, 2), none, none]) (st' := [(0, 8), (0, g (r 2 2) 1), (2, 2)]) rfl ?_
  refine Rn_callV [(2, 2), (0, g (r 2 2) 1), (0, 8)] [] rfl rfl rfl rfl (ab_rvB_of rfl (⟨rfl, (by omega : (0 : Int) ≤ 2), (by omega : (2 : Int) + 1 < K ∧ 5 < K)⟩)) ?_
  refine h.mono (fun g2 r' h => ?_)
  obtain ⟨hx, h⟩ := h
  replace hx := hx.symm
  subst hx
  refine Rn_pure 1 (i' := 7) (L' := [some (2, 2), none, none]) (st' := [(2, 2)]) rfl ?_
  refine Rn_getR rfl (⟨rfl, (by omega : (0 : Int) ≤ 2), (by omega : (2 : Int) + 1 < K ∧ 5 < K)⟩) (hr 13 _ rfl) (by decide) ?_
  refine Rn_callV [(2, 4)] [] rfl rfl rfl rfl (ab_rvB_of rfl (⟨rfl, (by omega : (0 : Int) ≤ 4), (by omega : (4 : Int) + 1 < K ∧ 5 < K)⟩)) ?_
  refine h.mono (fun g4 r5 h => ?_)
  obtain ⟨hr7, h⟩ := h
  refine Rn_pure 1 (i' := 10) (L' := [some (2, 2), none, none]) (st' := [(2, 2)]) rfl ?_
  refine Rn_getR rfl (⟨rfl, (by omega : (0 : Int) ≤ 2), (by omega : (2 : Int) + 1 < K ∧ 5 < K)⟩) (hr7 13 _ rfl) (by decide) ?_
  refine Rn_getI rfl (⟨rfl, (by omega : (0 : Int) ≤ 4), (by omega : (4 : Int) + 1 < K ∧ 5 < K)⟩) ?_
  refine Rn_pure 2 (i' := 14) (L' := [some (2, 2), some (0, g4 4 4), none]) (st' := [(2, 2)]) rfl ?_
  refine Rn_callI [(2, 2)] [] rfl rfl rfl rfl (ab_rvB_of rfl (⟨rfl, (by omega : (0 : Int) ≤ 2), (by omega : (2 : Int) + 1 < K ∧ 5 < K)⟩)) ?_
  refine h.mono (fun x10 g8 r9 h => ?_)
  obtain ⟨hr11, h⟩ := h
  refine Rn_pure 2 (i' := 17) (L' := [some (2, 2), some (0, g4 4 4), some (0, x10)]) (st' := [(2, 2)]) rfl ?_
  obtain ⟨hf12, h⟩ := h
  refine Rn_getR rfl (⟨rfl, (by omega : (0 : Int) ≤ 2), (by omega : (2 : Int) + 1 < K ∧ 5 < K)⟩) rfl (nn_Te hf12) ?_
  refine Rn_pure 1 (i' := 19) (L' := [some (2, 2), some (0, g4 4 4), some (0, x10)]) (st' := [(0, x10), (2, r9 2 2)]) rfl ?_
  refine Rn_callI [(2, r9 2 2), (0, x10)] [] rfl rfl rfl rfl (ab_rvB_of rfl (ob_Te hf12 hK)) ?_
  refine h.mono (fun x13 g' r' h => ?_)
  obtain ⟨hx, h⟩ := h
  replace hx := hx.symm
  subst hx
  obtain ⟨hx, h⟩ := h
  replace hx := hx.symm
  subst hx
  refine Rn_pure 1 (i' := 21) (L' := [some (2, 2), some (0, g4 4 4), some (0, x10)]) (st' := [(0, (-1)), (0, x13)]) rfl ?_
  refine Rn_iceq rfl (fun hc => ?_) (fun hc => ?_)
  · have h := h.1 hc
    refine Rn_pure 1 (i' := 27) (L' := [some (2, 2), some (0, g4 4 4), some (0, x10)]) (st' := [(2, 2)]) rfl ?_
    refine Rn_callV [(2, 2)] [] rfl rfl rfl rfl (ab_rvB_of rfl (⟨rfl, (by omega : (0 : Int) ≤ 2), (by omega : (2 : Int) + 1 < K ∧ 5 < K)⟩)) ?_
    refine h.mono (fun g14 r15 h => ?_)
    obtain ⟨hr17, h⟩ := h
    refine Rn_pure 1 (i' := 29) (L' := [some (2, 2), some (0, g4 4 4), some (0, x10)]) (st' := [(2, 2)]) rfl ?_
    refine Rn_getI rfl (⟨rfl, (by omega : (0 : Int) ≤ 2), (by omega : (2 : Int) + 1 < K ∧ 5 < K)⟩) ?_
    refine Rn_ifne rfl (fun hc => ?_) (fun hc => ?_)
    · have h := h.1 hc
      exact Rn_ret0 rfl h
    · have h := h.2 hc
      refine Rn_pure 1 (i' := 32) (L' := [some (2, 2), some (0, g4 4 4), some (0, x10)]) (st' := [(2, 2)]) rfl ?_
      obtain ⟨hf18, h⟩ := h
      refine Rn_getR rfl (⟨rfl, (by omega : (0 : Int) ≤ 2), (by omega : (2 : Int) + 1 < K ∧ 5 < K)⟩) rfl (nn_Te hf18) ?_
      refine Rn_pure 1 (i' := 34) (L' := [some (2, 2), some (0, g4 4 4), some (0, x10)]) (st' := [(0, x10), (2, r15 2 2)]) rfl ?_
      refine Rn_callV [(2, r15 2 2), (0, x10)] [] rfl rfl rfl rfl (ab_rvB_of rfl (ob_Te hf18 hK)) ?_
      refine h.mono (fun g19 r' h => ?_)
      obtain ⟨hx, h⟩ := h
      replace hx := hx.symm
      subst hx
      exact Rn_ret0 rfl h
  · have h := h.2 hc
    refine Rn_pure 3 (i' := 25) (L' := [some (2, 2), some (0, g4 4 4), some (0, x10)]) (st' := [(0, g4 4 4), (0, 3), (2, 2)]) rfl ?_
    refine Rn_callV [(2, 2), (0, 3), (0, g4 4 4)] [] rfl rfl rfl rfl (ab_rvB_of rfl (⟨rfl, (by omega : (0 : Int) ≤ 2), (by omega : (2 : Int) + 1 < K ∧ 5 < K)⟩)) ?_
    refine h.mono (fun g21 r' h => ?_)
    obtain ⟨hx, h⟩ := h
    replace hx := hx.symm
    subst hx
    refine Rn_pure 1 (i' := 27) (L' := [some (2, 2), some (0, g4 4 4), some (0, x10)]) (st' := [(2, 2)]) rfl ?_
    refine Rn_callV [(2, 2)] [] rfl rfl rfl rfl (ab_rvB_of rfl (⟨rfl, (by omega : (0 : Int) ≤ 2), (by omega : (2 : Int) + 1 < K ∧ 5 < K)⟩)) ?_
    refine h.mono (fun g23 r24 h => ?_)
    obtain ⟨hr26, h⟩ := h
    refine Rn_pure 1 (i' := 29) (L' := [some (2, 2), some (0, g4 4 4), some (0, x10)]) (st' := [(2, 2)]) rfl ?_
    refine Rn_getI rfl (⟨rfl, (by omega : (0 : Int) ≤ 2), (by omega : (2 : Int) + 1 < K ∧ 5 < K)⟩) ?_
    refine Rn_ifne rfl (fun hc => ?_) (fun hc => ?_)
    · have h := h.1 hc
      exact Rn_ret0 rfl h
    · have h := h.2 hc
      refine Rn_pure 1 (i' := 32) (L' := [some (2, 2), some (0, g4 4 4), some (0, x10)]) (st' := [(2, 2)]) rfl ?_
      obtain ⟨hf27, h⟩ := h
      refine Rn_getR rfl (⟨rfl, (by omega : (0 : Int) ≤ 2), (by omega : (2 : Int) + 1 < K ∧ 5 < K)⟩) rfl (nn_Te hf27) ?_
      refine Rn_pure 1 (i' := 34) (L' := [some (2, 2), some (0, g4 4 4), some (0, x10)]) (st' := [(0, x10), (2, r24 2 2)]) rfl ?_
      refine Rn_callV [(2, r24 2 2), (0, x10)] [] rfl rfl rfl rfl (ab_rvB_of rfl (ob_Te hf27 hK)) ?_
      refine h.mono (fun g28 r' h => ?_)
      obtain ⟨hx, h⟩ := h
      replace hx := hx.symm
      subst hx
      exact Rn_ret0 rfl h
-- EventLedger$Parser.readLift ()V
theorem v_Pa_readLift {K : Int} {S : Nat} {g r : ab_H} (P : ab_H → ab_H → Prop) (hr : SI r) (hK : 186 ≤ K) (h : ab_RV m_To_advance [(2, 4)] K S g r (fun g1 r2 => SI r2 ∧ ((isWd (r2 4 5)) ∧ ab_RI m_Pa_takeNamed [(2, 2), (0, ((ab_nth ab_wt (-5 - (r2 4 5)).toNat).getD (0, 0, 0)).2.1)] K S g1 r2 (fun x8 g6 r7 => SI r7 ∧ (ab_RI m_Pa_takeNumber [(2, 2), (0, 1), (0, 2)] K S g6 r7 (fun x12 g10 r11 => SI r11 ∧ ((isTe (r11 2 2)) ∧ ab_RI m_Te_countSteps [(2, r11 2 2), (0, x8), (0, x12)] K S g10 r11 (fun x15 g' r' => g' = g10 ∧ r' = r11 ∧ (((wr x15 < wr 4 → (isWd (r11 4 5)) ∧ ab_RI m_Pa_takeNamed [(2, 2), (0, ((ab_nth ab_wt (-5 - (r11 4 5)).toNat).getD (0, 0, 0)).2.2)] K S g10 r11 (fun x19 g17 r18 => SI r18 ∧ (ab_RI m_Pa_takeNumber [(2, 2), (0, 1), (0, 3)] K S g17 r18 (fun x23 g21 r22 => SI r22 ∧ (((¬ wr x19 = wr 3 → ab_RI m_Pa_takeNumber [(2, 2), (0, 0), (0, 999)] K S g21 r22 (fun x27 g25 r26 => SI r26 ∧ (ab_RV m_Pa_takeStop [(2, 2)] K S g25 r26 (fun g29 r30 => SI r30 ∧ (((¬ wr (g29 2 6) = wr 0 → P g29 r30) ∧ (wr (g29 2 6) = wr 0 → (isTe (r30 2 2)) ∧ ab_RV m_Te_addStep [(2, r30 2 2), (0, x8), (0, x12), (0, x19), (0, x23), (0, x27)] K S g29 r30 (fun g34 r' => r' = r30 ∧ (P g34 r30))))))))) ∧ (wr x19 = wr 3 → ab_RI m_Pa_takeNumber [(2, 2), (0, 1), (0, 3)] K S g21 r22 (fun x38 g36 r37 => SI r37 ∧ (ab_RV m_Pa_takeStop [(2, 2)] K S g36 r37 (fun g40 r41 => SI r41 ∧ (((¬ wr (g40 2 6) = wr 0 → P g40 r41) ∧ (wr (g40 2 6) = wr 0 → (isTe (r41 2 2)) ∧ ab_RV m_Te_addStep [(2, r41 2 2), (0, x8), (0, x12), (0, x19), (0, x23), (0, x38)] K S g40 r41 (fun g45 r' => r' = r41 ∧ (P g45 r41))))))))))))))) ∧ (wr 4 ≤ wr x15 → ab_RV m_Pa_fail [(2, 2), (0, 2), (0, g6 4 4)] K S g10 r11 (fun g47 r' => r' = r11 ∧ ((isWd (r11 4 5)) ∧ ab_RI m_Pa_takeNamed [(2, 2), (0, ((ab_nth ab_wt (-5 - (r11 4 5)).toNat).getD (0, 0, 0)).2.2)] K S g47 r11 (fun x52 g50 r51 => SI r51 ∧ (ab_RI m_Pa_takeNumber [(2, 2), (0, 1), (0, 3)] K S g50 r51 (fun x56 g54 r55 => SI r55 ∧ (((¬ wr x52 = wr 3 → ab_RI m_Pa_takeNumber [(2, 2), (0, 0), (0, 999)] K S g54 r55 (fun x60 g58 r59 => SI r59 ∧ (ab_RV m_Pa_takeStop [(2, 2)] K S g58 r59 (fun g62 r63 => SI r63 ∧ (((¬ wr (g62 2 6) = wr 0 → P g62 r63) ∧ (wr (g62 2 6) = wr 0 → (isTe (r63 2 2)) ∧ ab_RV m_Te_addStep [(2, r63 2 2), (0, x8), (0, x12), (0, x52), (0, x56), (0, x60)] K S g62 r63 (fun g67 r' => r' = r63 ∧ (P g67 r63))))))))) ∧ (wr x52 = wr 3 → ab_RI m_Pa_takeNumber [(2, 2), (0, 1), (0, 3)] K S g54 r55 (fun x71 g69 r70 => SI r70 ∧ (ab_RV m_Pa_takeStop [(2, 2)] K S g69 r70 (fun g73 r74 => SI r74 ∧ (((¬ wr (g73 2 6) = wr 0 → P g73 r74) ∧ (wr (g73 2 6) = wr 0 → (isTe (r74 2 2)) ∧ ab_RV m_Te_addStep [(2, r74 2 2), (0, x8), (0, x12), (0, x52), (0, x56), (0, x71)] K S g73 r74 (fun g78 r' => r' = r74 ∧ (P g78 r74))))))))))))))))))))))))))) : ab_RV m_Pa_readLift [(2, 2)] K S g r P := by
  show ab_Rn m_Pa_readLift 0 [some (2, 2), none, none, none, none, none, none] [] (K, S, g, r) (ab_Qv K S P)
  refine Rn_pure 1 (i' := 1) (L' := [some (2, 2), none, none, none, none, none, none]) (st' := [(2, 2)]) rfl ?_
  refine Rn_getR rfl (⟨rfl, (by omega : (0 : Int) ≤ 2), (by omega : (2 : Int) + 1 < K ∧ 5 < K)⟩) (hr 13 _ rfl) (by decide) ?_
  refine Rn_callV [(2, 4)] [] rfl rfl rfl rfl (ab_rvB_of rfl (⟨rfl, (by omega : (0 : Int) ≤ 4), (by omega : (4 : Int) + 1 < K ∧ 5 < K)⟩)) ?_
  refine h.mono (fun g1 r2 h => ?_)
  obtain ⟨hr4, h⟩ := h
  refine Rn_pure 2 (i' := 5) (L' := [some (2, 2), none, none, none, none, none, none]) (st' := [(2, 2), (2, 2)]) rfl ?_
  refine Rn_getR rfl (⟨rfl, (by omega : (0 : Int) ≤ 2), (by omega : (2 : Int) + 1 < K ∧ 5 < K)⟩) (hr4 13 _ rfl) (by decide) ?_
  obtain ⟨hf5, h⟩ := h
  refine Rn_getR rfl (⟨rfl, (by omega : (0 : Int) ≤ 4), (by omega : (4 : Int) + 1 < K ∧ 5 < K)⟩) rfl (nn_Wd hf5) ?_
  refine Rn_wkind rfl ⟨hf5.2, hf5.1⟩ ?_
  refine Rn_callI [(2, 2), (0, ((ab_nth ab_wt (-5 - (r2 4 5)).toNat).getD (0, 0, 0)).2.1)] [] rfl rfl rfl rfl (ab_rvB_of rfl (⟨rfl, (by omega : (0 : Int) ≤ 2), (by omega : (2 : Int) + 1 < K ∧ 5 < K)⟩)) ?_
  refine h.mono (fun x8 g6 r7 h => ?_)
  obtain ⟨hr9, h⟩ := h
  refine Rn_pure 2 (i' := 11) (L' := [some (2, 2), some (0, x8), none, none, none, none, none]) (st' := [(2, 2)]) rfl ?_
  refine Rn_getR rfl (⟨rfl, (by omega : (0 : Int) ≤ 2), (by omega : (2 : Int) + 1 < K ∧ 5 < K)⟩) (hr9 13 _ rfl) (by decide) ?_
  refine Rn_getI rfl (⟨rfl, (by omega : (0 : Int) ≤ 4), (by omega : (4 : Int) + 1 < K ∧ 5 < K)⟩) ?_
  refine Rn_pure 4 (i' := 17) (L' := [some (2, 2), some (0, x8), some (0, g6 4 4), none, none, none, none]) (st' := [(0, 2), (0, 1), (2, 2)]) rfl ?_
  refine Rn_callI [(2, 2), (0, 1), (0, 2)] [] rfl rfl rfl rfl (ab_rvB_of rfl (⟨rfl, (by omega : (0 : Int) ≤ 2), (by omega : (2 : Int) + 1 < K ∧ 5 < K)⟩)) ?_
  refine h.mono (fun x12 g10 r11 h => ?_)
  obtain ⟨hr13, h⟩ := h
  refine Rn_pure 2 (i' := 20) (L' := [some (2, 2), some (0, x8), some (0, g6 4 4), some (0, x12), none, none, none]) (st' := [(2, 2)]) rfl ?_
  obtain ⟨hf14, h⟩ := h
  refine Rn_getR rfl (⟨rfl, (by omega : (0 : Int) ≤ 2), (by omega : (2 : Int) + 1 < K ∧ 5 < K)⟩) rfl (nn_Te hf14) ?_
  refine Rn_pure 2 (i' := 23) (L' := [some (2, 2), some (0, x8), some (0, g6 4 4), some (0, x12), none, none, none]) (st' := [(0, x12), (0, x8), (2, r11 2 2)]) rfl ?_
  refine Rn_callI [(2, r11 2 2), (0, x8), (0, x12)] [] rfl rfl rfl rfl (ab_rvB_of rfl (ob_Te hf14 hK)) ?_
  refine h.mono (fun x15 g' r' h => ?_)
  obtain ⟨hx, h⟩ := h
  replace hx := hx.symm
  subst hx
  obtain ⟨hx, h⟩ := h
  replace hx := hx.symm
  subst hx
  refine Rn_pure 1 (i' := 25) (L' := [some (2, 2), some (0, x8), some (0, g6 4 4), some (0, x12), none, none, none]) (st' := [(0, 4), (0, x15)]) rfl ?_
  refine Rn_iclt rfl (fun hc => ?_) (fun hc => ?_)
  · have h := h.1 hc
    refine Rn_pure 2 (i' := 32) (L' := [some (2, 2), some (0, x8), some (0, g6 4 4), some (0, x12), none, none, none]) (st' := [(2, 2), (2, 2)]) rfl ?_
    refine Rn_getR rfl (⟨rfl, (by omega : (0 : Int) ≤ 2), (by omega : (2 : Int) + 1 < K ∧ 5 < K)⟩) (hr13 13 _ rfl) (by decide) ?_
    obtain ⟨hf16, h⟩ := h
    refine Rn_getR rfl (⟨rfl, (by omega : (0 : Int) ≤ 4), (by omega : (4 : Int) + 1 < K ∧ 5 < K)⟩) rfl (nn_Wd hf16) ?_
    refine Rn_wop rfl ⟨hf16.2, hf16.1⟩ ?_
    refine Rn_callI [(2, 2), (0, ((ab_nth ab_wt (-5 - (r11 4 5)).toNat).getD (0, 0, 0)).2.2)] [] rfl rfl rfl rfl (ab_rvB_of rfl (⟨rfl, (by omega : (0 : Int) ≤ 2), (by omega : (2 : Int) + 1 < K ∧ 5 < K)⟩)) ?_
    refine h.mono (fun x19 g17 r18 h => ?_)
    obtain ⟨hr20, h⟩ := h
    refine Rn_pure 4 (i' := 40) (L' := [some (2, 2), some (0, x8), some (0, g6 4 4), some (0, x12), some (0, x19), none, none]) (st' := [(0, 3), (0, 1), (2, 2)]) rfl ?_
    refine Rn_callI [(2, 2), (0, 1), (0, 3)] [] rfl rfl rfl rfl (ab_rvB_of rfl (⟨rfl, (by omega : (0 : Int) ≤ 2), (by omega : (2 : Int) + 1 < K ∧ 5 < K)⟩)) ?_
    refine h.mono (fun x23 g21 r22 h => ?_)
    obtain ⟨hr24, h⟩ := h
    refine Rn_pure 3 (i' := 44) (L' := [some (2, 2), some (0, x8), some (0, g6 4 4), some (0, x12), some (0, x19), some (0, x23), none]) (st' := [(0, 3), (0, x19)]) rfl ?_
    refine Rn_icne rfl (fun hc => ?_) (fun hc => ?_)
    · have h := h.1 hc
      refine Rn_pure 3 (i' := 53) (L' := [some (2, 2), some (0, x8), some (0, g6 4 4), some (0, x12), some (0, x19), some (0, x23), none]) (st' := [(0, 999), (0, 0), (2, 2)]) rfl ?_
      refine Rn_callI [(2, 2), (0, 0), (0, 999)] [] rfl rfl rfl rfl (ab_rvB_of rfl (⟨rfl, (by omega : (0 : Int) ≤ 2), (by omega : (2 : Int) + 1 < K ∧ 5 < K)⟩)) ?_
      refine h.mono (fun x27 g25 r26 h => ?_)
      obtain ⟨hr28, h⟩ := h
      refine Rn_pure 2 (i' := 56) (L' := [some (2, 2), some (0, x8), some (0, g6 4 4), some (0, x12), some (0, x19), some (0, x23), some (0, x27)]) (st' := [(2, 2)]) rfl ?_
      refine Rn_callV [(2, 2)] [] rfl rfl rfl rfl (ab_rvB_of rfl (⟨rfl, (by omega : (0 : Int) ≤ 2), (by omega : (2 : Int) + 1 < K ∧ 5 < K)⟩)) ?_
      refine h.mono (fun g29 r30 h => ?_)
      obtain ⟨hr32, h⟩ := h
      refine Rn_pure 1 (i' := 58) (L' := [some (2, 2), some (0, x8), some (0, g6 4 4), some (0, x12), some (0, x19), some (0, x23), some (0, x27)]) (st' := [(2, 2)]) rfl ?_
      refine Rn_getI rfl (⟨rfl, (by omega : (0 : Int) ≤ 2), (by omega : (2 : Int) + 1 < K ∧ 5 < K)⟩) ?_
      refine Rn_ifne rfl (fun hc => ?_) (fun hc => ?_)
      · have h := h.1 hc
        exact Rn_ret0 rfl h
      · have h := h.2 hc
        refine Rn_pure 1 (i' := 61) (L' := [some (2, 2), some (0, x8), some (0, g6 4 4), some (0, x12), some (0, x19), some (0, x23), some (0, x27)]) (st' := [(2, 2)]) rfl ?_
        obtain ⟨hf33, h⟩ := h
        refine Rn_getR rfl (⟨rfl, (by omega : (0 : Int) ≤ 2), (by omega : (2 : Int) + 1 < K ∧ 5 < K)⟩) rfl (nn_Te hf33) ?_
        refine Rn_pure 5 (i' := 67) (L' := [some (2, 2), some (0, x8), some (0, g6 4 4), some (0, x12), some (0, x19), some (0, x23), some (0, x27)]) (st' := [(0, x27), (0, x23), (0, x19), (0, x12), (0, x8), (2, r30 2 2)]) rfl ?_
        refine Rn_callV [(2, r30 2 2), (0, x8), (0, x12), (0, x19), (0, x23), (0, x27)] [] rfl rfl rfl rfl (ab_rvB_of rfl (ob_Te hf33 hK)) ?_
        refine h.mono (fun g34 r' h => ?_)
        obtain ⟨hx, h⟩ := h
        replace hx := hx.symm
        subst hx
        exact Rn_ret0 rfl h
    · have h := h.2 hc
      refine Rn_pure 3 (i' := 48) (L' := [some (2, 2), some (0, x8), some (0, g6 4 4), some (0, x12), some (0, x19), some (0, x23), none]) (st' := [(0, 3), (0, 1), (2, 2)]) rfl ?_
      refine Rn_callI [(2, 2), (0, 1), (0, 3)] [] rfl rfl rfl rfl (ab_rvB_of rfl (⟨rfl, (by omega : (0 : Int) ≤ 2), (by omega : (2 : Int) + 1 < K ∧ 5 < K)⟩)) ?_
      refine h.mono (fun x38 g36 r37 h => ?_)
      obtain ⟨hr39, h⟩ := h
      refine Rn_pure 3 (i' := 56) (L' := [some (2, 2), some (0, x8), some (0, g6 4 4), some (0, x12), some (0, x19), some (0, x23), some (0, x38)]) (st' := [(2, 2)]) rfl ?_
      refine Rn_callV [(2, 2)] [] rfl rfl rfl rfl (ab_rvB_of rfl (⟨rfl, (by omega : (0 : Int) ≤ 2), (by omega : (2 : Int) + 1 < K ∧ 5 < K)⟩)) ?_
      refine h.mono (fun g40 r41 h => ?_)
      obtain ⟨hr43, h⟩ := h
      refine Rn_pure 1 (i' := 58) (L' := [some (2, 2), some (0, x8), some (0, g6 4 4), some (0, x12), some (0, x19), some (0, x23), some (0, x38)]) (st' := [(2, 2)]) rfl ?_
      refine Rn_getI rfl (⟨rfl, (by omega : (0 : Int) ≤ 2), (by omega : (2 : Int) + 1 < K ∧ 5 < K)⟩) ?_
      refine Rn_ifne rfl (fun hc => ?_) (fun hc => ?_)
      · have h := h.1 hc
        exact Rn_ret0 rfl h
      · have h := h.2 hc
        refine Rn_pure 1 (i' := 61) (L' := [some (2, 2), some (0, x8), some (0, g6 4 4), some (0, x12), some (0, x19), some (0, x23), some (0, x38)]) (st' := [(2, 2)]) rfl ?_
        obtain ⟨hf44, h⟩ := h
        refine Rn_getR rfl (⟨rfl, (by omega : (0 : Int) ≤ 2), (by omega : (2 : Int) + 1 < K ∧ 5 < K)⟩) rfl (nn_Te hf44) ?_
        refine Rn_pure 5 (i' := 67) (L' := [some (2, 2), some (0, x8), some (0, g6 4 4), some (0, x12), some (0, x19), some (0, x23), some (0, x38)]) (st' := [(0, x38), (0, x23), (0, x19), (0, x12), (0, x8), (2, r41 2 2)]) rfl ?_
        refine Rn_callV [(2, r41 2 2), (0, x8), (0, x12), (0, x19), (0, x23), (0, x38)] [] rfl rfl rfl rfl (ab_rvB_of rfl (ob_Te hf44 hK)) ?_
        refine h.mono (fun g45 r' h => ?_)
        obtain ⟨hx, h⟩ := h
        replace hx := hx.symm
        subst hx
        exact Rn_ret0 rfl h
  · have h := h.2 hc
    refine Rn_pure 3 (i' := 29) (L' := [some (2, 2), some (0, x8), some (0, g6 4 4), some (0, x12), none, none, none]) (st' := [(0, g6 4 4), (0, 2), (2, 2)]) rfl ?_
    refine Rn_callV [(2, 2), (0, 2), (0, g6 4 4)] [] rfl rfl rfl rfl (ab_rvB_of rfl (⟨rfl, (by omega : (0 : Int) ≤ 2), (by omega : (2 : Int) + 1 < K ∧ 5 < K)⟩)) ?_
    refine h.mono (fun g47 r' h => ?_)
    obtain ⟨hx, h⟩ := h
    replace hx := hx.symm
    subst hx
    refine Rn_pure 2 (i' := 32) (L' := [some (2, 2), some (0, x8), some (0, g6 4 4), some (0, x12), none, none, none]) (st' := [(2, 2), (2, 2)]) rfl ?_
    refine Rn_getR rfl (⟨rfl, (by omega : (0 : Int) ≤ 2), (by omega : (2 : Int) + 1 < K ∧ 5 < K)⟩) (hr13 13 _ rfl) (by decide) ?_
    obtain ⟨hf49, h⟩ := h
    refine Rn_getR rfl (⟨rfl, (by omega : (0 : Int) ≤ 4), (by omega : (4 : Int) + 1 < K ∧ 5 < K)⟩) rfl (nn_Wd hf49) ?_
    refine Rn_wop rfl ⟨hf49.2, hf49.1⟩ ?_
    refine Rn_callI [(2, 2), (0, ((ab_nth ab_wt (-5 - (r11 4 5)).toNat).getD (0, 0, 0)).2.2)] [] rfl rfl rfl rfl (ab_rvB_of rfl (⟨rfl, (by omega : (0 : Int) ≤ 2), (by omega : (2 : Int) + 1 < K ∧ 5 < K)⟩)) ?_
    refine h.mono (fun x52 g50 r51 h => ?_)
    obtain ⟨hr53, h⟩ := h
    refine Rn_pure 4 (i' := 40) (L' := [some (2, 2), some (0, x8), some (0, g6 4 4), some (0, x12), some (0, x52), none, none]) (st' := [(0, 3), (0, 1), (2, 2)]) rfl ?_
    refine Rn_callI [(2, 2), (0, 1), (0, 3)] [] rfl rfl rfl rfl (ab_rvB_of rfl (⟨rfl, (by omega : (0 : Int) ≤ 2), (by omega : (2 : Int) + 1 < K ∧ 5 < K)⟩)) ?_
    refine h.mono (fun x56 g54 r55 h => ?_)
    obtain ⟨hr57, h⟩ := h
    refine Rn_pure 3 (i' := 44) (L' := [some (2, 2), some (0, x8), some (0, g6 4 4), some (0, x12), some (0, x52), some (0, x56), none]) (st' := [(0, 3), (0, x52)]) rfl ?_
    refine Rn_icne rfl (fun hc => ?_) (fun hc => ?_)
    · have h := h.1 hc
      refine Rn_pure 3 (i' := 53) (L' := [some (2, 2), some (0, x8), some (0, g6 4 4), some (0, x12), some (0, x52), some (0, x56), none]) (st' := [(0, 999), (0, 0), (2, 2)]) rfl ?_
      refine Rn_callI [(2, 2), (0, 0), (0, 999)] [] rfl rfl rfl rfl (ab_rvB_of rfl (⟨rfl, (by omega : (0 : Int) ≤ 2), (by omega : (2 : Int) + 1 < K ∧ 5 < K)⟩)) ?_
      refine h.mono (fun x60 g58 r59 h => ?_)
      obtain ⟨hr61, h⟩ := h
      refine Rn_pure 2 (i' := 56) (L' := [some (2, 2), some (0, x8), some (0, g6 4 4), some (0, x12), some (0, x52), some (0, x56), some (0, x60)]) (st' := [(2, 2)]) rfl ?_
      refine Rn_callV [(2, 2)] [] rfl rfl rfl rfl (ab_rvB_of rfl (⟨rfl, (by omega : (0 : Int) ≤ 2), (by omega : (2 : Int) + 1 < K ∧ 5 < K)⟩)) ?_
      refine h.mono (fun g62 r63 h => ?_)
      obtain ⟨hr65, h⟩ := h
      refine Rn_pure 1 (i' := 58) (L' := [some (2, 2), some (0, x8), some (0, g6 4 4), some (0, x12), some (0, x52), some (0, x56), some (0, x60)]) (st' := [(2, 2)]) rfl ?_
      refine Rn_getI rfl (⟨rfl, (by omega : (0 : Int) ≤ 2), (by omega : (2 : Int) + 1 < K ∧ 5 < K)⟩) ?_
      refine Rn_ifne rfl (fun hc => ?_) (fun hc => ?_)
      · have h := h.1 hc
        exact Rn_ret0 rfl h
      · have h := h.2 hc
        refine Rn_pure 1 (i' := 61) (L' := [some (2, 2), some (0, x8), some (0, g6 4 4), some (0, x12), some (0, x52), some (0, x56), some (0, x60)]) (st' := [(2, 2)]) rfl ?_
        obtain ⟨hf66, h⟩ := h
        refine Rn_getR rfl (⟨rfl, (by omega : (0 : Int) ≤ 2), (by omega : (2 : Int) + 1 < K ∧ 5 < K)⟩) rfl (nn_Te hf66) ?_
        refine Rn_pure 5 (i' := 67) (L' := [some (2, 2), some (0, x8), some (0, g6 4 4), some (0, x12), some (0, x52), some (0, x56), some (0, x60)]) (st' := [(0, x60), (0, x56), (0, x52), (0, x12), (0, x8), (2, r63 2 2)]) rfl ?_
        refine Rn_callV [(2, r63 2 2), (0, x8), (0, x12), (0, x52), (0, x56), (0, x60)] [] rfl rfl rfl rfl (ab_rvB_of rfl (ob_Te hf66 hK)) ?_
        refine h.mono (fun g67 r' h => ?_)
        obtain ⟨hx, h⟩ := h
        replace hx := hx.symm
        subst hx
        exact Rn_ret0 rfl h
    · have h := h.2 hc
      refine Rn_pure 3 (i' := 48) (L' := [some (2, 2), some (0, x8), some (0, g6 4 4), some (0, x12), some (0, x52), some (0, x56), none]) (st' := [(0, 3), (0, 1), (2, 2)]) rfl ?_
      refine Rn_callI [(2, 2), (0, 1), (0, 3)] [] rfl rfl rfl rfl (ab_rvB_of rfl (⟨rfl, (by omega : (0 : Int) ≤ 2), (by omega : (2 : Int) + 1 < K ∧ 5 < K)⟩)) ?_
      refine h.mono (fun x71 g69 r70 h => ?_)
      obtain ⟨hr72, h⟩ := h
      refine Rn_pure 3 (i' := 56) (L' := [some (2, 2), some (0, x8), some (0, g6 4 4), some (0, x12), some (0, x52), some (0, x56), some (0, x71)]) (st' := [(2, 2)]) rfl ?_
      refine Rn_callV [(2, 2)] [] rfl rfl rfl rfl (ab_rvB_of rfl (⟨rfl, (by omega : (0 : Int) ≤ 2), (by omega : (2 : Int) + 1 < K ∧ 5 < K)⟩)) ?_
      refine h.mono (fun g73 r74 h => ?_)
      obtain ⟨hr76, h⟩ := h
      refine Rn_pure 1 (i' := 58) (L' := [some (2, 2), some (0, x8), some (0, g6 4 4), some (0, x12), some (0, x52), some (0, x56), some (0, x71)]) (st' := [(2, 2)]) rfl ?_
      refine Rn_getI rfl (⟨rfl, (by omega : (0 : Int) ≤ 2), (by omega : (2 : Int) + 1 < K ∧ 5 < K)⟩) ?_
      refine Rn_ifne rfl (fun hc => ?_) (fun hc => ?_)
      · have h := h.1 hc
        exact Rn_ret0 rfl h
      · have h := h.2 hc
        refine Rn_pure 1 (i' := 61) (L' := [some (2, 2), some (0, x8), some (0, g6 4 4), some (0, x12), some (0, x52), some (0, x56), some (0, x71)]) (st' := [(2, 2)]) rfl ?_
        obtain ⟨hf77, h⟩ := h
        refine Rn_getR rfl (⟨rfl, (by omega : (0 : Int) ≤ 2), (by omega : (2 : Int) + 1 < K ∧ 5 < K)⟩) rfl (nn_Te hf77) ?_
        refine Rn_pure 5 (i' := 67) (L' := [some (2, 2), some (0, x8), some (0, g6 4 4), some (0, x12), some (0, x52), some (0, x56), some (0, x71)]) (st' := [(0, x71), (0, x56), (0, x52), (0, x12), (0, x8), (2, r74 2 2)]) rfl ?_
        refine Rn_callV [(2, r74 2 2), (0, x8), (0, x12), (0, x52), (0, x56), (0, x71)] [] rfl rfl rfl rfl (ab_rvB_of rfl (ob_Te hf77 hK)) ?_
        refine h.mono (fun g78 r' h => ?_)
        obtain ⟨hx, h⟩ := h
        replace hx := hx.symm
        subst hx
        exact Rn_ret0 rfl h
-- EventLedger$Parser.readTally ()V
theorem v_Pa_readTally {K : Int} {S : Nat} {g r : ab_H} (P : ab_H → ab_H → Prop) (hr : SI r) (hK : 186 ≤ K) (h : (isTe (r 2 2)) ∧ ab_RV m_Pa_needRoom [(2, 2), (0, g (r 2 2) 5), (0, 4)] K S g r (fun g2 r' => r' = r ∧ (ab_RV m_To_advance [(2, 4)] K S g2 r (fun g4 r5 => SI r5 ∧ (ab_RI m_Pa_takeName [(2, 2)] K S g4 r5 (fun x10 g8 r9 => SI r9 ∧ ((isTe (r9 2 2)) ∧ ab_RI m_Te_tallyNamed [(2, r9 2 2), (0, x10)] K S g8 r9 (fun x13 g' r' => g' = g8 ∧ r' = r9 ∧ (((wr x13 = wr (-1) → (isWd (r9 4 5)) ∧ ab_RI m_Pa_takeNamed [(2, 2), (0, ((ab_nth ab_wt (-5 - (r9 4 5)).toNat).getD (0, 0, 0)).2.1)] K S g8 r9 (fun x17 g15 r16 => SI r16 ∧ (ab_RI m_Pa_takeNumber [(2, 2), (0, 1), (0, 3)] K S g15 r16 (fun x21 g19 r20 => SI r20 ∧ (ab_RV m_Pa_takeStop [(2, 2)] K S g19 r20 (fun g23 r24 => SI r24 ∧ (((¬ wr (g23 2 6) = wr 0 → P g23 r24) ∧ (wr (g23 2 6) = wr 0 → (isTe (r24 2 2)) ∧ ab_RV m_Te_addTally [(2, r24 2 2), (0, x10), (0, x17), (0, x21)] K S g23 r24 (fun g28 r' => r' = r24 ∧ (P g28 r24))))))))))) ∧ (¬ wr x13 = wr (-1) → ab_RV m_Pa_fail [(2, 2), (0, 3), (0, g4 4 4)] K S g8 r9 (fun g30 r' => r' = r9 ∧ ((isWd (r9 4 5)) ∧ ab_RI m_Pa_takeNamed [(2, 2), (0, ((ab_nth ab_wt (-5 - (r9 4 5)).toNat).getD (0, 0, 0)).2.1)] K S g30 r9 (fun x35 g33 r34 => SI r34 ∧ (ab_RI m_Pa_takeNumber [(2, 2), (0, 1), (0, 3)] K S g33 r34 (fun x39 g37 r38 => SI r38 ∧ (ab_RV m_Pa_takeStop [(2, 2)] K S g37 r38 (fun g41 r42 => SI r42 ∧ (((¬ wr (g41 2 6) = wr 0 → P g41 r42) ∧ (wr (g41 2 6) = wr 0 → (isTe (r42 2 2)) ∧ ab_RV m_Te_addTally [(2, r42 2 2), (0, x10), (0, x35), (0, x39)] K S g41 r42 (fun g46 r' => r' = r42 ∧ (P g46 r42))))))))))))))))))))))) : ab_RV m_Pa_readTally [(2, 2)] K S g r P := by
  show ab_Rn m_Pa_readTally 0 [some (2, 2), none, none, none, none] [] (K, S, g, r) (ab_Qv K S P)
  refine Rn_pure 2 (i' := 2) (L' := [some (2, 2), none, none, none, none]) (st' := [(2, 2), (2, 2)]) rfl ?_
  obtain ⟨hf1, h⟩ := h
  refine Rn_getR rfl (⟨rfl, (by omega : (0 : Int) ≤ 2), (by omega : (2 : Int) + 1 < K ∧ 5 < K)⟩) rfl (nn_Te hf1) ?_
  refine Rn_getI rfl (ob_Te hf1 hK) ?_
  refine Rn_pure 1 (i' := 5) (L' := [some (2, 2), none, none, none, none]) (st' := [(0, 4), (0, g (r 2 2) 5), (2, 2)]) rfl ?_
  refine Rn_callV [(2, 2), (0, g (r 2 2) 5), (0, 4)] [] rfl rfl rfl rfl (ab_rvB_of rfl (⟨rfl, (by omega : (0 : Int) ≤ 2), (by omega : (2 : Int) + 1 < K ∧ 5 < K)⟩)) ?_
  refine h.mono (fun g2 r' h => ?_)
  obtain ⟨hx, h⟩ := h
  replace hx := hx.symm
  subst hx
  refine Rn_pure 1 (i' := 7) (L' := [some (2, 2), none, none, none, none]) (st' := [(2, 2)]) rfl ?_
  refine Rn_getR rfl (⟨rfl, (by omega : (0 : Int) ≤ 2), (by omega : (2 : Int) + 1 < K ∧ 5 < K)⟩) (hr 13 _ rfl) (by decide) ?_
  refine Rn_callV [(2, 4)] [] rfl rfl rfl rfl (ab_rvB_of rfl (⟨rfl, (by omega : (0 : Int) ≤ 4), (by omega : (4 : Int) + 1 < K ∧ 5 < K)⟩)) ?_
  refine h.mono (fun g4 r5 h => ?_)
  obtain ⟨hr7, h⟩ := h
  refine Rn_pure 1 (i' := 10) (L' := [some (2, 2), none, none, none, none]) (st' := [(2, 2)]) rfl ?_
  refine Rn_getR rfl (⟨rfl, (by omega : (0 : Int) ≤ 2), (by omega : (2 : Int) + 1 < K ∧ 5 < K)⟩) (hr7 13 _ rfl) (by decide) ?_
  refine Rn_getI rfl (⟨rfl, (by omega : (0 : Int) ≤ 4), (by omega : (4 : Int) + 1 < K ∧ 5 < K)⟩) ?_
  refine Rn_pure 2 (i' := 14) (L' := [some (2, 2), some (0, g4 4 4), none, none, none]) (st' := [(2, 2)]) rfl ?_
  refine Rn_callI [(2, 2)] [] rfl rfl rfl rfl (ab_rvB_of rfl (⟨rfl, (by omega : (0 : Int) ≤ 2), (by omega : (2 : Int) + 1 < K ∧ 5 < K)⟩)) ?_
  refine h.mono (fun x10 g8 r9 h => ?_)
  obtain ⟨hr11, h⟩ := h
  refine Rn_pure 2 (i' := 17) (L' := [some (2, 2), some (0, g4 4 4), some (0, x10), none, none]) (st' := [(2, 2)]) rfl ?_
  obtain ⟨hf12, h⟩ := h
  refine Rn_getR rfl (⟨rfl, (by omega : (0 : Int) ≤ 2), (by omega : (2 : Int) + 1 < K ∧ 5 < K)⟩) rfl (nn_Te hf12) ?_
  refine Rn_pure 1 (i' := 19) (L' := [some (2, 2), some (0, g4 4 4), some (0, x10), none, none]) (st' := [(0, x10), (2, r9 2 2)]) rfl ?_
  refine Rn_callI [(2, r9 2 2), (0, x10)] [] rfl rfl rfl rfl (ab_rvB_of rfl (ob_Te hf12 hK)) ?_
  refine h.mono (fun x13 g' r' h => ?_)
  obtain ⟨hx, h⟩ := h
  replace hx := hx.symm
  subst hx
  obtain ⟨hx, h⟩ := h
  replace hx := hx.symm
  subst hx
  refine Rn_pure 1 (i' := 21) (L' := [some (2, 2), some (0, g4 4 4), some (0, x10), none, none]) (st' := [(0, (-1)), (0, x13)]) rfl ?_
  refine Rn_iceq rfl (fun hc => ?_) (fun hc => ?_)
  · have h := h.1 hc
    refine Rn_pure 2 (i' := 28) (L' := [some (2, 2), some (0, g4 4 4), some (0, x10), none, none]) (st' := [(2, 2), (2, 2)]) rfl ?_
    refine Rn_getR rfl (⟨rfl, (by omega : (0 : Int) ≤ 2), (by omega : (2 : Int) + 1 < K ∧ 5 < K)⟩) (hr11 13 _ rfl) (by decide) ?_
    obtain ⟨hf14, h⟩ := h
    refine Rn_getR rfl (⟨rfl, (by omega : (0 : Int) ≤ 4), (by omega : (4 : Int) + 1 < K ∧ 5 < K)⟩) rfl (nn_Wd hf14) ?_
    refine Rn_wkind rfl ⟨hf14.2, hf14.1⟩ ?_
    refine Rn_callI [(2, 2), (0, ((ab_nth ab_wt (-5 - (r9 4 5)).toNat).getD (0, 0, 0)).2.1)] [] rfl rfl rfl rfl (ab_rvB_of rfl (⟨rfl, (by omega : (0 : Int) ≤ 2), (by omega : (2 : Int) + 1 < K ∧ 5 < K)⟩)) ?_
    refine h.mono (fun x17 g15 r16 h => ?_)
    obtain ⟨hr18, h⟩ := h
    refine Rn_pure 4 (i' := 36) (L' := [some (2, 2), some (0, g4 4 4), some (0, x10), some (0, x17), none]) (st' := [(0, 3), (0, 1), (2, 2)]) rfl ?_
    refine Rn_callI [(2, 2), (0, 1), (0, 3)] [] rfl rfl rfl rfl (ab_rvB_of rfl (⟨rfl, (by omega : (0 : Int) ≤ 2), (by omega : (2 : Int) + 1 < K ∧ 5 < K)⟩)) ?_
    refine h.mono (fun x21 g19 r20 h => ?_)
    obtain ⟨hr22, h⟩ := h
    refine Rn_pure 2 (i' := 39) (L' := [some (2, 2), some (0, g4 4 4), some (0, x10), some (0, x17), some (0, x21)]) (st' := [(2, 2)]) rfl ?_
    refine Rn_callV [(2, 2)] [] rfl rfl rfl rfl (ab_rvB_of rfl (⟨rfl, (by omega : (0 : Int) ≤ 2), (by omega : (2 : Int) + 1 < K ∧ 5 < K)⟩)) ?_
    refine h.mono (fun g23 r24 h => ?_)
    obtain ⟨hr26, h⟩ := h
    refine Rn_pure 1 (i' := 41) (L' := [some (2, 2), some (0, g4 4 4), some (0, x10), some (0, x17), some (0, x21)]) (st' := [(2, 2)]) rfl ?_
    refine Rn_getI rfl (⟨rfl, (by omega : (0 : Int) ≤ 2), (by omega : (2 : Int) + 1 < K ∧ 5 < K)⟩) ?_
    refine Rn_ifne rfl (fun hc => ?_) (fun hc => ?_)
    · have h := h.1 hc
      exact Rn_ret0 rfl h
    · have h := h.2 hc
      refine Rn_pure 1 (i' := 44) (L' := [some (2, 2), some (0, g4 4 4), some (0, x10), some (0, x17), some (0, x21)]) (st' := [(2, 2)]) rfl ?_
      obtain ⟨hf27, h⟩ := h
      refine Rn_getR rfl (⟨rfl, (by omega : (0 : Int) ≤ 2), (by omega : (2 : Int) + 1 < K ∧ 5 < K)⟩) rfl (nn_Te hf27) ?_
      refine Rn_pure 3 (i' := 48) (L' := [some (2, 2), some (0, g4 4 4), some (0, x10), some (0, x17), some (0, x21)]) (st' := [(0, x21), (0, x17), (0, x10), (2, r24 2 2)]) rfl ?_
      refine Rn_callV [(2, r24 2 2), (0, x10), (0, x17), (0, x21)] [] rfl rfl rfl rfl (ab_rvB_of rfl (ob_Te hf27 hK)) ?_
      refine h.mono (fun g28 r' h => ?_)
      obtain ⟨hx, h⟩ := h
      replace hx := hx.symm
      subst hx
      exact Rn_ret0 rfl h
  · have h := h.2 hc
    refine Rn_pure 3 (i' := 25) (L' := [some (2, 2), some (0, g4 4 4), some (0, x10), none, none]) (st' := [(0, g4 4 4), (0, 3), (2, 2)]) rfl ?_
    refine Rn_callV [(2, 2), (0, 3), (0, g4 4 4)] [] rfl rfl rfl rfl (ab_rvB_of rfl (⟨rfl, (by omega : (0 : Int) ≤ 2), (by omega : (2 : Int) + 1 < K ∧ 5 < K)⟩)) ?_
    refine h.mono (fun g30 r' h => ?_)
    obtain ⟨hx, h⟩ := h
    replace hx := hx.symm
    subst hx
    refine Rn_pure 2 (i' := 28) (L' := [some (2, 2), some (0, g4 4 4), some (0, x10), none, none]) (st' := [(2, 2), (2, 2)]) rfl ?_
    refine Rn_getR rfl (⟨rfl, (by omega : (0 : Int) ≤ 2), (by omega : (2 : Int) + 1 < K ∧ 5 < K)⟩) (hr11 13 _ rfl) (by decide) ?_
    obtain ⟨hf32, h⟩ := h
    refine Rn_getR rfl (⟨rfl, (by omega : (0 : Int) ≤ 4), (by omega : (4 : Int) + 1 < K ∧ 5 < K)⟩) rfl (nn_Wd hf32) ?_
    refine Rn_wkind rfl ⟨hf32.2, hf32.1⟩ ?_
    refine Rn_callI [(2, 2), (0, ((ab_nth ab_wt (-5 - (r9 4 5)).toNat).getD (0, 0, 0)).2.1)] [] rfl rfl rfl rfl (ab_rvB_of rfl (⟨rfl, (by omega : (0 : Int) ≤ 2), (by omega : (2 : Int) + 1 < K ∧ 5 < K)⟩)) ?_
    refine h.mono (fun x35 g33 r34 h => ?_)
    obtain ⟨hr36, h⟩ := h
    refine Rn_pure 4 (i' := 36) (L' := [some (2, 2), some (0, g4 4 4), some (0, x10), some (0, x35), none]) (st' := [(0, 3), (0, 1), (2, 2)]) rfl ?_
    refine Rn_callI [(2, 2), (0, 1), (0, 3)] [] rfl rfl rfl rfl (ab_rvB_of rfl (⟨rfl, (by omega : (0 : Int) ≤ 2), (by omega : (2 : Int) + 1 < K ∧ 5 < K)⟩)) ?_
    refine h.mono (fun x39 g37 r38 h => ?_)
    obtain ⟨hr40, h⟩ := h
    refine Rn_pure 2 (i' := 39) (L' := [some (2, 2), some (0, g4 4 4), some (0, x10), some (0, x35), some (0, x39)]) (st' := [(2, 2)]) rfl ?_
    refine Rn_callV [(2, 2)] [] rfl rfl rfl rfl (ab_rvB_of rfl (⟨rfl, (by omega : (0 : Int) ≤ 2), (by omega : (2 : Int) + 1 < K ∧ 5 < K)⟩)) ?_
    refine h.mono (fun g41 r42 h => ?_)
    obtain ⟨hr44, h⟩ := h
    refine Rn_pure 1 (i' := 41) (L' := [some (2, 2), some (0, g4 4 4), some (0, x10), some (0, x35), some (0, x39)]) (st' := [(2, 2)]) rfl ?_
    refine Rn_getI rfl (⟨rfl, (by omega : (0 : Int) ≤ 2), (by omega : (2 : Int) + 1 < K ∧ 5 < K)⟩) ?_
    refine Rn_ifne rfl (fun hc => ?_) (fun hc => ?_)
    · have h := h.1 hc
      exact Rn_ret0 rfl h
    · have h := h.2 hc
      refine Rn_pure 1 (i' := 44) (L' := [some (2, 2), some (0, g4 4 4), some (0, x10), some (0, x35), some (0, x39)]) (st' := [(2, 2)]) rfl ?_
      obtain ⟨hf45, h⟩ := h
      refine Rn_getR rfl (⟨rfl, (by omega : (0 : Int) ≤ 2), (by omega : (2 : Int) + 1 < K ∧ 5 < K)⟩) rfl (nn_Te hf45) ?_
      refine Rn_pure 3 (i' := 48) (L' := [some (2, 2), some (0, g4 4 4), some (0, x10), some (0, x35), some (0, x39)]) (st' := [(0, x39), (0, x35), (0, x10), (2, r42 2 2)]) rfl ?_
      refine Rn_callV [(2, r42 2 2), (0, x10), (0, x35), (0, x39)] [] rfl rfl rfl rfl (ab_rvB_of rfl (ob_Te hf45 hK)) ?_
      refine h.mono (fun g46 r' h => ?_)
      obtain ⟨hx, h⟩ := h
      replace hx := hx.symm
      subst hx
      exact Rn_ret0 rfl h
-- EventLedger$Parser.readSnap ()V
theorem v_Pa_readSnap {K : Int} {S : Nat} {g r : ab_H} (P : ab_H → ab_H → Prop) (hr : SI r) (hK : 186 ≤ K) (h : ((wr (g 2 4) = wr 0 → ∀ g1, g1 = ab_up g 2 4 1 → ab_RV m_To_advance [(2, 4)] K S g1 r (fun g2 r3 => SI r3 ∧ ((isTe (r3 2 2)) ∧ ab_RI m_Pa_takeNumber [(2, 2), (0, 1), (0, 999)] K S g2 r3 (fun x9 g7 r8 => SI r8 ∧ (∀ g11, g11 = ab_up g7 (r3 2 2) 10 x9 → (isTe (r8 2 2)) ∧ ab_RI m_Pa_takeNumber [(2, 2), (0, 0), (0, 6)] K S g11 r8 (fun x15 g13 r14 => SI r14 ∧ (∀ g17, g17 = ab_up g13 (r8 2 2) 11 x15 → ab_RV m_Pa_takeStop [(2, 2)] K S g17 r14 (fun g18 r19 => SI r19 ∧ (P g18 r19))))))))) ∧ (¬ wr (g 2 4) = wr 0 → ab_RV m_Pa_fail [(2, 2), (0, 3), (0, g 4 4)] K S g r (fun g22 r' => r' = r ∧ (∀ g24, g24 = ab_up g22 2 4 1 → ab_RV m_To_advance [(2, 4)] K S g24 r (fun g25 r26 => SI r26 ∧ ((isTe (r26 2 2)) ∧ ab_RI m_Pa_takeNumber [(2, 2), (0, 1), (0, 999)] K S g25 r26 (fun x32 g30 r31 => SI r31 ∧ (∀ g34, g34 = ab_up g30 (r26 2 2) 10 x32 → (isTe (r31 2 2)) ∧ ab_RI m_Pa_takeNumber [(2, 2), (0, 0), (0, 6)] K S g34 r31 (fun x38 g36 r37 => SI r37 ∧ (∀ g40, g40 = ab_up g36 (r31 2 2) 11 x38 → ab_RV m_Pa_takeStop [(2, 2)] K S g40 r37 (fun g41 r42 => SI r42 ∧ (P g41 r42))))))))))))) : ab_RV m_Pa_readSnap [(2, 2)] K S g r P := by
  show ab_Rn m_Pa_readSnap 0 [some (2, 2)] [] (K, S, g, r) (ab_Qv K S P)
  refine Rn_pure 1 (i' := 1) (L' := [some (2, 2)]) (st' := [(2, 2)]) rfl ?_
  refine Rn_getI rfl (⟨rfl, (by omega : (0 : Int) ≤ 2), (by omega : (2 : Int) + 1 < K ∧ 5 < K)⟩) ?_
  refine Rn_ifeq rfl (fun hc => ?_) (fun hc => ?_)
  · have h := h.1 hc
    refine Rn_pure 2 (i' := 11) (L' := [some (2, 2)]) (st' := [(0, 1), (2, 2)]) rfl ?_
    refine Rn_putZ rfl (⟨rfl, (by omega : (0 : Int) ≤ 2), (by omega : (2 : Int) + 1 < K ∧ 5 < K)⟩) (by decide) (fun g1 he_g1 => ?_)
    have h := h g1 he_g1
    refine Rn_pure 1 (i' := 13) (L' := [some (2, 2)]) (st' := [(2, 2)]) rfl ?_
    refine Rn_getR rfl (⟨rfl, (by omega : (0 : Int) ≤ 2), (by omega : (2 : Int) + 1 < K ∧ 5 < K)⟩) (hr 13 _ rfl) (by decide) ?_
    refine Rn_callV [(2, 4)] [] rfl rfl rfl rfl (ab_rvB_of rfl (⟨rfl, (by omega : (0 : Int) ≤ 4), (by omega : (4 : Int) + 1 < K ∧ 5 < K)⟩)) ?_
    refine h.mono (fun g2 r3 h => ?_)
    obtain ⟨hr5, h⟩ := h
    refine Rn_pure 1 (i' := 16) (L' := [some (2, 2)]) (st' := [(2, 2)]) rfl ?_
    obtain ⟨hf6, h⟩ := h
    refine Rn_getR rfl (⟨rfl, (by omega : (0 : Int) ≤ 2), (by omega : (2 : Int) + 1 < K ∧ 5 < K)⟩) rfl (nn_Te hf6) ?_
    refine Rn_pure 3 (i' := 20) (L' := [some (2, 2)]) (st' := [(0, 999), (0, 1), (2, 2), (2, r3 2 2)]) rfl ?_
    refine Rn_callI [(2, 2), (0, 1), (0, 999)] [(2, r3 2 2)] rfl rfl rfl rfl (ab_rvB_of rfl (⟨rfl, (by omega : (0 : Int) ≤ 2), (by omega : (2 : Int) + 1 < K ∧ 5 < K)⟩)) ?_
    refine h.mono (fun x9 g7 r8 h => ?_)
    obtain ⟨hr10, h⟩ := h
    refine Rn_putI rfl (ob_Te hf6 hK) (fun g11 he_g11 => ?_)
    have h := h g11 he_g11
    refine Rn_pure 1 (i' := 23) (L' := [some (2, 2)]) (st' := [(2, 2)]) rfl ?_
    obtain ⟨hf12, h⟩ := h
    refine Rn_getR rfl (⟨rfl, (by omega : (0 : Int) ≤ 2), (by omega : (2 : Int) + 1 < K ∧ 5 < K)⟩) rfl (nn_Te hf12) ?_
    refine Rn_pure 3 (i' := 27) (L' := [some (2, 2)]) (st' := [(0, 6), (0, 0), (2, 2), (2, r8 2 2)]) rfl ?_
    refine Rn_callI [(2, 2), (0, 0), (0, 6)] [(2, r8 2 2)] rfl rfl rfl rfl (ab_rvB_of rfl (⟨rfl, (by omega : (0 : Int) ≤ 2), (by omega : (2 : Int) + 1 < K ∧ 5 < K)⟩)) ?_
    refine h.mono (fun x15 g13 r14 h => ?_)
    obtain ⟨hr16, h⟩ := h
    refine Rn_putI rfl (ob_Te hf12 hK) (fun g17 he_g17 => ?_)
    have h := h g17 he_g17
    refine Rn_pure 1 (i' := 30) (L' := [some (2, 2)]) (st' := [(2, 2)]) rfl ?_
    refine Rn_callV [(2, 2)] [] rfl rfl rfl rfl (ab_rvB_of rfl (⟨rfl, (by omega : (0 : Int) ≤ 2), (by omega : (2 : Int) + 1 < K ∧ 5 < K)⟩)) ?_
    refine h.mono (fun g18 r19 h => ?_)
    obtain ⟨hr21, h⟩ := h
    exact Rn_ret0 rfl h
  · have h := h.2 hc
    refine Rn_pure 3 (i' := 6) (L' := [some (2, 2)]) (st' := [(2, 2), (0, 3), (2, 2)]) rfl ?_
    refine Rn_getR rfl (⟨rfl, (by omega : (0 : Int) ≤ 2), (by omega : (2 : Int) + 1 < K ∧ 5 < K)⟩) (hr 13 _ rfl) (by decide) ?_
    refine Rn_getI rfl (⟨rfl, (by omega : (0 : Int) ≤ 4), (by omega : (4 : Int) + 1 < K ∧ 5 < K)⟩) ?_
    refine Rn_callV [(2, 2), (0, 3), (0, g 4 4)] [] rfl rfl rfl rfl (ab_rvB_of rfl (⟨rfl, (by omega : (0 : Int) ≤ 2), (by omega : (2 : Int) + 1 < K ∧ 5 < K)⟩)) ?_
    refine h.mono (fun g22 r' h => ?_)
    obtain ⟨hx, h⟩ := h
    replace hx := hx.symm
    subst hx
    refine Rn_pure 2 (i' := 11) (L' := [some (2, 2)]) (st' := [(0, 1), (2, 2)]) rfl ?_
    refine Rn_putZ rfl (⟨rfl, (by omega : (0 : Int) ≤ 2), (by omega : (2 : Int) + 1 < K ∧ 5 < K)⟩) (by decide) (fun g24 he_g24 => ?_)
    have h := h g24 he_g24
    refine Rn_pure 1 (i' := 13) (L' := [some (2, 2)]) (st' := [(2, 2)]) rfl ?_
    refine Rn_getR rfl (⟨rfl, (by omega : (0 : Int) ≤ 2), (by omega : (2 : Int) + 1 < K ∧ 5 < K)⟩) (hr 13 _ rfl) (by decide) ?_
    refine Rn_callV [(2, 4)] [] rfl rfl rfl rfl (ab_rvB_of rfl (⟨rfl, (by omega : (0 : Int) ≤ 4), (by omega : (4 : Int) + 1 < K ∧ 5 < K)⟩)) ?_
    refine h.mono (fun g25 r26 h => ?_)
    obtain ⟨hr28, h⟩ := h
    refine Rn_pure 1 (i' := 16) (L' := [some (2, 2)]) (st' := [(2, 2)]) rfl ?_
    obtain ⟨hf29, h⟩ := h
    refine Rn_getR rfl (⟨rfl, (by omega : (0 : Int) ≤ 2), (by omega : (2 : Int) + 1 < K ∧ 5 < K)⟩) rfl (nn_Te hf29) ?_
    refine Rn_pure 3 (i' := 20) (L' := [some (2, 2)]) (st' := [(0, 999), (0, 1), (2, 2), (2, r26 2 2)]) rfl ?_
    refine Rn_callI [(2, 2), (0, 1), (0, 999)] [(2, r26 2 2)] rfl rfl rfl rfl (ab_rvB_of rfl (⟨rfl, (by omega : (0 : Int) ≤ 2), (by omega : (2 : Int) + 1 < K ∧ 5 < K)⟩)) ?_
    refine h.mono (fun x32 g30 r31 h => ?_)
    obtain ⟨hr33, h⟩ := h
    refine Rn_putI rfl (ob_Te hf29 hK) (fun g34 he_g34 => ?_)
    have h := h g34 he_g34
    refine Rn_pure 1 (i' := 23) (L' := [some (2, 2)]) (st' := [(2, 2)]) rfl ?_
    obtain ⟨hf35, h⟩ := h
    refine Rn_getR rfl (⟨rfl, (by omega : (0 : Int) ≤ 2), (by omega : (2 : Int) + 1 < K ∧ 5 < K)⟩) rfl (nn_Te hf35) ?_
    refine Rn_pure 3 (i' := 27) (L' := [some (2, 2)]) (st' := [(0, 6), (0, 0), (2, 2), (2, r31 2 2)]) rfl ?_
    refine Rn_callI [(2, 2), (0, 0), (0, 6)] [(2, r31 2 2)] rfl rfl rfl rfl (ab_rvB_of rfl (⟨rfl, (by omega : (0 : Int) ≤ 2), (by omega : (2 : Int) + 1 < K ∧ 5 < K)⟩)) ?_
    refine h.mono (fun x38 g36 r37 h => ?_)
    obtain ⟨hr39, h⟩ := h
    refine Rn_putI rfl (ob_Te hf35 hK) (fun g40 he_g40 => ?_)
    have h := h g40 he_g40
    refine Rn_pure 1 (i' := 30) (L' := [some (2, 2)]) (st' := [(2, 2)]) rfl ?_
    refine Rn_callV [(2, 2)] [] rfl rfl rfl rfl (ab_rvB_of rfl (⟨rfl, (by omega : (0 : Int) ≤ 2), (by omega : (2 : Int) + 1 < K ∧ 5 < K)⟩)) ?_
    refine h.mono (fun g41 r42 h => ?_)
    obtain ⟨hr44, h⟩ := h
    exact Rn_ret0 rfl h
-- EventLedger$Parser.readSeed ()V
theorem v_Pa_readSeed {K : Int} {S : Nat} {g r : ab_H} (P : ab_H → ab_H → Prop) (hr : SI r) (hK : 186 ≤ K) (h : ((wr (g 2 5) = wr 0 → ∀ g1, g1 = ab_up g 2 5 1 → ab_RV m_To_advance [(2, 4)] K S g1 r (fun g2 r3 => SI r3 ∧ ((isTe (r3 2 2)) ∧ ab_RI m_Pa_takeNumber [(2, 2), (0, 0), (0, 99999)] K S g2 r3 (fun x9 g7 r8 => SI r8 ∧ (∀ g11, g11 = ab_up g7 (r3 2 2) 12 x9 → ab_RV m_Pa_takeStop [(2, 2)] K S g11 r8 (fun g12 r13 => SI r13 ∧ (P g12 r13))))))) ∧ (¬ wr (g 2 5) = wr 0 → ab_RV m_Pa_fail [(2, 2), (0, 3), (0, g 4 4)] K S g r (fun g16 r' => r' = r ∧ (∀ g18, g18 = ab_up g16 2 5 1 → ab_RV m_To_advance [(2, 4)] K S g18 r (fun g19 r20 => SI r20 ∧ ((isTe (r20 2 2)) ∧ ab_RI m_Pa_takeNumber [(2, 2), (0, 0), (0, 99999)] K S g19 r20 (fun x26 g24 r25 => SI r25 ∧ (∀ g28, g28 = ab_up g24 (r20 2 2) 12 x26 → ab_RV m_Pa_takeStop [(2, 2)] K S g28 r25 (fun g29 r30 => SI r30 ∧ (P g29 r30))))))))))) : ab_RV m_Pa_readSeed [(2, 2)] K S g r P := by
  show ab_Rn m_Pa_readSeed 0 [some (2, 2)] [] (K, S, g, r) (ab_Qv K S P)
  refine Rn_pure 1 (i' := 1) (L' := [some (2, 2)]) (st' := [(2, 2)]) rfl ?_
  refine Rn_getI rfl (⟨rfl, (by omega : (0 : Int) ≤ 2), (by omega : (2 : Int) + 1 < K ∧ 5 < K)⟩) ?_
  refine Rn_ifeq rfl (fun hc => ?_) (fun hc => ?_)
  · have h := h.1 hc
    refine Rn_pure 2 (i' := 11) (L' := [some (2, 2)]) (st' := [(0, 1), (2, 2)]) rfl ?_
    refine Rn_putZ rfl (⟨rfl, (by omega : (0 : Int) ≤ 2), (by omega : (2 : Int) + 1 < K ∧ 5 < K)⟩) (by decide) (fun g1 he_g1 => ?_)
    have h := h g1 he_g1
    refine Rn_pure 1 (i' := 13) (L' := [some (2, 2)]) (st' := [(2, 2)]) rfl ?_
    refine Rn_getR rfl (⟨rfl, (by omega : (0 : Int) ≤ 2), (by omega : (2 : Int) + 1 < K ∧ 5 < K)⟩) (hr 13 _ rfl) (by decide) ?_
    refine Rn_callV [(2, 4)] [] rfl rfl rfl rfl (ab_rvB_of rfl (⟨rfl, (by omega : (0 : Int) ≤ 4), (by omega : (4 : Int) + 1 < K ∧ 5 < K)⟩)) ?_
    refine h.mono (fun g2 r3 h => ?_)
    obtain ⟨hr5, h⟩ := h
    refine Rn_pure 1 (i' := 16) (L' := [some (2, 2)]) (st' := [(2, 2)]) rfl ?_
    obtain ⟨hf6, h⟩ := h
    refine Rn_getR rfl (⟨rfl, (by omega : (0 : Int) ≤ 2), (by omega : (2 : Int) + 1 < K ∧ 5 < K)⟩) rfl (nn_Te hf6) ?_
    refine Rn_pure 3 (i' := 20) (L' := [some (2, 2)]) (st' := [(0, 99999), (0, 0), (2, 2), (2, r3 2 2)]) rfl ?_
    refine Rn_callI [(2, 2), (0, 0), (0, 99999)] [(2, r3 2 2)] rfl rfl rfl rfl (ab_rvB_of rfl (⟨rfl, (by omega : (0 : Int) ≤ 2), (by omega : (2 : Int) + 1 < K ∧ 5 < K)⟩)) ?_
    refine h.mono (fun x9 g7 r8 h => ?_)
    obtain ⟨hr10, h⟩ := h
    refine Rn_putI rfl (ob_Te hf6 hK) (fun g11 he_g11 => ?_)
    have h := h g11 he_g11
    refine Rn_pure 1 (i' := 23) (L' := [some (2, 2)]) (st' := [(2, 2)]) rfl ?_
    refine Rn_callV [(2, 2)] [] rfl rfl rfl rfl (ab_rvB_of rfl (⟨rfl, (by omega : (0 : Int) ≤ 2), (by omega : (2 : Int) + 1 < K ∧ 5 < K)⟩)) ?_
    refine h.mono (fun g12 r13 h => ?_)
    obtain ⟨hr15, h⟩ := h
    exact Rn_ret0 rfl h
  · have h := h.2 hc
    refine Rn_pure 3 (i' := 6) (L' := [some (2, 2)]) (st' := [(2, 2), (0, 3), (2, 2)]) rfl ?_
    refine Rn_getR rfl (⟨rfl, (by omega : (0 : Int) ≤ 2), (by omega : (2 : Int) + 1 < K ∧ 5 < K)⟩) (hr 13 _ rfl) (by decide) ?_
    refine Rn_getI rfl (⟨rfl, (by omega : (0 : Int) ≤ 4), (by omega : (4 : Int) + 1 < K ∧ 5 < K)⟩) ?_
    refine Rn_callV [(2, 2), (0, 3), (0, g 4 4)] [] rfl rfl rfl rfl (ab_rvB_of rfl (⟨rfl, (by omega : (0 : Int) ≤ 2), (by omega : (2 : Int) + 1 < K ∧ 5 < K)⟩)) ?_
    refine h.mono (fun g16 r' h => ?_)
    obtain ⟨hx, h⟩ := h
    replace hx := hx.symm
    subst hx
    refine Rn_pure 2 (i' := 11) (L' := [some (2, 2)]) (st' := [(0, 1), (2, 2)]) rfl ?_
    refine Rn_putZ rfl (⟨rfl, (by omega : (0 : Int) ≤ 2), (by omega : (2 : Int) + 1 < K ∧ 5 < K)⟩) (by decide) (fun g18 he_g18 => ?_)
    have h := h g18 he_g18
    refine Rn_pure 1 (i' := 13) (L' := [some (2, 2)]) (st' := [(2, 2)]) rfl ?_
    refine Rn_getR rfl (⟨rfl, (by omega : (0 : Int) ≤ 2), (by omega : (2 : Int) + 1 < K ∧ 5 < K)⟩) (hr 13 _ rfl) (by decide) ?_
    refine Rn_callV [(2, 4)] [] rfl rfl rfl rfl (ab_rvB_of rfl (⟨rfl, (by omega : (0 : Int) ≤ 4), (by omega : (4 : Int) + 1 < K ∧ 5 < K)⟩)) ?_
    refine h.mono (fun g19 r20 h => ?_)
    obtain ⟨hr22, h⟩ := h
    refine Rn_pure 1 (i' := 16) (L' := [some (2, 2)]) (st' := [(2, 2)]) rfl ?_
    obtain ⟨hf23, h⟩ := h
    refine Rn_getR rfl (⟨rfl, (by omega : (0 : Int) ≤ 2), (by omega : (2 : Int) + 1 < K ∧ 5 < K)⟩) rfl (nn_Te hf23) ?_
    refine Rn_pure 3 (i' := 20) (L' := [some (2, 2)]) (st' := [(0, 99999), (0, 0), (2, 2), (2, r20 2 2)]) rfl ?_
    refine Rn_callI [(2, 2), (0, 0), (0, 99999)] [(2, r20 2 2)] rfl rfl rfl rfl (ab_rvB_of rfl (⟨rfl, (by omega : (0 : Int) ≤ 2), (by omega : (2 : Int) + 1 < K ∧ 5 < K)⟩)) ?_
    refine h.mono (fun x26 g24 r25 h => ?_)
    obtain ⟨hr27, h⟩ := h
    refine Rn_putI rfl (ob_Te hf23 hK) (fun g28 he_g28 => ?_)
    have h := h g28 he_g28
    refine Rn_pure 1 (i' := 23) (L' := [some (2, 2)]) (st' := [(2, 2)]) rfl ?_
    refine Rn_callV [(2, 2)] [] rfl rfl rfl rfl (ab_rvB_of rfl (⟨rfl, (by omega : (0 : Int) ≤ 2), (by omega : (2 : Int) + 1 < K ∧ 5 < K)⟩)) ?_
    refine h.mono (fun g29 r30 h => ?_)
    obtain ⟨hr32, h⟩ := h
    exact Rn_ret0 rfl h
-- EventLedger$Parser.readVoid ()V
theorem v_Pa_readVoid {K : Int} {S : Nat} {g r : ab_H} (P : ab_H → ab_H → Prop) (hr : SI r) (hK : 186 ≤ K) (h : (isLg (r 2 3)) ∧ ab_RV m_Pa_needRoom [(2, 2), (0, g (r 2 3) 10), (0, 50)] K S g r (fun g2 r' => r' = r ∧ (ab_RV m_To_advance [(2, 4)] K S g2 r (fun g4 r5 => SI r5 ∧ (ab_RI m_Pa_takeNumber [(2, 2), (0, 0), (0, 2147483647)] K S g4 r5 (fun x10 g8 r9 => SI r9 ∧ ((isLg (r9 2 3)) ∧ ab_RI m_Lg_holdsPlain [(2, r9 2 3), (0, x10)] K S g8 r9 (fun x13 g' r' => g' = g8 ∧ r' = r9 ∧ (((¬ wr x13 = wr 0 → (isLg (r9 2 3)) ∧ ((0 : Int) ≤ x10 ∧ (x10 : Int) < 120) ∧ ((wr (g8 (r9 2 3 + 9) x10) = wr (-1) → ab_RI m_Pa_leastTime [(2, 2)] K S g8 r9 (fun x15 g' r' => g' = g8 ∧ r' = r9 ∧ (ab_RI m_Pa_takeNumber [(2, 2), (0, x15), (0, 9999)] K S g8 r9 (fun x18 g16 r17 => SI r17 ∧ (ab_RV m_Pa_takeStop [(2, 2)] K S g16 r17 (fun g20 r21 => SI r21 ∧ (((¬ wr (g20 2 6) = wr 0 → P g20 r21) ∧ (wr (g20 2 6) = wr 0 → (isLg (r21 2 3)) ∧ ab_RV m_Lg_addVoid [(2, r21 2 3), (0, x10), (0, x18)] K S g20 r21 (fun g25 r' => r' = r21 ∧ (P g25 r21))))))))))) ∧ (¬ wr (g8 (r9 2 3 + 9) x10) = wr (-1) → ab_RV m_Pa_fail [(2, 2), (0, 3), (0, g4 4 4)] K S g8 r9 (fun g27 r' => r' = r9 ∧ (ab_RI m_Pa_leastTime [(2, 2)] K S g27 r9 (fun x29 g' r' => g' = g27 ∧ r' = r9 ∧ (ab_RI m_Pa_takeNumber [(2, 2), (0, x29), (0, 9999)] K S g27 r9 (fun x32 g30 r31 => SI r31 ∧ (ab_RV m_Pa_takeStop [(2, 2)] K S g30 r31 (fun g34 r35 => SI r35 ∧ (((¬ wr (g34 2 6) = wr 0 → P g34 r35) ∧ (wr (g34 2 6) = wr 0 → (isLg (r35 2 3)) ∧ ab_RV m_Lg_addVoid [(2, r35 2 3), (0, x10), (0, x32)] K S g34 r35 (fun g39 r' => r' = r35 ∧ (P g39 r35))))))))))))))) ∧ (wr x13 = wr 0 → ab_RV m_Pa_fail [(2, 2), (0, 4), (0, g4 4 4)] K S g8 r9 (fun g41 r' => r' = r9 ∧ (ab_RI m_Pa_leastTime [(2, 2)] K S g41 r9 (fun x43 g' r' => g' = g41 ∧ r' = r9 ∧ (ab_RI m_Pa_takeNumber [(2, 2), (0, x43), (0, 9999)] K S g41 r9 (fun x46 g44 r45 => SI r45 ∧ (ab_RV m_Pa_takeStop [(2, 2)] K S g44 r45 (fun g48 r49 => SI r49 ∧ (((¬ wr (g48 2 6) = wr 0 → P g48 r49) ∧ (wr (g48 2 6) = wr 0 → (isLg (r49 2 3)) ∧ ab_RV m_Lg_addVoid [(2, r49 2 3), (0, x10), (0, x46)] K S g48 r49 (fun g53 r' => r' = r49 ∧ (P g53 r49))))))))))))))))))))))) : ab_RV m_Pa_readVoid [(2, 2)] K S g r P := by
  show ab_Rn m_Pa_readVoid 0 [some (2, 2), none, none, none] [] (K, S, g, r) (ab_Qv K S P)
  refine Rn_pure 2 (i' := 2) (L' := [some (2, 2), none, none, none]) (st' := [(2, 2), (2, 2)]) rfl ?_
  obtain ⟨hf1, h⟩ := h
  refine Rn_getR rfl (⟨rfl, (by omega : (0 : Int) ≤ 2), (by omega : (2 : Int) + 1 < K ∧ 5 < K)⟩) rfl (nn_Lg hf1) ?_
  refine Rn_getI rfl (ob_Lg hf1 hK) ?_
  refine Rn_pure 1 (i' := 5) (L' := [some (2, 2), none, none, none]) (st' := [(0, 50), (0, g (r 2 3) 10), (2, 2)]) rfl ?_
  refine Rn_callV [(2, 2), (0, g (r 2 3) 10), (0, 50)] [] rfl rfl rfl rfl (ab_rvB_of rfl (⟨rfl, (by omega : (0 : Int) ≤ 2), (by omega : (2 : Int) + 1 < K ∧ 5 < K)⟩)) ?_
  refine h.mono (fun g2 r' h => ?_)
  obtain ⟨hx, h⟩ := h
  replace hx := hx.symm
  subst hx
  refine Rn_pure 1 (i' := 7) (L' := [some (2, 2), none, none, none]) (st' := [(2, 2)]) rfl ?_
  refine Rn_getR rfl (⟨rfl, (by omega : (0 : Int) ≤ 2), (by omega : (2 : Int) + 1 < K ∧ 5 < K)⟩) (hr 13 _ rfl) (by decide) ?_
  refine Rn_callV [(2, 4)] [] rfl rfl rfl rfl (ab_rvB_of rfl (⟨rfl, (by omega : (0 : Int) ≤ 4), (by omega : (4 : Int) + 1 < K ∧ 5 < K)⟩)) ?_
  refine h.mono (fun g4 r5 h => ?_)
  obtain ⟨hr7, h⟩ := h
  refine Rn_pure 1 (i' := 10) (L' := [some (2, 2), none, none, none]) (st' := [(2, 2)]) rfl ?_
  refine Rn_getR rfl (⟨rfl, (by omega : (0 : Int) ≤ 2), (by omega : (2 : Int) + 1 < K ∧ 5 < K)⟩) (hr7 13 _ rfl) (by decide) ?_
  refine Rn_getI rfl (⟨rfl, (by omega : (0 : Int) ≤ 4), (by omega : (4 : Int) + 1 < K ∧ 5 < K)⟩) ?_
  refine Rn_pure 4 (i' := 16) (L' := [some (2, 2), some (0, g4 4 4), none, none]) (st' := [(0, 2147483647), (0, 0), (2, 2)]) rfl ?_
  refine Rn_callI [(2, 2), (0, 0), (0, 2147483647)] [] rfl rfl rfl rfl (ab_rvB_of rfl (⟨rfl, (by omega : (0 : Int) ≤ 2), (by omega : (2 : Int) + 1 < K ∧ 5 < K)⟩)) ?_
  refine h.mono (fun x10 g8 r9 h => ?_)
  obtain ⟨hr11, h⟩ := h
  refine Rn_pure 2 (i' := 19) (L' := [some (2, 2), some (0, g4 4 4), some (0, x10), none]) (st' := [(2, 2)]) rfl ?_
  obtain ⟨hf12, h⟩ := h
  refine Rn_getR rfl (⟨rfl, (by omega : (0 : Int) ≤ 2), (by omega : (2 : Int) + 1 < K ∧ 5 < K)⟩) rfl (nn_Lg hf12) ?_
  refine Rn_pure 1 (i' := 21) (L' := [some (2, 2), some (0, g4 4 4), some (0, x10), none]) (st' := [(0, x10), (2, r9 2 3)]) rfl ?_
  refine Rn_callI [(2, r9 2 3), (0, x10)] [] rfl rfl rfl rfl (ab_rvB_of rfl (ob_Lg hf12 hK)) ?_
  refine h.mono (fun x13 g' r' h => ?_)
  obtain ⟨hx, h⟩ := h
  replace hx := hx.symm
  subst hx
  obtain ⟨hx, h⟩ := h
  replace hx := hx.symm
  subst hx
  refine Rn_ifne rfl (fun hc => ?_) (fun hc => ?_)
  · have h := h.1 hc
    refine Rn_pure 1 (i' := 29) (L' := [some (2, 2), some (0, g4 4 4), some (0, x10), none]) (st' := [(2, 2)]) rfl ?_
    obtain ⟨hf14, h⟩ := h
    refine Rn_getR rfl (⟨rfl, (by omega : (0 : Int) ≤ 2), (by omega : (2 : Int) + 1 < K ∧ 5 < K)⟩) rfl (nn_Lg hf14) ?_
    refine Rn_getR rfl (ob_Lg hf14 hK) (fx_Lg_8 hr11 hf14) (show (r9 2 3 + 9 : Int) ≠ -1 by have := hf14; unfold isLg at this; omega) ?_
    refine Rn_pure 1 (i' := 32) (L' := [some (2, 2), some (0, g4 4 4), some (0, x10), none]) (st' := [(0, x10), (2, r9 2 3 + 9)]) rfl ?_
    obtain ⟨hg, h⟩ := h
    refine Rn_iald rfl (ar_Lg_8 hf14 hK) hg ?_
    refine Rn_pure 1 (i' := 34) (L' := [some (2, 2), some (0, g4 4 4), some (0, x10), none]) (st' := [(0, (-1)), (0, g8 (r9 2 3 + 9) x10)]) rfl ?_
    refine Rn_iceq rfl (fun hc => ?_) (fun hc => ?_)
    · have h := h.1 hc
      refine Rn_pure 2 (i' := 41) (L' := [some (2, 2), some (0, g4 4 4), some (0, x10), none]) (st' := [(2, 2), (2, 2)]) rfl ?_
      refine Rn_callI [(2, 2)] [(2, 2)] rfl rfl rfl rfl (ab_rvB_of rfl (⟨rfl, (by omega : (0 : Int) ≤ 2), (by omega : (2 : Int) + 1 < K ∧ 5 < K)⟩)) ?_
      refine h.mono (fun x15 g' r' h => ?_)
      obtain ⟨hx, h⟩ := h
      replace hx := hx.symm
      subst hx
      obtain ⟨hx, h⟩ := h
      replace hx := hx.symm
      subst hx
      refine Rn_pure 1 (i' := 43) (L' := [some (2, 2), some (0, g4 4 4), some (0, x10), none]) (st' := [(0, 9999), (0, x15), (2, 2)]) rfl ?_
      refine Rn_callI [(2, 2), (0, x15), (0, 9999)] [] rfl rfl rfl rfl (ab_rvB_of rfl (⟨rfl, (by omega : (0 : Int) ≤ 2), (by omega : (2 : Int) + 1 < K ∧ 5 < K)⟩)) ?_
      refine h.mono (fun x18 g16 r17 h => ?_)
      obtain ⟨hr19, h⟩ := h
      refine Rn_pure 2 (i' := 46) (L' := [some (2, 2), some (0, g4 4 4), some (0, x10), some (0, x18)]) (st' := [(2, 2)]) rfl ?_
      refine Rn_callV [(2, 2)] [] rfl rfl rfl rfl (ab_rvB_of rfl (⟨rfl, (by omega : (0 : Int) ≤ 2), (by omega : (2 : Int) + 1 < K ∧ 5 < K)⟩)) ?_
      refine h.mono (fun g20 r21 h => ?_)
      obtain ⟨hr23, h⟩ := h
      refine Rn_pure 1 (i' := 48) (L' := [some (2, 2), some (0, g4 4 4), some (0, x10), some (0, x18)]) (st' := [(2, 2)]) rfl ?_
      refine Rn_getI rfl (⟨rfl, (by omega : (0 : Int) ≤ 2), (by omega : (2 : Int) + 1 < K ∧ 5 < K)⟩) ?_
      refine Rn_ifne rfl (fun hc => ?_) (fun hc => ?_)
      · have h := h.1 hc
        exact Rn_ret0 rfl h
      · have h := h.2 hc
        refine Rn_pure 1 (i' := 51) (L' := [some (2, 2), some (0, g4 4 4), some (0, x10), some (0, x18)]) (st' := [(2, 2)]) rfl ?_
        obtain ⟨hf24, h⟩ := h
        refine Rn_getR rfl (⟨rfl, (by omega : (0 : Int) ≤ 2), (by omega : (2 : Int) + 1 < K ∧ 5 < K)⟩) rfl (nn_Lg hf24) ?_
        refine Rn_pure 2 (i' := 54) (L' := [some (2, 2), some (0, g4 4 4), some (0, x10), some (0, x18)]) (st' := [(0, x18), (0, x10), (2, r21 2 3)]) rfl ?_
        refine Rn_callV [(2, r21 2 3), (0, x10), (0, x18)] [] rfl rfl rfl rfl (ab_rvB_of rfl (ob_Lg hf24 hK)) ?_
        refine h.mono (fun g25 r' h => ?_)
        obtain ⟨hx, h⟩ := h
        replace hx := hx.symm
        subst hx
        exact Rn_ret0 rfl h
    · have h := h.2 hc
      refine Rn_pure 3 (i' := 38) (L' := [some (2, 2), some (0, g4 4 4), some (0, x10), none]) (st' := [(0, g4 4 4), (0, 3), (2, 2)]) rfl ?_
      refine Rn_callV [(2, 2), (0, 3), (0, g4 4 4)] [] rfl rfl rfl rfl (ab_rvB_of rfl (⟨rfl, (by omega : (0 : Int) ≤ 2), (by omega : (2 : Int) + 1 < K ∧ 5 < K)⟩)) ?_
      refine h.mono (fun g27 r' h => ?_)
      obtain ⟨hx, h⟩ := h
      replace hx := hx.symm
      subst hx
      refine Rn_pure 2 (i' := 41) (L' := [some (2, 2), some (0, g4 4 4), some (0, x10), none]) (st' := [(2, 2), (2, 2)]) rfl ?_
      refine Rn_callI [(2, 2)] [(2, 2)] rfl rfl rfl rfl (ab_rvB_of rfl (⟨rfl, (by omega : (0 : Int) ≤ 2), (by omega : (2 : Int) + 1 < K ∧ 5 < K)⟩)) ?_
      refine h.mono (fun x29 g' r' h => ?_)
      obtain ⟨hx, h⟩ := h
      replace hx := hx.symm
      subst hx
      obtain ⟨hx, h⟩ := h
      replace hx := hx.symm
      subst hx
      refine Rn_pure 1 (i' := 43) (L' := [some (2, 2), some (0, g4 4 4), some (0, x10), none]) (st' := [(0, 9999), (0, x29), (2, 2)]) rfl ?_
      refine Rn_callI [(2, 2), (0, x29), (0, 9999)] [] rfl rfl rfl rfl (ab_rvB_of rfl (⟨rfl, (by omega : (0 : Int) ≤ 2), (by omega : (2 : Int) + 1 < K ∧ 5 < K)⟩)) ?_
      refine h.mono (fun x32 g30 r31 h => ?_)
      obtain ⟨hr33, h⟩ := h
      refine Rn_pure 2 (i' := 46) (L' := [some (2, 2), some (0, g4 4 4), some (0, x10), some (0, x32)]) (st' := [(2, 2)]) rfl ?_
      refine Rn_callV [(2, 2)] [] rfl rfl rfl rfl (ab_rvB_of rfl (⟨rfl, (by omega : (0 : Int) ≤ 2), (by omega : (2 : Int) + 1 < K ∧ 5 < K)⟩)) ?_
      refine h.mono (fun g34 r35 h => ?_)
      obtain ⟨hr37, h⟩ := h
      refine Rn_pure 1 (i' := 48) (L' := [some (2, 2), some (0, g4 4 4), some (0, x10), some (0, x32)]) (st' := [(2, 2)]) rfl ?_
      refine Rn_getI rfl (⟨rfl, (by omega : (0 : Int) ≤ 2), (by omega : (2 : Int) + 1 < K ∧ 5 < K)⟩) ?_
      refine Rn_ifne rfl (fun hc => ?_) (fun hc => ?_)
      · have h := h.1 hc
        exact Rn_ret0 rfl h
      · have h := h.2 hc
        refine Rn_pure 1 (i' := 51) (L' := [some (2, 2), some (0, g4 4 4), some (0, x10), some (0, x32)]) (st' := [(2, 2)]) rfl ?_
        obtain ⟨hf38, h⟩ := h
        refine Rn_getR rfl (⟨rfl, (by omega : (0 : Int) ≤ 2), (by omega : (2 : Int) + 1 < K ∧ 5 < K)⟩) rfl (nn_Lg hf38) ?_
        refine Rn_pure 2 (i' := 54) (L' := [some (2, 2), some (0, g4 4 4), some (0, x10), some (0, x32)]) (st' := [(0, x32), (0, x10), (2, r35 2 3)]) rfl ?_
        refine Rn_callV [(2, r35 2 3), (0, x10), (0, x32)] [] rfl rfl rfl rfl (ab_rvB_of rfl (ob_Lg hf38 hK)) ?_
        refine h.mono (fun g39 r' h => ?_)
        obtain ⟨hx, h⟩ := h
        replace hx := hx.symm
        subst hx
        exact Rn_ret0 rfl h
  · have h := h.2 hc
    refine Rn_pure 3 (i' := 26) (L' := [some (2, 2), some (0, g4 4 4), some (0, x10), none]) (st' := [(0, g4 4 4), (0, 4), (2, 2)]) rfl ?_
    refine Rn_callV [(2, 2), (0, 4), (0, g4 4 4)] [] rfl rfl rfl rfl (ab_rvB_of rfl (⟨rfl, (by omega : (0 : Int) ≤ 2), (by omega : (2 : Int) + 1 < K ∧ 5 < K)⟩)) ?_
    refine h.mono (fun g41 r' h => ?_)
    obtain ⟨hx, h⟩ := h
    replace hx := hx.symm
    subst hx
    refine Rn_pure 3 (i' := 41) (L' := [some (2, 2), some (0, g4 4 4), some (0, x10), none]) (st' := [(2, 2), (2, 2)]) rfl ?_
    refine Rn_callI [(2, 2)] [(2, 2)] rfl rfl rfl rfl (ab_rvB_of rfl (⟨rfl, (by omega : (0 : Int) ≤ 2), (by omega : (2 : Int) + 1 < K ∧ 5 < K)⟩)) ?_
    refine h.mono (fun x43 g' r' h => ?_)
    obtain ⟨hx, h⟩ := h
    replace hx := hx.symm
    subst hx
    obtain ⟨hx, h⟩ := h
    replace hx := hx.symm
    subst hx
    refine Rn_pure 1 (i' := 43) (L' := [some (2, 2), some (0, g4 4 4), some (0, x10), none]) (st' := [(0, 9999), (0, x43), (2, 2)]) rfl ?_
    refine Rn_callI [(2, 2), (0, x43), (0, 9999)] [] rfl rfl rfl rfl (ab_rvB_of rfl (⟨rfl, (by omega : (0 : Int) ≤ 2), (by omega : (2 : Int) + 1 < K ∧ 5 < K)⟩)) ?_
    refine h.mono (fun x46 g44 r45 h => ?_)
    obtain ⟨hr47, h⟩ := h
    refine Rn_pure 2 (i' := 46) (L' := [some (2, 2), some (0, g4 4 4), some (0, x10), some (0, x46)]) (st' := [(2, 2)]) rfl ?_
    refine Rn_callV [(2, 2)] [] rfl rfl rfl rfl (ab_rvB_of rfl (⟨rfl, (by omega : (0 : Int) ≤ 2), (by omega : (2 : Int) + 1 < K ∧ 5 < K)⟩)) ?_
    refine h.mono (fun g48 r49 h => ?_)
    obtain ⟨hr51, h⟩ := h
    refine Rn_pure 1 (i' := 48) (L' := [some (2, 2), some (0, g4 4 4), some (0, x10), some (0, x46)]) (st' := [(2, 2)]) rfl ?_
    refine Rn_getI rfl (⟨rfl, (by omega : (0 : Int) ≤ 2), (by omega : (2 : Int) + 1 < K ∧ 5 < K)⟩) ?_
    refine Rn_ifne rfl (fun hc => ?_) (fun hc => ?_)
    · have h := h.1 hc
      exact Rn_ret0 rfl h
    · have h := h.2 hc
      refine Rn_pure 1 (i' := 51) (L' := [some (2, 2), some (0, g4 4 4), some (0, x10), some (0, x46)]) (st' := [(2, 2)]) rfl ?_
      obtain ⟨hf52, h⟩ := h
      refine Rn_getR rfl (⟨rfl, (by omega : (0 : Int) ≤ 2), (by omega : (2 : Int) + 1 < K ∧ 5 < K)⟩) rfl (nn_Lg hf52) ?_
      refine Rn_pure 2 (i' := 54) (L' := [some (2, 2), some (0, g4 4 4), some (0, x10), some (0, x46)]) (st' := [(0, x46), (0, x10), (2, r49 2 3)]) rfl ?_
      refine Rn_callV [(2, r49 2 3), (0, x10), (0, x46)] [] rfl rfl rfl rfl (ab_rvB_of rfl (ob_Lg hf52 hK)) ?_
      refine h.mono (fun g53 r' h => ?_)
      obtain ⟨hx, h⟩ := h
      replace hx := hx.symm
      subst hx
      exact Rn_ret0 rfl h
-- EventLedger$Parser.readEvent (I)V
theorem v_Pa_readEvent {K : Int} {S : Nat} {g r : ab_H} {p1 : Int} (P : ab_H → ab_H → Prop) (hr : SI r) (hK : 186 ≤ K) (h : ((¬ wr p1 = wr (-1) → (isLg (r 2 3)) ∧ ab_RV m_Pa_needRoom [(2, 2), (0, g (r 2 3) 10), (0, 50)] K S g r (fun g2 r' => r' = r ∧ (ab_RV m_To_advance [(2, 4)] K S g2 r (fun g4 r5 => SI r5 ∧ (ab_RI m_Pa_takeAccount [(2, 2)] K S g4 r5 (fun x10 g8 r9 => SI r9 ∧ (((¬ wr p1 = wr 6 → ((¬ wr (-1) = wr x10 → ab_RI m_Pa_leastTime [(2, 2)] K S g8 r9 (fun x12 g' r' => g' = g8 ∧ r' = r9 ∧ (ab_RI m_Pa_takeNumber [(2, 2), (0, x12), (0, 9999)] K S g8 r9 (fun x15 g13 r14 => SI r14 ∧ (ab_RI m_Pa_takeNumber [(2, 2), (0, 1), (0, 3)] K S g13 r14 (fun x19 g17 r18 => SI r18 ∧ (ab_Rn m_Pa_readEvent 54 [some (2, 2), some (0, p1), some (0, x10), none, some (0, (-1)), some (0, x15), some (0, x19), some (0, 0)] [] (K, S, g17, r18) (ab_Qv K S P)))))))) ∧ (wr (-1) = wr x10 → ab_RV m_Pa_fail [(2, 2), (0, 3), (0, g8 4 4)] K S g8 r9 (fun g21 r' => r' = r9 ∧ (ab_RI m_Pa_leastTime [(2, 2)] K S g21 r9 (fun x23 g' r' => g' = g21 ∧ r' = r9 ∧ (ab_RI m_Pa_takeNumber [(2, 2), (0, x23), (0, 9999)] K S g21 r9 (fun x26 g24 r25 => SI r25 ∧ (ab_RI m_Pa_takeNumber [(2, 2), (0, 1), (0, 3)] K S g24 r25 (fun x30 g28 r29 => SI r29 ∧ (ab_Rn m_Pa_readEvent 54 [some (2, 2), some (0, p1), some (0, x10), none, some (0, (-1)), some (0, x26), some (0, x30), some (0, 0)] [] (K, S, g28, r29) (ab_Qv K S P)))))))))))) ∧ (wr p1 = wr 6 → ab_RI m_Pa_takeAccount [(2, 2)] K S g8 r9 (fun x34 g32 r33 => SI r33 ∧ (((¬ wr x34 = wr x10 → ab_RI m_Pa_leastTime [(2, 2)] K S g32 r33 (fun x36 g' r' => g' = g32 ∧ r' = r33 ∧ (ab_RI m_Pa_takeNumber [(2, 2), (0, x36), (0, 9999)] K S g32 r33 (fun x39 g37 r38 => SI r38 ∧ (ab_RI m_Pa_takeNumber [(2, 2), (0, 1), (0, 3)] K S g37 r38 (fun x43 g41 r42 => SI r42 ∧ (ab_Rn m_Pa_readEvent 54 [some (2, 2), some (0, p1), some (0, x10), none, some (0, x34), some (0, x39), some (0, x43), some (0, 0)] [] (K, S, g41, r42) (ab_Qv K S P)))))))) ∧ (wr x34 = wr x10 → ab_RV m_Pa_fail [(2, 2), (0, 3), (0, g8 4 4)] K S g32 r33 (fun g45 r' => r' = r33 ∧ (ab_RI m_Pa_leastTime [(2, 2)] K S g45 r33 (fun x47 g' r' => g' = g45 ∧ r' = r33 ∧ (ab_RI m_Pa_takeNumber [(2, 2), (0, x47), (0, 9999)] K S g45 r33 (fun x50 g48 r49 => SI r49 ∧ (ab_RI m_Pa_takeNumber [(2, 2), (0, 1), (0, 3)] K S g48 r49 (fun x54 g52 r53 => SI r53 ∧ (ab_Rn m_Pa_readEvent 54 [some (2, 2), some (0, p1), some (0, x10), none, some (0, x34), some (0, x50), some (0, x54), some (0, 0)] [] (K, S, g52, r53) (ab_Qv K S P)))))))))))))))))))))) ∧ (wr p1 = wr (-1) → ab_RV m_Pa_fail [(2, 2), (0, 1), (0, g 4 4)] K S g r (fun g56 r' => r' = r ∧ (P g56 r))))) : ab_RV m_Pa_readEvent [(2, 2), (0, p1)] K S g r P := by
  show ab_Rn m_Pa_readEvent 0 [some (2, 2), some (0, p1), none, none, none, none, none, none] [] (K, S, g, r) (ab_Qv K S P)
  refine Rn_pure 2 (i' := 2) (L' := [some (2, 2), some (0, p1), none, none, none, none, none, none]) (st' := [(0, (-1)), (0, p1)]) rfl ?_
  refine Rn_icne rfl (fun hc => ?_) (fun hc => ?_)
  · have h := h.1 hc
    refine Rn_pure 2 (i' := 12) (L' := [some (2, 2), some (0, p1), none, none, none, none, none, none]) (st' := [(2, 2), (2, 2)]) rfl ?_
    obtain ⟨hf1, h⟩ := h
    refine Rn_getR rfl (⟨rfl, (by omega : (0 : Int) ≤ 2), (by omega : (2 : Int) + 1 < K ∧ 5 < K)⟩) rfl (nn_Lg hf1) ?_
    refine Rn_getI rfl (ob_Lg hf1 hK) ?_
    refine Rn_pure 1 (i' := 15) (L' := [some (2, 2), some (0, p1), none, none, none, none, none, none]) (st' := [(0, 50), (0, g (r 2 3) 10), (2, 2)]) rfl ?_
    refine Rn_callV [(2, 2), (0, g (r 2 3) 10), (0, 50)] [] rfl rfl rfl rfl (ab_rvB_of rfl (⟨rfl, (by omega : (0 : Int) ≤ 2), (by omega : (2 : Int) + 1 < K ∧ 5 < K)⟩)) ?_
    refine h.mono (fun g2 r' h => ?_)
    obtain ⟨hx, h⟩ := h
    replace hx := hx.symm
    subst hx
    refine Rn_pure 1 (i' := 17) (L' := [some (2, 2), some (0, p1), none, none, none, none, none, none]) (st' := [(2, 2)]) rfl ?_
    refine Rn_getR rfl (⟨rfl, (by omega : (0 : Int) ≤ 2), (by omega : (2 : Int) + 1 < K ∧ 5 < K)⟩) (hr 13 _ rfl) (by decide) ?_
    refine Rn_callV [(2, 4)] [] rfl rfl rfl rfl (ab_rvB_of rfl (⟨rfl, (by omega : (0 : Int) ≤ 4), (by omega : (4 : Int) + 1 < K ∧ 5 < K)⟩)) ?_
    refine h.mono (fun g4 r5 h => ?_)
    obtain ⟨hr7, h⟩ := h
    refine Rn_pure 1 (i' := 20) (L' := [some (2, 2), some (0, p1), none, none, none, none, none, none]) (st' := [(2, 2)]) rfl ?_
    refine Rn_callI [(2, 2)] [] rfl rfl rfl rfl (ab_rvB_of rfl (⟨rfl, (by omega : (0 : Int) ≤ 2), (by omega : (2 : Int) + 1 < K ∧ 5 < K)⟩)) ?_
    refine h.mono (fun x10 g8 r9 h => ?_)
    obtain ⟨hr11, h⟩ := h
    refine Rn_pure 2 (i' := 23) (L' := [some (2, 2), some (0, p1), some (0, x10), none, none, none, none, none]) (st' := [(2, 2)]) rfl ?_
    refine Rn_getR rfl (⟨rfl, (by omega : (0 : Int) ≤ 2), (by omega : (2 : Int) + 1 < K ∧ 5 < K)⟩) (hr11 13 _ rfl) (by decide) ?_
    refine Rn_getI rfl (⟨rfl, (by omega : (0 : Int) ≤ 4), (by omega : (4 : Int) + 1 < K ∧ 5 < K)⟩) ?_
    refine Rn_pure 3 (i' := 28) (L' := [some (2, 2), some (0, p1), some (0, x10), some (0, g8 4 4), none, none, none, none]) (st' := [(0, 6), (0, p1)]) rfl ?_
    refine Rn_icne rfl (fun hc => ?_) (fun hc => ?_)
    · have h := h.1 hc
      refine Rn_pure 4 (i' := 36) (L' := [some (2, 2), some (0, p1), some (0, x10), some (0, g8 4 4), some (0, (-1)), none, none, none]) (st' := [(0, x10), (0, (-1))]) rfl ?_
      refine Rn_icne rfl (fun hc => ?_) (fun hc => ?_)
      · have h := h.1 hc
        refine Rn_pure 2 (i' := 43) (L' := [some (2, 2), some (0, p1), some (0, x10), some (0, g8 4 4), some (0, (-1)), none, none, none]) (st' := [(2, 2), (2, 2)]) rfl ?_
        refine Rn_callI [(2, 2)] [(2, 2)] rfl rfl rfl rfl (ab_rvB_of rfl (⟨rfl, (by omega : (0 : Int) ≤ 2), (by omega : (2 : Int) + 1 < K ∧ 5 < K)⟩)) ?_
        refine h.mono (fun x12 g' r' h => ?_)
        obtain ⟨hx, h⟩ := h
        replace hx := hx.symm
        subst hx
        obtain ⟨hx, h⟩ := h
        replace hx := hx.symm
        subst hx
        refine Rn_pure 1 (i' := 45) (L' := [some (2, 2), some (0, p1), some (0, x10), some (0, g8 4 4), some (0, (-1)), none, none, none]) (st' := [(0, 9999), (0, x12), (2, 2)]) rfl ?_
        refine Rn_callI [(2, 2), (0, x12), (0, 9999)] [] rfl rfl rfl rfl (ab_rvB_of rfl (⟨rfl, (by omega : (0 : Int) ≤ 2), (by omega : (2 : Int) + 1 < K ∧ 5 < K)⟩)) ?_
        refine h.mono (fun x15 g13 r14 h => ?_)
        obtain ⟨hr16, h⟩ := h
        refine Rn_pure 4 (i' := 50) (L' := [some (2, 2), some (0, p1), some (0, x10), some (0, g8 4 4), some (0, (-1)), some (0, x15), none, none]) (st' := [(0, 3), (0, 1), (2, 2)]) rfl ?_
        refine Rn_callI [(2, 2), (0, 1), (0, 3)] [] rfl rfl rfl rfl (ab_rvB_of rfl (⟨rfl, (by omega : (0 : Int) ≤ 2), (by omega : (2 : Int) + 1 < K ∧ 5 < K)⟩)) ?_
        refine h.mono (fun x19 g17 r18 h => ?_)
        obtain ⟨hr20, h⟩ := h
        refine Rn_pure 3 (i' := 54) (L' := [some (2, 2), some (0, p1), some (0, x10), some (0, g8 4 4), some (0, (-1)), some (0, x15), some (0, x19), some (0, 0)]) (st' := []) rfl ?_
        refine Rn_weak (L' := [some (2, 2), some (0, p1), some (0, x10), none, some (0, (-1)), some (0, x15), some (0, x19), some (0, 0)]) ⟨rfl, ⟨rfl, ⟨rfl, ⟨rfl, ⟨rfl, ⟨rfl, ⟨rfl, trivial⟩⟩⟩⟩⟩⟩⟩ ?_
        exact h
      · have h := h.2 hc
        refine Rn_pure 3 (i' := 40) (L' := [some (2, 2), some (0, p1), some (0, x10), some (0, g8 4 4), some (0, (-1)), none, none, none]) (st' := [(0, g8 4 4), (0, 3), (2, 2)]) rfl ?_
        refine Rn_callV [(2, 2), (0, 3), (0, g8 4 4)] [] rfl rfl rfl rfl (ab_rvB_of rfl (⟨rfl, (by omega : (0 : Int) ≤ 2), (by omega : (2 : Int) + 1 < K ∧ 5 < K)⟩)) ?_
        refine h.mono (fun g21 r' h => ?_)
        obtain ⟨hx, h⟩ := h
        replace hx := hx.symm
        subst hx
        refine Rn_pure 2 (i' := 43) (L' := [some (2, 2), some (0, p1), some (0, x10), some (0, g8 4 4), some (0, (-1)), none, none, none]) (st' := [(2, 2), (2, 2)]) rfl ?_
        refine Rn_callI [(2, 2)] [(2, 2)] rfl rfl rfl rfl (ab_rvB_of rfl (⟨rfl, (by omega : (0 : Int) ≤ 2), (by omega : (2 : Int) + 1 < K ∧ 5 < K)⟩)) ?_
        refine h.mono (fun x23 g' r' h => ?_)
        obtain ⟨hx, h⟩ := h
        replace hx := hx.symm
        subst hx
        obtain ⟨hx, h⟩ := h
        replace hx := hx.symm
        subst hx
        refine Rn_pure 1 (i' := 45) (L' := [some (2, 2), some (0, p1), some (0, x10), some (0, g8 4 4), some (0, (-1)), none, none, none]) (st' := [(0, 9999), (0, x23), (2, 2)]) rfl ?_
        refine Rn_callI [(2, 2), (0, x23), (0, 9999)] [] rfl rfl rfl rfl (ab_rvB_of rfl (⟨rfl, (by omega : (0 : Int) ≤ 2), (by omega : (2 : Int) + 1 < K ∧ 5 < K)⟩)) ?_
        refine h.mono (fun x26 g24 r25 h => ?_)
        obtain ⟨hr27, h⟩ := h
        refine Rn_pure 4 (i' := 50) (L' := [some (2, 2), some (0, p1), some (0, x10), some (0, g8 4 4), some (0, (-1)), some (0, x26), none, none]) (st' := [(0, 3), (0, 1), (2, 2)]) rfl ?_
        refine Rn_callI [(2, 2), (0, 1), (0, 3)] [] rfl rfl rfl rfl (ab_rvB_of rfl (⟨rfl, (by omega : (0 : Int) ≤ 2), (by omega : (2 : Int) + 1 < K ∧ 5 < K)⟩)) ?_
        refine h.mono (fun x30 g28 r29 h => ?_)
        obtain ⟨hr31, h⟩ := h
        refine Rn_pure 3 (i' := 54) (L' := [some (2, 2), some (0, p1), some (0, x10), some (0, g8 4 4), some (0, (-1)), some (0, x26), some (0, x30), some (0, 0)]) (st' := []) rfl ?_
        refine Rn_weak (L' := [some (2, 2), some (0, p1), some (0, x10), none, some (0, (-1)), some (0, x26), some (0, x30), some (0, 0)]) ⟨rfl, ⟨rfl, ⟨rfl, ⟨rfl, ⟨rfl, ⟨rfl, ⟨rfl, trivial⟩⟩⟩⟩⟩⟩⟩ ?_
        exact h
    · have h := h.2 hc
      refine Rn_pure 1 (i' := 30) (L' := [some (2, 2), some (0, p1), some (0, x10), some (0, g8 4 4), none, none, none, none]) (st' := [(2, 2)]) rfl ?_
      refine Rn_callI [(2, 2)] [] rfl rfl rfl rfl (ab_rvB_of rfl (⟨rfl, (by omega : (0 : Int) ≤ 2), (by omega : (2 : Int) + 1 < K ∧ 5 < K)⟩)) ?_
      refine h.mono (fun x34 g32 r33 h => ?_)
      obtain ⟨hr35, h⟩ := h
      refine Rn_pure 4 (i' := 36) (L' := [some (2, 2), some (0, p1), some (0, x10), some (0, g8 4 4), some (0, x34), none, none, none]) (st' := [(0, x10), (0, x34)]) rfl ?_
      refine Rn_icne rfl (fun hc => ?_) (fun hc => ?_)
      · have h := h.1 hc
        refine Rn_pure 2 (i' := 43) (L' := [some (2, 2), some (0, p1), some (0, x10), some (0, g8 4 4), some (0, x34), none, none, none]) (st' := [(2, 2), (2, 2)]) rfl ?_
        refine Rn_callI [(2, 2)] [(2, 2)] rfl rfl rfl rfl (ab_rvB_of rfl (⟨rfl, (by omega : (0 : Int) ≤ 2), (by omega : (2 : Int) + 1 < K ∧ 5 < K)⟩)) ?_
        refine h.mono (fun x36 g' r' h => ?_)
        obtain ⟨hx, h⟩ := h
        replace hx := hx.symm
        subst hx
        obtain ⟨hx, h⟩ := h
        replace hx := hx.symm
        subst hx
        refine Rn_pure 1 (i' := 45) (L' := [some (2, 2), some (0, p1), some (0, x10), some (0, g8 4 4), some (0, x34), none, none, none]) (st' := [(0, 9999), (0, x36), (2, 2)]) rfl ?_
        refine Rn_callI [(2, 2), (0, x36), (0, 9999)] [] rfl rfl rfl rfl (ab_rvB_of rfl (⟨rfl, (by omega : (0 : Int) ≤ 2), (by omega : (2 : Int) + 1 < K ∧ 5 < K)⟩)) ?_
        refine h.mono (fun x39 g37 r38 h => ?_)
        obtain ⟨hr40, h⟩ := h
        refine Rn_pure 4 (i' := 50) (L' := [some (2, 2), some (0, p1), some (0, x10), some (0, g8 4 4), some (0, x34), some (0, x39), none, none]) (st' := [(0, 3), (0, 1), (2, 2)]) rfl ?_
        refine Rn_callI [(2, 2), (0, 1), (0, 3)] [] rfl rfl rfl rfl (ab_rvB_of rfl (⟨rfl, (by omega : (0 : Int) ≤ 2), (by omega : (2 : Int) + 1 < K ∧ 5 < K)⟩)) ?_
        refine h.mono (fun x43 g41 r42 h => ?_)
        obtain ⟨hr44, h⟩ := h
        refine Rn_pure 3 (i' := 54) (L' := [some (2, 2), some (0, p1), some (0, x10), some (0, g8 4 4), some (0, x34), some (0, x39), some (0, x43), some (0, 0)]) (st' := []) rfl ?_
        refine Rn_weak (L' := [some (2, 2), some (0, p1), some (0, x10), none, some (0, x34), some (0, x39), some (0, x43), some (0, 0)]) ⟨rfl, ⟨rfl, ⟨rfl, ⟨rfl, ⟨rfl, ⟨rfl, ⟨rfl, trivial⟩⟩⟩⟩⟩⟩⟩ ?_
        exact h
      · have h := h.2 hc
        refine Rn_pure 3 (i' := 40) (L' := [some (2, 2), some (0, p1), some (0, x10), some (0, g8 4 4), some (0, x34), none, none, none]) (st' := [(0, g8 4 4), (0, 3), (2, 2)]) rfl ?_
        refine Rn_callV [(2, 2), (0, 3), (0, g8 4 4)] [] rfl rfl rfl rfl (ab_rvB_of rfl (⟨rfl, (by omega : (0 : Int) ≤ 2), (by omega : (2 : Int) + 1 < K ∧ 5 < K)⟩)) ?_
        refine h.mono (fun g45 r' h => ?_)
        obtain ⟨hx, h⟩ := h
        replace hx := hx.symm
        subst hx
        refine Rn_pure 2 (i' := 43) (L' := [some (2, 2), some (0, p1), some (0, x10), some (0, g8 4 4), some (0, x34), none, none, none]) (st' := [(2, 2), (2, 2)]) rfl ?_
        refine Rn_callI [(2, 2)] [(2, 2)] rfl rfl rfl rfl (ab_rvB_of rfl (⟨rfl, (by omega : (0 : Int) ≤ 2), (by omega : (2 : Int) + 1 < K ∧ 5 < K)⟩)) ?_
        refine h.mono (fun x47 g' r' h => ?_)
        obtain ⟨hx, h⟩ := h
        replace hx := hx.symm
        subst hx
        obtain ⟨hx, h⟩ := h
        replace hx := hx.symm
        subst hx
        refine Rn_pure 1 (i' := 45) (L' := [some (2, 2), some (0, p1), some (0, x10), some (0, g8 4 4), some (0, x34), none, none, none]) (st' := [(0, 9999), (0, x47), (2, 2)]) rfl ?_
        refine Rn_callI [(2, 2), (0, x47), (0, 9999)] [] rfl rfl rfl rfl (ab_rvB_of rfl (⟨rfl, (by omega : (0 : Int) ≤ 2), (by omega : (2 : Int) + 1 < K ∧ 5 < K)⟩)) ?_
        refine h.mono (fun x50 g48 r49 h => ?_)
        obtain ⟨hr51, h⟩ := h
        refine Rn_pure 4 (i' := 50) (L' := [some (2, 2), some (0, p1), some (0, x10), some (0, g8 4 4), some (0, x34), some (0, x50), none, none]) (st' := [(0, 3), (0, 1), (2, 2)]) rfl ?_
        refine Rn_callI [(2, 2), (0, 1), (0, 3)] [] rfl rfl rfl rfl (ab_rvB_of rfl (⟨rfl, (by omega : (0 : Int) ≤ 2), (by omega : (2 : Int) + 1 < K ∧ 5 < K)⟩)) ?_
        refine h.mono (fun x54 g52 r53 h => ?_)
        obtain ⟨hr55, h⟩ := h
        refine Rn_pure 3 (i' := 54) (L' := [some (2, 2), some (0, p1), some (0, x10), some (0, g8 4 4), some (0, x34), some (0, x50), some (0, x54), some (0, 0)]) (st' := []) rfl ?_
        refine Rn_weak (L' := [some (2, 2), some (0, p1), some (0, x10), none, some (0, x34), some (0, x50), some (0, x54), some (0, 0)]) ⟨rfl, ⟨rfl, ⟨rfl, ⟨rfl, ⟨rfl, ⟨rfl, ⟨rfl, trivial⟩⟩⟩⟩⟩⟩⟩ ?_
        exact h
  · have h := h.2 hc
    refine Rn_pure 3 (i' := 6) (L' := [some (2, 2), some (0, p1), none, none, none, none, none, none]) (st' := [(2, 2), (0, 1), (2, 2)]) rfl ?_
    refine Rn_getR rfl (⟨rfl, (by omega : (0 : Int) ≤ 2), (by omega : (2 : Int) + 1 < K ∧ 5 < K)⟩) (hr 13 _ rfl) (by decide) ?_
    refine Rn_getI rfl (⟨rfl, (by omega : (0 : Int) ≤ 4), (by omega : (4 : Int) + 1 < K ∧ 5 < K)⟩) ?_
    refine Rn_callV [(2, 2), (0, 1), (0, g 4 4)] [] rfl rfl rfl rfl (ab_rvB_of rfl (⟨rfl, (by omega : (0 : Int) ≤ 2), (by omega : (2 : Int) + 1 < K ∧ 5 < K)⟩)) ?_
    refine h.mono (fun g56 r' h => ?_)
    obtain ⟨hx, h⟩ := h
    replace hx := hx.symm
    subst hx
    exact Rn_ret0 rfl h
theorem v_Pa_readEvent_54 {K : Int} {S : Nat} {g r : ab_H} {l1 l2 l4 l5 l6 l7 : Int} (P : ab_H → ab_H → Prop) (hr : SI r) (hK : 186 ≤ K) (h : ((wr 3 ≤ wr l7 → ab_RV m_Pa_takeStop [(2, 2)] K S g r (fun g1 r2 => SI r2 ∧ (((¬ wr (g1 2 6) = wr 0 → P g1 r2) ∧ (wr (g1 2 6) = wr 0 → (isLg (r2 2 3)) ∧ ab_RV m_Lg_add [(2, r2 2 3), (0, l1), (0, l2), (0, l4), (0, l5), (0, l6), (2, 3)] K S g1 r2 (fun g6 r' => r' = r2 ∧ (P g6 r2))))))) ∧ (wr l7 < wr 3 → ((wr l6 ≤ wr l7 → ((0 : Int) ≤ l7 ∧ (l7 : Int) < 3) ∧ ∀ g8, g8 = ab_up g 3 l7 0 → ab_Rn m_Pa_readEvent 54 [some (2, 2), some (0, l1), some (0, l2), none, some (0, l4), some (0, l5), some (0, l6), some (0, l7 + 1)] [] (K, S, g8, r) (ab_Qv K S P)) ∧ (wr l7 < wr l6 → ab_RI m_Pa_takeNumber [(2, 2), (0, 0), (0, 99999)] K S g r (fun x11 g9 r10 => SI r10 ∧ (((0 : Int) ≤ l7 ∧ (l7 : Int) < 3) ∧ ∀ g13, g13 = ab_up g9 3 l7 x11 → ab_Rn m_Pa_readEvent 54 [some (2, 2), some (0, l1), some (0, l2), none, some (0, l4), some (0, l5), some (0, l6), some (0, l7 + 1)] [] (K, S, g13, r10) (ab_Qv K S P)))))))) : ab_Rn m_Pa_readEvent 54 [some (2, 2), some (0, l1), some (0, l2), none, some (0, l4), some (0, l5), some (0, l6), some (0, l7)] [] (K, S, g, r) (ab_Qv K S P) := by
  refine Rn_pure 2 (i' := 56) (L' := [some (2, 2), some (0, l1), some (0, l2), none, some (0, l4), some (0, l5), some (0, l6), some (0, l7)]) (st' := [(0, 3), (0, l7)]) rfl ?_
  refine Rn_icge rfl (fun hc => ?_) (fun hc => ?_)
  · have h := h.1 hc
    refine Rn_pure 1 (i' := 73) (L' := [some (2, 2), some (0, l1), some (0, l2), none, some (0, l4), some (0, l5), some (0, l6), some (0, l7)]) (st' := [(2, 2)]) rfl ?_
    refine Rn_callV [(2, 2)] [] rfl rfl rfl rfl (ab_rvB_of rfl (⟨rfl, (by omega : (0 : Int) ≤ 2), (by omega : (2 : Int) + 1 < K ∧ 5 < K)⟩)) ?_
    refine h.mono (fun g1 r2 h => ?_)
    obtain ⟨hr4, h⟩ := h
    refine Rn_pure 1 (i' := 75) (L' := [some (2, 2), some (0, l1), some (0, l2), none, some (0, l4), some (0, l5), some (0, l6), some (0, l7)]) (st' := [(2, 2)]) rfl ?_
    refine Rn_getI rfl (⟨rfl, (by omega : (0 : Int) ≤ 2), (by omega : (2 : Int) + 1 < K ∧ 5 < K)⟩) ?_
    refine Rn_ifne rfl (fun hc => ?_) (fun hc => ?_)
    · have h := h.1 hc
      exact Rn_ret0 rfl h
    · have h := h.2 hc
      refine Rn_pure 1 (i' := 78) (L' := [some (2, 2), some (0, l1), some (0, l2), none, some (0, l4), some (0, l5), some (0, l6), some (0, l7)]) (st' := [(2, 2)]) rfl ?_
      obtain ⟨hf5, h⟩ := h
      refine Rn_getR rfl (⟨rfl, (by omega : (0 : Int) ≤ 2), (by omega : (2 : Int) + 1 < K ∧ 5 < K)⟩) rfl (nn_Lg hf5) ?_
      refine Rn_pure 6 (i' := 85) (L' := [some (2, 2), some (0, l1), some (0, l2), none, some (0, l4), some (0, l5), some (0, l6), some (0, l7)]) (st' := [(2, 2), (0, l6), (0, l5), (0, l4), (0, l2), (0, l1), (2, r2 2 3)]) rfl ?_
      refine Rn_getR rfl (⟨rfl, (by omega : (0 : Int) ≤ 2), (by omega : (2 : Int) + 1 < K ∧ 5 < K)⟩) (hr4 12 _ rfl) (by decide) ?_
      refine Rn_callV [(2, r2 2 3), (0, l1), (0, l2), (0, l4), (0, l5), (0, l6), (2, 3)] [] rfl rfl rfl rfl (ab_rvB_of rfl (ob_Lg hf5 hK)) ?_
      refine h.mono (fun g6 r' h => ?_)
      obtain ⟨hx, h⟩ := h
      replace hx := hx.symm
      subst hx
      exact Rn_ret0 rfl h
  · have h := h.2 hc
    refine Rn_pure 1 (i' := 58) (L' := [some (2, 2), some (0, l1), some (0, l2), none, some (0, l4), some (0, l5), some (0, l6), some (0, l7)]) (st' := [(2, 2)]) rfl ?_
    refine Rn_getR rfl (⟨rfl, (by omega : (0 : Int) ≤ 2), (by omega : (2 : Int) + 1 < K ∧ 5 < K)⟩) (hr 12 _ rfl) (by decide) ?_
    refine Rn_pure 3 (i' := 62) (L' := [some (2, 2), some (0, l1), some (0, l2), none, some (0, l4), some (0, l5), some (0, l6), some (0, l7)]) (st' := [(0, l6), (0, l7), (0, l7), (2, 3)]) rfl ?_
    refine Rn_icge rfl (fun hc => ?_) (fun hc => ?_)
    · have h := h.1 hc
      refine Rn_pure 1 (i' := 69) (L' := [some (2, 2), some (0, l1), some (0, l2), none, some (0, l4), some (0, l5), some (0, l6), some (0, l7)]) (st' := [(0, 0), (0, l7), (2, 3)]) rfl ?_
      obtain ⟨hg, h⟩ := h
      refine Rn_iast rfl (⟨rfl, (by omega : (0 : Int) ≤ 3), (by omega : (3 : Int) + 1 < K ∧ 5 < K)⟩) hg (fun g8 he_g8 => ?_)
      have h := h g8 he_g8
      refine Rn_pure 2 (i' := 54) (L' := [some (2, 2), some (0, l1), some (0, l2), none, some (0, l4), some (0, l5), some (0, l6), some (0, l7 + 1)]) (st' := []) rfl ?_
      exact h
    · have h := h.2 hc
      refine Rn_pure 3 (i' := 66) (L' := [some (2, 2), some (0, l1), some (0, l2), none, some (0, l4), some (0, l5), some (0, l6), some (0, l7)]) (st' := [(0, 99999), (0, 0), (2, 2), (0, l7), (2, 3)]) rfl ?_
      refine Rn_callI [(2, 2), (0, 0), (0, 99999)] [(0, l7), (2, 3)] rfl rfl rfl rfl (ab_rvB_of rfl (⟨rfl, (by omega : (0 : Int) ≤ 2), (by omega : (2 : Int) + 1 < K ∧ 5 < K)⟩)) ?_
      refine h.mono (fun x11 g9 r10 h => ?_)
      obtain ⟨hr12, h⟩ := h
      refine Rn_pure 1 (i' := 69) (L' := [some (2, 2), some (0, l1), some (0, l2), none, some (0, l4), some (0, l5), some (0, l6), some (0, l7)]) (st' := [(0, x11), (0, l7), (2, 3)]) rfl ?_
      obtain ⟨hg, h⟩ := h
      refine Rn_iast rfl (⟨rfl, (by omega : (0 : Int) ≤ 3), (by omega : (3 : Int) + 1 < K ∧ 5 < K)⟩) hg (fun g13 he_g13 => ?_)
      have h := h g13 he_g13
      refine Rn_pure 2 (i' := 54) (L' := [some (2, 2), some (0, l1), some (0, l2), none, some (0, l4), some (0, l5), some (0, l6), some (0, l7 + 1)]) (st' := []) rfl ?_
      exact h
-- EventLedger$Parser.needRoom (II)V
theorem v_Pa_needRoom {K : Int} {S : Nat} {g r : ab_H} {p1 p2 : Int} (P : ab_H → ab_H → Prop) (hr : SI r) (hK : 186 ≤ K) (h : ((wr p1 < wr p2 → P g r) ∧ (wr p2 ≤ wr p1 → ab_RV m_Pa_fail [(2, 2), (0, 2), (0, g 4 4)] K S g r (fun g1 r' => r' = r ∧ (P g1 r))))) : ab_RV m_Pa_needRoom [(2, 2), (0, p1), (0, p2)] K S g r P := by
  show ab_Rn m_Pa_needRoom 0 [some (2, 2), some (0, p1), some (0, p2)] [] (K, S, g, r) (ab_Qv K S P)
  refine Rn_pure 2 (i' := 2) (L' := [some (2, 2), some (0, p1), some (0, p2)]) (st' := [(0, p2), (0, p1)]) rfl ?_
  refine Rn_iclt rfl (fun hc => ?_) (fun hc => ?_)
  · have h := h.1 hc
    exact Rn_ret0 rfl h
  · have h := h.2 hc
    refine Rn_pure 3 (i' := 6) (L' := [some (2, 2), some (0, p1), some (0, p2)]) (st' := [(2, 2), (0, 2), (2, 2)]) rfl ?_
    refine Rn_getR rfl (⟨rfl, (by omega : (0 : Int) ≤ 2), (by omega : (2 : Int) + 1 < K ∧ 5 < K)⟩) (hr 13 _ rfl) (by decide) ?_
    refine Rn_getI rfl (⟨rfl, (by omega : (0 : Int) ≤ 4), (by omega : (4 : Int) + 1 < K ∧ 5 < K)⟩) ?_
    refine Rn_callV [(2, 2), (0, 2), (0, g 4 4)] [] rfl rfl rfl rfl (ab_rvB_of rfl (⟨rfl, (by omega : (0 : Int) ≤ 2), (by omega : (2 : Int) + 1 < K ∧ 5 < K)⟩)) ?_
    refine h.mono (fun g1 r' h => ?_)
    obtain ⟨hx, h⟩ := h
    replace hx := hx.symm
    subst hx
    exact Rn_ret0 rfl h
-- EventLedger$Parser.fail (II)V
theorem v_Pa_fail {K : Int} {S : Nat} {g r : ab_H} {p1 p2 : Int} (P : ab_H → ab_H → Prop) (hr : SI r) (hK : 186 ≤ K) (h : ((¬ wr (g 2 6) = wr 0 → P g r) ∧ (wr (g 2 6) = wr 0 → ∀ g1, g1 = ab_up g 2 6 p1 → ∀ g2, g2 = ab_up g1 2 7 p2 → P g2 r))) : ab_RV m_Pa_fail [(2, 2), (0, p1), (0, p2)] K S g r P := by
  show ab_Rn m_Pa_fail 0 [some (2, 2), some (0, p1), some (0, p2)] [] (K, S, g, r) (ab_Qv K S P)
  refine Rn_pure 1 (i' := 1) (L' := [some (2, 2), some (0, p1), some (0, p2)]) (st' := [(2, 2)]) rfl ?_
  refine Rn_getI rfl (⟨rfl, (by omega : (0 : Int) ≤ 2), (by omega : (2 : Int) + 1 < K ∧ 5 < K)⟩) ?_
  refine Rn_ifne rfl (fun hc => ?_) (fun hc => ?_)
  · have h := h.1 hc
    exact Rn_ret0 rfl h
  · have h := h.2 hc
    refine Rn_pure 2 (i' := 5) (L' := [some (2, 2), some (0, p1), some (0, p2)]) (st' := [(0, p1), (2, 2)]) rfl ?_
    refine Rn_putI rfl (⟨rfl, (by omega : (0 : Int) ≤ 2), (by omega : (2 : Int) + 1 < K ∧ 5 < K)⟩) (fun g1 he_g1 => ?_)
    have h := h g1 he_g1
    refine Rn_pure 2 (i' := 8) (L' := [some (2, 2), some (0, p1), some (0, p2)]) (st' := [(0, p2), (2, 2)]) rfl ?_
    refine Rn_putI rfl (⟨rfl, (by omega : (0 : Int) ≤ 2), (by omega : (2 : Int) + 1 < K ∧ 5 < K)⟩) (fun g2 he_g2 => ?_)
    have h := h g2 he_g2
    exact Rn_ret0 rfl h
-- EventLedger$Parser.stands (I)Z
theorem v_Pa_stands {K : Int} {S : Nat} {g r : ab_H} {p1 : Int} (P : Int → ab_H → ab_H → Prop) (hr : SI r) (hK : 186 ≤ K) (h : ((wr (g 4 3) = wr p1 → ((¬ wr (g 2 6) = wr 0 → P 0 g r) ∧ (wr (g 2 6) = wr 0 → P 1 g r))) ∧ (¬ wr (g 4 3) = wr p1 → ab_RV m_Pa_fail [(2, 2), (0, 1), (0, g 4 4)] K S g r (fun g1 r' => r' = r ∧ (((¬ wr (g1 2 6) = wr 0 → P 0 g1 r) ∧ (wr (g1 2 6) = wr 0 → P 1 g1 r))))))) : ab_RI m_Pa_stands [(2, 2), (0, p1)] K S g r P := by
  show ab_Rn m_Pa_stands 0 [some (2, 2), some (0, p1)] [] (K, S, g, r) (ab_Qi K S P)
  refine Rn_pure 1 (i' := 1) (L' := [some (2, 2), some (0, p1)]) (st' := [(2, 2)]) rfl ?_
  refine Rn_getR rfl (⟨rfl, (by omega : (0 : Int) ≤ 2), (by omega : (2 : Int) + 1 < K ∧ 5 < K)⟩) (hr 13 _ rfl) (by decide) ?_
  refine Rn_getI rfl (⟨rfl, (by omega : (0 : Int) ≤ 4), (by omega : (4 : Int) + 1 < K ∧ 5 < K)⟩) ?_
  refine Rn_pure 1 (i' := 4) (L' := [some (2, 2), some (0, p1)]) (st' := [(0, p1), (0, g 4 3)]) rfl ?_
  refine Rn_iceq rfl (fun hc => ?_) (fun hc => ?_)
  · have h := h.1 hc
    refine Rn_pure 1 (i' := 12) (L' := [some (2, 2), some (0, p1)]) (st' := [(2, 2)]) rfl ?_
    refine Rn_getI rfl (⟨rfl, (by omega : (0 : Int) ≤ 2), (by omega : (2 : Int) + 1 < K ∧ 5 < K)⟩) ?_
    refine Rn_ifne rfl (fun hc => ?_) (fun hc => ?_)
    · have h := h.1 hc
      refine Rn_pure 1 (i' := 17) (L' := [some (2, 2), some (0, p1)]) (st' := [(0, 0)]) rfl ?_
      exact Rn_ret2 rfl (by decide) h
    · have h := h.2 hc
      refine Rn_pure 2 (i' := 17) (L' := [some (2, 2), some (0, p1)]) (st' := [(0, 1)]) rfl ?_
      exact Rn_ret2 rfl (by decide) h
  · have h := h.2 hc
    refine Rn_pure 3 (i' := 8) (L' := [some (2, 2), some (0, p1)]) (st' := [(2, 2), (0, 1), (2, 2)]) rfl ?_
    refine Rn_getR rfl (⟨rfl, (by omega : (0 : Int) ≤ 2), (by omega : (2 : Int) + 1 < K ∧ 5 < K)⟩) (hr 13 _ rfl) (by decide) ?_
    refine Rn_getI rfl (⟨rfl, (by omega : (0 : Int) ≤ 4), (by omega : (4 : Int) + 1 < K ∧ 5 < K)⟩) ?_
    refine Rn_callV [(2, 2), (0, 1), (0, g 4 4)] [] rfl rfl rfl rfl (ab_rvB_of rfl (⟨rfl, (by omega : (0 : Int) ≤ 2), (by omega : (2 : Int) + 1 < K ∧ 5 < K)⟩)) ?_
    refine h.mono (fun g1 r' h => ?_)
    obtain ⟨hx, h⟩ := h
    replace hx := hx.symm
    subst hx
    refine Rn_pure 1 (i' := 12) (L' := [some (2, 2), some (0, p1)]) (st' := [(2, 2)]) rfl ?_
    refine Rn_getI rfl (⟨rfl, (by omega : (0 : Int) ≤ 2), (by omega : (2 : Int) + 1 < K ∧ 5 < K)⟩) ?_
    refine Rn_ifne rfl (fun hc => ?_) (fun hc => ?_)
    · have h := h.1 hc
      refine Rn_pure 1 (i' := 17) (L' := [some (2, 2), some (0, p1)]) (st' := [(0, 0)]) rfl ?_
      exact Rn_ret2 rfl (by decide) h
    · have h := h.2 hc
      refine Rn_pure 2 (i' := 17) (L' := [some (2, 2), some (0, p1)]) (st' := [(0, 1)]) rfl ?_
      exact Rn_ret2 rfl (by decide) h
-- EventLedger$Parser.takeStop ()V
theorem v_Pa_takeStop {K : Int} {S : Nat} {g r : ab_H} (P : ab_H → ab_H → Prop) (hr : SI r) (hK : 186 ≤ K) (h : ab_RI m_Pa_stands [(2, 2), (0, 4)] K S g r (fun x2 g1 r' => r' = r ∧ (((wr x2 = wr 0 → P g1 r) ∧ (¬ wr x2 = wr 0 → ab_RV m_To_advance [(2, 4)] K S g1 r (fun g3 r4 => SI r4 ∧ (P g3 r4))))))) : ab_RV m_Pa_takeStop [(2, 2)] K S g r P := by
  show ab_Rn m_Pa_takeStop 0 [some (2, 2)] [] (K, S, g, r) (ab_Qv K S P)
  refine Rn_pure 2 (i' := 2) (L' := [some (2, 2)]) (st' := [(0, 4), (2, 2)]) rfl ?_
  refine Rn_callI [(2, 2), (0, 4)] [] rfl rfl rfl rfl (ab_rvB_of rfl (⟨rfl, (by omega : (0 : Int) ≤ 2), (by omega : (2 : Int) + 1 < K ∧ 5 < K)⟩)) ?_
  refine h.mono (fun x2 g1 r' h => ?_)
  obtain ⟨hx, h⟩ := h
  replace hx := hx.symm
  subst hx
  refine Rn_ifeq rfl (fun hc => ?_) (fun hc => ?_)
  · have h := h.1 hc
    exact Rn_ret0 rfl h
  · have h := h.2 hc
    refine Rn_pure 1 (i' := 5) (L' := [some (2, 2)]) (st' := [(2, 2)]) rfl ?_
    refine Rn_getR rfl (⟨rfl, (by omega : (0 : Int) ≤ 2), (by omega : (2 : Int) + 1 < K ∧ 5 < K)⟩) (hr 13 _ rfl) (by decide) ?_
    refine Rn_callV [(2, 4)] [] rfl rfl rfl rfl (ab_rvB_of rfl (⟨rfl, (by omega : (0 : Int) ≤ 4), (by omega : (4 : Int) + 1 < K ∧ 5 < K)⟩)) ?_
    refine h.mono (fun g3 r4 h => ?_)
    obtain ⟨hr6, h⟩ := h
    exact Rn_ret0 rfl h
-- EventLedger$Parser.takeName ()I
theorem v_Pa_takeName {K : Int} {S : Nat} {g r : ab_H} (P : Int → ab_H → ab_H → Prop) (hr : SI r) (hK : 186 ≤ K) (h : ab_RI m_Pa_stands [(2, 2), (0, 2)] K S g r (fun x2 g1 r' => r' = r ∧ (((¬ wr x2 = wr 0 → ab_RV m_To_advance [(2, 4)] K S g1 r (fun g3 r4 => SI r4 ∧ (P (g1 4 6) g3 r4))) ∧ (wr x2 = wr 0 → P 0 g1 r))))) : ab_RI m_Pa_takeName [(2, 2)] K S g r P := by
  show ab_Rn m_Pa_takeName 0 [some (2, 2), none] [] (K, S, g, r) (ab_Qi K S P)
  refine Rn_pure 2 (i' := 2) (L' := [some (2, 2), none]) (st' := [(0, 2), (2, 2)]) rfl ?_
  refine Rn_callI [(2, 2), (0, 2)] [] rfl rfl rfl rfl (ab_rvB_of rfl (⟨rfl, (by omega : (0 : Int) ≤ 2), (by omega : (2 : Int) + 1 < K ∧ 5 < K)⟩)) ?_
  refine h.mono (fun x2 g1 r' h => ?_)
  obtain ⟨hx, h⟩ := h
  replace hx := hx.symm
  subst hx
  refine Rn_ifne rfl (fun hc => ?_) (fun hc => ?_)
  · have h := h.1 hc
    refine Rn_pure 1 (i' := 7) (L' := [some (2, 2), none]) (st' := [(2, 2)]) rfl ?_
    refine Rn_getR rfl (⟨rfl, (by omega : (0 : Int) ≤ 2), (by omega : (2 : Int) + 1 < K ∧ 5 < K)⟩) (hr 13 _ rfl) (by decide) ?_
    refine Rn_getI rfl (⟨rfl, (by omega : (0 : Int) ≤ 4), (by omega : (4 : Int) + 1 < K ∧ 5 < K)⟩) ?_
    refine Rn_pure 2 (i' := 11) (L' := [some (2, 2), some (0, g1 4 6)]) (st' := [(2, 2)]) rfl ?_
    refine Rn_getR rfl (⟨rfl, (by omega : (0 : Int) ≤ 2), (by omega : (2 : Int) + 1 < K ∧ 5 < K)⟩) (hr 13 _ rfl) (by decide) ?_
    refine Rn_callV [(2, 4)] [] rfl rfl rfl rfl (ab_rvB_of rfl (⟨rfl, (by omega : (0 : Int) ≤ 4), (by omega : (4 : Int) + 1 < K ∧ 5 < K)⟩)) ?_
    refine h.mono (fun g3 r4 h => ?_)
    obtain ⟨hr6, h⟩ := h
    refine Rn_pure 1 (i' := 14) (L' := [some (2, 2), some (0, g1 4 6)]) (st' := [(0, g1 4 6)]) rfl ?_
    exact Rn_ret1 rfl h
  · have h := h.2 hc
    refine Rn_pure 1 (i' := 5) (L' := [some (2, 2), none]) (st' := [(0, 0)]) rfl ?_
    exact Rn_ret1 rfl h
-- EventLedger$Parser.takeNumber (II)I
theorem v_Pa_takeNumber {K : Int} {S : Nat} {g r : ab_H} {p1 p2 : Int} (P : Int → ab_H → ab_H → Prop) (hr : SI r) (hK : 186 ≤ K) (h : ab_RI m_Pa_stands [(2, 2), (0, 3)] K S g r (fun x2 g1 r' => r' = r ∧ (((¬ wr x2 = wr 0 → ((wr (g1 4 7) < wr p1 → ab_RV m_Pa_fail [(2, 2), (0, 2), (0, g1 4 4)] K S g1 r (fun g3 r' => r' = r ∧ (P p1 g3 r))) ∧ (wr p1 ≤ wr (g1 4 7) → ((wr (g1 4 7) ≤ wr p2 → ab_RV m_To_advance [(2, 4)] K S g1 r (fun g5 r6 => SI r6 ∧ (P (g1 4 7) g5 r6))) ∧ (wr p2 < wr (g1 4 7) → ab_RV m_Pa_fail [(2, 2), (0, 2), (0, g1 4 4)] K S g1 r (fun g9 r' => r' = r ∧ (P p1 g9 r))))))) ∧ (wr x2 = wr 0 → P p1 g1 r))))) : ab_RI m_Pa_takeNumber [(2, 2), (0, p1), (0, p2)] K S g r P := by
  show ab_Rn m_Pa_takeNumber 0 [some (2, 2), some (0, p1), some (0, p2), none] [] (K, S, g, r) (ab_Qi K S P)
  refine Rn_pure 2 (i' := 2) (L' := [some (2, 2), some (0, p1), some (0, p2), none]) (st' := [(0, 3), (2, 2)]) rfl ?_
  refine Rn_callI [(2, 2), (0, 3)] [] rfl rfl rfl rfl (ab_rvB_of rfl (⟨rfl, (by omega : (0 : Int) ≤ 2), (by omega : (2 : Int) + 1 < K ∧ 5 < K)⟩)) ?_
  refine h.mono (fun x2 g1 r' h => ?_)
  obtain ⟨hx, h⟩ := h
  replace hx := hx.symm
  subst hx
  refine Rn_ifne rfl (fun hc => ?_) (fun hc => ?_)
  · have h := h.1 hc
    refine Rn_pure 1 (i' := 7) (L' := [some (2, 2), some (0, p1), some (0, p2), none]) (st' := [(2, 2)]) rfl ?_
    refine Rn_getR rfl (⟨rfl, (by omega : (0 : Int) ≤ 2), (by omega : (2 : Int) + 1 < K ∧ 5 < K)⟩) (hr 13 _ rfl) (by decide) ?_
    refine Rn_getI rfl (⟨rfl, (by omega : (0 : Int) ≤ 4), (by omega : (4 : Int) + 1 < K ∧ 5 < K)⟩) ?_
    refine Rn_pure 3 (i' := 12) (L' := [some (2, 2), some (0, p1), some (0, p2), some (0, g1 4 7)]) (st' := [(0, p1), (0, g1 4 7)]) rfl ?_
    refine Rn_iclt rfl (fun hc => ?_) (fun hc => ?_)
    · have h := h.1 hc
      refine Rn_pure 3 (i' := 19) (L' := [some (2, 2), some (0, p1), some (0, p2), some (0, g1 4 7)]) (st' := [(2, 2), (0, 2), (2, 2)]) rfl ?_
      refine Rn_getR rfl (⟨rfl, (by omega : (0 : Int) ≤ 2), (by omega : (2 : Int) + 1 < K ∧ 5 < K)⟩) (hr 13 _ rfl) (by decide) ?_
      refine Rn_getI rfl (⟨rfl, (by omega : (0 : Int) ≤ 4), (by omega : (4 : Int) + 1 < K ∧ 5 < K)⟩) ?_
      refine Rn_callV [(2, 2), (0, 2), (0, g1 4 4)] [] rfl rfl rfl rfl (ab_rvB_of rfl (⟨rfl, (by omega : (0 : Int) ≤ 2), (by omega : (2 : Int) + 1 < K ∧ 5 < K)⟩)) ?_
      refine h.mono (fun g3 r' h => ?_)
      obtain ⟨hx, h⟩ := h
      replace hx := hx.symm
      subst hx
      refine Rn_pure 1 (i' := 23) (L' := [some (2, 2), some (0, p1), some (0, p2), some (0, g1 4 7)]) (st' := [(0, p1)]) rfl ?_
      exact Rn_ret1 rfl h
    · have h := h.2 hc
      refine Rn_pure 2 (i' := 15) (L' := [some (2, 2), some (0, p1), some (0, p2), some (0, g1 4 7)]) (st' := [(0, p2), (0, g1 4 7)]) rfl ?_
      refine Rn_icle rfl (fun hc => ?_) (fun hc => ?_)
      · have h := h.1 hc
        refine Rn_pure 1 (i' := 25) (L' := [some (2, 2), some (0, p1), some (0, p2), some (0, g1 4 7)]) (st' := [(2, 2)]) rfl ?_
        refine Rn_getR rfl (⟨rfl, (by omega : (0 : Int) ≤ 2), (by omega : (2 : Int) + 1 < K ∧ 5 < K)⟩) (hr 13 _ rfl) (by decide) ?_
        refine Rn_callV [(2, 4)] [] rfl rfl rfl rfl (ab_rvB_of rfl (⟨rfl, (by omega : (0 : Int) ≤ 4), (by omega : (4 : Int) + 1 < K ∧ 5 < K)⟩)) ?_
        refine h.mono (fun g5 r6 h => ?_)
        obtain ⟨hr8, h⟩ := h
        refine Rn_pure 1 (i' := 28) (L' := [some (2, 2), some (0, p1), some (0, p2), some (0, g1 4 7)]) (st' := [(0, g1 4 7)]) rfl ?_
        exact Rn_ret1 rfl h
      · have h := h.2 hc
        refine Rn_pure 3 (i' := 19) (L' := [some (2, 2), some (0, p1), some (0, p2), some (0, g1 4 7)]) (st' := [(2, 2), (0, 2), (2, 2)]) rfl ?_
        refine Rn_getR rfl (⟨rfl, (by omega : (0 : Int) ≤ 2), (by omega : (2 : Int) + 1 < K ∧ 5 < K)⟩) (hr 13 _ rfl) (by decide) ?_
        refine Rn_getI rfl (⟨rfl, (by omega : (0 : Int) ≤ 4), (by omega : (4 : Int) + 1 < K ∧ 5 < K)⟩) ?_
        refine Rn_callV [(2, 2), (0, 2), (0, g1 4 4)] [] rfl rfl rfl rfl (ab_rvB_of rfl (⟨rfl, (by omega : (0 : Int) ≤ 2), (by omega : (2 : Int) + 1 < K ∧ 5 < K)⟩)) ?_
        refine h.mono (fun g9 r' h => ?_)
        obtain ⟨hx, h⟩ := h
        replace hx := hx.symm
        subst hx
        refine Rn_pure 1 (i' := 23) (L' := [some (2, 2), some (0, p1), some (0, p2), some (0, g1 4 7)]) (st' := [(0, p1)]) rfl ?_
        exact Rn_ret1 rfl h
  · have h := h.2 hc
    refine Rn_pure 1 (i' := 5) (L' := [some (2, 2), some (0, p1), some (0, p2), none]) (st' := [(0, p1)]) rfl ?_
    exact Rn_ret1 rfl h
-- EventLedger$Parser.leastTime ()I
theorem v_Pa_leastTime {K : Int} {S : Nat} {g r : ab_H} (P : Int → ab_H → ab_H → Prop) (hr : SI r) (hK : 186 ≤ K) (h : (isLg (r 2 3)) ∧ ab_RI m_Lg_latestTime [(2, r 2 3)] K S g r (fun x2 g' r' => g' = g ∧ r' = r ∧ (P (ab_max 0 x2) g r))) : ab_RI m_Pa_leastTime [(2, 2)] K S g r P := by
  show ab_Rn m_Pa_leastTime 0 [some (2, 2)] [] (K, S, g, r) (ab_Qi K S P)
  refine Rn_pure 2 (i' := 2) (L' := [some (2, 2)]) (st' := [(2, 2), (0, 0)]) rfl ?_
  obtain ⟨hf1, h⟩ := h
  refine Rn_getR rfl (⟨rfl, (by omega : (0 : Int) ≤ 2), (by omega : (2 : Int) + 1 < K ∧ 5 < K)⟩) rfl (nn_Lg hf1) ?_
  refine Rn_callI [(2, r 2 3)] [(0, 0)] rfl rfl rfl rfl (ab_rvB_of rfl (ob_Lg hf1 hK)) ?_
  refine h.mono (fun x2 g' r' h => ?_)
  obtain ⟨hx, h⟩ := h
  replace hx := hx.symm
  subst hx
  obtain ⟨hx, h⟩ := h
  replace hx := hx.symm
  subst hx
  refine Rn_max rfl (by decide) ?_
  exact Rn_ret1 rfl h
-- EventLedger$Parser.takeAccount ()I
theorem v_Pa_takeAccount {K : Int} {S : Nat} {g r : ab_H} (P : Int → ab_H → ab_H → Prop) (hr : SI r) (hK : 186 ≤ K) (h : ab_RI m_Pa_stands [(2, 2), (0, 2)] K S g r (fun x2 g1 r' => r' = r ∧ (((¬ wr x2 = wr 0 → (isTe (r 2 2)) ∧ ab_RI m_Te_accountNamed [(2, r 2 2), (0, g1 4 6)] K S g1 r (fun x4 g' r' => g' = g1 ∧ r' = r ∧ (((¬ wr x4 = wr (-1) → ab_RV m_To_advance [(2, 4)] K S g1 r (fun g5 r6 => SI r6 ∧ (P x4 g5 r6))) ∧ (wr x4 = wr (-1) → ab_RV m_Pa_fail [(2, 2), (0, 4), (0, g1 4 4)] K S g1 r (fun g9 r' => r' = r ∧ (P 0 g9 r))))))) ∧ (wr x2 = wr 0 → P 0 g1 r))))) : ab_RI m_Pa_takeAccount [(2, 2)] K S g r P := by
  show ab_Rn m_Pa_takeAccount 0 [some (2, 2), none] [] (K, S, g, r) (ab_Qi K S P)
  refine Rn_pure 2 (i' := 2) (L' := [some (2, 2), none]) (st' := [(0, 2), (2, 2)]) rfl ?_
  refine Rn_callI [(2, 2), (0, 2)] [] rfl rfl rfl rfl (ab_rvB_of rfl (⟨rfl, (by omega : (0 : Int) ≤ 2), (by omega : (2 : Int) + 1 < K ∧ 5 < K)⟩)) ?_
  refine h.mono (fun x2 g1 r' h => ?_)
  obtain ⟨hx, h⟩ := h
  replace hx := hx.symm
  subst hx
  refine Rn_ifne rfl (fun hc => ?_) (fun hc => ?_)
  · have h := h.1 hc
    refine Rn_pure 1 (i' := 7) (L' := [some (2, 2), none]) (st' := [(2, 2)]) rfl ?_
    obtain ⟨hf3, h⟩ := h
    refine Rn_getR rfl (⟨rfl, (by omega : (0 : Int) ≤ 2), (by omega : (2 : Int) + 1 < K ∧ 5 < K)⟩) rfl (nn_Te hf3) ?_
    refine Rn_pure 1 (i' := 9) (L' := [some (2, 2), none]) (st' := [(2, 2), (2, r 2 2)]) rfl ?_
    refine Rn_getR rfl (⟨rfl, (by omega : (0 : Int) ≤ 2), (by omega : (2 : Int) + 1 < K ∧ 5 < K)⟩) (hr 13 _ rfl) (by decide) ?_
    refine Rn_getI rfl (⟨rfl, (by omega : (0 : Int) ≤ 4), (by omega : (4 : Int) + 1 < K ∧ 5 < K)⟩) ?_
    refine Rn_callI [(2, r 2 2), (0, g1 4 6)] [] rfl rfl rfl rfl (ab_rvB_of rfl (ob_Te hf3 hK)) ?_
    refine h.mono (fun x4 g' r' h => ?_)
    obtain ⟨hx, h⟩ := h
    replace hx := hx.symm
    subst hx
    obtain ⟨hx, h⟩ := h
    replace hx := hx.symm
    subst hx
    refine Rn_pure 3 (i' := 15) (L' := [some (2, 2), some (0, x4)]) (st' := [(0, (-1)), (0, x4)]) rfl ?_
    refine Rn_icne rfl (fun hc => ?_) (fun hc => ?_)
    · have h := h.1 hc
      refine Rn_pure 1 (i' := 25) (L' := [some (2, 2), some (0, x4)]) (st' := [(2, 2)]) rfl ?_
      refine Rn_getR rfl (⟨rfl, (by omega : (0 : Int) ≤ 2), (by omega : (2 : Int) + 1 < K ∧ 5 < K)⟩) (hr 13 _ rfl) (by decide) ?_
      refine Rn_callV [(2, 4)] [] rfl rfl rfl rfl (ab_rvB_of rfl (⟨rfl, (by omega : (0 : Int) ≤ 4), (by omega : (4 : Int) + 1 < K ∧ 5 < K)⟩)) ?_
      refine h.mono (fun g5 r6 h => ?_)
      obtain ⟨hr8, h⟩ := h
      refine Rn_pure 1 (i' := 28) (L' := [some (2, 2), some (0, x4)]) (st' := [(0, x4)]) rfl ?_
      exact Rn_ret1 rfl h
    · have h := h.2 hc
      refine Rn_pure 3 (i' := 19) (L' := [some (2, 2), some (0, x4)]) (st' := [(2, 2), (0, 4), (2, 2)]) rfl ?_
      refine Rn_getR rfl (⟨rfl, (by omega : (0 : Int) ≤ 2), (by omega : (2 : Int) + 1 < K ∧ 5 < K)⟩) (hr 13 _ rfl) (by decide) ?_
      refine Rn_getI rfl (⟨rfl, (by omega : (0 : Int) ≤ 4), (by omega : (4 : Int) + 1 < K ∧ 5 < K)⟩) ?_
      refine Rn_callV [(2, 2), (0, 4), (0, g1 4 4)] [] rfl rfl rfl rfl (ab_rvB_of rfl (⟨rfl, (by omega : (0 : Int) ≤ 2), (by omega : (2 : Int) + 1 < K ∧ 5 < K)⟩)) ?_
      refine h.mono (fun g9 r' h => ?_)
      obtain ⟨hx, h⟩ := h
      replace hx := hx.symm
      subst hx
      refine Rn_pure 1 (i' := 23) (L' := [some (2, 2), some (0, x4)]) (st' := [(0, 0)]) rfl ?_
      exact Rn_ret1 rfl h
  · have h := h.2 hc
    refine Rn_pure 1 (i' := 5) (L' := [some (2, 2), none]) (st' := [(0, 0)]) rfl ?_
    exact Rn_ret1 rfl h
-- EventLedger$Parser.takeNamed (I)I
theorem v_Pa_takeNamed {K : Int} {S : Nat} {g r : ab_H} {p1 : Int} (P : Int → ab_H → ab_H → Prop) (hr : SI r) (hK : 186 ≤ K) (h : ab_RI m_Pa_stands [(2, 2), (0, 1)] K S g r (fun x2 g1 r' => r' = r ∧ (((¬ wr x2 = wr 0 → ((¬ wr p1 = wr (-1) → ab_RV m_To_advance [(2, 4)] K S g1 r (fun g3 r4 => SI r4 ∧ (P p1 g3 r4))) ∧ (wr p1 = wr (-1) → ab_RV m_Pa_fail [(2, 2), (0, 1), (0, g1 4 4)] K S g1 r (fun g7 r' => r' = r ∧ (P 0 g7 r))))) ∧ (wr x2 = wr 0 → P 0 g1 r))))) : ab_RI m_Pa_takeNamed [(2, 2), (0, p1)] K S g r P := by
  show ab_Rn m_Pa_takeNamed 0 [some (2, 2), some (0, p1)] [] (K, S, g, r) (ab_Qi K S P)
  refine Rn_pure 2 (i' := 2) (L' := [some (2, 2), some (0, p1)]) (st' := [(0, 1), (2, 2)]) rfl ?_
  refine Rn_callI [(2, 2), (0, 1)] [] rfl rfl rfl rfl (ab_rvB_of rfl (⟨rfl, (by omega : (0 : Int) ≤ 2), (by omega : (2 : Int) + 1 < K ∧ 5 < K)⟩)) ?_
  refine h.mono (fun x2 g1 r' h => ?_)
  obtain ⟨hx, h⟩ := h
  replace hx := hx.symm
  subst hx
  refine Rn_ifne rfl (fun hc => ?_) (fun hc => ?_)
  · have h := h.1 hc
    refine Rn_pure 2 (i' := 8) (L' := [some (2, 2), some (0, p1)]) (st' := [(0, (-1)), (0, p1)]) rfl ?_
    refine Rn_icne rfl (fun hc => ?_) (fun hc => ?_)
    · have h := h.1 hc
      refine Rn_pure 1 (i' := 18) (L' := [some (2, 2), some (0, p1)]) (st' := [(2, 2)]) rfl ?_
      refine Rn_getR rfl (⟨rfl, (by omega : (0 : Int) ≤ 2), (by omega : (2 : Int) + 1 < K ∧ 5 < K)⟩) (hr 13 _ rfl) (by decide) ?_
      refine Rn_callV [(2, 4)] [] rfl rfl rfl rfl (ab_rvB_of rfl (⟨rfl, (by omega : (0 : Int) ≤ 4), (by omega : (4 : Int) + 1 < K ∧ 5 < K)⟩)) ?_
      refine h.mono (fun g3 r4 h => ?_)
      obtain ⟨hr6, h⟩ := h
      refine Rn_pure 1 (i' := 21) (L' := [some (2, 2), some (0, p1)]) (st' := [(0, p1)]) rfl ?_
      exact Rn_ret1 rfl h
    · have h := h.2 hc
      refine Rn_pure 3 (i' := 12) (L' := [some (2, 2), some (0, p1)]) (st' := [(2, 2), (0, 1), (2, 2)]) rfl ?_
      refine Rn_getR rfl (⟨rfl, (by omega : (0 : Int) ≤ 2), (by omega : (2 : Int) + 1 < K ∧ 5 < K)⟩) (hr 13 _ rfl) (by decide) ?_
      refine Rn_getI rfl (⟨rfl, (by omega : (0 : Int) ≤ 4), (by omega : (4 : Int) + 1 < K ∧ 5 < K)⟩) ?_
      refine Rn_callV [(2, 2), (0, 1), (0, g1 4 4)] [] rfl rfl rfl rfl (ab_rvB_of rfl (⟨rfl, (by omega : (0 : Int) ≤ 2), (by omega : (2 : Int) + 1 < K ∧ 5 < K)⟩)) ?_
      refine h.mono (fun g7 r' h => ?_)
      obtain ⟨hx, h⟩ := h
      replace hx := hx.symm
      subst hx
      refine Rn_pure 1 (i' := 16) (L' := [some (2, 2), some (0, p1)]) (st' := [(0, 0)]) rfl ?_
      exact Rn_ret1 rfl h
  · have h := h.2 hc
    refine Rn_pure 1 (i' := 5) (L' := [some (2, 2), some (0, p1)]) (st' := [(0, 0)]) rfl ?_
    exact Rn_ret1 rfl h
