-- EventLedgerModel.thrown ()I
theorem v_M_thrown {K : Int} {S : Nat} {g r : ab_H} (P : Int → ab_H → ab_H → Prop) (hr : SI r) (hK : 186 ≤ K) (h : P (g 161 0) g r) : ab_RI m_M_thrown [(2, 161)] K S g r P := by
  show ab_Rn m_M_thrown 0 [some (2, 161)] [] (K, S, g, r) (ab_Qi K S P)
  refine Rn_pure 1 (i' := 1) (L' := [some (2, 161)]) (st' := [(2, 161)]) rfl ?_
  refine Rn_getI rfl (⟨rfl, (by omega : (0 : Int) ≤ 161), (by omega : (161 : Int) + 1 < K ∧ 5 < K)⟩) ?_
  exact Rn_ret1 rfl h
-- EventLedgerModel.feed (IIIII)I
theorem v_M_feed {K : Int} {S : Nat} {g r : ab_H} {p1 p2 p3 p4 p5 : Int} (P : Int → ab_H → ab_H → Prop) (hr : SI r) (hK : 186 ≤ K) (h : ∀ g1, g1 = ab_up g 161 0 0 → ((wr (g1 161 2) ≤ wr 880 → ab_Rn m_M_feed 11 [some (2, 161), some (0, p1), some (0, p2), some (0, p3), some (0, p4), some (0, p5), some (0, 0), none] [] (K, S, g1, r) (ab_Qi K S P)) ∧ (wr 880 < wr (g1 161 2) → P (-1) g1 r))) : ab_RI m_M_feed [(2, 161), (0, p1), (0, p2), (0, p3), (0, p4), (0, p5)] K S g r P := by
  show ab_Rn m_M_feed 0 [some (2, 161), some (0, p1), some (0, p2), some (0, p3), some (0, p4), some (0, p5), none, none] [] (K, S, g, r) (ab_Qi K S P)
  refine Rn_pure 2 (i' := 2) (L' := [some (2, 161), some (0, p1), some (0, p2), some (0, p3), some (0, p4), some (0, p5), none, none]) (st' := [(0, 0), (2, 161)]) rfl ?_
  refine Rn_putI rfl (⟨rfl, (by omega : (0 : Int) ≤ 161), (by omega : (161 : Int) + 1 < K ∧ 5 < K)⟩) (fun g1 he_g1 => ?_)
  have h := h g1 he_g1
  refine Rn_pure 1 (i' := 4) (L' := [some (2, 161), some (0, p1), some (0, p2), some (0, p3), some (0, p4), some (0, p5), none, none]) (st' := [(2, 161)]) rfl ?_
  refine Rn_getI rfl (⟨rfl, (by omega : (0 : Int) ≤ 161), (by omega : (161 : Int) + 1 < K ∧ 5 < K)⟩) ?_
  refine Rn_pure 1 (i' := 6) (L' := [some (2, 161), some (0, p1), some (0, p2), some (0, p3), some (0, p4), some (0, p5), none, none]) (st' := [(0, 880), (0, g1 161 2)]) rfl ?_
  refine Rn_icle rfl (fun hc => ?_) (fun hc => ?_)
  · have h := h.1 hc
    refine Rn_pure 2 (i' := 11) (L' := [some (2, 161), some (0, p1), some (0, p2), some (0, p3), some (0, p4), some (0, p5), some (0, 0), none]) (st' := []) rfl ?_
    exact h
  · have h := h.2 hc
    refine Rn_pure 1 (i' := 8) (L' := [some (2, 161), some (0, p1), some (0, p2), some (0, p3), some (0, p4), some (0, p5), none, none]) (st' := [(0, (-1))]) rfl ?_
    exact Rn_ret1 rfl h
theorem v_M_feed_11 {K : Int} {S : Nat} {g r : ab_H} {l1 l2 l3 l4 l5 l6 : Int} (P : Int → ab_H → ab_H → Prop) (hr : SI r) (hK : 186 ≤ K) (h : ((wr 20 ≤ wr l6 → ∀ g1, g1 = ab_up g 161 2 (g 161 2 + 20) → P (g1 161 2) g1 r) ∧ (wr l6 < wr 20 → ((wr 4 ≤ wr l6 → ((wr 8 ≤ wr l6 → ((wr 12 ≤ wr l6 → ((wr 16 ≤ wr l6 → (¬ wr 4 = 0) ∧ ((0 : Int) ≤ g 161 2 + l6 ∧ (g 161 2 + l6 : Int) < 900) ∧ ∀ g2, g2 = ab_up g 162 (g 161 2 + l6) (ab_and (ab_shr l5 (24 - (8 * (ab_rem l6 4)))) 255) → ab_Rn m_M_feed 11 [some (2, 161), some (0, l1), some (0, l2), some (0, l3), some (0, l4), some (0, l5), some (0, l6 + 1), none] [] (K, S, g2, r) (ab_Qi K S P)) ∧ (wr l6 < wr 16 → (¬ wr 4 = 0) ∧ ((0 : Int) ≤ g 161 2 + l6 ∧ (g 161 2 + l6 : Int) < 900) ∧ ∀ g3, g3 = ab_up g 162 (g 161 2 + l6) (ab_and (ab_shr l4 (24 - (8 * (ab_rem l6 4)))) 255) → ab_Rn m_M_feed 11 [some (2, 161), some (0, l1), some (0, l2), some (0, l3), some (0, l4), some (0, l5), some (0, l6 + 1), none] [] (K, S, g3, r) (ab_Qi K S P)))) ∧ (wr l6 < wr 12 → (¬ wr 4 = 0) ∧ ((0 : Int) ≤ g 161 2 + l6 ∧ (g 161 2 + l6 : Int) < 900) ∧ ∀ g4, g4 = ab_up g 162 (g 161 2 + l6) (ab_and (ab_shr l3 (24 - (8 * (ab_rem l6 4)))) 255) → ab_Rn m_M_feed 11 [some (2, 161), some (0, l1), some (0, l2), some (0, l3), some (0, l4), some (0, l5), some (0, l6 + 1), none] [] (K, S, g4, r) (ab_Qi K S P)))) ∧ (wr l6 < wr 8 → (¬ wr 4 = 0) ∧ ((0 : Int) ≤ g 161 2 + l6 ∧ (g 161 2 + l6 : Int) < 900) ∧ ∀ g5, g5 = ab_up g 162 (g 161 2 + l6) (ab_and (ab_shr l2 (24 - (8 * (ab_rem l6 4)))) 255) → ab_Rn m_M_feed 11 [some (2, 161), some (0, l1), some (0, l2), some (0, l3), some (0, l4), some (0, l5), some (0, l6 + 1), none] [] (K, S, g5, r) (ab_Qi K S P)))) ∧ (wr l6 < wr 4 → (¬ wr 4 = 0) ∧ ((0 : Int) ≤ g 161 2 + l6 ∧ (g 161 2 + l6 : Int) < 900) ∧ ∀ g6, g6 = ab_up g 162 (g 161 2 + l6) (ab_and (ab_shr l1 (24 - (8 * (ab_rem l6 4)))) 255) → ab_Rn m_M_feed 11 [some (2, 161), some (0, l1), some (0, l2), some (0, l3), some (0, l4), some (0, l5), some (0, l6 + 1), none] [] (K, S, g6, r) (ab_Qi K S P)))))) : ab_Rn m_M_feed 11 [some (2, 161), some (0, l1), some (0, l2), some (0, l3), some (0, l4), some (0, l5), some (0, l6), none] [] (K, S, g, r) (ab_Qi K S P) := by
  refine Rn_pure 2 (i' := 13) (L' := [some (2, 161), some (0, l1), some (0, l2), some (0, l3), some (0, l4), some (0, l5), some (0, l6), none]) (st' := [(0, 20), (0, l6)]) rfl ?_
  refine Rn_icge rfl (fun hc => ?_) (fun hc => ?_)
  · have h := h.1 hc
    refine Rn_pure 2 (i' := 58) (L' := [some (2, 161), some (0, l1), some (0, l2), some (0, l3), some (0, l4), some (0, l5), some (0, l6), none]) (st' := [(2, 161), (2, 161)]) rfl ?_
    refine Rn_getI rfl (⟨rfl, (by omega : (0 : Int) ≤ 161), (by omega : (161 : Int) + 1 < K ∧ 5 < K)⟩) ?_
    refine Rn_pure 2 (i' := 61) (L' := [some (2, 161), some (0, l1), some (0, l2), some (0, l3), some (0, l4), some (0, l5), some (0, l6), none]) (st' := [(0, g 161 2 + 20), (2, 161)]) rfl ?_
    refine Rn_putI rfl (⟨rfl, (by omega : (0 : Int) ≤ 161), (by omega : (161 : Int) + 1 < K ∧ 5 < K)⟩) (fun g1 he_g1 => ?_)
    have h := h g1 he_g1
    refine Rn_pure 1 (i' := 63) (L' := [some (2, 161), some (0, l1), some (0, l2), some (0, l3), some (0, l4), some (0, l5), some (0, l6), none]) (st' := [(2, 161)]) rfl ?_
    refine Rn_getI rfl (⟨rfl, (by omega : (0 : Int) ≤ 161), (by omega : (161 : Int) + 1 < K ∧ 5 < K)⟩) ?_
    exact Rn_ret1 rfl h
  · have h := h.2 hc
    refine Rn_pure 2 (i' := 16) (L' := [some (2, 161), some (0, l1), some (0, l2), some (0, l3), some (0, l4), some (0, l5), some (0, l6), none]) (st' := [(0, 4), (0, l6)]) rfl ?_
    refine Rn_icge rfl (fun hc => ?_) (fun hc => ?_)
    · have h := h.1 hc
      refine Rn_pure 2 (i' := 21) (L' := [some (2, 161), some (0, l1), some (0, l2), some (0, l3), some (0, l4), some (0, l5), some (0, l6), none]) (st' := [(0, 8), (0, l6)]) rfl ?_
      refine Rn_icge rfl (fun hc => ?_) (fun hc => ?_)
      · have h := h.1 hc
        refine Rn_pure 2 (i' := 26) (L' := [some (2, 161), some (0, l1), some (0, l2), some (0, l3), some (0, l4), some (0, l5), some (0, l6), none]) (st' := [(0, 12), (0, l6)]) rfl ?_
        refine Rn_icge rfl (fun hc => ?_) (fun hc => ?_)
        · have h := h.1 hc
          refine Rn_pure 2 (i' := 31) (L' := [some (2, 161), some (0, l1), some (0, l2), some (0, l3), some (0, l4), some (0, l5), some (0, l6), none]) (st' := [(0, 16), (0, l6)]) rfl ?_
          refine Rn_icge rfl (fun hc => ?_) (fun hc => ?_)
          · have h := h.1 hc
            refine Rn_pure 3 (i' := 37) (L' := [some (2, 161), some (0, l1), some (0, l2), some (0, l3), some (0, l4), some (0, l5), some (0, l6), some (0, l5)]) (st' := [(2, 161)]) rfl ?_
            refine Rn_getR rfl (⟨rfl, (by omega : (0 : Int) ≤ 161), (by omega : (161 : Int) + 1 < K ∧ 5 < K)⟩) (hr 137 _ rfl) (by decide) ?_
            refine Rn_pure 1 (i' := 39) (L' := [some (2, 161), some (0, l1), some (0, l2), some (0, l3), some (0, l4), some (0, l5), some (0, l6), some (0, l5)]) (st' := [(2, 161), (2, 162)]) rfl ?_
            refine Rn_getI rfl (⟨rfl, (by omega : (0 : Int) ≤ 161), (by omega : (161 : Int) + 1 < K ∧ 5 < K)⟩) ?_
            refine Rn_pure 7 (i' := 47) (L' := [some (2, 161), some (0, l1), some (0, l2), some (0, l3), some (0, l4), some (0, l5), some (0, l6), some (0, l5)]) (st' := [(0, 4), (0, l6), (0, 8), (0, 24), (0, l5), (0, g 161 2 + l6), (2, 162)]) rfl ?_
            obtain ⟨hg, h⟩ := h
            refine Rn_rem rfl hg ?_
            refine Rn_pure 5 (i' := 53) (L' := [some (2, 161), some (0, l1), some (0, l2), some (0, l3), some (0, l4), some (0, l5), some (0, l6), some (0, l5)]) (st' := [(0, ab_and (ab_shr l5 (24 - (8 * (ab_rem l6 4)))) 255), (0, g 161 2 + l6), (2, 162)]) rfl ?_
            obtain ⟨hg, h⟩ := h
            refine Rn_iast rfl (⟨rfl, (by omega : (0 : Int) ≤ 162), (by omega : (162 : Int) + 1 < K ∧ 5 < K)⟩) hg (fun g2 he_g2 => ?_)
            have h := h g2 he_g2
            refine Rn_pure 2 (i' := 11) (L' := [some (2, 161), some (0, l1), some (0, l2), some (0, l3), some (0, l4), some (0, l5), some (0, l6 + 1), some (0, l5)]) (st' := []) rfl ?_
            refine Rn_weak (L' := [some (2, 161), some (0, l1), some (0, l2), some (0, l3), some (0, l4), some (0, l5), some (0, l6 + 1), none]) ⟨rfl, ⟨rfl, ⟨rfl, ⟨rfl, ⟨rfl, ⟨rfl, ⟨rfl, trivial⟩⟩⟩⟩⟩⟩⟩ ?_
            exact h
          · have h := h.2 hc
            refine Rn_pure 4 (i' := 37) (L' := [some (2, 161), some (0, l1), some (0, l2), some (0, l3), some (0, l4), some (0, l5), some (0, l6), some (0, l4)]) (st' := [(2, 161)]) rfl ?_
            refine Rn_getR rfl (⟨rfl, (by omega : (0 : Int) ≤ 161), (by omega : (161 : Int) + 1 < K ∧ 5 < K)⟩) (hr 137 _ rfl) (by decide) ?_
            refine Rn_pure 1 (i' := 39) (L' := [some (2, 161), some (0, l1), some (0, l2), some (0, l3), some (0, l4), some (0, l5), some (0, l6), some (0, l4)]) (st' := [(2, 161), (2, 162)]) rfl ?_
            refine Rn_getI rfl (⟨rfl, (by omega : (0 : Int) ≤ 161), (by omega : (161 : Int) + 1 < K ∧ 5 < K)⟩) ?_
            refine Rn_pure 7 (i' := 47) (L' := [some (2, 161), some (0, l1), some (0, l2), some (0, l3), some (0, l4), some (0, l5), some (0, l6), some (0, l4)]) (st' := [(0, 4), (0, l6), (0, 8), (0, 24), (0, l4), (0, g 161 2 + l6), (2, 162)]) rfl ?_
            obtain ⟨hg, h⟩ := h
            refine Rn_rem rfl hg ?_
            refine Rn_pure 5 (i' := 53) (L' := [some (2, 161), some (0, l1), some (0, l2), some (0, l3), some (0, l4), some (0, l5), some (0, l6), some (0, l4)]) (st' := [(0, ab_and (ab_shr l4 (24 - (8 * (ab_rem l6 4)))) 255), (0, g 161 2 + l6), (2, 162)]) rfl ?_
            obtain ⟨hg, h⟩ := h
            refine Rn_iast rfl (⟨rfl, (by omega : (0 : Int) ≤ 162), (by omega : (162 : Int) + 1 < K ∧ 5 < K)⟩) hg (fun g3 he_g3 => ?_)
            have h := h g3 he_g3
            refine Rn_pure 2 (i' := 11) (L' := [some (2, 161), some (0, l1), some (0, l2), some (0, l3), some (0, l4), some (0, l5), some (0, l6 + 1), some (0, l4)]) (st' := []) rfl ?_
            refine Rn_weak (L' := [some (2, 161), some (0, l1), some (0, l2), some (0, l3), some (0, l4), some (0, l5), some (0, l6 + 1), none]) ⟨rfl, ⟨rfl, ⟨rfl, ⟨rfl, ⟨rfl, ⟨rfl, ⟨rfl, trivial⟩⟩⟩⟩⟩⟩⟩ ?_
            exact h
        · have h := h.2 hc
          refine Rn_pure 4 (i' := 37) (L' := [some (2, 161), some (0, l1), some (0, l2), some (0, l3), some (0, l4), some (0, l5), some (0, l6), some (0, l3)]) (st' := [(2, 161)]) rfl ?_
          refine Rn_getR rfl (⟨rfl, (by omega : (0 : Int) ≤ 161), (by omega : (161 : Int) + 1 < K ∧ 5 < K)⟩) (hr 137 _ rfl) (by decide) ?_
          refine Rn_pure 1 (i' := 39) (L' := [some (2, 161), some (0, l1), some (0, l2), some (0, l3), some (0, l4), some (0, l5), some (0, l6), some (0, l3)]) (st' := [(2, 161), (2, 162)]) rfl ?_
          refine Rn_getI rfl (⟨rfl, (by omega : (0 : Int) ≤ 161), (by omega : (161 : Int) + 1 < K ∧ 5 < K)⟩) ?_
          refine Rn_pure 7 (i' := 47) (L' := [some (2, 161), some (0, l1), some (0, l2), some (0, l3), some (0, l4), some (0, l5), some (0, l6), some (0, l3)]) (st' := [(0, 4), (0, l6), (0, 8), (0, 24), (0, l3), (0, g 161 2 + l6), (2, 162)]) rfl ?_
          obtain ⟨hg, h⟩ := h
          refine Rn_rem rfl hg ?_
          refine Rn_pure 5 (i' := 53) (L' := [some (2, 161), some (0, l1), some (0, l2), some (0, l3), some (0, l4), some (0, l5), some (0, l6), some (0, l3)]) (st' := [(0, ab_and (ab_shr l3 (24 - (8 * (ab_rem l6 4)))) 255), (0, g 161 2 + l6), (2, 162)]) rfl ?_
          obtain ⟨hg, h⟩ := h
          refine Rn_iast rfl (⟨rfl, (by omega : (0 : Int) ≤ 162), (by omega : (162 : Int) + 1 < K ∧ 5 < K)⟩) hg (fun g4 he_g4 => ?_)
          have h := h g4 he_g4
          refine Rn_pure 2 (i' := 11) (L' := [some (2, 161), some (0, l1), some (0, l2), some (0, l3), some (0, l4), some (0, l5), some (0, l6 + 1), some (0, l3)]) (st' := []) rfl ?_
          refine Rn_weak (L' := [some (2, 161), some (0, l1), some (0, l2), some (0, l3), some (0, l4), some (0, l5), some (0, l6 + 1), none]) ⟨rfl, ⟨rfl, ⟨rfl, ⟨rfl, ⟨rfl, ⟨rfl, ⟨rfl, trivial⟩⟩⟩⟩⟩⟩⟩ ?_
          exact h
      · have h := h.2 hc
        refine Rn_pure 4 (i' := 37) (L' := [some (2, 161), some (0, l1), some (0, l2), some (0, l3), some (0, l4), some (0, l5), some (0, l6), some (0, l2)]) (st' := [(2, 161)]) rfl ?_
        refine Rn_getR rfl (⟨rfl, (by omega : (0 : Int) ≤ 161), (by omega : (161 : Int) + 1 < K ∧ 5 < K)⟩) (hr 137 _ rfl) (by decide) ?_
        refine Rn_pure 1 (i' := 39) (L' := [some (2, 161), some (0, l1), some (0, l2), some (0, l3), some (0, l4), some (0, l5), some (0, l6), some (0, l2)]) (st' := [(2, 161), (2, 162)]) rfl ?_
        refine Rn_getI rfl (⟨rfl, (by omega : (0 : Int) ≤ 161), (by omega : (161 : Int) + 1 < K ∧ 5 < K)⟩) ?_
        refine Rn_pure 7 (i' := 47) (L' := [some (2, 161), some (0, l1), some (0, l2), some (0, l3), some (0, l4), some (0, l5), some (0, l6), some (0, l2)]) (st' := [(0, 4), (0, l6), (0, 8), (0, 24), (0, l2), (0, g 161 2 + l6), (2, 162)]) rfl ?_
        obtain ⟨hg, h⟩ := h
        refine Rn_rem rfl hg ?_
        refine Rn_pure 5 (i' := 53) (L' := [some (2, 161), some (0, l1), some (0, l2), some (0, l3), some (0, l4), some (0, l5), some (0, l6), some (0, l2)]) (st' := [(0, ab_and (ab_shr l2 (24 - (8 * (ab_rem l6 4)))) 255), (0, g 161 2 + l6), (2, 162)]) rfl ?_
        obtain ⟨hg, h⟩ := h
        refine Rn_iast rfl (⟨rfl, (by omega : (0 : Int) ≤ 162), (by omega : (162 : Int) + 1 < K ∧ 5 < K)⟩) hg (fun g5 he_g5 => ?_)
        have h := h g5 he_g5
        refine Rn_pure 2 (i' := 11) (L' := [some (2, 161), some (0, l1), some (0, l2), some (0, l3), some (0, l4), some (0, l5), some (0, l6 + 1), some (0, l2)]) (st' := []) rfl ?_
        refine Rn_weak (L' := [some (2, 161), some (0, l1), some (0, l2), some (0, l3), some (0, l4), some (0, l5), some (0, l6 + 1), none]) ⟨rfl, ⟨rfl, ⟨rfl, ⟨rfl, ⟨rfl, ⟨rfl, ⟨rfl, trivial⟩⟩⟩⟩⟩⟩⟩ ?_
        exact h
    · have h := h.2 hc
      refine Rn_pure 4 (i' := 37) (L' := [some (2, 161), some (0, l1), some (0, l2), some (0, l3), some (0, l4), some (0, l5), some (0, l6), some (0, l1)]) (st' := [(2, 161)]) rfl ?_
      refine Rn_getR rfl (⟨rfl, (by omega : (0 : Int) ≤ 161), (by omega : (161 : Int) + 1 < K ∧ 5 < K)⟩) (hr 137 _ rfl) (by decide) ?_
      refine Rn_pure 1 (i' := 39) (L' := [some (2, 161), some (0, l1), some (0, l2), some (0, l3), some (0, l4), some (0, l5), some (0, l6), some (0, l1)]) (st' := [(2, 161), (2, 162)]) rfl ?_
      refine Rn_getI rfl (⟨rfl, (by omega : (0 : Int) ≤ 161), (by omega : (161 : Int) + 1 < K ∧ 5 < K)⟩) ?_
      refine Rn_pure 7 (i' := 47) (L' := [some (2, 161), some (0, l1), some (0, l2), some (0, l3), some (0, l4), some (0, l5), some (0, l6), some (0, l1)]) (st' := [(0, 4), (0, l6), (0, 8), (0, 24), (0, l1), (0, g 161 2 + l6), (2, 162)]) rfl ?_
      obtain ⟨hg, h⟩ := h
      refine Rn_rem rfl hg ?_
      refine Rn_pure 5 (i' := 53) (L' := [some (2, 161), some (0, l1), some (0, l2), some (0, l3), some (0, l4), some (0, l5), some (0, l6), some (0, l1)]) (st' := [(0, ab_and (ab_shr l1 (24 - (8 * (ab_rem l6 4)))) 255), (0, g 161 2 + l6), (2, 162)]) rfl ?_
      obtain ⟨hg, h⟩ := h
      refine Rn_iast rfl (⟨rfl, (by omega : (0 : Int) ≤ 162), (by omega : (162 : Int) + 1 < K ∧ 5 < K)⟩) hg (fun g6 he_g6 => ?_)
      have h := h g6 he_g6
      refine Rn_pure 2 (i' := 11) (L' := [some (2, 161), some (0, l1), some (0, l2), some (0, l3), some (0, l4), some (0, l5), some (0, l6 + 1), some (0, l1)]) (st' := []) rfl ?_
      refine Rn_weak (L' := [some (2, 161), some (0, l1), some (0, l2), some (0, l3), some (0, l4), some (0, l5), some (0, l6 + 1), none]) ⟨rfl, ⟨rfl, ⟨rfl, ⟨rfl, ⟨rfl, ⟨rfl, ⟨rfl, trivial⟩⟩⟩⟩⟩⟩⟩ ?_
      exact h
-- EventLedgerModel.here ()I
theorem v_M_here {K : Int} {S : Nat} {g r : ab_H} (P : Int → ab_H → ab_H → Prop) (hr : SI r) (hK : 186 ≤ K) (h : ((wr (g 161 17) ≤ wr (g 161 18) → P (-1) g r) ∧ (wr (g 161 18) < wr (g 161 17) → ((0 : Int) ≤ g 161 18 ∧ (g 161 18 : Int) < 900) ∧ P (g 162 (g 161 18)) g r))) : ab_RI m_M_here [(2, 161)] K S g r P := by
  show ab_Rn m_M_here 0 [some (2, 161)] [] (K, S, g, r) (ab_Qi K S P)
  refine Rn_pure 1 (i' := 1) (L' := [some (2, 161)]) (st' := [(2, 161)]) rfl ?_
  refine Rn_getI rfl (⟨rfl, (by omega : (0 : Int) ≤ 161), (by omega : (161 : Int) + 1 < K ∧ 5 < K)⟩) ?_
  refine Rn_pure 1 (i' := 3) (L' := [some (2, 161)]) (st' := [(2, 161), (0, g 161 18)]) rfl ?_
  refine Rn_getI rfl (⟨rfl, (by omega : (0 : Int) ≤ 161), (by omega : (161 : Int) + 1 < K ∧ 5 < K)⟩) ?_
  refine Rn_icge rfl (fun hc => ?_) (fun hc => ?_)
  · have h := h.1 hc
    refine Rn_pure 1 (i' := 12) (L' := [some (2, 161)]) (st' := [(0, (-1))]) rfl ?_
    exact Rn_ret1 rfl h
  · have h := h.2 hc
    refine Rn_pure 1 (i' := 6) (L' := [some (2, 161)]) (st' := [(2, 161)]) rfl ?_
    refine Rn_getR rfl (⟨rfl, (by omega : (0 : Int) ≤ 161), (by omega : (161 : Int) + 1 < K ∧ 5 < K)⟩) (hr 137 _ rfl) (by decide) ?_
    refine Rn_pure 1 (i' := 8) (L' := [some (2, 161)]) (st' := [(2, 161), (2, 162)]) rfl ?_
    refine Rn_getI rfl (⟨rfl, (by omega : (0 : Int) ≤ 161), (by omega : (161 : Int) + 1 < K ∧ 5 < K)⟩) ?_
    obtain ⟨hg, h⟩ := h
    refine Rn_iald rfl (⟨rfl, (by omega : (0 : Int) ≤ 162), (by omega : (162 : Int) + 1 < K ∧ 5 < K)⟩) hg ?_
    refine Rn_pure 1 (i' := 12) (L' := [some (2, 161)]) (st' := [(0, g 162 (g 161 18))]) rfl ?_
    exact Rn_ret1 rfl h
-- EventLedgerModel.isSmall (I)Z
theorem v_M_isSmall {K : Int} {S : Nat} {g r : ab_H} {p0 : Int} (P : Int → ab_H → ab_H → Prop) (hr : SI r) (hK : 186 ≤ K) (h : ((wr p0 < wr 97 → P 0 g r) ∧ (wr 97 ≤ wr p0 → ((wr 122 < wr p0 → P 0 g r) ∧ (wr p0 ≤ wr 122 → P 1 g r))))) : ab_RI m_M_isSmall [(0, p0)] K S g r P := by
  show ab_Rn m_M_isSmall 0 [some (0, p0)] [] (K, S, g, r) (ab_Qi K S P)
  refine Rn_pure 2 (i' := 2) (L' := [some (0, p0)]) (st' := [(0, 97), (0, p0)]) rfl ?_
  refine Rn_iclt rfl (fun hc => ?_) (fun hc => ?_)
  · have h := h.1 hc
    refine Rn_pure 1 (i' := 9) (L' := [some (0, p0)]) (st' := [(0, 0)]) rfl ?_
    exact Rn_ret2 rfl (by decide) h
  · have h := h.2 hc
    refine Rn_pure 2 (i' := 5) (L' := [some (0, p0)]) (st' := [(0, 122), (0, p0)]) rfl ?_
    refine Rn_icgt rfl (fun hc => ?_) (fun hc => ?_)
    · have h := h.1 hc
      refine Rn_pure 1 (i' := 9) (L' := [some (0, p0)]) (st' := [(0, 0)]) rfl ?_
      exact Rn_ret2 rfl (by decide) h
    · have h := h.2 hc
      refine Rn_pure 2 (i' := 9) (L' := [some (0, p0)]) (st' := [(0, 1)]) rfl ?_
      exact Rn_ret2 rfl (by decide) h
-- EventLedgerModel.isDigit (I)Z
theorem v_M_isDigit {K : Int} {S : Nat} {g r : ab_H} {p0 : Int} (P : Int → ab_H → ab_H → Prop) (hr : SI r) (hK : 186 ≤ K) (h : ((wr p0 < wr 48 → P 0 g r) ∧ (wr 48 ≤ wr p0 → ((wr 57 < wr p0 → P 0 g r) ∧ (wr p0 ≤ wr 57 → P 1 g r))))) : ab_RI m_M_isDigit [(0, p0)] K S g r P := by
  show ab_Rn m_M_isDigit 0 [some (0, p0)] [] (K, S, g, r) (ab_Qi K S P)
  refine Rn_pure 2 (i' := 2) (L' := [some (0, p0)]) (st' := [(0, 48), (0, p0)]) rfl ?_
  refine Rn_iclt rfl (fun hc => ?_) (fun hc => ?_)
  · have h := h.1 hc
    refine Rn_pure 1 (i' := 9) (L' := [some (0, p0)]) (st' := [(0, 0)]) rfl ?_
    exact Rn_ret2 rfl (by decide) h
  · have h := h.2 hc
    refine Rn_pure 2 (i' := 5) (L' := [some (0, p0)]) (st' := [(0, 57), (0, p0)]) rfl ?_
    refine Rn_icgt rfl (fun hc => ?_) (fun hc => ?_)
    · have h := h.1 hc
      refine Rn_pure 1 (i' := 9) (L' := [some (0, p0)]) (st' := [(0, 0)]) rfl ?_
      exact Rn_ret2 rfl (by decide) h
    · have h := h.2 hc
      refine Rn_pure 2 (i' := 9) (L' := [some (0, p0)]) (st' := [(0, 1)]) rfl ?_
      exact Rn_ret2 rfl (by decide) h
-- EventLedgerModel.token ()V
theorem v_M_token {K : Int} {S : Nat} {g r : ab_H} (P : ab_H → ab_H → Prop) (hr : SI r) (hK : 186 ≤ K) (h : ab_Rn m_M_token 0 [some (2, 161), none] [] (K, S, g, r) (ab_Qv K S P)) : ab_RV m_M_token [(2, 161)] K S g r P := by
  show ab_Rn m_M_token 0 [some (2, 161), none] [] (K, S, g, r) (ab_Qv K S P)
  exact h
theorem v_M_token_0 {K : Int} {S : Nat} {g r : ab_H} (P : ab_H → ab_H → Prop) (hr : SI r) (hK : 186 ≤ K) (h : ab_RI m_M_here [(2, 161)] K S g r (fun x1 g' r' => g' = g ∧ r' = r ∧ (((wr x1 = wr 10 → ∀ g2, g2 = ab_up g 161 18 (g 161 18 + 1) → ab_Rn m_M_token 0 [some (2, 161), none] [] (K, S, g2, r) (ab_Qv K S P)) ∧ (¬ wr x1 = wr 10 → ab_RI m_M_here [(2, 161)] K S g r (fun x3 g' r' => g' = g ∧ r' = r ∧ (((¬ wr x3 = wr 32 → ∀ g4, g4 = ab_up g 161 19 (g 161 18) → ab_RI m_M_here [(2, 161)] K S g4 r (fun x5 g' r' => g' = g4 ∧ r' = r ∧ (((¬ wr x5 = wr (-1) → ab_RI m_M_isSmall [(0, x5)] K S g4 r (fun x6 g' r' => g' = g4 ∧ r' = r ∧ (((wr x6 = wr 0 → ab_RI m_M_isDigit [(0, x5)] K S g4 r (fun x7 g' r' => g' = g4 ∧ r' = r ∧ (((wr x7 = wr 0 → ((¬ wr x5 = wr 59 → ∀ g8, g8 = ab_up g4 161 20 5 → ∀ g9, g9 = ab_up g8 161 18 (g8 161 18 + 1) → P g9 r) ∧ (wr x5 = wr 59 → ∀ g10, g10 = ab_up g4 161 20 3 → ∀ g11, g11 = ab_up g10 161 18 (g10 161 18 + 1) → P g11 r))) ∧ (¬ wr x7 = wr 0 → ∀ g12, g12 = ab_up g4 161 20 2 → ∀ g13, g13 = ab_up g12 161 21 0 → ab_Rn m_M_token 81 [some (2, 161), none] [] (K, S, g13, r) (ab_Qv K S P)))))) ∧ (¬ wr x6 = wr 0 → ab_Rn m_M_token 32 [some (2, 161), none] [] (K, S, g4, r) (ab_Qv K S P)))))) ∧ (wr x5 = wr (-1) → ∀ g14, g14 = ab_up g4 161 20 4 → P g14 r))))) ∧ (wr x3 = wr 32 → ∀ g15, g15 = ab_up g 161 18 (g 161 18 + 1) → ab_Rn m_M_token 0 [some (2, 161), none] [] (K, S, g15, r) (ab_Qv K S P)))))))))) : ab_Rn m_M_token 0 [some (2, 161), none] [] (K, S, g, r) (ab_Qv K S P) := by
  refine Rn_pure 1 (i' := 1) (L' := [some (2, 161), none]) (st' := [(2, 161)]) rfl ?_
  refine Rn_callI [(2, 161)] [] rfl rfl rfl rfl (ab_rvB_of rfl (⟨rfl, (by omega : (0 : Int) ≤ 161), (by omega : (161 : Int) + 1 < K ∧ 5 < K)⟩)) ?_
  refine h.mono (fun x1 g' r' h => ?_)
  obtain ⟨hx, h⟩ := h
  replace hx := hx.symm
  subst hx
  obtain ⟨hx, h⟩ := h
  replace hx := hx.symm
  subst hx
  refine Rn_pure 1 (i' := 3) (L' := [some (2, 161), none]) (st' := [(0, 10), (0, x1)]) rfl ?_
  refine Rn_iceq rfl (fun hc => ?_) (fun hc => ?_)
  · have h := h.1 hc
    refine Rn_pure 2 (i' := 10) (L' := [some (2, 161), none]) (st' := [(2, 161), (2, 161)]) rfl ?_
    refine Rn_getI rfl (⟨rfl, (by omega : (0 : Int) ≤ 161), (by omega : (161 : Int) + 1 < K ∧ 5 < K)⟩) ?_
    refine Rn_pure 2 (i' := 13) (L' := [some (2, 161), none]) (st' := [(0, g 161 18 + 1), (2, 161)]) rfl ?_
    refine Rn_putI rfl (⟨rfl, (by omega : (0 : Int) ≤ 161), (by omega : (161 : Int) + 1 < K ∧ 5 < K)⟩) (fun g2 he_g2 => ?_)
    have h := h g2 he_g2
    refine Rn_pure 1 (i' := 0) (L' := [some (2, 161), none]) (st' := []) rfl ?_
    exact h
  · have h := h.2 hc
    refine Rn_pure 1 (i' := 5) (L' := [some (2, 161), none]) (st' := [(2, 161)]) rfl ?_
    refine Rn_callI [(2, 161)] [] rfl rfl rfl rfl (ab_rvB_of rfl (⟨rfl, (by omega : (0 : Int) ≤ 161), (by omega : (161 : Int) + 1 < K ∧ 5 < K)⟩)) ?_
    refine h.mono (fun x3 g' r' h => ?_)
    obtain ⟨hx, h⟩ := h
    replace hx := hx.symm
    subst hx
    obtain ⟨hx, h⟩ := h
    replace hx := hx.symm
    subst hx
    refine Rn_pure 1 (i' := 7) (L' := [some (2, 161), none]) (st' := [(0, 32), (0, x3)]) rfl ?_
    refine Rn_icne rfl (fun hc => ?_) (fun hc => ?_)
    · have h := h.1 hc
      refine Rn_pure 2 (i' := 17) (L' := [some (2, 161), none]) (st' := [(2, 161), (2, 161)]) rfl ?_
      refine Rn_getI rfl (⟨rfl, (by omega : (0 : Int) ≤ 161), (by omega : (161 : Int) + 1 < K ∧ 5 < K)⟩) ?_
      refine Rn_putI rfl (⟨rfl, (by omega : (0 : Int) ≤ 161), (by omega : (161 : Int) + 1 < K ∧ 5 < K)⟩) (fun g4 he_g4 => ?_)
      have h := h g4 he_g4
      refine Rn_pure 1 (i' := 20) (L' := [some (2, 161), none]) (st' := [(2, 161)]) rfl ?_
      refine Rn_callI [(2, 161)] [] rfl rfl rfl rfl (ab_rvB_of rfl (⟨rfl, (by omega : (0 : Int) ≤ 161), (by omega : (161 : Int) + 1 < K ∧ 5 < K)⟩)) ?_
      refine h.mono (fun x5 g' r' h => ?_)
      obtain ⟨hx, h⟩ := h
      replace hx := hx.symm
      subst hx
      obtain ⟨hx, h⟩ := h
      replace hx := hx.symm
      subst hx
      refine Rn_pure 3 (i' := 24) (L' := [some (2, 161), some (0, x5)]) (st' := [(0, (-1)), (0, x5)]) rfl ?_
      refine Rn_icne rfl (fun hc => ?_) (fun hc => ?_)
      · have h := h.1 hc
        refine Rn_pure 1 (i' := 30) (L' := [some (2, 161), some (0, x5)]) (st' := [(0, x5)]) rfl ?_
        refine Rn_callI [(0, x5)] [] rfl rfl rfl rfl (rfl) ?_
        refine h.mono (fun x6 g' r' h => ?_)
        obtain ⟨hx, h⟩ := h
        replace hx := hx.symm
        subst hx
        obtain ⟨hx, h⟩ := h
        replace hx := hx.symm
        subst hx
        refine Rn_ifeq rfl (fun hc => ?_) (fun hc => ?_)
        · have h := h.1 hc
          refine Rn_pure 1 (i' := 73) (L' := [some (2, 161), some (0, x5)]) (st' := [(0, x5)]) rfl ?_
          refine Rn_callI [(0, x5)] [] rfl rfl rfl rfl (rfl) ?_
          refine h.mono (fun x7 g' r' h => ?_)
          obtain ⟨hx, h⟩ := h
          replace hx := hx.symm
          subst hx
          obtain ⟨hx, h⟩ := h
          replace hx := hx.symm
          subst hx
          refine Rn_ifeq rfl (fun hc => ?_) (fun hc => ?_)
          · have h := h.1 hc
            refine Rn_pure 3 (i' := 113) (L' := [some (2, 161), some (0, x5)]) (st' := [(0, 59), (0, x5), (2, 161)]) rfl ?_
            refine Rn_icne rfl (fun hc => ?_) (fun hc => ?_)
            · have h := h.1 hc
              refine Rn_pure 1 (i' := 117) (L' := [some (2, 161), some (0, x5)]) (st' := [(0, 5), (2, 161)]) rfl ?_
              refine Rn_putI rfl (⟨rfl, (by omega : (0 : Int) ≤ 161), (by omega : (161 : Int) + 1 < K ∧ 5 < K)⟩) (fun g8 he_g8 => ?_)
              have h := h g8 he_g8
              refine Rn_pure 2 (i' := 120) (L' := [some (2, 161), some (0, x5)]) (st' := [(2, 161), (2, 161)]) rfl ?_
              refine Rn_getI rfl (⟨rfl, (by omega : (0 : Int) ≤ 161), (by omega : (161 : Int) + 1 < K ∧ 5 < K)⟩) ?_
              refine Rn_pure 2 (i' := 123) (L' := [some (2, 161), some (0, x5)]) (st' := [(0, g8 161 18 + 1), (2, 161)]) rfl ?_
              refine Rn_putI rfl (⟨rfl, (by omega : (0 : Int) ≤ 161), (by omega : (161 : Int) + 1 < K ∧ 5 < K)⟩) (fun g9 he_g9 => ?_)
              have h := h g9 he_g9
              exact Rn_ret0 rfl h
            · have h := h.2 hc
              refine Rn_pure 2 (i' := 117) (L' := [some (2, 161), some (0, x5)]) (st' := [(0, 3), (2, 161)]) rfl ?_
              refine Rn_putI rfl (⟨rfl, (by omega : (0 : Int) ≤ 161), (by omega : (161 : Int) + 1 < K ∧ 5 < K)⟩) (fun g10 he_g10 => ?_)
              have h := h g10 he_g10
              refine Rn_pure 2 (i' := 120) (L' := [some (2, 161), some (0, x5)]) (st' := [(2, 161), (2, 161)]) rfl ?_
              refine Rn_getI rfl (⟨rfl, (by omega : (0 : Int) ≤ 161), (by omega : (161 : Int) + 1 < K ∧ 5 < K)⟩) ?_
              refine Rn_pure 2 (i' := 123) (L' := [some (2, 161), some (0, x5)]) (st' := [(0, g10 161 18 + 1), (2, 161)]) rfl ?_
              refine Rn_putI rfl (⟨rfl, (by omega : (0 : Int) ≤ 161), (by omega : (161 : Int) + 1 < K ∧ 5 < K)⟩) (fun g11 he_g11 => ?_)
              have h := h g11 he_g11
              exact Rn_ret0 rfl h
          · have h := h.2 hc
            refine Rn_pure 2 (i' := 77) (L' := [some (2, 161), some (0, x5)]) (st' := [(0, 2), (2, 161)]) rfl ?_
            refine Rn_putI rfl (⟨rfl, (by omega : (0 : Int) ≤ 161), (by omega : (161 : Int) + 1 < K ∧ 5 < K)⟩) (fun g12 he_g12 => ?_)
            have h := h g12 he_g12
            refine Rn_pure 2 (i' := 80) (L' := [some (2, 161), some (0, x5)]) (st' := [(0, 0), (2, 161)]) rfl ?_
            refine Rn_putI rfl (⟨rfl, (by omega : (0 : Int) ≤ 161), (by omega : (161 : Int) + 1 < K ∧ 5 < K)⟩) (fun g13 he_g13 => ?_)
            have h := h g13 he_g13
            refine Rn_weak (L' := [some (2, 161), none]) ⟨rfl, trivial⟩ ?_
            exact h
        · have h := h.2 hc
          refine Rn_weak (L' := [some (2, 161), none]) ⟨rfl, trivial⟩ ?_
          exact h
      · have h := h.2 hc
        refine Rn_pure 2 (i' := 27) (L' := [some (2, 161), some (0, x5)]) (st' := [(0, 4), (2, 161)]) rfl ?_
        refine Rn_putI rfl (⟨rfl, (by omega : (0 : Int) ≤ 161), (by omega : (161 : Int) + 1 < K ∧ 5 < K)⟩) (fun g14 he_g14 => ?_)
        have h := h g14 he_g14
        refine Rn_pure 1 (i' := 124) (L' := [some (2, 161), some (0, x5)]) (st' := []) rfl ?_
        exact Rn_ret0 rfl h
    · have h := h.2 hc
      refine Rn_pure 2 (i' := 10) (L' := [some (2, 161), none]) (st' := [(2, 161), (2, 161)]) rfl ?_
      refine Rn_getI rfl (⟨rfl, (by omega : (0 : Int) ≤ 161), (by omega : (161 : Int) + 1 < K ∧ 5 < K)⟩) ?_
      refine Rn_pure 2 (i' := 13) (L' := [some (2, 161), none]) (st' := [(0, g 161 18 + 1), (2, 161)]) rfl ?_
      refine Rn_putI rfl (⟨rfl, (by omega : (0 : Int) ≤ 161), (by omega : (161 : Int) + 1 < K ∧ 5 < K)⟩) (fun g15 he_g15 => ?_)
      have h := h g15 he_g15
      refine Rn_pure 1 (i' := 0) (L' := [some (2, 161), none]) (st' := []) rfl ?_
      exact h
theorem v_M_token_32 {K : Int} {S : Nat} {g r : ab_H} (P : ab_H → ab_H → Prop) (hr : SI r) (hK : 186 ≤ K) (h : ab_RI m_M_here [(2, 161)] K S g r (fun x1 g' r' => g' = g ∧ r' = r ∧ (ab_RI m_M_isSmall [(0, x1)] K S g r (fun x2 g' r' => g' = g ∧ r' = r ∧ (((wr x2 = wr 0 → ab_RI m_M_wordHere [(2, 161)] K S g r (fun x3 g' r' => g' = g ∧ r' = r ∧ (∀ g4, g4 = ab_up g 161 21 x3 → ((wr (g4 161 21) = wr (-1) → ((wr (g4 161 18 - (g4 161 19)) ≤ wr 6 → ∀ g5, g5 = ab_up g4 161 20 1 → ((¬ wr (g5 161 20) = wr 1 → P g5 r) ∧ (wr (g5 161 20) = wr 1 → ab_RV m_M_nameHere [(2, 161)] K S g5 r (fun g6 r' => r' = r ∧ (P g6 r))))) ∧ (wr 6 < wr (g4 161 18 - (g4 161 19)) → ∀ g8, g8 = ab_up g4 161 20 5 → ((¬ wr (g8 161 20) = wr 1 → P g8 r) ∧ (wr (g8 161 20) = wr 1 → ab_RV m_M_nameHere [(2, 161)] K S g8 r (fun g9 r' => r' = r ∧ (P g9 r))))))) ∧ (¬ wr (g4 161 21) = wr (-1) → ∀ g11, g11 = ab_up g4 161 20 0 → ((¬ wr (g11 161 20) = wr 1 → P g11 r) ∧ (wr (g11 161 20) = wr 1 → ab_RV m_M_nameHere [(2, 161)] K S g11 r (fun g12 r' => r' = r ∧ (P g12 r))))))))) ∧ (¬ wr x2 = wr 0 → ∀ g14, g14 = ab_up g 161 18 (g 161 18 + 1) → ab_Rn m_M_token 32 [some (2, 161), none] [] (K, S, g14, r) (ab_Qv K S P)))))))) : ab_Rn m_M_token 32 [some (2, 161), none] [] (K, S, g, r) (ab_Qv K S P) := by
  refine Rn_pure 1 (i' := 33) (L' := [some (2, 161), none]) (st' := [(2, 161)]) rfl ?_
  refine Rn_callI [(2, 161)] [] rfl rfl rfl rfl (ab_rvB_of rfl (⟨rfl, (by omega : (0 : Int) ≤ 161), (by omega : (161 : Int) + 1 < K ∧ 5 < K)⟩)) ?_
  refine h.mono (fun x1 g' r' h => ?_)
  obtain ⟨hx, h⟩ := h
  replace hx := hx.symm
  subst hx
  obtain ⟨hx, h⟩ := h
  replace hx := hx.symm
  subst hx
  refine Rn_callI [(0, x1)] [] rfl rfl rfl rfl (rfl) ?_
  refine h.mono (fun x2 g' r' h => ?_)
  obtain ⟨hx, h⟩ := h
  replace hx := hx.symm
  subst hx
  obtain ⟨hx, h⟩ := h
  replace hx := hx.symm
  subst hx
  refine Rn_ifeq rfl (fun hc => ?_) (fun hc => ?_)
  · have h := h.1 hc
    refine Rn_pure 2 (i' := 45) (L' := [some (2, 161), none]) (st' := [(2, 161), (2, 161)]) rfl ?_
    refine Rn_callI [(2, 161)] [(2, 161)] rfl rfl rfl rfl (ab_rvB_of rfl (⟨rfl, (by omega : (0 : Int) ≤ 161), (by omega : (161 : Int) + 1 < K ∧ 5 < K)⟩)) ?_
    refine h.mono (fun x3 g' r' h => ?_)
    obtain ⟨hx, h⟩ := h
    replace hx := hx.symm
    subst hx
    obtain ⟨hx, h⟩ := h
    replace hx := hx.symm
    subst hx
    refine Rn_putI rfl (⟨rfl, (by omega : (0 : Int) ≤ 161), (by omega : (161 : Int) + 1 < K ∧ 5 < K)⟩) (fun g4 he_g4 => ?_)
    have h := h g4 he_g4
    refine Rn_pure 2 (i' := 49) (L' := [some (2, 161), none]) (st' := [(2, 161), (2, 161)]) rfl ?_
    refine Rn_getI rfl (⟨rfl, (by omega : (0 : Int) ≤ 161), (by omega : (161 : Int) + 1 < K ∧ 5 < K)⟩) ?_
    refine Rn_pure 1 (i' := 51) (L' := [some (2, 161), none]) (st' := [(0, (-1)), (0, g4 161 21), (2, 161)]) rfl ?_
    refine Rn_iceq rfl (fun hc => ?_) (fun hc => ?_)
    · have h := h.1 hc
      refine Rn_pure 1 (i' := 55) (L' := [some (2, 161), none]) (st' := [(2, 161), (2, 161)]) rfl ?_
      refine Rn_getI rfl (⟨rfl, (by omega : (0 : Int) ≤ 161), (by omega : (161 : Int) + 1 < K ∧ 5 < K)⟩) ?_
      refine Rn_pure 1 (i' := 57) (L' := [some (2, 161), none]) (st' := [(2, 161), (0, g4 161 18), (2, 161)]) rfl ?_
      refine Rn_getI rfl (⟨rfl, (by omega : (0 : Int) ≤ 161), (by omega : (161 : Int) + 1 < K ∧ 5 < K)⟩) ?_
      refine Rn_pure 2 (i' := 60) (L' := [some (2, 161), none]) (st' := [(0, 6), (0, g4 161 18 - (g4 161 19)), (2, 161)]) rfl ?_
      refine Rn_icle rfl (fun hc => ?_) (fun hc => ?_)
      · have h := h.1 hc
        refine Rn_pure 1 (i' := 64) (L' := [some (2, 161), none]) (st' := [(0, 1), (2, 161)]) rfl ?_
        refine Rn_putI rfl (⟨rfl, (by omega : (0 : Int) ≤ 161), (by omega : (161 : Int) + 1 < K ∧ 5 < K)⟩) (fun g5 he_g5 => ?_)
        have h := h g5 he_g5
        refine Rn_pure 1 (i' := 66) (L' := [some (2, 161), none]) (st' := [(2, 161)]) rfl ?_
        refine Rn_getI rfl (⟨rfl, (by omega : (0 : Int) ≤ 161), (by omega : (161 : Int) + 1 < K ∧ 5 < K)⟩) ?_
        refine Rn_pure 1 (i' := 68) (L' := [some (2, 161), none]) (st' := [(0, 1), (0, g5 161 20)]) rfl ?_
        refine Rn_icne rfl (fun hc => ?_) (fun hc => ?_)
        · have h := h.1 hc
          exact Rn_ret0 rfl h
        · have h := h.2 hc
          refine Rn_pure 1 (i' := 70) (L' := [some (2, 161), none]) (st' := [(2, 161)]) rfl ?_
          refine Rn_callV [(2, 161)] [] rfl rfl rfl rfl (ab_rvB_of rfl (⟨rfl, (by omega : (0 : Int) ≤ 161), (by omega : (161 : Int) + 1 < K ∧ 5 < K)⟩)) ?_
          refine h.mono (fun g6 r' h => ?_)
          obtain ⟨hx, h⟩ := h
          replace hx := hx.symm
          subst hx
          refine Rn_pure 1 (i' := 124) (L' := [some (2, 161), none]) (st' := []) rfl ?_
          exact Rn_ret0 rfl h
      · have h := h.2 hc
        refine Rn_pure 2 (i' := 64) (L' := [some (2, 161), none]) (st' := [(0, 5), (2, 161)]) rfl ?_
        refine Rn_putI rfl (⟨rfl, (by omega : (0 : Int) ≤ 161), (by omega : (161 : Int) + 1 < K ∧ 5 < K)⟩) (fun g8 he_g8 => ?_)
        have h := h g8 he_g8
        refine Rn_pure 1 (i' := 66) (L' := [some (2, 161), none]) (st' := [(2, 161)]) rfl ?_
        refine Rn_getI rfl (⟨rfl, (by omega : (0 : Int) ≤ 161), (by omega : (161 : Int) + 1 < K ∧ 5 < K)⟩) ?_
        refine Rn_pure 1 (i' := 68) (L' := [some (2, 161), none]) (st' := [(0, 1), (0, g8 161 20)]) rfl ?_
        refine Rn_icne rfl (fun hc => ?_) (fun hc => ?_)
        · have h := h.1 hc
          exact Rn_ret0 rfl h
        · have h := h.2 hc
          refine Rn_pure 1 (i' := 70) (L' := [some (2, 161), none]) (st' := [(2, 161)]) rfl ?_
          refine Rn_callV [(2, 161)] [] rfl rfl rfl rfl (ab_rvB_of rfl (⟨rfl, (by omega : (0 : Int) ≤ 161), (by omega : (161 : Int) + 1 < K ∧ 5 < K)⟩)) ?_
          refine h.mono (fun g9 r' h => ?_)
          obtain ⟨hx, h⟩ := h
          replace hx := hx.symm
          subst hx
          refine Rn_pure 1 (i' := 124) (L' := [some (2, 161), none]) (st' := []) rfl ?_
          exact Rn_ret0 rfl h
    · have h := h.2 hc
      refine Rn_pure 2 (i' := 64) (L' := [some (2, 161), none]) (st' := [(0, 0), (2, 161)]) rfl ?_
      refine Rn_putI rfl (⟨rfl, (by omega : (0 : Int) ≤ 161), (by omega : (161 : Int) + 1 < K ∧ 5 < K)⟩) (fun g11 he_g11 => ?_)
      have h := h g11 he_g11
      refine Rn_pure 1 (i' := 66) (L' := [some (2, 161), none]) (st' := [(2, 161)]) rfl ?_
      refine Rn_getI rfl (⟨rfl, (by omega : (0 : Int) ≤ 161), (by omega : (161 : Int) + 1 < K ∧ 5 < K)⟩) ?_
      refine Rn_pure 1 (i' := 68) (L' := [some (2, 161), none]) (st' := [(0, 1), (0, g11 161 20)]) rfl ?_
      refine Rn_icne rfl (fun hc => ?_) (fun hc => ?_)
      · have h := h.1 hc
        exact Rn_ret0 rfl h
      · have h := h.2 hc
        refine Rn_pure 1 (i' := 70) (L' := [some (2, 161), none]) (st' := [(2, 161)]) rfl ?_
        refine Rn_callV [(2, 161)] [] rfl rfl rfl rfl (ab_rvB_of rfl (⟨rfl, (by omega : (0 : Int) ≤ 161), (by omega : (161 : Int) + 1 < K ∧ 5 < K)⟩)) ?_
        refine h.mono (fun g12 r' h => ?_)
        obtain ⟨hx, h⟩ := h
        replace hx := hx.symm
        subst hx
        refine Rn_pure 1 (i' := 124) (L' := [some (2, 161), none]) (st' := []) rfl ?_
        exact Rn_ret0 rfl h
  · have h := h.2 hc
    refine Rn_pure 2 (i' := 38) (L' := [some (2, 161), none]) (st' := [(2, 161), (2, 161)]) rfl ?_
    refine Rn_getI rfl (⟨rfl, (by omega : (0 : Int) ≤ 161), (by omega : (161 : Int) + 1 < K ∧ 5 < K)⟩) ?_
    refine Rn_pure 2 (i' := 41) (L' := [some (2, 161), none]) (st' := [(0, g 161 18 + 1), (2, 161)]) rfl ?_
    refine Rn_putI rfl (⟨rfl, (by omega : (0 : Int) ≤ 161), (by omega : (161 : Int) + 1 < K ∧ 5 < K)⟩) (fun g14 he_g14 => ?_)
    have h := h g14 he_g14
    refine Rn_pure 1 (i' := 32) (L' := [some (2, 161), none]) (st' := []) rfl ?_
    exact h
theorem v_M_token_81 {K : Int} {S : Nat} {g r : ab_H} (P : ab_H → ab_H → Prop) (hr : SI r) (hK : 186 ≤ K) (h : ab_RI m_M_here [(2, 161)] K S g r (fun x1 g' r' => g' = g ∧ r' = r ∧ (ab_RI m_M_isDigit [(0, x1)] K S g r (fun x2 g' r' => g' = g ∧ r' = r ∧ (((wr x2 = wr 0 → P g r) ∧ (¬ wr x2 = wr 0 → ((wr (g 161 21) ≤ wr 99999 → ab_RI m_M_here [(2, 161)] K S g r (fun x3 g' r' => g' = g ∧ r' = r ∧ (∀ g4, g4 = ab_up g 161 21 (10 * (g 161 21) + x3 - 48) → ∀ g5, g5 = ab_up g4 161 18 (g4 161 18 + 1) → ab_Rn m_M_token 81 [some (2, 161), none] [] (K, S, g5, r) (ab_Qv K S P)))) ∧ (wr 99999 < wr (g 161 21) → ∀ g6, g6 = ab_up g 161 21 (g 161 21) → ∀ g7, g7 = ab_up g6 161 18 (g6 161 18 + 1) → ab_Rn m_M_token 81 [some (2, 161), none] [] (K, S, g7, r) (ab_Qv K S P)))))))))) : ab_Rn m_M_token 81 [some (2, 161), none] [] (K, S, g, r) (ab_Qv K S P) := by
  refine Rn_pure 1 (i' := 82) (L' := [some (2, 161), none]) (st' := [(2, 161)]) rfl ?_
  refine Rn_callI [(2, 161)] [] rfl rfl rfl rfl (ab_rvB_of rfl (⟨rfl, (by omega : (0 : Int) ≤ 161), (by omega : (161 : Int) + 1 < K ∧ 5 < K)⟩)) ?_
  refine h.mono (fun x1 g' r' h => ?_)
  obtain ⟨hx, h⟩ := h
  replace hx := hx.symm
  subst hx
  obtain ⟨hx, h⟩ := h
  replace hx := hx.symm
  subst hx
  refine Rn_callI [(0, x1)] [] rfl rfl rfl rfl (rfl) ?_
  refine h.mono (fun x2 g' r' h => ?_)
  obtain ⟨hx, h⟩ := h
  replace hx := hx.symm
  subst hx
  obtain ⟨hx, h⟩ := h
  replace hx := hx.symm
  subst hx
  refine Rn_ifeq rfl (fun hc => ?_) (fun hc => ?_)
  · have h := h.1 hc
    exact Rn_ret0 rfl h
  · have h := h.2 hc
    refine Rn_pure 2 (i' := 87) (L' := [some (2, 161), none]) (st' := [(2, 161), (2, 161)]) rfl ?_
    refine Rn_getI rfl (⟨rfl, (by omega : (0 : Int) ≤ 161), (by omega : (161 : Int) + 1 < K ∧ 5 < K)⟩) ?_
    refine Rn_pure 1 (i' := 89) (L' := [some (2, 161), none]) (st' := [(0, 99999), (0, g 161 21), (2, 161)]) rfl ?_
    refine Rn_icle rfl (fun hc => ?_) (fun hc => ?_)
    · have h := h.1 hc
      refine Rn_pure 2 (i' := 95) (L' := [some (2, 161), none]) (st' := [(2, 161), (0, 10), (2, 161)]) rfl ?_
      refine Rn_getI rfl (⟨rfl, (by omega : (0 : Int) ≤ 161), (by omega : (161 : Int) + 1 < K ∧ 5 < K)⟩) ?_
      refine Rn_pure 2 (i' := 98) (L' := [some (2, 161), none]) (st' := [(2, 161), (0, 10 * (g 161 21)), (2, 161)]) rfl ?_
      refine Rn_callI [(2, 161)] [(0, 10 * (g 161 21)), (2, 161)] rfl rfl rfl rfl (ab_rvB_of rfl (⟨rfl, (by omega : (0 : Int) ≤ 161), (by omega : (161 : Int) + 1 < K ∧ 5 < K)⟩)) ?_
      refine h.mono (fun x3 g' r' h => ?_)
      obtain ⟨hx, h⟩ := h
      replace hx := hx.symm
      subst hx
      obtain ⟨hx, h⟩ := h
      replace hx := hx.symm
      subst hx
      refine Rn_pure 3 (i' := 102) (L' := [some (2, 161), none]) (st' := [(0, 10 * (g 161 21) + x3 - 48), (2, 161)]) rfl ?_
      refine Rn_putI rfl (⟨rfl, (by omega : (0 : Int) ≤ 161), (by omega : (161 : Int) + 1 < K ∧ 5 < K)⟩) (fun g4 he_g4 => ?_)
      have h := h g4 he_g4
      refine Rn_pure 2 (i' := 105) (L' := [some (2, 161), none]) (st' := [(2, 161), (2, 161)]) rfl ?_
      refine Rn_getI rfl (⟨rfl, (by omega : (0 : Int) ≤ 161), (by omega : (161 : Int) + 1 < K ∧ 5 < K)⟩) ?_
      refine Rn_pure 2 (i' := 108) (L' := [some (2, 161), none]) (st' := [(0, g4 161 18 + 1), (2, 161)]) rfl ?_
      refine Rn_putI rfl (⟨rfl, (by omega : (0 : Int) ≤ 161), (by omega : (161 : Int) + 1 < K ∧ 5 < K)⟩) (fun g5 he_g5 => ?_)
      have h := h g5 he_g5
      refine Rn_pure 1 (i' := 81) (L' := [some (2, 161), none]) (st' := []) rfl ?_
      exact h
    · have h := h.2 hc
      refine Rn_pure 1 (i' := 91) (L' := [some (2, 161), none]) (st' := [(2, 161), (2, 161)]) rfl ?_
      refine Rn_getI rfl (⟨rfl, (by omega : (0 : Int) ≤ 161), (by omega : (161 : Int) + 1 < K ∧ 5 < K)⟩) ?_
      refine Rn_pure 1 (i' := 102) (L' := [some (2, 161), none]) (st' := [(0, g 161 21), (2, 161)]) rfl ?_
      refine Rn_putI rfl (⟨rfl, (by omega : (0 : Int) ≤ 161), (by omega : (161 : Int) + 1 < K ∧ 5 < K)⟩) (fun g6 he_g6 => ?_)
      have h := h g6 he_g6
      refine Rn_pure 2 (i' := 105) (L' := [some (2, 161), none]) (st' := [(2, 161), (2, 161)]) rfl ?_
      refine Rn_getI rfl (⟨rfl, (by omega : (0 : Int) ≤ 161), (by omega : (161 : Int) + 1 < K ∧ 5 < K)⟩) ?_
      refine Rn_pure 2 (i' := 108) (L' := [some (2, 161), none]) (st' := [(0, g6 161 18 + 1), (2, 161)]) rfl ?_
      refine Rn_putI rfl (⟨rfl, (by omega : (0 : Int) ≤ 161), (by omega : (161 : Int) + 1 < K ∧ 5 < K)⟩) (fun g7 he_g7 => ?_)
      have h := h g7 he_g7
      refine Rn_pure 1 (i' := 81) (L' := [some (2, 161), none]) (st' := []) rfl ?_
      exact h
-- EventLedgerModel.wordHere ()I
theorem v_M_wordHere {K : Int} {S : Nat} {g r : ab_H} (P : Int → ab_H → ab_H → Prop) (hr : SI r) (hK : 186 ≤ K) (h : ab_Rn m_M_wordHere 4 [some (2, 161), some (0, 0), some (0, 0), none] [] (K, S, g, r) (ab_Qi K S P)) : ab_RI m_M_wordHere [(2, 161)] K S g r P := by
  show ab_Rn m_M_wordHere 0 [some (2, 161), none, none, none] [] (K, S, g, r) (ab_Qi K S P)
  refine Rn_pure 4 (i' := 4) (L' := [some (2, 161), some (0, 0), some (0, 0), none]) (st' := []) rfl ?_
  exact h
theorem v_M_wordHere_4 {K : Int} {S : Nat} {g r : ab_H} {l1 l2 : Int} (P : Int → ab_H → ab_H → Prop) (hr : SI r) (hK : 186 ≤ K) (h : ((wr 86 ≤ wr l2 → P (-1) g r) ∧ (wr l2 < wr 86 → ab_Rn m_M_wordHere 10 [some (2, 161), some (0, l1), some (0, l2), some (0, 0)] [] (K, S, g, r) (ab_Qi K S P)))) : ab_Rn m_M_wordHere 4 [some (2, 161), some (0, l1), some (0, l2), none] [] (K, S, g, r) (ab_Qi K S P) := by
  refine Rn_pure 2 (i' := 6) (L' := [some (2, 161), some (0, l1), some (0, l2), none]) (st' := [(2, (-22)), (0, l2)]) rfl ?_
  refine Rn_strlen rfl (Nat.le_of_ble_eq_true rfl) ?_
  refine Rn_icge rfl (fun hc => ?_) (fun hc => ?_)
  · have h := h.1 hc
    refine Rn_pure 1 (i' := 66) (L' := [some (2, 161), some (0, l1), some (0, l2), none]) (st' := [(0, (-1))]) rfl ?_
    exact Rn_ret1 rfl h
  · have h := h.2 hc
    refine Rn_pure 2 (i' := 10) (L' := [some (2, 161), some (0, l1), some (0, l2), some (0, 0)]) (st' := []) rfl ?_
    exact h
theorem v_M_wordHere_10 {K : Int} {S : Nat} {g r : ab_H} {l1 l2 l3 : Int} (P : Int → ab_H → ab_H → Prop) (hr : SI r) (hK : 186 ≤ K) (h : ((0 : Int) ≤ l2 + l3 ∧ (l2 + l3 : Int) < 86) ∧ ((wr ((ab_nth ab_str (l2 + l3).toNat).getD 0) = wr 32 → ((0 : Int) ≤ l2 + l3 ∧ (l2 + l3 : Int) < 86) ∧ ((¬ wr ((ab_nth ab_str (l2 + l3).toNat).getD 0) = wr 32 → ab_Rn m_M_wordHere 55 [some (2, 161), some (0, l1), some (0, l2), none] [] (K, S, g, r) (ab_Qi K S P)) ∧ (wr ((ab_nth ab_str (l2 + l3).toNat).getD 0) = wr 32 → ((¬ wr (g 161 19 + l3) = wr (g 161 18) → ab_Rn m_M_wordHere 55 [some (2, 161), some (0, l1), some (0, l2), none] [] (K, S, g, r) (ab_Qi K S P)) ∧ (wr (g 161 19 + l3) = wr (g 161 18) → P l1 g r))))) ∧ (¬ wr ((ab_nth ab_str (l2 + l3).toNat).getD 0) = wr 32 → ((wr (g 161 18) ≤ wr (g 161 19 + l3) → ((0 : Int) ≤ l2 + l3 ∧ (l2 + l3 : Int) < 86) ∧ ((¬ wr ((ab_nth ab_str (l2 + l3).toNat).getD 0) = wr 32 → ab_Rn m_M_wordHere 55 [some (2, 161), some (0, l1), some (0, l2), none] [] (K, S, g, r) (ab_Qi K S P)) ∧ (wr ((ab_nth ab_str (l2 + l3).toNat).getD 0) = wr 32 → ((¬ wr (g 161 19 + l3) = wr (g 161 18) → ab_Rn m_M_wordHere 55 [some (2, 161), some (0, l1), some (0, l2), none] [] (K, S, g, r) (ab_Qi K S P)) ∧ (wr (g 161 19 + l3) = wr (g 161 18) → P l1 g r))))) ∧ (wr (g 161 19 + l3) < wr (g 161 18) → ((0 : Int) ≤ g 161 19 + l3 ∧ (g 161 19 + l3 : Int) < 900) ∧ ((0 : Int) ≤ l2 + l3 ∧ (l2 + l3 : Int) < 86) ∧ ((¬ wr (g 162 (g 161 19 + l3)) = wr ((ab_nth ab_str (l2 + l3).toNat).getD 0) → ((0 : Int) ≤ l2 + l3 ∧ (l2 + l3 : Int) < 86) ∧ ((¬ wr ((ab_nth ab_str (l2 + l3).toNat).getD 0) = wr 32 → ab_Rn m_M_wordHere 55 [some (2, 161), some (0, l1), some (0, l2), none] [] (K, S, g, r) (ab_Qi K S P)) ∧ (wr ((ab_nth ab_str (l2 + l3).toNat).getD 0) = wr 32 → ((¬ wr (g 161 19 + l3) = wr (g 161 18) → ab_Rn m_M_wordHere 55 [some (2, 161), some (0, l1), some (0, l2), none] [] (K, S, g, r) (ab_Qi K S P)) ∧ (wr (g 161 19 + l3) = wr (g 161 18) → P l1 g r))))) ∧ (wr (g 162 (g 161 19 + l3)) = wr ((ab_nth ab_str (l2 + l3).toNat).getD 0) → ab_Rn m_M_wordHere 10 [some (2, 161), some (0, l1), some (0, l2), some (0, l3 + 1)] [] (K, S, g, r) (ab_Qi K S P)))))))) : ab_Rn m_M_wordHere 10 [some (2, 161), some (0, l1), some (0, l2), some (0, l3)] [] (K, S, g, r) (ab_Qi K S P) := by
  refine Rn_pure 4 (i' := 14) (L' := [some (2, 161), some (0, l1), some (0, l2), some (0, l3)]) (st' := [(0, l2 + l3), (2, (-22))]) rfl ?_
  obtain ⟨hg, h⟩ := h
  refine Rn_char rfl (Nat.le_of_ble_eq_true rfl) hg ?_
  refine Rn_pure 1 (i' := 16) (L' := [some (2, 161), some (0, l1), some (0, l2), some (0, l3)]) (st' := [(0, 32), (0, (ab_nth ab_str (l2 + l3).toNat).getD 0)]) rfl ?_
  refine Rn_iceq rfl (fun hc => ?_) (fun hc => ?_)
  · have h := h.1 hc
    refine Rn_pure 4 (i' := 43) (L' := [some (2, 161), some (0, l1), some (0, l2), some (0, l3)]) (st' := [(0, l2 + l3), (2, (-22))]) rfl ?_
    obtain ⟨hg, h⟩ := h
    refine Rn_char rfl (Nat.le_of_ble_eq_true rfl) hg ?_
    refine Rn_pure 1 (i' := 45) (L' := [some (2, 161), some (0, l1), some (0, l2), some (0, l3)]) (st' := [(0, 32), (0, (ab_nth ab_str (l2 + l3).toNat).getD 0)]) rfl ?_
    refine Rn_icne rfl (fun hc => ?_) (fun hc => ?_)
    · have h := h.1 hc
      refine Rn_weak (L' := [some (2, 161), some (0, l1), some (0, l2), none]) ⟨rfl, ⟨rfl, ⟨rfl, trivial⟩⟩⟩ ?_
      exact h
    · have h := h.2 hc
      refine Rn_pure 1 (i' := 47) (L' := [some (2, 161), some (0, l1), some (0, l2), some (0, l3)]) (st' := [(2, 161)]) rfl ?_
      refine Rn_getI rfl (⟨rfl, (by omega : (0 : Int) ≤ 161), (by omega : (161 : Int) + 1 < K ∧ 5 < K)⟩) ?_
      refine Rn_pure 3 (i' := 51) (L' := [some (2, 161), some (0, l1), some (0, l2), some (0, l3)]) (st' := [(2, 161), (0, g 161 19 + l3)]) rfl ?_
      refine Rn_getI rfl (⟨rfl, (by omega : (0 : Int) ≤ 161), (by omega : (161 : Int) + 1 < K ∧ 5 < K)⟩) ?_
      refine Rn_icne rfl (fun hc => ?_) (fun hc => ?_)
      · have h := h.1 hc
        refine Rn_weak (L' := [some (2, 161), some (0, l1), some (0, l2), none]) ⟨rfl, ⟨rfl, ⟨rfl, trivial⟩⟩⟩ ?_
        exact h
      · have h := h.2 hc
        refine Rn_pure 1 (i' := 54) (L' := [some (2, 161), some (0, l1), some (0, l2), some (0, l3)]) (st' := [(0, l1)]) rfl ?_
        exact Rn_ret1 rfl h
  · have h := h.2 hc
    refine Rn_pure 1 (i' := 18) (L' := [some (2, 161), some (0, l1), some (0, l2), some (0, l3)]) (st' := [(2, 161)]) rfl ?_
    refine Rn_getI rfl (⟨rfl, (by omega : (0 : Int) ≤ 161), (by omega : (161 : Int) + 1 < K ∧ 5 < K)⟩) ?_
    refine Rn_pure 3 (i' := 22) (L' := [some (2, 161), some (0, l1), some (0, l2), some (0, l3)]) (st' := [(2, 161), (0, g 161 19 + l3)]) rfl ?_
    refine Rn_getI rfl (⟨rfl, (by omega : (0 : Int) ≤ 161), (by omega : (161 : Int) + 1 < K ∧ 5 < K)⟩) ?_
    refine Rn_icge rfl (fun hc => ?_) (fun hc => ?_)
    · have h := h.1 hc
      refine Rn_pure 4 (i' := 43) (L' := [some (2, 161), some (0, l1), some (0, l2), some (0, l3)]) (st' := [(0, l2 + l3), (2, (-22))]) rfl ?_
      obtain ⟨hg, h⟩ := h
      refine Rn_char rfl (Nat.le_of_ble_eq_true rfl) hg ?_
      refine Rn_pure 1 (i' := 45) (L' := [some (2, 161), some (0, l1), some (0, l2), some (0, l3)]) (st' := [(0, 32), (0, (ab_nth ab_str (l2 + l3).toNat).getD 0)]) rfl ?_
      refine Rn_icne rfl (fun hc => ?_) (fun hc => ?_)
      · have h := h.1 hc
        refine Rn_weak (L' := [some (2, 161), some (0, l1), some (0, l2), none]) ⟨rfl, ⟨rfl, ⟨rfl, trivial⟩⟩⟩ ?_
        exact h
      · have h := h.2 hc
        refine Rn_pure 1 (i' := 47) (L' := [some (2, 161), some (0, l1), some (0, l2), some (0, l3)]) (st' := [(2, 161)]) rfl ?_
        refine Rn_getI rfl (⟨rfl, (by omega : (0 : Int) ≤ 161), (by omega : (161 : Int) + 1 < K ∧ 5 < K)⟩) ?_
        refine Rn_pure 3 (i' := 51) (L' := [some (2, 161), some (0, l1), some (0, l2), some (0, l3)]) (st' := [(2, 161), (0, g 161 19 + l3)]) rfl ?_
        refine Rn_getI rfl (⟨rfl, (by omega : (0 : Int) ≤ 161), (by omega : (161 : Int) + 1 < K ∧ 5 < K)⟩) ?_
        refine Rn_icne rfl (fun hc => ?_) (fun hc => ?_)
        · have h := h.1 hc
          refine Rn_weak (L' := [some (2, 161), some (0, l1), some (0, l2), none]) ⟨rfl, ⟨rfl, ⟨rfl, trivial⟩⟩⟩ ?_
          exact h
        · have h := h.2 hc
          refine Rn_pure 1 (i' := 54) (L' := [some (2, 161), some (0, l1), some (0, l2), some (0, l3)]) (st' := [(0, l1)]) rfl ?_
          exact Rn_ret1 rfl h
    · have h := h.2 hc
      refine Rn_pure 1 (i' := 25) (L' := [some (2, 161), some (0, l1), some (0, l2), some (0, l3)]) (st' := [(2, 161)]) rfl ?_
      refine Rn_getR rfl (⟨rfl, (by omega : (0 : Int) ≤ 161), (by omega : (161 : Int) + 1 < K ∧ 5 < K)⟩) (hr 137 _ rfl) (by decide) ?_
      refine Rn_pure 1 (i' := 27) (L' := [some (2, 161), some (0, l1), some (0, l2), some (0, l3)]) (st' := [(2, 161), (2, 162)]) rfl ?_
      refine Rn_getI rfl (⟨rfl, (by omega : (0 : Int) ≤ 161), (by omega : (161 : Int) + 1 < K ∧ 5 < K)⟩) ?_
      refine Rn_pure 2 (i' := 30) (L' := [some (2, 161), some (0, l1), some (0, l2), some (0, l3)]) (st' := [(0, g 161 19 + l3), (2, 162)]) rfl ?_
      obtain ⟨hg, h⟩ := h
      refine Rn_iald rfl (⟨rfl, (by omega : (0 : Int) ≤ 162), (by omega : (162 : Int) + 1 < K ∧ 5 < K)⟩) hg ?_
      refine Rn_pure 4 (i' := 35) (L' := [some (2, 161), some (0, l1), some (0, l2), some (0, l3)]) (st' := [(0, l2 + l3), (2, (-22)), (0, g 162 (g 161 19 + l3))]) rfl ?_
      obtain ⟨hg, h⟩ := h
      refine Rn_char rfl (Nat.le_of_ble_eq_true rfl) hg ?_
      refine Rn_icne rfl (fun hc => ?_) (fun hc => ?_)
      · have h := h.1 hc
        refine Rn_pure 4 (i' := 43) (L' := [some (2, 161), some (0, l1), some (0, l2), some (0, l3)]) (st' := [(0, l2 + l3), (2, (-22))]) rfl ?_
        obtain ⟨hg, h⟩ := h
        refine Rn_char rfl (Nat.le_of_ble_eq_true rfl) hg ?_
        refine Rn_pure 1 (i' := 45) (L' := [some (2, 161), some (0, l1), some (0, l2), some (0, l3)]) (st' := [(0, 32), (0, (ab_nth ab_str (l2 + l3).toNat).getD 0)]) rfl ?_
        refine Rn_icne rfl (fun hc => ?_) (fun hc => ?_)
        · have h := h.1 hc
          refine Rn_weak (L' := [some (2, 161), some (0, l1), some (0, l2), none]) ⟨rfl, ⟨rfl, ⟨rfl, trivial⟩⟩⟩ ?_
          exact h
        · have h := h.2 hc
          refine Rn_pure 1 (i' := 47) (L' := [some (2, 161), some (0, l1), some (0, l2), some (0, l3)]) (st' := [(2, 161)]) rfl ?_
          refine Rn_getI rfl (⟨rfl, (by omega : (0 : Int) ≤ 161), (by omega : (161 : Int) + 1 < K ∧ 5 < K)⟩) ?_
          refine Rn_pure 3 (i' := 51) (L' := [some (2, 161), some (0, l1), some (0, l2), some (0, l3)]) (st' := [(2, 161), (0, g 161 19 + l3)]) rfl ?_
          refine Rn_getI rfl (⟨rfl, (by omega : (0 : Int) ≤ 161), (by omega : (161 : Int) + 1 < K ∧ 5 < K)⟩) ?_
          refine Rn_icne rfl (fun hc => ?_) (fun hc => ?_)
          · have h := h.1 hc
            refine Rn_weak (L' := [some (2, 161), some (0, l1), some (0, l2), none]) ⟨rfl, ⟨rfl, ⟨rfl, trivial⟩⟩⟩ ?_
            exact h
          · have h := h.2 hc
            refine Rn_pure 1 (i' := 54) (L' := [some (2, 161), some (0, l1), some (0, l2), some (0, l3)]) (st' := [(0, l1)]) rfl ?_
            exact Rn_ret1 rfl h
      · have h := h.2 hc
        refine Rn_pure 2 (i' := 10) (L' := [some (2, 161), some (0, l1), some (0, l2), some (0, l3 + 1)]) (st' := []) rfl ?_
        exact h
theorem v_M_wordHere_55 {K : Int} {S : Nat} {g r : ab_H} {l1 l2 : Int} (P : Int → ab_H → ab_H → Prop) (hr : SI r) (hK : 186 ≤ K) (h : ((0 : Int) ≤ l2 ∧ (l2 : Int) < 86) ∧ ((wr ((ab_nth ab_str (l2).toNat).getD 0) = wr 32 → ab_Rn m_M_wordHere 4 [some (2, 161), some (0, l1 + 1), some (0, l2 + 1), none] [] (K, S, g, r) (ab_Qi K S P)) ∧ (¬ wr ((ab_nth ab_str (l2).toNat).getD 0) = wr 32 → ab_Rn m_M_wordHere 55 [some (2, 161), some (0, l1), some (0, l2 + 1), none] [] (K, S, g, r) (ab_Qi K S P)))) : ab_Rn m_M_wordHere 55 [some (2, 161), some (0, l1), some (0, l2), none] [] (K, S, g, r) (ab_Qi K S P) := by
  refine Rn_pure 2 (i' := 57) (L' := [some (2, 161), some (0, l1), some (0, l2), none]) (st' := [(0, l2), (2, (-22))]) rfl ?_
  obtain ⟨hg, h⟩ := h
  refine Rn_char rfl (Nat.le_of_ble_eq_true rfl) hg ?_
  refine Rn_pure 1 (i' := 59) (L' := [some (2, 161), some (0, l1), some (0, l2), none]) (st' := [(0, 32), (0, (ab_nth ab_str (l2).toNat).getD 0)]) rfl ?_
  refine Rn_iceq rfl (fun hc => ?_) (fun hc => ?_)
  · have h := h.1 hc
    refine Rn_pure 3 (i' := 4) (L' := [some (2, 161), some (0, l1 + 1), some (0, l2 + 1), none]) (st' := []) rfl ?_
    exact h
  · have h := h.2 hc
    refine Rn_pure 2 (i' := 55) (L' := [some (2, 161), some (0, l1), some (0, l2 + 1), none]) (st' := []) rfl ?_
    exact h
-- EventLedgerModel.nameHere ()V
theorem v_M_nameHere {K : Int} {S : Nat} {g r : ab_H} (P : ab_H → ab_H → Prop) (hr : SI r) (hK : 186 ≤ K) (h : ∀ g1, g1 = ab_up g 161 21 0 → ab_Rn m_M_nameHere 5 [some (2, 161), some (0, 0)] [] (K, S, g1, r) (ab_Qv K S P)) : ab_RV m_M_nameHere [(2, 161)] K S g r P := by
  show ab_Rn m_M_nameHere 0 [some (2, 161), none] [] (K, S, g, r) (ab_Qv K S P)
  refine Rn_pure 2 (i' := 2) (L' := [some (2, 161), none]) (st' := [(0, 0), (2, 161)]) rfl ?_
  refine Rn_putI rfl (⟨rfl, (by omega : (0 : Int) ≤ 161), (by omega : (161 : Int) + 1 < K ∧ 5 < K)⟩) (fun g1 he_g1 => ?_)
  have h := h g1 he_g1
  refine Rn_pure 2 (i' := 5) (L' := [some (2, 161), some (0, 0)]) (st' := []) rfl ?_
  exact h
theorem v_M_nameHere_5 {K : Int} {S : Nat} {g r : ab_H} {l1 : Int} (P : ab_H → ab_H → Prop) (hr : SI r) (hK : 186 ≤ K) (h : ((wr 6 ≤ wr l1 → P g r) ∧ (wr l1 < wr 6 → ((wr (g 161 18) ≤ wr (g 161 19 + l1) → ∀ g1, g1 = ab_up g 161 21 (ab_or (ab_shl (g 161 21) 5) 0) → ab_Rn m_M_nameHere 5 [some (2, 161), some (0, l1 + 1)] [] (K, S, g1, r) (ab_Qv K S P)) ∧ (wr (g 161 19 + l1) < wr (g 161 18) → ((0 : Int) ≤ g 161 19 + l1 ∧ (g 161 19 + l1 : Int) < 900) ∧ ∀ g2, g2 = ab_up g 161 21 (ab_or (ab_shl (g 161 21) 5) (g 162 (g 161 19 + l1) - 97 + 1)) → ab_Rn m_M_nameHere 5 [some (2, 161), some (0, l1 + 1)] [] (K, S, g2, r) (ab_Qv K S P)))))) : ab_Rn m_M_nameHere 5 [some (2, 161), some (0, l1)] [] (K, S, g, r) (ab_Qv K S P) := by
  refine Rn_pure 2 (i' := 7) (L' := [some (2, 161), some (0, l1)]) (st' := [(0, 6), (0, l1)]) rfl ?_
  refine Rn_icge rfl (fun hc => ?_) (fun hc => ?_)
  · have h := h.1 hc
    exact Rn_ret0 rfl h
  · have h := h.2 hc
    refine Rn_pure 2 (i' := 10) (L' := [some (2, 161), some (0, l1)]) (st' := [(2, 161), (2, 161)]) rfl ?_
    refine Rn_getI rfl (⟨rfl, (by omega : (0 : Int) ≤ 161), (by omega : (161 : Int) + 1 < K ∧ 5 < K)⟩) ?_
    refine Rn_pure 3 (i' := 14) (L' := [some (2, 161), some (0, l1)]) (st' := [(2, 161), (0, ab_shl (g 161 21) 5), (2, 161)]) rfl ?_
    refine Rn_getI rfl (⟨rfl, (by omega : (0 : Int) ≤ 161), (by omega : (161 : Int) + 1 < K ∧ 5 < K)⟩) ?_
    refine Rn_pure 3 (i' := 18) (L' := [some (2, 161), some (0, l1)]) (st' := [(2, 161), (0, g 161 19 + l1), (0, ab_shl (g 161 21) 5), (2, 161)]) rfl ?_
    refine Rn_getI rfl (⟨rfl, (by omega : (0 : Int) ≤ 161), (by omega : (161 : Int) + 1 < K ∧ 5 < K)⟩) ?_
    refine Rn_icge rfl (fun hc => ?_) (fun hc => ?_)
    · have h := h.1 hc
      refine Rn_pure 2 (i' := 34) (L' := [some (2, 161), some (0, l1)]) (st' := [(0, ab_or (ab_shl (g 161 21) 5) 0), (2, 161)]) rfl ?_
      refine Rn_putI rfl (⟨rfl, (by omega : (0 : Int) ≤ 161), (by omega : (161 : Int) + 1 < K ∧ 5 < K)⟩) (fun g1 he_g1 => ?_)
      have h := h g1 he_g1
      refine Rn_pure 2 (i' := 5) (L' := [some (2, 161), some (0, l1 + 1)]) (st' := []) rfl ?_
      exact h
    · have h := h.2 hc
      refine Rn_pure 1 (i' := 21) (L' := [some (2, 161), some (0, l1)]) (st' := [(2, 161), (0, ab_shl (g 161 21) 5), (2, 161)]) rfl ?_
      refine Rn_getR rfl (⟨rfl, (by omega : (0 : Int) ≤ 161), (by omega : (161 : Int) + 1 < K ∧ 5 < K)⟩) (hr 137 _ rfl) (by decide) ?_
      refine Rn_pure 1 (i' := 23) (L' := [some (2, 161), some (0, l1)]) (st' := [(2, 161), (2, 162), (0, ab_shl (g 161 21) 5), (2, 161)]) rfl ?_
      refine Rn_getI rfl (⟨rfl, (by omega : (0 : Int) ≤ 161), (by omega : (161 : Int) + 1 < K ∧ 5 < K)⟩) ?_
      refine Rn_pure 2 (i' := 26) (L' := [some (2, 161), some (0, l1)]) (st' := [(0, g 161 19 + l1), (2, 162), (0, ab_shl (g 161 21) 5), (2, 161)]) rfl ?_
      obtain ⟨hg, h⟩ := h
      refine Rn_iald rfl (⟨rfl, (by omega : (0 : Int) ≤ 162), (by omega : (162 : Int) + 1 < K ∧ 5 < K)⟩) hg ?_
      refine Rn_pure 6 (i' := 34) (L' := [some (2, 161), some (0, l1)]) (st' := [(0, ab_or (ab_shl (g 161 21) 5) (g 162 (g 161 19 + l1) - 97 + 1)), (2, 161)]) rfl ?_
      refine Rn_putI rfl (⟨rfl, (by omega : (0 : Int) ≤ 161), (by omega : (161 : Int) + 1 < K ∧ 5 < K)⟩) (fun g2 he_g2 => ?_)
      have h := h g2 he_g2
      refine Rn_pure 2 (i' := 5) (L' := [some (2, 161), some (0, l1 + 1)]) (st' := []) rfl ?_
      exact h
-- EventLedgerModel.wrong (I)V
theorem v_M_wrong {K : Int} {S : Nat} {g r : ab_H} {p1 : Int} (P : ab_H → ab_H → Prop) (hr : SI r) (hK : 186 ≤ K) (h : ((wr (g 161 22) = wr 0 → ∀ g1, g1 = ab_up g 161 22 p1 → ∀ g2, g2 = ab_up g1 161 23 (g1 161 19) → P g2 r) ∧ (¬ wr (g 161 22) = wr 0 → P g r))) : ab_RV m_M_wrong [(2, 161), (0, p1)] K S g r P := by
  show ab_Rn m_M_wrong 0 [some (2, 161), some (0, p1)] [] (K, S, g, r) (ab_Qv K S P)
  refine Rn_pure 1 (i' := 1) (L' := [some (2, 161), some (0, p1)]) (st' := [(2, 161)]) rfl ?_
  refine Rn_getI rfl (⟨rfl, (by omega : (0 : Int) ≤ 161), (by omega : (161 : Int) + 1 < K ∧ 5 < K)⟩) ?_
  refine Rn_ifeq rfl (fun hc => ?_) (fun hc => ?_)
  · have h := h.1 hc
    refine Rn_pure 2 (i' := 6) (L' := [some (2, 161), some (0, p1)]) (st' := [(0, p1), (2, 161)]) rfl ?_
    refine Rn_putI rfl (⟨rfl, (by omega : (0 : Int) ≤ 161), (by omega : (161 : Int) + 1 < K ∧ 5 < K)⟩) (fun g1 he_g1 => ?_)
    have h := h g1 he_g1
    refine Rn_pure 2 (i' := 9) (L' := [some (2, 161), some (0, p1)]) (st' := [(2, 161), (2, 161)]) rfl ?_
    refine Rn_getI rfl (⟨rfl, (by omega : (0 : Int) ≤ 161), (by omega : (161 : Int) + 1 < K ∧ 5 < K)⟩) ?_
    refine Rn_putI rfl (⟨rfl, (by omega : (0 : Int) ≤ 161), (by omega : (161 : Int) + 1 < K ∧ 5 < K)⟩) (fun g2 he_g2 => ?_)
    have h := h g2 he_g2
    exact Rn_ret0 rfl h
  · have h := h.2 hc
    exact Rn_ret0 rfl h
-- EventLedgerModel.goOn ()V
theorem v_M_goOn {K : Int} {S : Nat} {g r : ab_H} (P : ab_H → ab_H → Prop) (hr : SI r) (hK : 186 ≤ K) (h : ((¬ wr (g 161 22) = wr 0 → P g r) ∧ (wr (g 161 22) = wr 0 → ab_RV m_M_token [(2, 161)] K S g r (fun g1 r' => r' = r ∧ (P g1 r))))) : ab_RV m_M_goOn [(2, 161)] K S g r P := by
  show ab_Rn m_M_goOn 0 [some (2, 161)] [] (K, S, g, r) (ab_Qv K S P)
  refine Rn_pure 1 (i' := 1) (L' := [some (2, 161)]) (st' := [(2, 161)]) rfl ?_
  refine Rn_getI rfl (⟨rfl, (by omega : (0 : Int) ≤ 161), (by omega : (161 : Int) + 1 < K ∧ 5 < K)⟩) ?_
  refine Rn_ifne rfl (fun hc => ?_) (fun hc => ?_)
  · have h := h.1 hc
    exact Rn_ret0 rfl h
  · have h := h.2 hc
    refine Rn_pure 1 (i' := 4) (L' := [some (2, 161)]) (st' := [(2, 161)]) rfl ?_
    refine Rn_callV [(2, 161)] [] rfl rfl rfl rfl (ab_rvB_of rfl (⟨rfl, (by omega : (0 : Int) ≤ 161), (by omega : (161 : Int) + 1 < K ∧ 5 < K)⟩)) ?_
    refine h.mono (fun g1 r' h => ?_)
    obtain ⟨hx, h⟩ := h
    replace hx := hx.symm
    subst hx
    exact Rn_ret0 rfl h
-- EventLedgerModel.numeral (II)I
theorem v_M_numeral {K : Int} {S : Nat} {g r : ab_H} {p1 p2 : Int} (P : Int → ab_H → ab_H → Prop) (hr : SI r) (hK : 186 ≤ K) (h : ((wr (g 161 22) = wr 0 → ((wr (g 161 20) = wr 2 → ((wr (g 161 21) < wr p1 → ab_RV m_M_wrong [(2, 161), (0, 2)] K S g r (fun g1 r' => r' = r ∧ (((¬ wr (g1 161 22) = wr 0 → ab_RV m_M_goOn [(2, 161)] K S g1 r (fun g3 r' => r' = r ∧ (P p1 g3 r))) ∧ (wr (g1 161 22) = wr 0 → ab_RV m_M_goOn [(2, 161)] K S g1 r (fun g5 r' => r' = r ∧ (P (g1 161 21) g5 r))))))) ∧ (wr p1 ≤ wr (g 161 21) → ((wr (g 161 21) ≤ wr p2 → ((¬ wr (g 161 22) = wr 0 → ab_RV m_M_goOn [(2, 161)] K S g r (fun g7 r' => r' = r ∧ (P p1 g7 r))) ∧ (wr (g 161 22) = wr 0 → ab_RV m_M_goOn [(2, 161)] K S g r (fun g9 r' => r' = r ∧ (P (g 161 21) g9 r))))) ∧ (wr p2 < wr (g 161 21) → ab_RV m_M_wrong [(2, 161), (0, 2)] K S g r (fun g11 r' => r' = r ∧ (((¬ wr (g11 161 22) = wr 0 → ab_RV m_M_goOn [(2, 161)] K S g11 r (fun g13 r' => r' = r ∧ (P p1 g13 r))) ∧ (wr (g11 161 22) = wr 0 → ab_RV m_M_goOn [(2, 161)] K S g11 r (fun g15 r' => r' = r ∧ (P (g11 161 21) g15 r))))))))))) ∧ (¬ wr (g 161 20) = wr 2 → ab_RV m_M_wrong [(2, 161), (0, 1)] K S g r (fun g17 r' => r' = r ∧ (((¬ wr (g17 161 22) = wr 0 → ab_RV m_M_goOn [(2, 161)] K S g17 r (fun g19 r' => r' = r ∧ (P p1 g19 r))) ∧ (wr (g17 161 22) = wr 0 → ab_RV m_M_goOn [(2, 161)] K S g17 r (fun g21 r' => r' = r ∧ (P (g17 161 21) g21 r))))))))) ∧ (¬ wr (g 161 22) = wr 0 → P p1 g r))) : ab_RI m_M_numeral [(2, 161), (0, p1), (0, p2)] K S g r P := by
  show ab_Rn m_M_numeral 0 [some (2, 161), some (0, p1), some (0, p2), none] [] (K, S, g, r) (ab_Qi K S P)
  refine Rn_pure 1 (i' := 1) (L' := [some (2, 161), some (0, p1), some (0, p2), none]) (st' := [(2, 161)]) rfl ?_
  refine Rn_getI rfl (⟨rfl, (by omega : (0 : Int) ≤ 161), (by omega : (161 : Int) + 1 < K ∧ 5 < K)⟩) ?_
  refine Rn_ifeq rfl (fun hc => ?_) (fun hc => ?_)
  · have h := h.1 hc
    refine Rn_pure 1 (i' := 6) (L' := [some (2, 161), some (0, p1), some (0, p2), none]) (st' := [(2, 161)]) rfl ?_
    refine Rn_getI rfl (⟨rfl, (by omega : (0 : Int) ≤ 161), (by omega : (161 : Int) + 1 < K ∧ 5 < K)⟩) ?_
    refine Rn_pure 1 (i' := 8) (L' := [some (2, 161), some (0, p1), some (0, p2), none]) (st' := [(0, 2), (0, g 161 20)]) rfl ?_
    refine Rn_iceq rfl (fun hc => ?_) (fun hc => ?_)
    · have h := h.1 hc
      refine Rn_pure 1 (i' := 14) (L' := [some (2, 161), some (0, p1), some (0, p2), none]) (st' := [(2, 161)]) rfl ?_
      refine Rn_getI rfl (⟨rfl, (by omega : (0 : Int) ≤ 161), (by omega : (161 : Int) + 1 < K ∧ 5 < K)⟩) ?_
      refine Rn_pure 1 (i' := 16) (L' := [some (2, 161), some (0, p1), some (0, p2), none]) (st' := [(0, p1), (0, g 161 21)]) rfl ?_
      refine Rn_iclt rfl (fun hc => ?_) (fun hc => ?_)
      · have h := h.1 hc
        refine Rn_pure 2 (i' := 23) (L' := [some (2, 161), some (0, p1), some (0, p2), none]) (st' := [(0, 2), (2, 161)]) rfl ?_
        refine Rn_callV [(2, 161), (0, 2)] [] rfl rfl rfl rfl (ab_rvB_of rfl (⟨rfl, (by omega : (0 : Int) ≤ 161), (by omega : (161 : Int) + 1 < K ∧ 5 < K)⟩)) ?_
        refine h.mono (fun g1 r' h => ?_)
        obtain ⟨hx, h⟩ := h
        replace hx := hx.symm
        subst hx
        refine Rn_pure 1 (i' := 25) (L' := [some (2, 161), some (0, p1), some (0, p2), none]) (st' := [(2, 161)]) rfl ?_
        refine Rn_getI rfl (⟨rfl, (by omega : (0 : Int) ≤ 161), (by omega : (161 : Int) + 1 < K ∧ 5 < K)⟩) ?_
        refine Rn_ifne rfl (fun hc => ?_) (fun hc => ?_)
        · have h := h.1 hc
          refine Rn_pure 3 (i' := 33) (L' := [some (2, 161), some (0, p1), some (0, p2), some (0, p1)]) (st' := [(2, 161)]) rfl ?_
          refine Rn_callV [(2, 161)] [] rfl rfl rfl rfl (ab_rvB_of rfl (⟨rfl, (by omega : (0 : Int) ≤ 161), (by omega : (161 : Int) + 1 < K ∧ 5 < K)⟩)) ?_
          refine h.mono (fun g3 r' h => ?_)
          obtain ⟨hx, h⟩ := h
          replace hx := hx.symm
          subst hx
          refine Rn_pure 1 (i' := 35) (L' := [some (2, 161), some (0, p1), some (0, p2), some (0, p1)]) (st' := [(0, p1)]) rfl ?_
          exact Rn_ret1 rfl h
        · have h := h.2 hc
          refine Rn_pure 1 (i' := 28) (L' := [some (2, 161), some (0, p1), some (0, p2), none]) (st' := [(2, 161)]) rfl ?_
          refine Rn_getI rfl (⟨rfl, (by omega : (0 : Int) ≤ 161), (by omega : (161 : Int) + 1 < K ∧ 5 < K)⟩) ?_
          refine Rn_pure 3 (i' := 33) (L' := [some (2, 161), some (0, p1), some (0, p2), some (0, g1 161 21)]) (st' := [(2, 161)]) rfl ?_
          refine Rn_callV [(2, 161)] [] rfl rfl rfl rfl (ab_rvB_of rfl (⟨rfl, (by omega : (0 : Int) ≤ 161), (by omega : (161 : Int) + 1 < K ∧ 5 < K)⟩)) ?_
          refine h.mono (fun g5 r' h => ?_)
          obtain ⟨hx, h⟩ := h
          replace hx := hx.symm
          subst hx
          refine Rn_pure 1 (i' := 35) (L' := [some (2, 161), some (0, p1), some (0, p2), some (0, g1 161 21)]) (st' := [(0, g1 161 21)]) rfl ?_
          exact Rn_ret1 rfl h
      · have h := h.2 hc
        refine Rn_pure 1 (i' := 18) (L' := [some (2, 161), some (0, p1), some (0, p2), none]) (st' := [(2, 161)]) rfl ?_
        refine Rn_getI rfl (⟨rfl, (by omega : (0 : Int) ≤ 161), (by omega : (161 : Int) + 1 < K ∧ 5 < K)⟩) ?_
        refine Rn_pure 1 (i' := 20) (L' := [some (2, 161), some (0, p1), some (0, p2), none]) (st' := [(0, p2), (0, g 161 21)]) rfl ?_
        refine Rn_icle rfl (fun hc => ?_) (fun hc => ?_)
        · have h := h.1 hc
          refine Rn_pure 1 (i' := 25) (L' := [some (2, 161), some (0, p1), some (0, p2), none]) (st' := [(2, 161)]) rfl ?_
          refine Rn_getI rfl (⟨rfl, (by omega : (0 : Int) ≤ 161), (by omega : (161 : Int) + 1 < K ∧ 5 < K)⟩) ?_
          refine Rn_ifne rfl (fun hc => ?_) (fun hc => ?_)
          · have h := h.1 hc
            refine Rn_pure 3 (i' := 33) (L' := [some (2, 161), some (0, p1), some (0, p2), some (0, p1)]) (st' := [(2, 161)]) rfl ?_
            refine Rn_callV [(2, 161)] [] rfl rfl rfl rfl (ab_rvB_of rfl (⟨rfl, (by omega : (0 : Int) ≤ 161), (by omega : (161 : Int) + 1 < K ∧ 5 < K)⟩)) ?_
            refine h.mono (fun g7 r' h => ?_)
            obtain ⟨hx, h⟩ := h
            replace hx := hx.symm
            subst hx
            refine Rn_pure 1 (i' := 35) (L' := [some (2, 161), some (0, p1), some (0, p2), some (0, p1)]) (st' := [(0, p1)]) rfl ?_
            exact Rn_ret1 rfl h
          · have h := h.2 hc
            refine Rn_pure 1 (i' := 28) (L' := [some (2, 161), some (0, p1), some (0, p2), none]) (st' := [(2, 161)]) rfl ?_
            refine Rn_getI rfl (⟨rfl, (by omega : (0 : Int) ≤ 161), (by omega : (161 : Int) + 1 < K ∧ 5 < K)⟩) ?_
            refine Rn_pure 3 (i' := 33) (L' := [some (2, 161), some (0, p1), some (0, p2), some (0, g 161 21)]) (st' := [(2, 161)]) rfl ?_
            refine Rn_callV [(2, 161)] [] rfl rfl rfl rfl (ab_rvB_of rfl (⟨rfl, (by omega : (0 : Int) ≤ 161), (by omega : (161 : Int) + 1 < K ∧ 5 < K)⟩)) ?_
            refine h.mono (fun g9 r' h => ?_)
            obtain ⟨hx, h⟩ := h
            replace hx := hx.symm
            subst hx
            refine Rn_pure 1 (i' := 35) (L' := [some (2, 161), some (0, p1), some (0, p2), some (0, g 161 21)]) (st' := [(0, g 161 21)]) rfl ?_
            exact Rn_ret1 rfl h
        · have h := h.2 hc
          refine Rn_pure 2 (i' := 23) (L' := [some (2, 161), some (0, p1), some (0, p2), none]) (st' := [(0, 2), (2, 161)]) rfl ?_
          refine Rn_callV [(2, 161), (0, 2)] [] rfl rfl rfl rfl (ab_rvB_of rfl (⟨rfl, (by omega : (0 : Int) ≤ 161), (by omega : (161 : Int) + 1 < K ∧ 5 < K)⟩)) ?_
          refine h.mono (fun g11 r' h => ?_)
          obtain ⟨hx, h⟩ := h
          replace hx := hx.symm
          subst hx
          refine Rn_pure 1 (i' := 25) (L' := [some (2, 161), some (0, p1), some (0, p2), none]) (st' := [(2, 161)]) rfl ?_
          refine Rn_getI rfl (⟨rfl, (by omega : (0 : Int) ≤ 161), (by omega : (161 : Int) + 1 < K ∧ 5 < K)⟩) ?_
          refine Rn_ifne rfl (fun hc => ?_) (fun hc => ?_)
          · have h := h.1 hc
            refine Rn_pure 3 (i' := 33) (L' := [some (2, 161), some (0, p1), some (0, p2), some (0, p1)]) (st' := [(2, 161)]) rfl ?_
            refine Rn_callV [(2, 161)] [] rfl rfl rfl rfl (ab_rvB_of rfl (⟨rfl, (by omega : (0 : Int) ≤ 161), (by omega : (161 : Int) + 1 < K ∧ 5 < K)⟩)) ?_
            refine h.mono (fun g13 r' h => ?_)
            obtain ⟨hx, h⟩ := h
            replace hx := hx.symm
            subst hx
            refine Rn_pure 1 (i' := 35) (L' := [some (2, 161), some (0, p1), some (0, p2), some (0, p1)]) (st' := [(0, p1)]) rfl ?_
            exact Rn_ret1 rfl h
          · have h := h.2 hc
            refine Rn_pure 1 (i' := 28) (L' := [some (2, 161), some (0, p1), some (0, p2), none]) (st' := [(2, 161)]) rfl ?_
            refine Rn_getI rfl (⟨rfl, (by omega : (0 : Int) ≤ 161), (by omega : (161 : Int) + 1 < K ∧ 5 < K)⟩) ?_
            refine Rn_pure 3 (i' := 33) (L' := [some (2, 161), some (0, p1), some (0, p2), some (0, g11 161 21)]) (st' := [(2, 161)]) rfl ?_
            refine Rn_callV [(2, 161)] [] rfl rfl rfl rfl (ab_rvB_of rfl (⟨rfl, (by omega : (0 : Int) ≤ 161), (by omega : (161 : Int) + 1 < K ∧ 5 < K)⟩)) ?_
            refine h.mono (fun g15 r' h => ?_)
            obtain ⟨hx, h⟩ := h
            replace hx := hx.symm
            subst hx
            refine Rn_pure 1 (i' := 35) (L' := [some (2, 161), some (0, p1), some (0, p2), some (0, g11 161 21)]) (st' := [(0, g11 161 21)]) rfl ?_
            exact Rn_ret1 rfl h
    · have h := h.2 hc
      refine Rn_pure 2 (i' := 11) (L' := [some (2, 161), some (0, p1), some (0, p2), none]) (st' := [(0, 1), (2, 161)]) rfl ?_
      refine Rn_callV [(2, 161), (0, 1)] [] rfl rfl rfl rfl (ab_rvB_of rfl (⟨rfl, (by omega : (0 : Int) ≤ 161), (by omega : (161 : Int) + 1 < K ∧ 5 < K)⟩)) ?_
      refine h.mono (fun g17 r' h => ?_)
      obtain ⟨hx, h⟩ := h
      replace hx := hx.symm
      subst hx
      refine Rn_pure 2 (i' := 25) (L' := [some (2, 161), some (0, p1), some (0, p2), none]) (st' := [(2, 161)]) rfl ?_
      refine Rn_getI rfl (⟨rfl, (by omega : (0 : Int) ≤ 161), (by omega : (161 : Int) + 1 < K ∧ 5 < K)⟩) ?_
      refine Rn_ifne rfl (fun hc => ?_) (fun hc => ?_)
      · have h := h.1 hc
        refine Rn_pure 3 (i' := 33) (L' := [some (2, 161), some (0, p1), some (0, p2), some (0, p1)]) (st' := [(2, 161)]) rfl ?_
        refine Rn_callV [(2, 161)] [] rfl rfl rfl rfl (ab_rvB_of rfl (⟨rfl, (by omega : (0 : Int) ≤ 161), (by omega : (161 : Int) + 1 < K ∧ 5 < K)⟩)) ?_
        refine h.mono (fun g19 r' h => ?_)
        obtain ⟨hx, h⟩ := h
        replace hx := hx.symm
        subst hx
        refine Rn_pure 1 (i' := 35) (L' := [some (2, 161), some (0, p1), some (0, p2), some (0, p1)]) (st' := [(0, p1)]) rfl ?_
        exact Rn_ret1 rfl h
      · have h := h.2 hc
        refine Rn_pure 1 (i' := 28) (L' := [some (2, 161), some (0, p1), some (0, p2), none]) (st' := [(2, 161)]) rfl ?_
        refine Rn_getI rfl (⟨rfl, (by omega : (0 : Int) ≤ 161), (by omega : (161 : Int) + 1 < K ∧ 5 < K)⟩) ?_
        refine Rn_pure 3 (i' := 33) (L' := [some (2, 161), some (0, p1), some (0, p2), some (0, g17 161 21)]) (st' := [(2, 161)]) rfl ?_
        refine Rn_callV [(2, 161)] [] rfl rfl rfl rfl (ab_rvB_of rfl (⟨rfl, (by omega : (0 : Int) ≤ 161), (by omega : (161 : Int) + 1 < K ∧ 5 < K)⟩)) ?_
        refine h.mono (fun g21 r' h => ?_)
        obtain ⟨hx, h⟩ := h
        replace hx := hx.symm
        subst hx
        refine Rn_pure 1 (i' := 35) (L' := [some (2, 161), some (0, p1), some (0, p2), some (0, g17 161 21)]) (st' := [(0, g17 161 21)]) rfl ?_
        exact Rn_ret1 rfl h
  · have h := h.2 hc
    refine Rn_pure 1 (i' := 4) (L' := [some (2, 161), some (0, p1), some (0, p2), none]) (st' := [(0, p1)]) rfl ?_
    exact Rn_ret1 rfl h
-- EventLedgerModel.reading (I)I
theorem v_M_reading {K : Int} {S : Nat} {g r : ab_H} {p1 : Int} (P : Int → ab_H → ab_H → Prop) (hr : SI r) (hK : 186 ≤ K) (h : ((0 : Int) ≤ 6 + p1 ∧ (6 + p1 : Int) < 12) ∧ P (g 163 (6 + p1)) g r) : ab_RI m_M_reading [(2, 161), (0, p1)] K S g r P := by
  show ab_Rn m_M_reading 0 [some (2, 161), some (0, p1)] [] (K, S, g, r) (ab_Qi K S P)
  refine Rn_pure 1 (i' := 1) (L' := [some (2, 161), some (0, p1)]) (st' := [(2, 161)]) rfl ?_
  refine Rn_getR rfl (⟨rfl, (by omega : (0 : Int) ≤ 161), (by omega : (161 : Int) + 1 < K ∧ 5 < K)⟩) (hr 138 _ rfl) (by decide) ?_
  refine Rn_pure 3 (i' := 5) (L' := [some (2, 161), some (0, p1)]) (st' := [(0, 6 + p1), (2, 163)]) rfl ?_
  obtain ⟨hg, h⟩ := h
  refine Rn_iald rfl (⟨rfl, (by omega : (0 : Int) ≤ 163), (by omega : (163 : Int) + 1 < K ∧ 5 < K)⟩) hg ?_
  exact Rn_ret1 rfl h
-- EventLedgerModel.reads (II)V
theorem v_M_reads {K : Int} {S : Nat} {g r : ab_H} {p1 p2 : Int} (P : ab_H → ab_H → Prop) (hr : SI r) (hK : 186 ≤ K) (h : ((0 : Int) ≤ 6 + p1 ∧ (6 + p1 : Int) < 12) ∧ ∀ g1, g1 = ab_up g 163 (6 + p1) p2 → P g1 r) : ab_RV m_M_reads [(2, 161), (0, p1), (0, p2)] K S g r P := by
  show ab_Rn m_M_reads 0 [some (2, 161), some (0, p1), some (0, p2)] [] (K, S, g, r) (ab_Qv K S P)
  refine Rn_pure 1 (i' := 1) (L' := [some (2, 161), some (0, p1), some (0, p2)]) (st' := [(2, 161)]) rfl ?_
  refine Rn_getR rfl (⟨rfl, (by omega : (0 : Int) ≤ 161), (by omega : (161 : Int) + 1 < K ∧ 5 < K)⟩) (hr 138 _ rfl) (by decide) ?_
  refine Rn_pure 4 (i' := 6) (L' := [some (2, 161), some (0, p1), some (0, p2)]) (st' := [(0, p2), (0, 6 + p1), (2, 163)]) rfl ?_
  obtain ⟨hg, h⟩ := h
  refine Rn_iast rfl (⟨rfl, (by omega : (0 : Int) ≤ 163), (by omega : (163 : Int) + 1 < K ∧ 5 < K)⟩) hg (fun g1 he_g1 => ?_)
  have h := h g1 he_g1
  exact Rn_ret0 rfl h
-- EventLedgerModel.foundIn ([IIII)I
theorem v_M_foundIn {K : Int} {S : Nat} {g r : ab_H} {p0 n0 p1 p2 p3 : Int} (P : Int → ab_H → ab_H → Prop) (hr : SI r) (hK : 186 ≤ K) (hp0 : ab_AR K p0 100 n0) (h : ab_Rn m_M_foundIn 2 [some (2, p0), some (0, p1), some (0, p2), some (0, p3), some (0, 0)] [] (K, S, g, r) (ab_Qi K S P)) : ab_RI m_M_foundIn [(2, p0), (0, p1), (0, p2), (0, p3)] K S g r P := by
  show ab_Rn m_M_foundIn 0 [some (2, p0), some (0, p1), some (0, p2), some (0, p3), none] [] (K, S, g, r) (ab_Qi K S P)
  refine Rn_pure 2 (i' := 2) (L' := [some (2, p0), some (0, p1), some (0, p2), some (0, p3), some (0, 0)]) (st' := []) rfl ?_
  exact h
theorem v_M_foundIn_2 {K : Int} {S : Nat} {g r : ab_H} {p0 n0 l1 l2 l3 l4 : Int} (P : Int → ab_H → ab_H → Prop) (hr : SI r) (hK : 186 ≤ K) (hp0 : ab_AR K p0 100 n0) (h : ((wr l2 ≤ wr l4 → P (-1) g r) ∧ (wr l4 < wr l2 → ((0 : Int) ≤ l1 + l4 ∧ (l1 + l4 : Int) < n0) ∧ ((¬ wr (g p0 (l1 + l4)) = wr l3 → ab_Rn m_M_foundIn 2 [some (2, p0), some (0, l1), some (0, l2), some (0, l3), some (0, l4 + 1)] [] (K, S, g, r) (ab_Qi K S P)) ∧ (wr (g p0 (l1 + l4)) = wr l3 → P l4 g r))))) : ab_Rn m_M_foundIn 2 [some (2, p0), some (0, l1), some (0, l2), some (0, l3), some (0, l4)] [] (K, S, g, r) (ab_Qi K S P) := by
  refine Rn_pure 2 (i' := 4) (L' := [some (2, p0), some (0, l1), some (0, l2), some (0, l3), some (0, l4)]) (st' := [(0, l2), (0, l4)]) rfl ?_
  refine Rn_icge rfl (fun hc => ?_) (fun hc => ?_)
  · have h := h.1 hc
    refine Rn_pure 1 (i' := 17) (L' := [some (2, p0), some (0, l1), some (0, l2), some (0, l3), some (0, l4)]) (st' := [(0, (-1))]) rfl ?_
    exact Rn_ret1 rfl h
  · have h := h.2 hc
    refine Rn_pure 4 (i' := 9) (L' := [some (2, p0), some (0, l1), some (0, l2), some (0, l3), some (0, l4)]) (st' := [(0, l1 + l4), (2, p0)]) rfl ?_
    obtain ⟨hg, h⟩ := h
    refine Rn_iald rfl (hp0) hg ?_
    refine Rn_pure 1 (i' := 11) (L' := [some (2, p0), some (0, l1), some (0, l2), some (0, l3), some (0, l4)]) (st' := [(0, l3), (0, g p0 (l1 + l4))]) rfl ?_
    refine Rn_icne rfl (fun hc => ?_) (fun hc => ?_)
    · have h := h.1 hc
      refine Rn_pure 2 (i' := 2) (L' := [some (2, p0), some (0, l1), some (0, l2), some (0, l3), some (0, l4 + 1)]) (st' := []) rfl ?_
      exact h
    · have h := h.2 hc
      refine Rn_pure 1 (i' := 13) (L' := [some (2, p0), some (0, l1), some (0, l2), some (0, l3), some (0, l4)]) (st' := [(0, l4)]) rfl ?_
      exact Rn_ret1 rfl h
-- EventLedgerModel.newName ([III)V
theorem v_M_newName {K : Int} {S : Nat} {g r : ab_H} {p1 n1 p2 p3 : Int} (P : ab_H → ab_H → Prop) (hr : SI r) (hK : 186 ≤ K) (hp1 : ab_AR K p1 100 n1) (h : ab_RV m_M_goOn [(2, 161)] K S g r (fun g1 r' => r' = r ∧ (((wr (g1 161 22) = wr 0 → ((wr (g1 161 20) = wr 1 → ab_RI m_M_foundIn [(2, p1), (0, p2), (0, p3), (0, g1 161 21)] K S g1 r (fun x3 g' r' => g' = g1 ∧ r' = r ∧ (((wr x3 = wr (-1) → ((wr (g1 161 22) = wr 0 → ((0 : Int) ≤ p2 + p3 ∧ (p2 + p3 : Int) < n1) ∧ ∀ g4, g4 = ab_up g1 p1 (p2 + p3) (g1 161 21) → ab_RV m_M_token [(2, 161)] K S g4 r (fun g5 r' => r' = r ∧ (P g5 r))) ∧ (¬ wr (g1 161 22) = wr 0 → P g1 r))) ∧ (¬ wr x3 = wr (-1) → ab_RV m_M_wrong [(2, 161), (0, 3)] K S g1 r (fun g7 r' => r' = r ∧ (((wr (g7 161 22) = wr 0 → ((0 : Int) ≤ p2 + p3 ∧ (p2 + p3 : Int) < n1) ∧ ∀ g9, g9 = ab_up g7 p1 (p2 + p3) (g7 161 21) → ab_RV m_M_token [(2, 161)] K S g9 r (fun g10 r' => r' = r ∧ (P g10 r))) ∧ (¬ wr (g7 161 22) = wr 0 → P g7 r))))))))) ∧ (¬ wr (g1 161 20) = wr 1 → ab_RV m_M_wrong [(2, 161), (0, 1)] K S g1 r (fun g12 r' => r' = r ∧ (((wr (g12 161 22) = wr 0 → ((0 : Int) ≤ p2 + p3 ∧ (p2 + p3 : Int) < n1) ∧ ∀ g14, g14 = ab_up g12 p1 (p2 + p3) (g12 161 21) → ab_RV m_M_token [(2, 161)] K S g14 r (fun g15 r' => r' = r ∧ (P g15 r))) ∧ (¬ wr (g12 161 22) = wr 0 → P g12 r))))))) ∧ (¬ wr (g1 161 22) = wr 0 → P g1 r))))) : ab_RV m_M_newName [(2, 161), (2, p1), (0, p2), (0, p3)] K S g r P := by
  show ab_Rn m_M_newName 0 [some (2, 161), some (2, p1), some (0, p2), some (0, p3)] [] (K, S, g, r) (ab_Qv K S P)
  refine Rn_pure 1 (i' := 1) (L' := [some (2, 161), some (2, p1), some (0, p2), some (0, p3)]) (st' := [(2, 161)]) rfl ?_
  refine Rn_callV [(2, 161)] [] rfl rfl rfl rfl (ab_rvB_of rfl (⟨rfl, (by omega : (0 : Int) ≤ 161), (by omega : (161 : Int) + 1 < K ∧ 5 < K)⟩)) ?_
  refine h.mono (fun g1 r' h => ?_)
  obtain ⟨hx, h⟩ := h
  replace hx := hx.symm
  subst hx
  refine Rn_pure 1 (i' := 3) (L' := [some (2, 161), some (2, p1), some (0, p2), some (0, p3)]) (st' := [(2, 161)]) rfl ?_
  refine Rn_getI rfl (⟨rfl, (by omega : (0 : Int) ≤ 161), (by omega : (161 : Int) + 1 < K ∧ 5 < K)⟩) ?_
  refine Rn_ifeq rfl (fun hc => ?_) (fun hc => ?_)
  · have h := h.1 hc
    refine Rn_pure 1 (i' := 7) (L' := [some (2, 161), some (2, p1), some (0, p2), some (0, p3)]) (st' := [(2, 161)]) rfl ?_
    refine Rn_getI rfl (⟨rfl, (by omega : (0 : Int) ≤ 161), (by omega : (161 : Int) + 1 < K ∧ 5 < K)⟩) ?_
    refine Rn_pure 1 (i' := 9) (L' := [some (2, 161), some (2, p1), some (0, p2), some (0, p3)]) (st' := [(0, 1), (0, g1 161 20)]) rfl ?_
    refine Rn_iceq rfl (fun hc => ?_) (fun hc => ?_)
    · have h := h.1 hc
      refine Rn_pure 4 (i' := 18) (L' := [some (2, 161), some (2, p1), some (0, p2), some (0, p3)]) (st' := [(2, 161), (0, p3), (0, p2), (2, p1)]) rfl ?_
      refine Rn_getI rfl (⟨rfl, (by omega : (0 : Int) ≤ 161), (by omega : (161 : Int) + 1 < K ∧ 5 < K)⟩) ?_
      refine Rn_callI [(2, p1), (0, p2), (0, p3), (0, g1 161 21)] [] rfl rfl rfl rfl (rfl) ?_
      refine h.mono (fun x3 g' r' h => ?_)
      obtain ⟨hx, h⟩ := h
      replace hx := hx.symm
      subst hx
      obtain ⟨hx, h⟩ := h
      replace hx := hx.symm
      subst hx
      refine Rn_pure 1 (i' := 21) (L' := [some (2, 161), some (2, p1), some (0, p2), some (0, p3)]) (st' := [(0, (-1)), (0, x3)]) rfl ?_
      refine Rn_iceq rfl (fun hc => ?_) (fun hc => ?_)
      · have h := h.1 hc
        refine Rn_pure 1 (i' := 26) (L' := [some (2, 161), some (2, p1), some (0, p2), some (0, p3)]) (st' := [(2, 161)]) rfl ?_
        refine Rn_getI rfl (⟨rfl, (by omega : (0 : Int) ≤ 161), (by omega : (161 : Int) + 1 < K ∧ 5 < K)⟩) ?_
        refine Rn_ifeq rfl (fun hc => ?_) (fun hc => ?_)
        · have h := h.1 hc
          refine Rn_pure 5 (i' := 34) (L' := [some (2, 161), some (2, p1), some (0, p2), some (0, p3)]) (st' := [(2, 161), (0, p2 + p3), (2, p1)]) rfl ?_
          refine Rn_getI rfl (⟨rfl, (by omega : (0 : Int) ≤ 161), (by omega : (161 : Int) + 1 < K ∧ 5 < K)⟩) ?_
          obtain ⟨hg, h⟩ := h
          refine Rn_iast rfl (hp1) hg (fun g4 he_g4 => ?_)
          have h := h g4 he_g4
          refine Rn_pure 1 (i' := 37) (L' := [some (2, 161), some (2, p1), some (0, p2), some (0, p3)]) (st' := [(2, 161)]) rfl ?_
          refine Rn_callV [(2, 161)] [] rfl rfl rfl rfl (ab_rvB_of rfl (⟨rfl, (by omega : (0 : Int) ≤ 161), (by omega : (161 : Int) + 1 < K ∧ 5 < K)⟩)) ?_
          refine h.mono (fun g5 r' h => ?_)
          obtain ⟨hx, h⟩ := h
          replace hx := hx.symm
          subst hx
          exact Rn_ret0 rfl h
        · have h := h.2 hc
          exact Rn_ret0 rfl h
      · have h := h.2 hc
        refine Rn_pure 2 (i' := 24) (L' := [some (2, 161), some (2, p1), some (0, p2), some (0, p3)]) (st' := [(0, 3), (2, 161)]) rfl ?_
        refine Rn_callV [(2, 161), (0, 3)] [] rfl rfl rfl rfl (ab_rvB_of rfl (⟨rfl, (by omega : (0 : Int) ≤ 161), (by omega : (161 : Int) + 1 < K ∧ 5 < K)⟩)) ?_
        refine h.mono (fun g7 r' h => ?_)
        obtain ⟨hx, h⟩ := h
        replace hx := hx.symm
        subst hx
        refine Rn_pure 1 (i' := 26) (L' := [some (2, 161), some (2, p1), some (0, p2), some (0, p3)]) (st' := [(2, 161)]) rfl ?_
        refine Rn_getI rfl (⟨rfl, (by omega : (0 : Int) ≤ 161), (by omega : (161 : Int) + 1 < K ∧ 5 < K)⟩) ?_
        refine Rn_ifeq rfl (fun hc => ?_) (fun hc => ?_)
        · have h := h.1 hc
          refine Rn_pure 5 (i' := 34) (L' := [some (2, 161), some (2, p1), some (0, p2), some (0, p3)]) (st' := [(2, 161), (0, p2 + p3), (2, p1)]) rfl ?_
          refine Rn_getI rfl (⟨rfl, (by omega : (0 : Int) ≤ 161), (by omega : (161 : Int) + 1 < K ∧ 5 < K)⟩) ?_
          obtain ⟨hg, h⟩ := h
          refine Rn_iast rfl (hp1) hg (fun g9 he_g9 => ?_)
          have h := h g9 he_g9
          refine Rn_pure 1 (i' := 37) (L' := [some (2, 161), some (2, p1), some (0, p2), some (0, p3)]) (st' := [(2, 161)]) rfl ?_
          refine Rn_callV [(2, 161)] [] rfl rfl rfl rfl (ab_rvB_of rfl (⟨rfl, (by omega : (0 : Int) ≤ 161), (by omega : (161 : Int) + 1 < K ∧ 5 < K)⟩)) ?_
          refine h.mono (fun g10 r' h => ?_)
          obtain ⟨hx, h⟩ := h
          replace hx := hx.symm
          subst hx
          exact Rn_ret0 rfl h
        · have h := h.2 hc
          exact Rn_ret0 rfl h
    · have h := h.2 hc
      refine Rn_pure 2 (i' := 12) (L' := [some (2, 161), some (2, p1), some (0, p2), some (0, p3)]) (st' := [(0, 1), (2, 161)]) rfl ?_
      refine Rn_callV [(2, 161), (0, 1)] [] rfl rfl rfl rfl (ab_rvB_of rfl (⟨rfl, (by omega : (0 : Int) ≤ 161), (by omega : (161 : Int) + 1 < K ∧ 5 < K)⟩)) ?_
      refine h.mono (fun g12 r' h => ?_)
      obtain ⟨hx, h⟩ := h
      replace hx := hx.symm
      subst hx
      refine Rn_pure 2 (i' := 26) (L' := [some (2, 161), some (2, p1), some (0, p2), some (0, p3)]) (st' := [(2, 161)]) rfl ?_
      refine Rn_getI rfl (⟨rfl, (by omega : (0 : Int) ≤ 161), (by omega : (161 : Int) + 1 < K ∧ 5 < K)⟩) ?_
      refine Rn_ifeq rfl (fun hc => ?_) (fun hc => ?_)
      · have h := h.1 hc
        refine Rn_pure 5 (i' := 34) (L' := [some (2, 161), some (2, p1), some (0, p2), some (0, p3)]) (st' := [(2, 161), (0, p2 + p3), (2, p1)]) rfl ?_
        refine Rn_getI rfl (⟨rfl, (by omega : (0 : Int) ≤ 161), (by omega : (161 : Int) + 1 < K ∧ 5 < K)⟩) ?_
        obtain ⟨hg, h⟩ := h
        refine Rn_iast rfl (hp1) hg (fun g14 he_g14 => ?_)
        have h := h g14 he_g14
        refine Rn_pure 1 (i' := 37) (L' := [some (2, 161), some (2, p1), some (0, p2), some (0, p3)]) (st' := [(2, 161)]) rfl ?_
        refine Rn_callV [(2, 161)] [] rfl rfl rfl rfl (ab_rvB_of rfl (⟨rfl, (by omega : (0 : Int) ≤ 161), (by omega : (161 : Int) + 1 < K ∧ 5 < K)⟩)) ?_
        refine h.mono (fun g15 r' h => ?_)
        obtain ⟨hx, h⟩ := h
        replace hx := hx.symm
        subst hx
        exact Rn_ret0 rfl h
      · have h := h.2 hc
        exact Rn_ret0 rfl h
  · have h := h.2 hc
    exact Rn_ret0 rfl h
-- EventLedgerModel.wordOf (II)I
theorem v_M_wordOf {K : Int} {S : Nat} {g r : ab_H} {p1 p2 : Int} (P : Int → ab_H → ab_H → Prop) (hr : SI r) (hK : 186 ≤ K) (h : ((wr (g 161 22) = wr 0 → ((¬ wr (g 161 20) = wr 0 → ab_RV m_M_wrong [(2, 161), (0, 1)] K S g r (fun g1 r' => r' = r ∧ (((¬ wr (g1 161 22) = wr 0 → ab_RV m_M_goOn [(2, 161)] K S g1 r (fun g3 r' => r' = r ∧ (P p1 g3 r))) ∧ (wr (g1 161 22) = wr 0 → ab_RV m_M_goOn [(2, 161)] K S g1 r (fun g5 r' => r' = r ∧ (P (g1 161 21) g5 r))))))) ∧ (wr (g 161 20) = wr 0 → ((wr (g 161 21) < wr p1 → ab_RV m_M_wrong [(2, 161), (0, 1)] K S g r (fun g7 r' => r' = r ∧ (((¬ wr (g7 161 22) = wr 0 → ab_RV m_M_goOn [(2, 161)] K S g7 r (fun g9 r' => r' = r ∧ (P p1 g9 r))) ∧ (wr (g7 161 22) = wr 0 → ab_RV m_M_goOn [(2, 161)] K S g7 r (fun g11 r' => r' = r ∧ (P (g7 161 21) g11 r))))))) ∧ (wr p1 ≤ wr (g 161 21) → ((wr (g 161 21) ≤ wr p2 → ((¬ wr (g 161 22) = wr 0 → ab_RV m_M_goOn [(2, 161)] K S g r (fun g13 r' => r' = r ∧ (P p1 g13 r))) ∧ (wr (g 161 22) = wr 0 → ab_RV m_M_goOn [(2, 161)] K S g r (fun g15 r' => r' = r ∧ (P (g 161 21) g15 r))))) ∧ (wr p2 < wr (g 161 21) → ab_RV m_M_wrong [(2, 161), (0, 1)] K S g r (fun g17 r' => r' = r ∧ (((¬ wr (g17 161 22) = wr 0 → ab_RV m_M_goOn [(2, 161)] K S g17 r (fun g19 r' => r' = r ∧ (P p1 g19 r))) ∧ (wr (g17 161 22) = wr 0 → ab_RV m_M_goOn [(2, 161)] K S g17 r (fun g21 r' => r' = r ∧ (P (g17 161 21) g21 r))))))))))))) ∧ (¬ wr (g 161 22) = wr 0 → P p1 g r))) : ab_RI m_M_wordOf [(2, 161), (0, p1), (0, p2)] K S g r P := by
  show ab_Rn m_M_wordOf 0 [some (2, 161), some (0, p1), some (0, p2), none] [] (K, S, g, r) (ab_Qi K S P)
  refine Rn_pure 1 (i' := 1) (L' := [some (2, 161), some (0, p1), some (0, p2), none]) (st' := [(2, 161)]) rfl ?_
  refine Rn_getI rfl (⟨rfl, (by omega : (0 : Int) ≤ 161), (by omega : (161 : Int) + 1 < K ∧ 5 < K)⟩) ?_
  refine Rn_ifeq rfl (fun hc => ?_) (fun hc => ?_)
  · have h := h.1 hc
    refine Rn_pure 1 (i' := 6) (L' := [some (2, 161), some (0, p1), some (0, p2), none]) (st' := [(2, 161)]) rfl ?_
    refine Rn_getI rfl (⟨rfl, (by omega : (0 : Int) ≤ 161), (by omega : (161 : Int) + 1 < K ∧ 5 < K)⟩) ?_
    refine Rn_ifne rfl (fun hc => ?_) (fun hc => ?_)
    · have h := h.1 hc
      refine Rn_pure 2 (i' := 18) (L' := [some (2, 161), some (0, p1), some (0, p2), none]) (st' := [(0, 1), (2, 161)]) rfl ?_
      refine Rn_callV [(2, 161), (0, 1)] [] rfl rfl rfl rfl (ab_rvB_of rfl (⟨rfl, (by omega : (0 : Int) ≤ 161), (by omega : (161 : Int) + 1 < K ∧ 5 < K)⟩)) ?_
      refine h.mono (fun g1 r' h => ?_)
      obtain ⟨hx, h⟩ := h
      replace hx := hx.symm
      subst hx
      refine Rn_pure 1 (i' := 20) (L' := [some (2, 161), some (0, p1), some (0, p2), none]) (st' := [(2, 161)]) rfl ?_
      refine Rn_getI rfl (⟨rfl, (by omega : (0 : Int) ≤ 161), (by omega : (161 : Int) + 1 < K ∧ 5 < K)⟩) ?_
      refine Rn_ifne rfl (fun hc => ?_) (fun hc => ?_)
      · have h := h.1 hc
        refine Rn_pure 3 (i' := 28) (L' := [some (2, 161), some (0, p1), some (0, p2), some (0, p1)]) (st' := [(2, 161)]) rfl ?_
        refine Rn_callV [(2, 161)] [] rfl rfl rfl rfl (ab_rvB_of rfl (⟨rfl, (by omega : (0 : Int) ≤ 161), (by omega : (161 : Int) + 1 < K ∧ 5 < K)⟩)) ?_
        refine h.mono (fun g3 r' h => ?_)
        obtain ⟨hx, h⟩ := h
        replace hx := hx.symm
        subst hx
        refine Rn_pure 1 (i' := 30) (L' := [some (2, 161), some (0, p1), some (0, p2), some (0, p1)]) (st' := [(0, p1)]) rfl ?_
        exact Rn_ret1 rfl h
      · have h := h.2 hc
        refine Rn_pure 1 (i' := 23) (L' := [some (2, 161), some (0, p1), some (0, p2), none]) (st' := [(2, 161)]) rfl ?_
        refine Rn_getI rfl (⟨rfl, (by omega : (0 : Int) ≤ 161), (by omega : (161 : Int) + 1 < K ∧ 5 < K)⟩) ?_
        refine Rn_pure 3 (i' := 28) (L' := [some (2, 161), some (0, p1), some (0, p2), some (0, g1 161 21)]) (st' := [(2, 161)]) rfl ?_
        refine Rn_callV [(2, 161)] [] rfl rfl rfl rfl (ab_rvB_of rfl (⟨rfl, (by omega : (0 : Int) ≤ 161), (by omega : (161 : Int) + 1 < K ∧ 5 < K)⟩)) ?_
        refine h.mono (fun g5 r' h => ?_)
        obtain ⟨hx, h⟩ := h
        replace hx := hx.symm
        subst hx
        refine Rn_pure 1 (i' := 30) (L' := [some (2, 161), some (0, p1), some (0, p2), some (0, g1 161 21)]) (st' := [(0, g1 161 21)]) rfl ?_
        exact Rn_ret1 rfl h
    · have h := h.2 hc
      refine Rn_pure 1 (i' := 9) (L' := [some (2, 161), some (0, p1), some (0, p2), none]) (st' := [(2, 161)]) rfl ?_
      refine Rn_getI rfl (⟨rfl, (by omega : (0 : Int) ≤ 161), (by omega : (161 : Int) + 1 < K ∧ 5 < K)⟩) ?_
      refine Rn_pure 1 (i' := 11) (L' := [some (2, 161), some (0, p1), some (0, p2), none]) (st' := [(0, p1), (0, g 161 21)]) rfl ?_
      refine Rn_iclt rfl (fun hc => ?_) (fun hc => ?_)
      · have h := h.1 hc
        refine Rn_pure 2 (i' := 18) (L' := [some (2, 161), some (0, p1), some (0, p2), none]) (st' := [(0, 1), (2, 161)]) rfl ?_
        refine Rn_callV [(2, 161), (0, 1)] [] rfl rfl rfl rfl (ab_rvB_of rfl (⟨rfl, (by omega : (0 : Int) ≤ 161), (by omega : (161 : Int) + 1 < K ∧ 5 < K)⟩)) ?_
        refine h.mono (fun g7 r' h => ?_)
        obtain ⟨hx, h⟩ := h
        replace hx := hx.symm
        subst hx
        refine Rn_pure 1 (i' := 20) (L' := [some (2, 161), some (0, p1), some (0, p2), none]) (st' := [(2, 161)]) rfl ?_
        refine Rn_getI rfl (⟨rfl, (by omega : (0 : Int) ≤ 161), (by omega : (161 : Int) + 1 < K ∧ 5 < K)⟩) ?_
        refine Rn_ifne rfl (fun hc => ?_) (fun hc => ?_)
        · have h := h.1 hc
          refine Rn_pure 3 (i' := 28) (L' := [some (2, 161), some (0, p1), some (0, p2), some (0, p1)]) (st' := [(2, 161)]) rfl ?_
          refine Rn_callV [(2, 161)] [] rfl rfl rfl rfl (ab_rvB_of rfl (⟨rfl, (by omega : (0 : Int) ≤ 161), (by omega : (161 : Int) + 1 < K ∧ 5 < K)⟩)) ?_
          refine h.mono (fun g9 r' h => ?_)
          obtain ⟨hx, h⟩ := h
          replace hx := hx.symm
          subst hx
          refine Rn_pure 1 (i' := 30) (L' := [some (2, 161), some (0, p1), some (0, p2), some (0, p1)]) (st' := [(0, p1)]) rfl ?_
          exact Rn_ret1 rfl h
        · have h := h.2 hc
          refine Rn_pure 1 (i' := 23) (L' := [some (2, 161), some (0, p1), some (0, p2), none]) (st' := [(2, 161)]) rfl ?_
          refine Rn_getI rfl (⟨rfl, (by omega : (0 : Int) ≤ 161), (by omega : (161 : Int) + 1 < K ∧ 5 < K)⟩) ?_
          refine Rn_pure 3 (i' := 28) (L' := [some (2, 161), some (0, p1), some (0, p2), some (0, g7 161 21)]) (st' := [(2, 161)]) rfl ?_
          refine Rn_callV [(2, 161)] [] rfl rfl rfl rfl (ab_rvB_of rfl (⟨rfl, (by omega : (0 : Int) ≤ 161), (by omega : (161 : Int) + 1 < K ∧ 5 < K)⟩)) ?_
          refine h.mono (fun g11 r' h => ?_)
          obtain ⟨hx, h⟩ := h
          replace hx := hx.symm
          subst hx
          refine Rn_pure 1 (i' := 30) (L' := [some (2, 161), some (0, p1), some (0, p2), some (0, g7 161 21)]) (st' := [(0, g7 161 21)]) rfl ?_
          exact Rn_ret1 rfl h
      · have h := h.2 hc
        refine Rn_pure 1 (i' := 13) (L' := [some (2, 161), some (0, p1), some (0, p2), none]) (st' := [(2, 161)]) rfl ?_
        refine Rn_getI rfl (⟨rfl, (by omega : (0 : Int) ≤ 161), (by omega : (161 : Int) + 1 < K ∧ 5 < K)⟩) ?_
        refine Rn_pure 1 (i' := 15) (L' := [some (2, 161), some (0, p1), some (0, p2), none]) (st' := [(0, p2), (0, g 161 21)]) rfl ?_
        refine Rn_icle rfl (fun hc => ?_) (fun hc => ?_)
        · have h := h.1 hc
          refine Rn_pure 1 (i' := 20) (L' := [some (2, 161), some (0, p1), some (0, p2), none]) (st' := [(2, 161)]) rfl ?_
          refine Rn_getI rfl (⟨rfl, (by omega : (0 : Int) ≤ 161), (by omega : (161 : Int) + 1 < K ∧ 5 < K)⟩) ?_
          refine Rn_ifne rfl (fun hc => ?_) (fun hc => ?_)
          · have h := h.1 hc
            refine Rn_pure 3 (i' := 28) (L' := [some (2, 161), some (0, p1), some (0, p2), some (0, p1)]) (st' := [(2, 161)]) rfl ?_
            refine Rn_callV [(2, 161)] [] rfl rfl rfl rfl (ab_rvB_of rfl (⟨rfl, (by omega : (0 : Int) ≤ 161), (by omega : (161 : Int) + 1 < K ∧ 5 < K)⟩)) ?_
            refine h.mono (fun g13 r' h => ?_)
            obtain ⟨hx, h⟩ := h
            replace hx := hx.symm
            subst hx
            refine Rn_pure 1 (i' := 30) (L' := [some (2, 161), some (0, p1), some (0, p2), some (0, p1)]) (st' := [(0, p1)]) rfl ?_
            exact Rn_ret1 rfl h
          · have h := h.2 hc
            refine Rn_pure 1 (i' := 23) (L' := [some (2, 161), some (0, p1), some (0, p2), none]) (st' := [(2, 161)]) rfl ?_
            refine Rn_getI rfl (⟨rfl, (by omega : (0 : Int) ≤ 161), (by omega : (161 : Int) + 1 < K ∧ 5 < K)⟩) ?_
            refine Rn_pure 3 (i' := 28) (L' := [some (2, 161), some (0, p1), some (0, p2), some (0, g 161 21)]) (st' := [(2, 161)]) rfl ?_
            refine Rn_callV [(2, 161)] [] rfl rfl rfl rfl (ab_rvB_of rfl (⟨rfl, (by omega : (0 : Int) ≤ 161), (by omega : (161 : Int) + 1 < K ∧ 5 < K)⟩)) ?_
            refine h.mono (fun g15 r' h => ?_)
            obtain ⟨hx, h⟩ := h
            replace hx := hx.symm
            subst hx
            refine Rn_pure 1 (i' := 30) (L' := [some (2, 161), some (0, p1), some (0, p2), some (0, g 161 21)]) (st' := [(0, g 161 21)]) rfl ?_
            exact Rn_ret1 rfl h
        · have h := h.2 hc
          refine Rn_pure 2 (i' := 18) (L' := [some (2, 161), some (0, p1), some (0, p2), none]) (st' := [(0, 1), (2, 161)]) rfl ?_
          refine Rn_callV [(2, 161), (0, 1)] [] rfl rfl rfl rfl (ab_rvB_of rfl (⟨rfl, (by omega : (0 : Int) ≤ 161), (by omega : (161 : Int) + 1 < K ∧ 5 < K)⟩)) ?_
          refine h.mono (fun g17 r' h => ?_)
          obtain ⟨hx, h⟩ := h
          replace hx := hx.symm
          subst hx
          refine Rn_pure 1 (i' := 20) (L' := [some (2, 161), some (0, p1), some (0, p2), none]) (st' := [(2, 161)]) rfl ?_
          refine Rn_getI rfl (⟨rfl, (by omega : (0 : Int) ≤ 161), (by omega : (161 : Int) + 1 < K ∧ 5 < K)⟩) ?_
          refine Rn_ifne rfl (fun hc => ?_) (fun hc => ?_)
          · have h := h.1 hc
            refine Rn_pure 3 (i' := 28) (L' := [some (2, 161), some (0, p1), some (0, p2), some (0, p1)]) (st' := [(2, 161)]) rfl ?_
            refine Rn_callV [(2, 161)] [] rfl rfl rfl rfl (ab_rvB_of rfl (⟨rfl, (by omega : (0 : Int) ≤ 161), (by omega : (161 : Int) + 1 < K ∧ 5 < K)⟩)) ?_
            refine h.mono (fun g19 r' h => ?_)
            obtain ⟨hx, h⟩ := h
            replace hx := hx.symm
            subst hx
            refine Rn_pure 1 (i' := 30) (L' := [some (2, 161), some (0, p1), some (0, p2), some (0, p1)]) (st' := [(0, p1)]) rfl ?_
            exact Rn_ret1 rfl h
          · have h := h.2 hc
            refine Rn_pure 1 (i' := 23) (L' := [some (2, 161), some (0, p1), some (0, p2), none]) (st' := [(2, 161)]) rfl ?_
            refine Rn_getI rfl (⟨rfl, (by omega : (0 : Int) ≤ 161), (by omega : (161 : Int) + 1 < K ∧ 5 < K)⟩) ?_
            refine Rn_pure 3 (i' := 28) (L' := [some (2, 161), some (0, p1), some (0, p2), some (0, g17 161 21)]) (st' := [(2, 161)]) rfl ?_
            refine Rn_callV [(2, 161)] [] rfl rfl rfl rfl (ab_rvB_of rfl (⟨rfl, (by omega : (0 : Int) ≤ 161), (by omega : (161 : Int) + 1 < K ∧ 5 < K)⟩)) ?_
            refine h.mono (fun g21 r' h => ?_)
            obtain ⟨hx, h⟩ := h
            replace hx := hx.symm
            subst hx
            refine Rn_pure 1 (i' := 30) (L' := [some (2, 161), some (0, p1), some (0, p2), some (0, g17 161 21)]) (st' := [(0, g17 161 21)]) rfl ?_
            exact Rn_ret1 rfl h
  · have h := h.2 hc
    refine Rn_pure 1 (i' := 4) (L' := [some (2, 161), some (0, p1), some (0, p2), none]) (st' := [(0, p1)]) rfl ?_
    exact Rn_ret1 rfl h
-- EventLedgerModel.accountHere ()I
theorem v_M_accountHere {K : Int} {S : Nat} {g r : ab_H} (P : Int → ab_H → ab_H → Prop) (hr : SI r) (hK : 186 ≤ K) (h : ((wr (g 161 22) = wr 0 → ((wr (g 161 20) = wr 1 → ab_Rn m_M_accountHere 12 [some (2, 161), none] [] (K, S, g, r) (ab_Qi K S P)) ∧ (¬ wr (g 161 20) = wr 1 → ab_RV m_M_wrong [(2, 161), (0, 1)] K S g r (fun g1 r' => r' = r ∧ (ab_Rn m_M_accountHere 12 [some (2, 161), none] [] (K, S, g1, r) (ab_Qi K S P)))))) ∧ (¬ wr (g 161 22) = wr 0 → P 0 g r))) : ab_RI m_M_accountHere [(2, 161)] K S g r P := by
  show ab_Rn m_M_accountHere 0 [some (2, 161), none] [] (K, S, g, r) (ab_Qi K S P)
  refine Rn_pure 1 (i' := 1) (L' := [some (2, 161), none]) (st' := [(2, 161)]) rfl ?_
  refine Rn_getI rfl (⟨rfl, (by omega : (0 : Int) ≤ 161), (by omega : (161 : Int) + 1 < K ∧ 5 < K)⟩) ?_
  refine Rn_ifeq rfl (fun hc => ?_) (fun hc => ?_)
  · have h := h.1 hc
    refine Rn_pure 1 (i' := 6) (L' := [some (2, 161), none]) (st' := [(2, 161)]) rfl ?_
    refine Rn_getI rfl (⟨rfl, (by omega : (0 : Int) ≤ 161), (by omega : (161 : Int) + 1 < K ∧ 5 < K)⟩) ?_
    refine Rn_pure 1 (i' := 8) (L' := [some (2, 161), none]) (st' := [(0, 1), (0, g 161 20)]) rfl ?_
    refine Rn_iceq rfl (fun hc => ?_) (fun hc => ?_)
    · have h := h.1 hc
      exact h
    · have h := h.2 hc
      refine Rn_pure 2 (i' := 11) (L' := [some (2, 161), none]) (st' := [(0, 1), (2, 161)]) rfl ?_
      refine Rn_callV [(2, 161), (0, 1)] [] rfl rfl rfl rfl (ab_rvB_of rfl (⟨rfl, (by omega : (0 : Int) ≤ 161), (by omega : (161 : Int) + 1 < K ∧ 5 < K)⟩)) ?_
      refine h.mono (fun g1 r' h => ?_)
      obtain ⟨hx, h⟩ := h
      replace hx := hx.symm
      subst hx
      exact h
  · have h := h.2 hc
    refine Rn_pure 1 (i' := 4) (L' := [some (2, 161), none]) (st' := [(0, 0)]) rfl ?_
    exact Rn_ret1 rfl h
theorem v_M_accountHere_12 {K : Int} {S : Nat} {g r : ab_H} (P : Int → ab_H → ab_H → Prop) (hr : SI r) (hK : 186 ≤ K) (h : ((¬ wr (g 161 22) = wr 0 → ((¬ wr 0 = wr (-1) → ab_Rn m_M_accountHere 33 [none, some (0, 0)] [] (K, S, g, r) (ab_Qi K S P)) ∧ (wr 0 = wr (-1) → ab_RV m_M_wrong [(2, 161), (0, 4)] K S g r (fun g1 r' => r' = r ∧ (ab_Rn m_M_accountHere 33 [none, some (0, 0)] [] (K, S, g1, r) (ab_Qi K S P)))))) ∧ (wr (g 161 22) = wr 0 → ab_RI m_M_reading [(2, 161), (0, 0)] K S g r (fun x3 g' r' => g' = g ∧ r' = r ∧ (ab_RI m_M_foundIn [(2, 164), (0, 8), (0, x3), (0, g 161 21)] K S g r (fun x4 g' r' => g' = g ∧ r' = r ∧ (((¬ wr x4 = wr (-1) → ab_Rn m_M_accountHere 33 [none, some (0, x4)] [] (K, S, g, r) (ab_Qi K S P)) ∧ (wr x4 = wr (-1) → ab_RV m_M_wrong [(2, 161), (0, 4)] K S g r (fun g5 r' => r' = r ∧ (ab_Rn m_M_accountHere 33 [none, some (0, x4)] [] (K, S, g5, r) (ab_Qi K S P)))))))))))) : ab_Rn m_M_accountHere 12 [some (2, 161), none] [] (K, S, g, r) (ab_Qi K S P) := by
  refine Rn_pure 1 (i' := 13) (L' := [some (2, 161), none]) (st' := [(2, 161)]) rfl ?_
  refine Rn_getI rfl (⟨rfl, (by omega : (0 : Int) ≤ 161), (by omega : (161 : Int) + 1 < K ∧ 5 < K)⟩) ?_
  refine Rn_ifne rfl (fun hc => ?_) (fun hc => ?_)
  · have h := h.1 hc
    refine Rn_pure 4 (i' := 29) (L' := [some (2, 161), some (0, 0)]) (st' := [(0, (-1)), (0, 0)]) rfl ?_
    refine Rn_icne rfl (fun hc => ?_) (fun hc => ?_)
    · have h := h.1 hc
      refine Rn_weak (L' := [none, some (0, 0)]) ⟨rfl, trivial⟩ ?_
      exact h
    · have h := h.2 hc
      refine Rn_pure 2 (i' := 32) (L' := [some (2, 161), some (0, 0)]) (st' := [(0, 4), (2, 161)]) rfl ?_
      refine Rn_callV [(2, 161), (0, 4)] [] rfl rfl rfl rfl (ab_rvB_of rfl (⟨rfl, (by omega : (0 : Int) ≤ 161), (by omega : (161 : Int) + 1 < K ∧ 5 < K)⟩)) ?_
      refine h.mono (fun g1 r' h => ?_)
      obtain ⟨hx, h⟩ := h
      replace hx := hx.symm
      subst hx
      refine Rn_weak (L' := [none, some (0, 0)]) ⟨rfl, trivial⟩ ?_
      exact h
  · have h := h.2 hc
    refine Rn_pure 1 (i' := 16) (L' := [some (2, 161), none]) (st' := [(2, 161)]) rfl ?_
    refine Rn_getR rfl (⟨rfl, (by omega : (0 : Int) ≤ 161), (by omega : (161 : Int) + 1 < K ∧ 5 < K)⟩) (hr 139 _ rfl) (by decide) ?_
    refine Rn_pure 3 (i' := 20) (L' := [some (2, 161), none]) (st' := [(0, 0), (2, 161), (0, 8), (2, 164)]) rfl ?_
    refine Rn_callI [(2, 161), (0, 0)] [(0, 8), (2, 164)] rfl rfl rfl rfl (ab_rvB_of rfl (⟨rfl, (by omega : (0 : Int) ≤ 161), (by omega : (161 : Int) + 1 < K ∧ 5 < K)⟩)) ?_
    refine h.mono (fun x3 g' r' h => ?_)
    obtain ⟨hx, h⟩ := h
    replace hx := hx.symm
    subst hx
    obtain ⟨hx, h⟩ := h
    replace hx := hx.symm
    subst hx
    refine Rn_pure 1 (i' := 22) (L' := [some (2, 161), none]) (st' := [(2, 161), (0, x3), (0, 8), (2, 164)]) rfl ?_
    refine Rn_getI rfl (⟨rfl, (by omega : (0 : Int) ≤ 161), (by omega : (161 : Int) + 1 < K ∧ 5 < K)⟩) ?_
    refine Rn_callI [(2, 164), (0, 8), (0, x3), (0, g 161 21)] [] rfl rfl rfl rfl (rfl) ?_
    refine h.mono (fun x4 g' r' h => ?_)
    obtain ⟨hx, h⟩ := h
    replace hx := hx.symm
    subst hx
    obtain ⟨hx, h⟩ := h
    replace hx := hx.symm
    subst hx
    refine Rn_pure 4 (i' := 29) (L' := [some (2, 161), some (0, x4)]) (st' := [(0, (-1)), (0, x4)]) rfl ?_
    refine Rn_icne rfl (fun hc => ?_) (fun hc => ?_)
    · have h := h.1 hc
      refine Rn_weak (L' := [none, some (0, x4)]) ⟨rfl, trivial⟩ ?_
      exact h
    · have h := h.2 hc
      refine Rn_pure 2 (i' := 32) (L' := [some (2, 161), some (0, x4)]) (st' := [(0, 4), (2, 161)]) rfl ?_
      refine Rn_callV [(2, 161), (0, 4)] [] rfl rfl rfl rfl (ab_rvB_of rfl (⟨rfl, (by omega : (0 : Int) ≤ 161), (by omega : (161 : Int) + 1 < K ∧ 5 < K)⟩)) ?_
      refine h.mono (fun g5 r' h => ?_)
      obtain ⟨hx, h⟩ := h
      replace hx := hx.symm
      subst hx
      refine Rn_weak (L' := [none, some (0, x4)]) ⟨rfl, trivial⟩ ?_
      exact h
theorem v_M_accountHere_33 {K : Int} {S : Nat} {g r : ab_H} {l1 : Int} (P : Int → ab_H → ab_H → Prop) (hr : SI r) (hK : 186 ≤ K) (h : ((¬ wr l1 = wr (-1) → P l1 g r) ∧ (wr l1 = wr (-1) → P 0 g r))) : ab_Rn m_M_accountHere 33 [none, some (0, l1)] [] (K, S, g, r) (ab_Qi K S P) := by
  refine Rn_pure 2 (i' := 35) (L' := [none, some (0, l1)]) (st' := [(0, (-1)), (0, l1)]) rfl ?_
  refine Rn_icne rfl (fun hc => ?_) (fun hc => ?_)
  · have h := h.1 hc
    refine Rn_pure 1 (i' := 39) (L' := [none, some (0, l1)]) (st' := [(0, l1)]) rfl ?_
    exact Rn_ret1 rfl h
  · have h := h.2 hc
    refine Rn_pure 2 (i' := 39) (L' := [none, some (0, l1)]) (st' := [(0, 0)]) rfl ?_
    exact Rn_ret1 rfl h
-- EventLedgerModel.readAccount ()V
theorem v_M_readAccount {K : Int} {S : Nat} {g r : ab_H} (P : ab_H → ab_H → Prop) (hr : SI r) (hK : 186 ≤ K) (h : ab_RI m_M_reading [(2, 161), (0, 0)] K S g r (fun x1 g' r' => g' = g ∧ r' = r ∧ (((¬ wr x1 = wr 8 → ab_RI m_M_reading [(2, 161), (0, 0)] K S g r (fun x2 g' r' => g' = g ∧ r' = r ∧ (ab_RV m_M_newName [(2, 161), (2, 164), (0, 8), (0, x2)] K S g r (fun g3 r' => r' = r ∧ (((¬ wr (g3 161 22) = wr 0 → P g3 r) ∧ (wr (g3 161 22) = wr 0 → ab_RI m_M_reading [(2, 161), (0, 0)] K S g3 r (fun x5 g' r' => g' = g3 ∧ r' = r ∧ (ab_RV m_M_reads [(2, 161), (0, 0), (0, x5 + 1)] K S g3 r (fun g6 r' => r' = r ∧ (P g6 r))))))))))) ∧ (wr x1 = wr 8 → ab_RV m_M_wrong [(2, 161), (0, 2)] K S g r (fun g8 r' => r' = r ∧ (ab_RI m_M_reading [(2, 161), (0, 0)] K S g8 r (fun x10 g' r' => g' = g8 ∧ r' = r ∧ (ab_RV m_M_newName [(2, 161), (2, 164), (0, 8), (0, x10)] K S g8 r (fun g11 r' => r' = r ∧ (((¬ wr (g11 161 22) = wr 0 → P g11 r) ∧ (wr (g11 161 22) = wr 0 → ab_RI m_M_reading [(2, 161), (0, 0)] K S g11 r (fun x13 g' r' => g' = g11 ∧ r' = r ∧ (ab_RV m_M_reads [(2, 161), (0, 0), (0, x13 + 1)] K S g11 r (fun g14 r' => r' = r ∧ (P g14 r))))))))))))))))) : ab_RV m_M_readAccount [(2, 161)] K S g r P := by
  show ab_Rn m_M_readAccount 0 [some (2, 161)] [] (K, S, g, r) (ab_Qv K S P)
  refine Rn_pure 2 (i' := 2) (L' := [some (2, 161)]) (st' := [(0, 0), (2, 161)]) rfl ?_
  refine Rn_callI [(2, 161), (0, 0)] [] rfl rfl rfl rfl (ab_rvB_of rfl (⟨rfl, (by omega : (0 : Int) ≤ 161), (by omega : (161 : Int) + 1 < K ∧ 5 < K)⟩)) ?_
  refine h.mono (fun x1 g' r' h => ?_)
  obtain ⟨hx, h⟩ := h
  replace hx := hx.symm
  subst hx
  obtain ⟨hx, h⟩ := h
  replace hx := hx.symm
  subst hx
  refine Rn_pure 1 (i' := 4) (L' := [some (2, 161)]) (st' := [(0, 8), (0, x1)]) rfl ?_
  refine Rn_icne rfl (fun hc => ?_) (fun hc => ?_)
  · have h := h.1 hc
    refine Rn_pure 2 (i' := 10) (L' := [some (2, 161)]) (st' := [(2, 161), (2, 161)]) rfl ?_
    refine Rn_getR rfl (⟨rfl, (by omega : (0 : Int) ≤ 161), (by omega : (161 : Int) + 1 < K ∧ 5 < K)⟩) (hr 139 _ rfl) (by decide) ?_
    refine Rn_pure 3 (i' := 14) (L' := [some (2, 161)]) (st' := [(0, 0), (2, 161), (0, 8), (2, 164), (2, 161)]) rfl ?_
    refine Rn_callI [(2, 161), (0, 0)] [(0, 8), (2, 164), (2, 161)] rfl rfl rfl rfl (ab_rvB_of rfl (⟨rfl, (by omega : (0 : Int) ≤ 161), (by omega : (161 : Int) + 1 < K ∧ 5 < K)⟩)) ?_
    refine h.mono (fun x2 g' r' h => ?_)
    obtain ⟨hx, h⟩ := h
    replace hx := hx.symm
    subst hx
    obtain ⟨hx, h⟩ := h
    replace hx := hx.symm
    subst hx
    refine Rn_callV [(2, 161), (2, 164), (0, 8), (0, x2)] [] rfl rfl rfl rfl (ab_rvB_of rfl (⟨rfl, (by omega : (0 : Int) ≤ 161), (by omega : (161 : Int) + 1 < K ∧ 5 < K)⟩)) ?_
    refine h.mono (fun g3 r' h => ?_)
    obtain ⟨hx, h⟩ := h
    replace hx := hx.symm
    subst hx
    refine Rn_pure 1 (i' := 17) (L' := [some (2, 161)]) (st' := [(2, 161)]) rfl ?_
    refine Rn_getI rfl (⟨rfl, (by omega : (0 : Int) ≤ 161), (by omega : (161 : Int) + 1 < K ∧ 5 < K)⟩) ?_
    refine Rn_ifne rfl (fun hc => ?_) (fun hc => ?_)
    · have h := h.1 hc
      exact Rn_ret0 rfl h
    · have h := h.2 hc
      refine Rn_pure 4 (i' := 23) (L' := [some (2, 161)]) (st' := [(0, 0), (2, 161), (0, 0), (2, 161)]) rfl ?_
      refine Rn_callI [(2, 161), (0, 0)] [(0, 0), (2, 161)] rfl rfl rfl rfl (ab_rvB_of rfl (⟨rfl, (by omega : (0 : Int) ≤ 161), (by omega : (161 : Int) + 1 < K ∧ 5 < K)⟩)) ?_
      refine h.mono (fun x5 g' r' h => ?_)
      obtain ⟨hx, h⟩ := h
      replace hx := hx.symm
      subst hx
      obtain ⟨hx, h⟩ := h
      replace hx := hx.symm
      subst hx
      refine Rn_pure 2 (i' := 26) (L' := [some (2, 161)]) (st' := [(0, x5 + 1), (0, 0), (2, 161)]) rfl ?_
      refine Rn_callV [(2, 161), (0, 0), (0, x5 + 1)] [] rfl rfl rfl rfl (ab_rvB_of rfl (⟨rfl, (by omega : (0 : Int) ≤ 161), (by omega : (161 : Int) + 1 < K ∧ 5 < K)⟩)) ?_
      refine h.mono (fun g6 r' h => ?_)
      obtain ⟨hx, h⟩ := h
      replace hx := hx.symm
      subst hx
      exact Rn_ret0 rfl h
  · have h := h.2 hc
    refine Rn_pure 2 (i' := 7) (L' := [some (2, 161)]) (st' := [(0, 2), (2, 161)]) rfl ?_
    refine Rn_callV [(2, 161), (0, 2)] [] rfl rfl rfl rfl (ab_rvB_of rfl (⟨rfl, (by omega : (0 : Int) ≤ 161), (by omega : (161 : Int) + 1 < K ∧ 5 < K)⟩)) ?_
    refine h.mono (fun g8 r' h => ?_)
    obtain ⟨hx, h⟩ := h
    replace hx := hx.symm
    subst hx
    refine Rn_pure 2 (i' := 10) (L' := [some (2, 161)]) (st' := [(2, 161), (2, 161)]) rfl ?_
    refine Rn_getR rfl (⟨rfl, (by omega : (0 : Int) ≤ 161), (by omega : (161 : Int) + 1 < K ∧ 5 < K)⟩) (hr 139 _ rfl) (by decide) ?_
    refine Rn_pure 3 (i' := 14) (L' := [some (2, 161)]) (st' := [(0, 0), (2, 161), (0, 8), (2, 164), (2, 161)]) rfl ?_
    refine Rn_callI [(2, 161), (0, 0)] [(0, 8), (2, 164), (2, 161)] rfl rfl rfl rfl (ab_rvB_of rfl (⟨rfl, (by omega : (0 : Int) ≤ 161), (by omega : (161 : Int) + 1 < K ∧ 5 < K)⟩)) ?_
    refine h.mono (fun x10 g' r' h => ?_)
    obtain ⟨hx, h⟩ := h
    replace hx := hx.symm
    subst hx
    obtain ⟨hx, h⟩ := h
    replace hx := hx.symm
    subst hx
    refine Rn_callV [(2, 161), (2, 164), (0, 8), (0, x10)] [] rfl rfl rfl rfl (ab_rvB_of rfl (⟨rfl, (by omega : (0 : Int) ≤ 161), (by omega : (161 : Int) + 1 < K ∧ 5 < K)⟩)) ?_
    refine h.mono (fun g11 r' h => ?_)
    obtain ⟨hx, h⟩ := h
    replace hx := hx.symm
    subst hx
    refine Rn_pure 1 (i' := 17) (L' := [some (2, 161)]) (st' := [(2, 161)]) rfl ?_
    refine Rn_getI rfl (⟨rfl, (by omega : (0 : Int) ≤ 161), (by omega : (161 : Int) + 1 < K ∧ 5 < K)⟩) ?_
    refine Rn_ifne rfl (fun hc => ?_) (fun hc => ?_)
    · have h := h.1 hc
      exact Rn_ret0 rfl h
    · have h := h.2 hc
      refine Rn_pure 4 (i' := 23) (L' := [some (2, 161)]) (st' := [(0, 0), (2, 161), (0, 0), (2, 161)]) rfl ?_
      refine Rn_callI [(2, 161), (0, 0)] [(0, 0), (2, 161)] rfl rfl rfl rfl (ab_rvB_of rfl (⟨rfl, (by omega : (0 : Int) ≤ 161), (by omega : (161 : Int) + 1 < K ∧ 5 < K)⟩)) ?_
      refine h.mono (fun x13 g' r' h => ?_)
      obtain ⟨hx, h⟩ := h
      replace hx := hx.symm
      subst hx
      obtain ⟨hx, h⟩ := h
      replace hx := hx.symm
      subst hx
      refine Rn_pure 2 (i' := 26) (L' := [some (2, 161)]) (st' := [(0, x13 + 1), (0, 0), (2, 161)]) rfl ?_
      refine Rn_callV [(2, 161), (0, 0), (0, x13 + 1)] [] rfl rfl rfl rfl (ab_rvB_of rfl (⟨rfl, (by omega : (0 : Int) ≤ 161), (by omega : (161 : Int) + 1 < K ∧ 5 < K)⟩)) ?_
      refine h.mono (fun g14 r' h => ?_)
      obtain ⟨hx, h⟩ := h
      replace hx := hx.symm
      subst hx
      exact Rn_ret0 rfl h
-- EventLedgerModel.stepAt (IIII)I
theorem v_M_stepAt {K : Int} {S : Nat} {g r : ab_H} {p0 p1 p2 p3 : Int} (P : Int → ab_H → ab_H → Prop) (hr : SI r) (hK : 186 ≤ K) (h : P (56 * p0 + (8 * p1) + (4 * (p2 - 1)) + p3) g r) : ab_RI m_M_stepAt [(0, p0), (0, p1), (0, p2), (0, p3)] K S g r P := by
  show ab_Rn m_M_stepAt 0 [some (0, p0), some (0, p1), some (0, p2), some (0, p3)] [] (K, S, g, r) (ab_Qi K S P)
  refine Rn_pure 15 (i' := 15) (L' := [some (0, p0), some (0, p1), some (0, p2), some (0, p3)]) (st' := [(0, 56 * p0 + (8 * p1) + (4 * (p2 - 1)) + p3)]) rfl ?_
  exact Rn_ret1 rfl h
