-- EventLedgerModel.thrown ()I
theorem v_M_thrown {K : Int} {S : Nat} {g r : ab_H} (P : Int → ab_H → ab_H → Prop) (hr : SI r) (hK : 185 ≤ K) (h : P (g 161 0) g r) : ab_RI m_M_thrown [(2, 161)] K S g r P := by
  show ab_Rn m_M_thrown 0 [some (2, 161)] [] (K, S, g, r) (ab_Qi K S P)
  refine Rn_pure 1 (i' := 1) (L' := [some (2, 161)]) (st' := [(2, 161)]) rfl ?_
  refine Rn_getI rfl (⟨rfl, (by omega : (0 : Int) ≤ 161), (by omega : (161 : Int) < K)⟩) ?_
  exact Rn_ret1 rfl h
-- EventLedgerModel.feed (IIIII)I
theorem v_M_feed {K : Int} {S : Nat} {g r : ab_H} {p1 p2 p3 p4 p5 : Int} (P : Int → ab_H → ab_H → Prop) (hr : SI r) (hK : 185 ≤ K) (h : ∀ g1, g1 = ab_up g 161 0 0 → ((wr (g1 161 2) ≤ wr 880 → ab_Rn m_M_feed 11 [some (2, 161), some (0, p1), some (0, p2), some (0, p3), some (0, p4), some (0, p5), some (0, 0), none] [] (K, S, g1, r) (ab_Qi K S P)) ∧ (wr 880 < wr (g1 161 2) → P (-1) g1 r))) : ab_RI m_M_feed [(2, 161), (0, p1), (0, p2), (0, p3), (0, p4), (0, p5)] K S g r P := by
  show ab_Rn m_M_feed 0 [some (2, 161), some (0, p1), some (0, p2), some (0, p3), some (0, p4), some (0, p5), none, none] [] (K, S, g, r) (ab_Qi K S P)
  refine Rn_pure 2 (i' := 2) (L' := [some (2, 161), some (0, p1), some (0, p2), some (0, p3), some (0, p4), some (0, p5), none, none]) (st' := [(0, 0), (2, 161)]) rfl ?_
  refine Rn_putI rfl (⟨rfl, (by omega : (0 : Int) ≤ 161), (by omega : (161 : Int) < K)⟩) (fun g1 he_g1 => ?_)
  have h := h g1 he_g1
  refine Rn_pure 1 (i' := 4) (L' := [some (2, 161), some (0, p1), some (0, p2), some (0, p3), some (0, p4), some (0, p5), none, none]) (st' := [(2, 161)]) rfl ?_
  refine Rn_getI rfl (⟨rfl, (by omega : (0 : Int) ≤ 161), (by omega : (161 : Int) < K)⟩) ?_
  refine Rn_pure 1 (i' := 6) (L' := [some (2, 161), some (0, p1), some (0, p2), some (0, p3), some (0, p4), some (0, p5), none, none]) (st' := [(0, 880), (0, g1 161 2)]) rfl ?_
  refine Rn_icle rfl (fun hc => ?_) (fun hc => ?_)
  · have h := h.1 hc
    refine Rn_pure 2 (i' := 11) (L' := [some (2, 161), some (0, p1), some (0, p2), some (0, p3), some (0, p4), some (0, p5), some (0, 0), none]) (st' := []) rfl ?_
    exact h
  · have h := h.2 hc
    refine Rn_pure 1 (i' := 8) (L' := [some (2, 161), some (0, p1), some (0, p2), some (0, p3), some (0, p4), some (0, p5), none, none]) (st' := [(0, (-1))]) rfl ?_
    exact Rn_ret1 rfl h
theorem v_M_feed_11 {K : Int} {S : Nat} {g r : ab_H} {l1 l2 l3 l4 l5 l6 : Int} (P : Int → ab_H → ab_H → Prop) (hr : SI r) (hK : 185 ≤ K) (h : ((wr 20 ≤ wr l6 → ∀ g1, g1 = ab_up g 161 2 (g 161 2 + 20) → P (g1 161 2) g1 r) ∧ (wr l6 < wr 20 → ((wr 4 ≤ wr l6 → ((wr 8 ≤ wr l6 → ((wr 12 ≤ wr l6 → ((wr 16 ≤ wr l6 → (¬ wr 4 = 0) ∧ ((0 : Int) ≤ g 161 2 + l6 ∧ (g 161 2 + l6 : Int) < 900) ∧ ∀ g2, g2 = ab_up g 162 (g 161 2 + l6) (ab_and (ab_shr l5 (24 - (8 * (ab_rem l6 4)))) 255) → ab_Rn m_M_feed 11 [some (2, 161), some (0, l1), some (0, l2), some (0, l3), some (0, l4), some (0, l5), some (0, l6 + 1), none] [] (K, S, g2, r) (ab_Qi K S P)) ∧ (wr l6 < wr 16 → (¬ wr 4 = 0) ∧ ((0 : Int) ≤ g 161 2 + l6 ∧ (g 161 2 + l6 : Int) < 900) ∧ ∀ g3, g3 = ab_up g 162 (g 161 2 + l6) (ab_and (ab_shr l4 (24 - (8 * (ab_rem l6 4)))) 255) → ab_Rn m_M_feed 11 [some (2, 161), some (0, l1), some (0, l2), some (0, l3), some (0, l4), some (0, l5), some (0, l6 + 1), none] [] (K, S, g3, r) (ab_Qi K S P)))) ∧ (wr l6 < wr 12 → (¬ wr 4 = 0) ∧ ((0 : Int) ≤ g 161 2 + l6 ∧ (g 161 2 + l6 : Int) < 900) ∧ ∀ g4, g4 = ab_up g 162 (g 161 2 + l6) (ab_and (ab_shr l3 (24 - (8 * (ab_rem l6 4)))) 255) → ab_Rn m_M_feed 11 [some (2, 161), some (0, l1), some (0, l2), some (0, l3), some (0, l4), some (0, l5), some (0, l6 + 1), none] [] (K, S, g4, r) (ab_Qi K S P)))) ∧ (wr l6 < wr 8 → (¬ wr 4 = 0) ∧ ((0 : Int) ≤ g 161 2 + l6 ∧ (g 161 2 + l6 : Int) < 900) ∧ ∀ g5, g5 = ab_up g 162 (g 161 2 + l6) (ab_and (ab_shr l2 (24 - (8 * (ab_rem l6 4)))) 255) → ab_Rn m_M_feed 11 [some (2, 161), some (0, l1), some (0, l2), some (0, l3), some (0, l4), some (0, l5), some (0, l6 + 1), none] [] (K, S, g5, r) (ab_Qi K S P)))) ∧ (wr l6 < wr 4 → (¬ wr 4 = 0) ∧ ((0 : Int) ≤ g 161 2 + l6 ∧ (g 161 2 + l6 : Int) < 900) ∧ ∀ g6, g6 = ab_up g 162 (g 161 2 + l6) (ab_and (ab_shr l1 (24 - (8 * (ab_rem l6 4)))) 255) → ab_Rn m_M_feed 11 [some (2, 161), some (0, l1), some (0, l2), some (0, l3), some (0, l4), some (0, l5), some (0, l6 + 1), none] [] (K, S, g6, r) (ab_Qi K S P)))))) : ab_Rn m_M_feed 11 [some (2, 161), some (0, l1), some (0, l2), some (0, l3), some (0, l4), some (0, l5), some (0, l6), none] [] (K, S, g, r) (ab_Qi K S P) := by
  refine Rn_pure 2 (i' := 13) (L' := [some (2, 161), some (0, l1), some (0, l2), some (0, l3), some (0, l4), some (0, l5), some (0, l6), none]) (st' := [(0, 20), (0, l6)]) rfl ?_
  refine Rn_icge rfl (fun hc => ?_) (fun hc => ?_)
  · have h := h.1 hc
    refine Rn_pure 2 (i' := 58) (L' := [some (2, 161), some (0, l1), some (0, l2), some (0, l3), some (0, l4), some (0, l5), some (0, l6), none]) (st' := [(2, 161), (2, 161)]) rfl ?_
    refine Rn_getI rfl (⟨rfl, (by omega : (0 : Int) ≤ 161), (by omega : (161 : Int) < K)⟩) ?_
    refine Rn_pure 2 (i' := 61) (L' := [some (2, 161), some (0, l1), some (0, l2), some (0, l3), some (0, l4), some (0, l5), some (0, l6), none]) (st' := [(0, g 161 2 + 20), (2, 161)]) rfl ?_
    refine Rn_putI rfl (⟨rfl, (by omega : (0 : Int) ≤ 161), (by omega : (161 : Int) < K)⟩) (fun g1 he_g1 => ?_)
    have h := h g1 he_g1
    refine Rn_pure 1 (i' := 63) (L' := [some (2, 161), some (0, l1), some (0, l2), some (0, l3), some (0, l4), some (0, l5), some (0, l6), none]) (st' := [(2, 161)]) rfl ?_
    refine Rn_getI rfl (⟨rfl, (by omega : (0 : Int) ≤ 161), (by omega : (161 : Int) < K)⟩) ?_
    exact Rn_ret1 rfl h
  · have h := h.2 hc
    refine Rn_pure 2 (i' := 16) (L' := [some (2, 161), some (0, l1), some (0, l2), some (0, l3), some (0, l4), some (0, l5), some (0, l6), none]) (st' := [(0, 4), (0, l6)]) rfl ?_
    refine Rn_icge rfl (fun hc => ?_) (fun hc => ?_)
    · have h := h.1 hc
      refine Rn_pure 2 (i' := 21) (L' := [some (2, 161), some (0, l1), some (0, l2), some (0, l3), some (0, l4), some (0, l5), some (0, l6), none]) (st' := [(0, 8), (0, l6)]) rfl ?_
      refine Rn_icge rfl (fun hc => ?_) (fun hc => ?_)
      · have h := h.1 hc
        refine Rn_pure 2 (i' := 26) (L' := [some (2, 161), some (0, l1), some (0, l2), some (0, l3), some (0, l4), some (0, l5), some (0, l6), none]) (st' := [(0, 12), (0, l6)]) rfl ?_
        refine Rn_icge rfl (fun hc => ?_) (fun hc => ?_)
        · have h := h.1 hc
          refine Rn_pure 2 (i' := 31) (L' := [some (2, 161), some (0, l1), some (0, l2), some (0, l3), some (0, l4), some (0, l5), some (0, l6), none]) (st' := [(0, 16), (0, l6)]) rfl ?_
          refine Rn_icge rfl (fun hc => ?_) (fun hc => ?_)
          · have h := h.1 hc
            refine Rn_pure 3 (i' := 37) (L' := [some (2, 161), some (0, l1), some (0, l2), some (0, l3), some (0, l4), some (0, l5), some (0, l6), some (0, l5)]) (st' := [(2, 161)]) rfl ?_
            refine Rn_getR rfl (⟨rfl, (by omega : (0 : Int) ≤ 161), (by omega : (161 : Int) < K)⟩) (hr 137 _ rfl) (by decide) ?_
            refine Rn_pure 1 (i' := 39) (L' := [some (2, 161), some (0, l1), some (0, l2), some (0, l3), some (0, l4), some (0, l5), some (0, l6), some (0, l5)]) (st' := [(2, 161), (2, 162)]) rfl ?_
            refine Rn_getI rfl (⟨rfl, (by omega : (0 : Int) ≤ 161), (by omega : (161 : Int) < K)⟩) ?_
            refine Rn_pure 7 (i' := 47) (L' := [some (2, 161), some (0, l1), some (0, l2), some (0, l3), some (0, l4), some (0, l5), some (0, l6), some (0, l5)]) (st' := [(0, 4), (0, l6), (0, 8), (0, 24), (0, l5), (0, g 161 2 + l6), (2, 162)]) rfl ?_
            obtain ⟨hg, h⟩ := h
            refine Rn_rem rfl hg ?_
            refine Rn_pure 5 (i' := 53) (L' := [some (2, 161), some (0, l1), some (0, l2), some (0, l3), some (0, l4), some (0, l5), some (0, l6), some (0, l5)]) (st' := [(0, ab_and (ab_shr l5 (24 - (8 * (ab_rem l6 4)))) 255), (0, g 161 2 + l6), (2, 162)]) rfl ?_
            obtain ⟨hg, h⟩ := h
            refine Rn_iast rfl (⟨rfl, (by omega : (0 : Int) ≤ 162), (by omega : (162 : Int) < K)⟩) hg (fun g2 he_g2 => ?_)
            have h := h g2 he_g2
            refine Rn_pure 2 (i' := 11) (L' := [some (2, 161), some (0, l1), some (0, l2), some (0, l3), some (0, l4), some (0, l5), some (0, l6 + 1), some (0, l5)]) (st' := []) rfl ?_
            refine Rn_weak (L' := [some (2, 161), some (0, l1), some (0, l2), some (0, l3), some (0, l4), some (0, l5), some (0, l6 + 1), none]) ⟨rfl, ⟨rfl, ⟨rfl, ⟨rfl, ⟨rfl, ⟨rfl, ⟨rfl, trivial⟩⟩⟩⟩⟩⟩⟩ ?_
            exact h
          · have h := h.2 hc
            refine Rn_pure 4 (i' := 37) (L' := [some (2, 161), some (0, l1), some (0, l2), some (0, l3), some (0, l4), some (0, l5), some (0, l6), some (0, l4)]) (st' := [(2, 161)]) rfl ?_
            refine Rn_getR rfl (⟨rfl, (by omega : (0 : Int) ≤ 161), (by omega : (161 : Int) < K)⟩) (hr 137 _ rfl) (by decide) ?_
            refine Rn_pure 1 (i' := 39) (L' := [some (2, 161), some (0, l1), some (0, l2), some (0, l3), some (0, l4), some (0, l5), some (0, l6), some (0, l4)]) (st' := [(2, 161), (2, 162)]) rfl ?_
            refine Rn_getI rfl (⟨rfl, (by omega : (0 : Int) ≤ 161), (by omega : (161 : Int) < K)⟩) ?_
            refine Rn_pure 7 (i' := 47) (L' := [some (2, 161), some (0, l1), some (0, l2), some (0, l3), some (0, l4), some (0, l5), some (0, l6), some (0, l4)]) (st' := [(0, 4), (0, l6), (0, 8), (0, 24), (0, l4), (0, g 161 2 + l6), (2, 162)]) rfl ?_
            obtain ⟨hg, h⟩ := h
            refine Rn_rem rfl hg ?_
            refine Rn_pure 5 (i' := 53) (L' := [some (2, 161), some (0, l1), some (0, l2), some (0, l3), some (0, l4), some (0, l5), some (0, l6), some (0, l4)]) (st' := [(0, ab_and (ab_shr l4 (24 - (8 * (ab_rem l6 4)))) 255), (0, g 161 2 + l6), (2, 162)]) rfl ?_
            obtain ⟨hg, h⟩ := h
            refine Rn_iast rfl (⟨rfl, (by omega : (0 : Int) ≤ 162), (by omega : (162 : Int) < K)⟩) hg (fun g3 he_g3 => ?_)
            have h := h g3 he_g3
            refine Rn_pure 2 (i' := 11) (L' := [some (2, 161), some (0, l1), some (0, l2), some (0, l3), some (0, l4), some (0, l5), some (0, l6 + 1), some (0, l4)]) (st' := []) rfl ?_
            refine Rn_weak (L' := [some (2, 161), some (0, l1), some (0, l2), some (0, l3), some (0, l4), some (0, l5), some (0, l6 + 1), none]) ⟨rfl, ⟨rfl, ⟨rfl, ⟨rfl, ⟨rfl, ⟨rfl, ⟨rfl, trivial⟩⟩⟩⟩⟩⟩⟩ ?_
            exact h
        · have h := h.2 hc
          refine Rn_pure 4 (i' := 37) (L' := [some (2, 161), some (0, l1), some (0, l2), some (0, l3), some (0, l4), some (0, l5), some (0, l6), some (0, l3)]) (st' := [(2, 161)]) rfl ?_
          refine Rn_getR rfl (⟨rfl, (by omega : (0 : Int) ≤ 161), (by omega : (161 : Int) < K)⟩) (hr 137 _ rfl) (by decide) ?_
          refine Rn_pure 1 (i' := 39) (L' := [some (2, 161), some (0, l1), some (0, l2), some (0, l3), some (0, l4), some (0, l5), some (0, l6), some (0, l3)]) (st' := [(2, 161), (2, 162)]) rfl ?_
          refine Rn_getI rfl (⟨rfl, (by omega : (0 : Int) ≤ 161), (by omega : (161 : Int) < K)⟩) ?_
          refine Rn_pure 7 (i' := 47) (L' := [some (2, 161), some (0, l1), some (0, l2), some (0, l3), some (0, l4), some (0, l5), some (0, l6), some (0, l3)]) (st' := [(0, 4), (0, l6), (0, 8), (0, 24), (0, l3), (0, g 161 2 + l6), (2, 162)]) rfl ?_
          obtain ⟨hg, h⟩ := h
          refine Rn_rem rfl hg ?_
          refine Rn_pure 5 (i' := 53) (L' := [some (2, 161), some (0, l1), some (0, l2), some (0, l3), some (0, l4), some (0, l5), some (0, l6), some (0, l3)]) (st' := [(0, ab_and (ab_shr l3 (24 - (8 * (ab_rem l6 4)))) 255), (0, g 161 2 + l6), (2, 162)]) rfl ?_
          obtain ⟨hg, h⟩ := h
          refine Rn_iast rfl (⟨rfl, (by omega : (0 : Int) ≤ 162), (by omega : (162 : Int) < K)⟩) hg (fun g4 he_g4 => ?_)
          have h := h g4 he_g4
          refine Rn_pure 2 (i' := 11) (L' := [some (2, 161), some (0, l1), some (0, l2), some (0, l3), some (0, l4), some (0, l5), some (0, l6 + 1), some (0, l3)]) (st' := []) rfl ?_
          refine Rn_weak (L' := [some (2, 161), some (0, l1), some (0, l2), some (0, l3), some (0, l4), some (0, l5), some (0, l6 + 1), none]) ⟨rfl, ⟨rfl, ⟨rfl, ⟨rfl, ⟨rfl, ⟨rfl, ⟨rfl, trivial⟩⟩⟩⟩⟩⟩⟩ ?_
          exact h
      · have h := h.2 hc
        refine Rn_pure 4 (i' := 37) (L' := [some (2, 161), some (0, l1), some (0, l2), some (0, l3), some (0, l4), some (0, l5), some (0, l6), some (0, l2)]) (st' := [(2, 161)]) rfl ?_
        refine Rn_getR rfl (⟨rfl, (by omega : (0 : Int) ≤ 161), (by omega : (161 : Int) < K)⟩) (hr 137 _ rfl) (by decide) ?_
        refine Rn_pure 1 (i' := 39) (L' := [some (2, 161), some (0, l1), some (0, l2), some (0, l3), some (0, l4), some (0, l5), some (0, l6), some (0, l2)]) (st' := [(2, 161), (2, 162)]) rfl ?_
        refine Rn_getI rfl (⟨rfl, (by omega : (0 : Int) ≤ 161), (by omega : (161 : Int) < K)⟩) ?_
        refine Rn_pure 7 (i' := 47) (L' := [some (2, 161), some (0, l1), some (0, l2), some (0, l3), some (0, l4), some (0, l5), some (0, l6), some (0, l2)]) (st' := [(0, 4), (0, l6), (0, 8), (0, 24), (0, l2), (0, g 161 2 + l6), (2, 162)]) rfl ?_
        obtain ⟨hg, h⟩ := h
        refine Rn_rem rfl hg ?_
        refine Rn_pure 5 (i' := 53) (L' := [some (2, 161), some (0, l1), some (0, l2), some (0, l3), some (0, l4), some (0, l5), some (0, l6), some (0, l2)]) (st' := [(0, ab_and (ab_shr l2 (24 - (8 * (ab_rem l6 4)))) 255), (0, g 161 2 + l6), (2, 162)]) rfl ?_
        obtain ⟨hg, h⟩ := h
        refine Rn_iast rfl (⟨rfl, (by omega : (0 : Int) ≤ 162), (by omega : (162 : Int) < K)⟩) hg (fun g5 he_g5 => ?_)
        have h := h g5 he_g5
        refine Rn_pure 2 (i' := 11) (L' := [some (2, 161), some (0, l1), some (0, l2), some (0, l3), some (0, l4), some (0, l5), some (0, l6 + 1), some (0, l2)]) (st' := []) rfl ?_
        refine Rn_weak (L' := [some (2, 161), some (0, l1), some (0, l2), some (0, l3), some (0, l4), some (0, l5), some (0, l6 + 1), none]) ⟨rfl, ⟨rfl, ⟨rfl, ⟨rfl, ⟨rfl, ⟨rfl, ⟨rfl, trivial⟩⟩⟩⟩⟩⟩⟩ ?_
        exact h
    · have h := h.2 hc
      refine Rn_pure 4 (i' := 37) (L' := [some (2, 161), some (0, l1), some (0, l2), some (0, l3), some (0, l4), some (0, l5), some (0, l6), some (0, l1)]) (st' := [(2, 161)]) rfl ?_
      refine Rn_getR rfl (⟨rfl, (by omega : (0 : Int) ≤ 161), (by omega : (161 : Int) < K)⟩) (hr 137 _ rfl) (by decide) ?_
      refine Rn_pure 1 (i' := 39) (L' := [some (2, 161), some (0, l1), some (0, l2), some (0, l3), some (0, l4), some (0, l5), some (0, l6), some (0, l1)]) (st' := [(2, 161), (2, 162)]) rfl ?_
      refine Rn_getI rfl (⟨rfl, (by omega : (0 : Int) ≤ 161), (by omega : (161 : Int) < K)⟩) ?_
      refine Rn_pure 7 (i' := 47) (L' := [some (2, 161), some (0, l1), some (0, l2), some (0, l3), some (0, l4), some (0, l5), some (0, l6), some (0, l1)]) (st' := [(0, 4), (0, l6), (0, 8), (0, 24), (0, l1), (0, g 161 2 + l6), (2, 162)]) rfl ?_
      obtain ⟨hg, h⟩ := h
      refine Rn_rem rfl hg ?_
      refine Rn_pure 5 (i' := 53) (L' := [some (2, 161), some (0, l1), some (0, l2), some (0, l3), some (0, l4), some (0, l5), some (0, l6), some (0, l1)]) (st' := [(0, ab_and (ab_shr l1 (24 - (8 * (ab_rem l6 4)))) 255), (0, g 161 2 + l6), (2, 162)]) rfl ?_
      obtain ⟨hg, h⟩ := h
      refine Rn_iast rfl (⟨rfl, (by omega : (0 : Int) ≤ 162), (by omega : (162 : Int) < K)⟩) hg (fun g6 he_g6 => ?_)
      have h := h g6 he_g6
      refine Rn_pure 2 (i' := 11) (L' := [some (2, 161), some (0, l1), some (0, l2), some (0, l3), some (0, l4), some (0, l5), some (0, l6 + 1), some (0, l1)]) (st' := []) rfl ?_
      refine Rn_weak (L' := [some (2, 161), some (0, l1), some (0, l2), some (0, l3), some (0, l4), some (0, l5), some (0, l6 + 1), none]) ⟨rfl, ⟨rfl, ⟨rfl, ⟨rfl, ⟨rfl, ⟨rfl, ⟨rfl, trivial⟩⟩⟩⟩⟩⟩⟩ ?_
      exact h
-- EventLedgerModel.here ()I
theorem v_M_here {K : Int} {S : Nat} {g r : ab_H} (P : Int → ab_H → ab_H → Prop) (hr : SI r) (hK : 185 ≤ K) (h : ((wr (g 161 17) ≤ wr (g 161 18) → P (-1) g r) ∧ (wr (g 161 18) < wr (g 161 17) → ((0 : Int) ≤ g 161 18 ∧ (g 161 18 : Int) < 900) ∧ P (g 162 (g 161 18)) g r))) : ab_RI m_M_here [(2, 161)] K S g r P := by
  show ab_Rn m_M_here 0 [some (2, 161)] [] (K, S, g, r) (ab_Qi K S P)
  refine Rn_pure 1 (i' := 1) (L' := [some (2, 161)]) (st' := [(2, 161)]) rfl ?_
  refine Rn_getI rfl (⟨rfl, (by omega : (0 : Int) ≤ 161), (by omega : (161 : Int) < K)⟩) ?_
  refine Rn_pure 1 (i' := 3) (L' := [some (2, 161)]) (st' := [(2, 161), (0, g 161 18)]) rfl ?_
  refine Rn_getI rfl (⟨rfl, (by omega : (0 : Int) ≤ 161), (by omega : (161 : Int) < K)⟩) ?_
  refine Rn_icge rfl (fun hc => ?_) (fun hc => ?_)
  · have h := h.1 hc
    refine Rn_pure 1 (i' := 12) (L' := [some (2, 161)]) (st' := [(0, (-1))]) rfl ?_
    exact Rn_ret1 rfl h
  · have h := h.2 hc
    refine Rn_pure 1 (i' := 6) (L' := [some (2, 161)]) (st' := [(2, 161)]) rfl ?_
    refine Rn_getR rfl (⟨rfl, (by omega : (0 : Int) ≤ 161), (by omega : (161 : Int) < K)⟩) (hr 137 _ rfl) (by decide) ?_
    refine Rn_pure 1 (i' := 8) (L' := [some (2, 161)]) (st' := [(2, 161), (2, 162)]) rfl ?_
    refine Rn_getI rfl (⟨rfl, (by omega : (0 : Int) ≤ 161), (by omega : (161 : Int) < K)⟩) ?_
    obtain ⟨hg, h⟩ := h
    refine Rn_iald rfl (⟨rfl, (by omega : (0 : Int) ≤ 162), (by omega : (162 : Int) < K)⟩) hg ?_
    refine Rn_pure 1 (i' := 12) (L' := [some (2, 161)]) (st' := [(0, g 162 (g 161 18))]) rfl ?_
    exact Rn_ret1 rfl h
-- EventLedgerModel.isSmall (I)Z
theorem v_M_isSmall {K : Int} {S : Nat} {g r : ab_H} {p0 : Int} (P : Int → ab_H → ab_H → Prop) (hr : SI r) (hK : 185 ≤ K) (h : ((wr p0 < wr 97 → P 0 g r) ∧ (wr 97 ≤ wr p0 → ((wr 122 < wr p0 → P 0 g r) ∧ (wr p0 ≤ wr 122 → P 1 g r))))) : ab_RI m_M_isSmall [(0, p0)] K S g r P := by
  show ab_Rn m_M_isSmall 0 [some (0, p0)] [] (K, S, g, r) (ab_Qi K S P)
  refine Rn_pure 2 (i' := 2) (L' := [some (0, p0)]) (st' := [(0, 97), (0, p0)]) rfl ?_
  refine Rn_iclt rfl (fun hc => ?_) (fun hc => ?_)
  · have h := h.1 hc
    refine Rn_pure 1 (i' := 9) (L' := [some (0, p0)]) (st' := [(0, 0)]) rfl ?_
    exact Rn_ret2 rfl (by decide) h
  · have h := h.2 hc
    refine Rn_pure 2 (i' := 5) (L' := [some (0, p0)]) (st' := [(0, 122), (0, p0)]) rfl ?_
    refine Rn_icgt rfl (fun hc => ?_) (fun hc => ?_)
    · have h := h.1 hc
      refine Rn_pure 1 (i' := 9) (L' := [some (0, p0)]) (st' := [(0, 0)]) rfl ?_
      exact Rn_ret2 rfl (by decide) h
    · have h := h.2 hc
      refine Rn_pure 2 (i' := 9) (L' := [some (0, p0)]) (st' := [(0, 1)]) rfl ?_
      exact Rn_ret2 rfl (by decide) h
-- EventLedgerModel.isDigit (I)Z
theorem v_M_isDigit {K : Int} {S : Nat} {g r : ab_H} {p0 : Int} (P : Int → ab_H → ab_H → Prop) (hr : SI r) (hK : 185 ≤ K) (h : ((wr p0 < wr 48 → P 0 g r) ∧ (wr 48 ≤ wr p0 → ((wr 57 < wr p0 → P 0 g r) ∧ (wr p0 ≤ wr 57 → P 1 g r))))) : ab_RI m_M_isDigit [(0, p0)] K S g r P := by
  show ab_Rn m_M_isDigit 0 [some (0, p0)] [] (K, S, g, r) (ab_Qi K S P)
  refine Rn_pure 2 (i' := 2) (L' := [some (0, p0)]) (st' := [(0, 48), (0, p0)]) rfl ?_
  refine Rn_iclt rfl (fun hc => ?_) (fun hc => ?_)
  · have h := h.1 hc
    refine Rn_pure 1 (i' := 9) (L' := [some (0, p0)]) (st' := [(0, 0)]) rfl ?_
    exact Rn_ret2 rfl (by decide) h
  · have h := h.2 hc
    refine Rn_pure 2 (i' := 5) (L' := [some (0, p0)]) (st' := [(0, 57), (0, p0)]) rfl ?_
    refine Rn_icgt rfl (fun hc => ?_) (fun hc => ?_)
    · have h := h.1 hc
      refine Rn_pure 1 (i' := 9) (L' := [some (0, p0)]) (st' := [(0, 0)]) rfl ?_
      exact Rn_ret2 rfl (by decide) h
    · have h := h.2 hc
      refine Rn_pure 2 (i' := 9) (L' := [some (0, p0)]) (st' := [(0, 1)]) rfl ?_
      exact Rn_ret2 rfl (by decide) h
-- EventLedgerModel.token ()V
theorem v_M_token {K : Int} {S : Nat} {g r : ab_H} (P : ab_H → ab_H → Prop) (hr : SI r) (hK : 185 ≤ K) (h : ab_Rn m_M_token 0 [some (2, 161), none] [] (K, S, g, r) (ab_Qv K S P)) : ab_RV m_M_token [(2, 161)] K S g r P := by
  show ab_Rn m_M_token 0 [some (2, 161), none] [] (K, S, g, r) (ab_Qv K S P)
  exact h
theorem v_M_token_0 {K : Int} {S : Nat} {g r : ab_H} (P : ab_H → ab_H → Prop) (hr : SI r) (hK : 185 ≤ K) (h : ab_RI m_M_here [(2, 161)] K S g r (fun x1 g' r' => g' = g ∧ r' = r ∧ (((wr x1 = wr 10 → ∀ g2, g2 = ab_up g 161 18 (g 161 18 + 1) → ab_Rn m_M_token 0 [some (2, 161), none] [] (K, S, g2, r) (ab_Qv K S P)) ∧ (¬ wr x1 = wr 10 → ab_RI m_M_here [(2, 161)] K S g r (fun x3 g' r' => g' = g ∧ r' = r ∧ (((¬ wr x3 = wr 32 → ∀ g4, g4 = ab_up g 161 19 (g 161 18) → ab_RI m_M_here [(2, 161)] K S g4 r (fun x5 g' r' => g' = g4 ∧ r' = r ∧ (((¬ wr x5 = wr (-1) → ab_RI m_M_isSmall [(0, x5)] K S g4 r (fun x6 g' r' => g' = g4 ∧ r' = r ∧ (((wr x6 = wr 0 → ab_RI m_M_isDigit [(0, x5)] K S g4 r (fun x7 g' r' => g' = g4 ∧ r' = r ∧ (((wr x7 = wr 0 → ((¬ wr x5 = wr 59 → ∀ g8, g8 = ab_up g4 161 20 5 → ∀ g9, g9 = ab_up g8 161 18 (g8 161 18 + 1) → P g9 r) ∧ (wr x5 = wr 59 → ∀ g10, g10 = ab_up g4 161 20 3 → ∀ g11, g11 = ab_up g10 161 18 (g10 161 18 + 1) → P g11 r))) ∧ (¬ wr x7 = wr 0 → ∀ g12, g12 = ab_up g4 161 20 2 → ∀ g13, g13 = ab_up g12 161 21 0 → ab_Rn m_M_token 81 [some (2, 161), none] [] (K, S, g13, r) (ab_Qv K S P)))))) ∧ (¬ wr x6 = wr 0 → ab_Rn m_M_token 32 [some (2, 161), none] [] (K, S, g4, r) (ab_Qv K S P)))))) ∧ (wr x5 = wr (-1) → ∀ g14, g14 = ab_up g4 161 20 4 → P g14 r))))) ∧ (wr x3 = wr 32 → ∀ g15, g15 = ab_up g 161 18 (g 161 18 + 1) → ab_Rn m_M_token 0 [some (2, 161), none] [] (K, S, g15, r) (ab_Qv K S P)))))))))) : ab_Rn m_M_token 0 [some (2, 161), none] [] (K, S, g, r) (ab_Qv K S P) := by
  refine Rn_pure 1 (i' := 1) (L' := [some (2, 161), none]) (st' := [(2, 161)]) rfl ?_
  refine Rn_callI [(2, 161)] [] rfl rfl rfl rfl (ab_rvB_of rfl (⟨rfl, (by omega : (0 : Int) ≤ 161), (by omega : (161 : Int) < K)⟩)) ?_
  refine h.mono (fun x1 g' r' h => ?_)
  obtain ⟨hx, h⟩ := h
  replace hx := hx.symm
  subst hx
  obtain ⟨hx, h⟩ := h
  replace hx := hx.symm
  subst hx
  refine Rn_pure 1 (i' := 3) (L' := [some (2, 161), none]) (st' := [(0, 10), (0, x1)]) rfl ?_
  refine Rn_iceq rfl (fun hc => ?_) (fun hc => ?_)
  · have h := h.1 hc
    refine Rn_pure 2 (i' := 10) (L' := [some (2, 161), none]) (st' := [(2, 161), (2, 161)]) rfl ?_
    refine Rn_getI rfl (⟨rfl, (by omega : (0 : Int) ≤ 161), (by omega : (161 : Int) < K)⟩) ?_
    refine Rn_pure 2 (i' := 13) (L' := [some (2, 161), none]) (st' := [(0, g 161 18 + 1), (2, 161)]) rfl ?_
    refine Rn_putI rfl (⟨rfl, (by omega : (0 : Int) ≤ 161), (by omega : (161 : Int) < K)⟩) (fun g2 he_g2 => ?_)
    have h := h g2 he_g2
    refine Rn_pure 1 (i' := 0) (L' := [some (2, 161), none]) (st' := []) rfl ?_
    exact h
  · have h := h.2 hc
    refine Rn_pure 1 (i' := 5) (L' := [some (2, 161), none]) (st' := [(2, 161)]) rfl ?_
    refine Rn_callI [(2, 161)] [] rfl rfl rfl rfl (ab_rvB_of rfl (⟨rfl, (by omega : (0 : Int) ≤ 161), (by omega : (161 : Int) < K)⟩)) ?_
    refine h.mono (fun x3 g' r' h => ?_)
    obtain ⟨hx, h⟩ := h
    replace hx := hx.symm
    subst hx
    obtain ⟨hx, h⟩ := h
    replace hx := hx.symm
    subst hx
    refine Rn_pure 1 (i' := 7) (L' := [some (2, 161), none]) (st' := [(0, 32), (0, x3)]) rfl ?_
    refine Rn_icne rfl (fun hc => ?_) (fun hc => ?_)
    · have h := h.1 hc
      refine Rn_pure 2 (i' := 17) (L' := [some (2, 161), none]) (st' := [(2, 161), (2, 161)]) rfl ?_
      refine Rn_getI rfl (⟨rfl, (by omega : (0 : Int) ≤ 161), (by omega : (161 : Int) < K)⟩) ?_
      refine Rn_putI rfl (⟨rfl, (by omega : (0 : Int) ≤ 161), (by omega : (161 : Int) < K)⟩) (fun g4 he_g4 => ?_)
      have h := h g4 he_g4
      refine Rn_pure 1 (i' := 20) (L' := [some (2, 161), none]) (st' := [(2, 161)]) rfl ?_
      refine Rn_callI [(2, 161)] [] rfl rfl rfl rfl (ab_rvB_of rfl (⟨rfl, (by omega : (0 : Int) ≤ 161), (by omega : (161 : Int) < K)⟩)) ?_
      refine h.mono (fun x5 g' r' h => ?_)
      obtain ⟨hx, h⟩ := h
      replace hx := hx.symm
      subst hx
      obtain ⟨hx, h⟩ := h
      replace hx := hx.symm
      subst hx
      refine Rn_pure 3 (i' := 24) (L' := [some (2, 161), some (0, x5)]) (st' := [(0, (-1)), (0, x5)]) rfl ?_
      refine Rn_icne rfl (fun hc => ?_) (fun hc => ?_)
      · have h := h.1 hc
        refine Rn_pure 1 (i' := 30) (L' := [some (2, 161), some (0, x5)]) (st' := [(0, x5)]) rfl ?_
        refine Rn_callI [(0, x5)] [] rfl rfl rfl rfl (rfl) ?_
        refine h.mono (fun x6 g' r' h => ?_)
        obtain ⟨hx, h⟩ := h
        replace hx := hx.symm
        subst hx
        obtain ⟨hx, h⟩ := h
        replace hx := hx.symm
        subst hx
        refine Rn_ifeq rfl (fun hc => ?_) (fun hc => ?_)
        · have h := h.1 hc
          refine Rn_pure 1 (i' := 73) (L' := [some (2, 161), some (0, x5)]) (st' := [(0, x5)]) rfl ?_
          refine Rn_callI [(0, x5)] [] rfl rfl rfl rfl (rfl) ?_
          refine h.mono (fun x7 g' r' h => ?_)
          obtain ⟨hx, h⟩ := h
          replace hx := hx.symm
          subst hx
          obtain ⟨hx, h⟩ := h
          replace hx := hx.symm
          subst hx
          refine Rn_ifeq rfl (fun hc => ?_) (fun hc => ?_)
          · have h := h.1 hc
            refine Rn_pure 3 (i' := 113) (L' := [some (2, 161), some (0, x5)]) (st' := [(0, 59), (0, x5), (2, 161)]) rfl ?_
            refine Rn_icne rfl (fun hc => ?_) (fun hc => ?_)
            · have h := h.1 hc
              refine Rn_pure 1 (i' := 117) (L' := [some (2, 161), some (0, x5)]) (st' := [(0, 5), (2, 161)]) rfl ?_
              refine Rn_putI rfl (⟨rfl, (by omega : (0 : Int) ≤ 161), (by omega : (161 : Int) < K)⟩) (fun g8 he_g8 => ?_)
              have h := h g8 he_g8
              refine Rn_pure 2 (i' := 120) (L' := [some (2, 161), some (0, x5)]) (st' := [(2, 161), (2, 161)]) rfl ?_
              refine Rn_getI rfl (⟨rfl, (by omega : (0 : Int) ≤ 161), (by omega : (161 : Int) < K)⟩) ?_
              refine Rn_pure 2 (i' := 123) (L' := [some (2, 161), some (0, x5)]) (st' := [(0, g8 161 18 + 1), (2, 161)]) rfl ?_
              refine Rn_putI rfl (⟨rfl, (by omega : (0 : Int) ≤ 161), (by omega : (161 : Int) < K)⟩) (fun g9 he_g9 => ?_)
              have h := h g9 he_g9
              exact Rn_ret0 rfl h
            · have h := h.2 hc
              refine Rn_pure 2 (i' := 117) (L' := [some (2, 161), some (0, x5)]) (st' := [(0, 3), (2, 161)]) rfl ?_
              refine Rn_putI rfl (⟨rfl, (by omega : (0 : Int) ≤ 161), (by omega : (161 : Int) < K)⟩) (fun g10 he_g10 => ?_)
              have h := h g10 he_g10
              refine Rn_pure 2 (i' := 120) (L' := [some (2, 161), some (0, x5)]) (st' := [(2, 161), (2, 161)]) rfl ?_
              refine Rn_getI rfl (⟨rfl, (by omega : (0 : Int) ≤ 161), (by omega : (161 : Int) < K)⟩) ?_
              refine Rn_pure 2 (i' := 123) (L' := [some (2, 161), some (0, x5)]) (st' := [(0, g10 161 18 + 1), (2, 161)]) rfl ?_
              refine Rn_putI rfl (⟨rfl, (by omega : (0 : Int) ≤ 161), (by omega : (161 : Int) < K)⟩) (fun g11 he_g11 => ?_)
              have h := h g11 he_g11
              exact Rn_ret0 rfl h
          · have h := h.2 hc
            refine Rn_pure 2 (i' := 77) (L' := [some (2, 161), some (0, x5)]) (st' := [(0, 2), (2, 161)]) rfl ?_
            refine Rn_putI rfl (⟨rfl, (by omega : (0 : Int) ≤ 161), (by omega : (161 : Int) < K)⟩) (fun g12 he_g12 => ?_)
            have h := h g12 he_g12
            refine Rn_pure 2 (i' := 80) (L' := [some (2, 161), some (0, x5)]) (st' := [(0, 0), (2, 161)]) rfl ?_
            refine Rn_putI rfl (⟨rfl, (by omega : (0 : Int) ≤ 161), (by omega : (161 : Int) < K)⟩) (fun g13 he_g13 => ?_)
            have h := h g13 he_g13
            refine Rn_weak (L' := [some (2, 161), none]) ⟨rfl, trivial⟩ ?_
            exact h
        · have h := h.2 hc
          refine Rn_weak (L' := [some (2, 161), none]) ⟨rfl, trivial⟩ ?_
          exact h
      · have h := h.2 hc
        refine Rn_pure 2 (i' := 27) (L' := [some (2, 161), some (0, x5)]) (st' := [(0, 4), (2, 161)]) rfl ?_
        refine Rn_putI rfl (⟨rfl, (by omega : (0 : Int) ≤ 161), (by omega : (161 : Int) < K)⟩) (fun g14 he_g14 => ?_)
        have h := h g14 he_g14
        refine Rn_pure 1 (i' := 124) (L' := [some (2, 161), some (0, x5)]) (st' := []) rfl ?_
        exact Rn_ret0 rfl h
    · have h := h.2 hc
      refine Rn_pure 2 (i' := 10) (L' := [some (2, 161), none]) (st' := [(2, 161), (2, 161)]) rfl ?_
      refine Rn_getI rfl (⟨rfl, (by omega : (0 : Int) ≤ 161), (by omega : (161 : Int) < K)⟩) ?_
      refine Rn_pure 2 (i' := 13) (L' := [some (2, 161), none]) (st' := [(0, g 161 18 + 1), (2, 161)]) rfl ?_
      refine Rn_putI rfl (⟨rfl, (by omega : (0 : Int) ≤ 161), (by omega : (161 : Int) < K)⟩) (fun g15 he_g15 => ?_)
      have h := h g15 he_g15
      refine Rn_pure 1 (i' := 0) (L' := [some (2, 161), none]) (st' := []) rfl ?_
      exact h
theorem v_M_token_32 {K : Int} {S : Nat} {g r : ab_H} (P : ab_H → ab_H → Prop) (hr : SI r) (hK : 185 ≤ K) (h : ab_RI m_M_here [(2, 161)] K S g r (fun x1 g' r' => g' = g ∧ r' = r ∧ (ab_RI m_M_isSmall [(0, x1)] K S g r (fun x2 g' r' => g' = g ∧ r' = r ∧ (((wr x2 = wr 0 → ab_RI m_M_wordHere [(2, 161)] K S g r (fun x3 g' r' => g' = g ∧ r' = r ∧ (∀ g4, g4 = ab_up g 161 21 x3 → ((wr (g4 161 21) = wr (-1) → ((wr (g4 161 18 - (g4 161 19)) ≤ wr 6 → ∀ g5, g5 = ab_up g4 161 20 1 → ((¬ wr (g5 161 20) = wr 1 → P g5 r) ∧ (wr (g5 161 20) = wr 1 → ab_RV m_M_nameHere [(2, 161)] K S g5 r (fun g6 r' => r' = r ∧ (P g6 r))))) ∧ (wr 6 < wr (g4 161 18 - (g4 161 19)) → ∀ g8, g8 = ab_up g4 161 20 5 → ((¬ wr (g8 161 20) = wr 1 → P g8 r) ∧ (wr (g8 161 20) = wr 1 → ab_RV m_M_nameHere [(2, 161)] K S g8 r (fun g9 r' => r' = r ∧ (P g9 r))))))) ∧ (¬ wr (g4 161 21) = wr (-1) → ∀ g11, g11 = ab_up g4 161 20 0 → ((¬ wr (g11 161 20) = wr 1 → P g11 r) ∧ (wr (g11 161 20) = wr 1 → ab_RV m_M_nameHere [(2, 161)] K S g11 r (fun g12 r' => r' = r ∧ (P g12 r))))))))) ∧ (¬ wr x2 = wr 0 → ∀ g14, g14 = ab_up g 161 18 (g 161 18 + 1) → ab_Rn m_M_token 32 [some (2, 161), none] [] (K, S, g14, r) (ab_Qv K S P)))))))) : ab_Rn m_M_token 32 [some (2, 161), none] [] (K, S, g, r) (ab_Qv K S P) := by
  refine Rn_pure 1 (i' := 33) (L' := [some (2, 161), none]) (st' := [(2, 161)]) rfl ?_
  refine Rn_callI [(2, 161)] [] rfl rfl rfl rfl (ab_rvB_of rfl (⟨rfl, (by omega : (0 : Int) ≤ 161), (by omega : (161 : Int) < K)⟩)) ?_
  refine h.mono (fun x1 g' r' h => ?_)
  obtain ⟨hx, h⟩ := h
  replace hx := hx.symm
  subst hx
  obtain ⟨hx, h⟩ := h
  replace hx := hx.symm
  subst hx
  refine Rn_callI [(0, x1)] [] rfl rfl rfl rfl (rfl) ?_
  refine h.mono (fun x2 g' r' h => ?_)
  obtain ⟨hx, h⟩ := h
  replace hx := hx.symm
  subst hx
  obtain ⟨hx, h⟩ := h
  replace hx := hx.symm
  subst hx
  refine Rn_ifeq rfl (fun hc => ?_) (fun hc => ?_)
  · have h := h.1 hc
    refine Rn_pure 2 (i' := 45) (L' := [some (2, 161), none]) (st' := [(2, 161), (2, 161)]) rfl ?_
    refine Rn_callI [(2, 161)] [(2, 161)] rfl rfl rfl rfl (ab_rvB_of rfl (⟨rfl, (by omega : (0 : Int) ≤ 161), (by omega : (161 : Int) < K)⟩)) ?_
    refine h.mono (fun x3 g' r' h => ?_)
    obtain ⟨hx, h⟩ := h
    replace hx := hx.symm
    subst hx
    obtain ⟨hx, h⟩ := h
    replace hx := hx.symm
    subst hx
    refine Rn_putI rfl (⟨rfl, (by omega : (0 : Int) ≤ 161), (by omega : (161 : Int) < K)⟩) (fun g4 he_g4 => ?_)
    have h := h g4 he_g4
    refine Rn_pure 2 (i' := 49) (L' := [some (2, 161), none]) (st' := [(2, 161), (2, 161)]) rfl ?_
    refine Rn_getI rfl (⟨rfl, (by omega : (0 : Int) ≤ 161), (by omega : (161 : Int) < K)⟩) ?_
    refine Rn_pure 1 (i' := 51) (L' := [some (2, 161), none]) (st' := [(0, (-1)), (0, g4 161 21), (2, 161)]) rfl ?_
    refine Rn_iceq rfl (fun hc => ?_) (fun hc => ?_)
    · have h := h.1 hc
      refine Rn_pure 1 (i' := 55) (L' := [some (2, 161), none]) (st' := [(2, 161), (2, 161)]) rfl ?_
      refine Rn_getI rfl (⟨rfl, (by omega : (0 : Int) ≤ 161), (by omega : (161 : Int) < K)⟩) ?_
      refine Rn_pure 1 (i' := 57) (L' := [some (2, 161), none]) (st' := [(2, 161), (0, g4 161 18), (2, 161)]) rfl ?_
      refine Rn_getI rfl (⟨rfl, (by omega : (0 : Int) ≤ 161), (by omega : (161 : Int) < K)⟩) ?_
      refine Rn_pure 2 (i' := 60) (L' := [some (2, 161), none]) (st' := [(0, 6), (0, g4 161 18 - (g4 161 19)), (2, 161)]) rfl ?_
      refine Rn_icle rfl (fun hc => ?_) (fun hc => ?_)
      · have h := h.1 hc
        refine Rn_pure 1 (i' := 64) (L' := [some (2, 161), none]) (st' := [(0, 1), (2, 161)]) rfl ?_
        refine Rn_putI rfl (⟨rfl, (by omega : (0 : Int) ≤ 161), (by omega : (161 : Int) < K)⟩) (fun g5 he_g5 => ?_)
        have h := h g5 he_g5
        refine Rn_pure 1 (i' := 66) (L' := [some (2, 161), none]) (st' := [(2, 161)]) rfl ?_
        refine Rn_getI rfl (⟨rfl, (by omega : (0 : Int) ≤ 161), (by omega : (161 : Int) < K)⟩) ?_
        refine Rn_pure 1 (i' := 68) (L' := [some (2, 161), none]) (st' := [(0, 1), (0, g5 161 20)]) rfl ?_
        refine Rn_icne rfl (fun hc => ?_) (fun hc => ?_)
        · have h := h.1 hc
          exact Rn_ret0 rfl h
        · have h := h.2 hc
          refine Rn_pure 1 (i' := 70) (L' := [some (2, 161), none]) (st' := [(2, 161)]) rfl ?_
          refine Rn_callV [(2, 161)] [] rfl rfl rfl rfl (ab_rvB_of rfl (⟨rfl, (by omega : (0 : Int) ≤ 161), (by omega : (161 : Int) < K)⟩)) ?_
          refine h.mono (fun g6 r' h => ?_)
          obtain ⟨hx, h⟩ := h
          replace hx := hx.symm
          subst hx
          refine Rn_pure 1 (i' := 124) (L' := [some (2, 161), none]) (st' := []) rfl ?_
          exact Rn_ret0 rfl h
      · have h := h.2 hc
        refine Rn_pure 2 (i' := 64) (L' := [some (2, 161), none]) (st' := [(0, 5), (2, 161)]) rfl ?_
        refine Rn_putI rfl (⟨rfl, (by omega : (0 : Int) ≤ 161), (by omega : (161 : Int) < K)⟩) (fun g8 he_g8 => ?_)
        have h := h g8 he_g8
        refine Rn_pure 1 (i' := 66) (L' := [some (2, 161), none]) (st' := [(2, 161)]) rfl ?_
        refine Rn_getI rfl (⟨rfl, (by omega : (0 : Int) ≤ 161), (by omega : (161 : Int) < K)⟩) ?_
        refine Rn_pure 1 (i' := 68) (L' := [some (2, 161), none]) (st' := [(0, 1), (0, g8 161 20)]) rfl ?_
        refine Rn_icne rfl (fun hc => ?_) (fun hc => ?_)
        · have h := h.1 hc
          exact Rn_ret0 rfl h
        · have h := h.2 hc
          refine Rn_pure 1 (i' := 70) (L' := [some (2, 161), none]) (st' := [(2, 161)]) rfl ?_
          refine Rn_callV [(2, 161)] [] rfl rfl rfl rfl (ab_rvB_of rfl (⟨rfl, (by omega : (0 : Int) ≤ 161), (by omega : (161 : Int) < K)⟩)) ?_
          refine h.mono (fun g9 r' h => ?_)
          obtain ⟨hx, h⟩ := h
          replace hx := hx.symm
          subst hx
          refine Rn_pure 1 (i' := 124) (L' := [some (2, 161), none]) (st' := []) rfl ?_
          exact Rn_ret0 rfl h
    · have h := h.2 hc
      refine Rn_pure 2 (i' := 64) (L' := [some (2, 161), none]) (st' := [(0, 0), (2, 161)]) rfl ?_
      refine Rn_putI rfl (⟨rfl, (by omega : (0 : Int) ≤ 161), (by omega : (161 : Int) < K)⟩) (fun g11 he_g11 => ?_)
      have h := h g11 he_g11
      refine Rn_pure 1 (i' := 66) (L' := [some (2, 161), none]) (st' := [(2, 161)]) rfl ?_
      refine Rn_getI rfl (⟨rfl, (by omega : (0 : Int) ≤ 161), (by omega : (161 : Int) < K)⟩) ?_
      refine Rn_pure 1 (i' := 68) (L' := [some (2, 161), none]) (st' := [(0, 1), (0, g11 161 20)]) rfl ?_
      refine Rn_icne rfl (fun hc => ?_) (fun hc => ?_)
      · have h := h.1 hc
        exact Rn_ret0 rfl h
      · have h := h.2 hc
        refine Rn_pure 1 (i' := 70) (L' := [some (2, 161), none]) (st' := [(2, 161)]) rfl ?_
        refine Rn_callV [(2, 161)] [] rfl rfl rfl rfl (ab_rvB_of rfl (⟨rfl, (by omega : (0 : Int) ≤ 161), (by omega : (161 : Int) < K)⟩)) ?_
        refine h.mono (fun g12 r' h => ?_)
        obtain ⟨hx, h⟩ := h
        replace hx := hx.symm
        subst hx
        refine Rn_pure 1 (i' := 124) (L' := [some (2, 161), none]) (st' := []) rfl ?_
        exact Rn_ret0 rfl h
  · have h := h.2 hc
    refine Rn_pure 2 (i' := 38) (L' := [some (2, 161), none]) (st' := [(2, 161), (2, 161)]) rfl ?_
    refine Rn_getI rfl (⟨rfl, (by omega : (0 : Int) ≤ 161), (by omega : (161 : Int) < K)⟩) ?_
    refine Rn_pure 2 (i' := 41) (L' := [some (2, 161), none]) (st' := [(0, g 161 18 + 1), (2, 161)]) rfl ?_
    refine Rn_putI rfl (⟨rfl, (by omega : (0 : Int) ≤ 161), (by omega : (161 : Int) < K)⟩) (fun g14 he_g14 => ?_)
    have h := h g14 he_g14
    refine Rn_pure 1 (i' := 32) (L' := [some (2, 161), none]) (st' := []) rfl ?_
    exact h
theorem v_M_token_81 {K : Int} {S : Nat} {g r : ab_H} (P : ab_H → ab_H → Prop) (hr : SI r) (hK : 185 ≤ K) (h : ab_RI m_M_here [(2, 161)] K S g r (fun x1 g' r' => g' = g ∧ r' = r ∧ (ab_RI m_M_isDigit [(0, x1)] K S g r (fun x2 g' r' => g' = g ∧ r' = r ∧ (((wr x2 = wr 0 → P g r) ∧ (¬ wr x2 = wr 0 → ((wr (g 161 21) ≤ wr 99999 → ab_RI m_M_here [(2, 161)] K S g r (fun x3 g' r' => g' = g ∧ r' = r ∧ (∀ g4, g4 = ab_up g 161 21 (10 * (g 161 21) + x3 - 48) → ∀ g5, g5 = ab_up g4 161 18 (g4 161 18 + 1) → ab_Rn m_M_token 81 [some (2, 161), none] [] (K, S, g5, r) (ab_Qv K S P)))) ∧ (wr 99999 < wr (g 161 21) → ∀ g6, g6 = ab_up g 161 21 (g 161 21) → ∀ g7, g7 = ab_up g6 161 18 (g6 161 18 + 1) → ab_Rn m_M_token 81 [some (2, 161), none] [] (K, S, g7, r) (ab_Qv K S P)))))))))) : ab_Rn m_M_token 81 [some (2, 161), none] [] (K, S, g, r) (ab_Qv K S P) := by
  refine Rn_pure 1 (i' := 82) (L' := [some (2, 161), none]) (st' := [(2, 161)]) rfl ?_
  refine Rn_callI [(2, 161)] [] rfl rfl rfl rfl (ab_rvB_of rfl (⟨rfl, (by omega : (0 : Int) ≤ 161), (by omega : (161 : Int) < K)⟩)) ?_
  refine h.mono (fun x1 g' r' h => ?_)
  obtain ⟨hx, h⟩ := h
  replace hx := hx.symm
  subst hx
  obtain ⟨hx, h⟩ := h
  replace hx := hx.symm
  subst hx
  refine Rn_callI [(0, x1)] [] rfl rfl rfl rfl (rfl) ?_
  refine h.mono (fun x2 g' r' h => ?_)
  obtain ⟨hx, h⟩ := h
  replace hx := hx.symm
  subst hx
  obtain ⟨hx, h⟩ := h
  replace hx := hx.symm
  subst hx
  refine Rn_ifeq rfl (fun hc => ?_) (fun hc => ?_)
  · have h := h.1 hc
    exact Rn_ret0 rfl h
  · have h := h.2 hc
    refine Rn_pure 2 (i' := 87) (L' := [some (2, 161), none]) (st' := [(2, 161), (2, 161)]) rfl ?_
    refine Rn_getI rfl (⟨rfl, (by omega : (0 : Int) ≤ 161), (by omega : (161 : Int) < K)⟩) ?_
    refine Rn_pure 1 (i' := 89) (L' := [some (2, 161), none]) (st' := [(0, 99999), (0, g 161 21), (2, 161)]) rfl ?_
    refine Rn_icle rfl (fun hc => ?_) (fun hc => ?_)
    · have h := h.1 hc
      refine Rn_pure 2 (i' := 95) (L' := [some (2, 161), none]) (st' := [(2, 161), (0, 10), (2, 161)]) rfl ?_
      refine Rn_getI rfl (⟨rfl, (by omega : (0 : Int) ≤ 161), (by omega : (161 : Int) < K)⟩) ?_
      refine Rn_pure 2 (i' := 98) (L' := [some (2, 161), none]) (st' := [(2, 161), (0, 10 * (g 161 21)), (2, 161)]) rfl ?_
      refine Rn_callI [(2, 161)] [(0, 10 * (g 161 21)), (2, 161)] rfl rfl rfl rfl (ab_rvB_of rfl (⟨rfl, (by omega : (0 : Int) ≤ 161), (by omega : (161 : Int) < K)⟩)) ?_
      refine h.mono (fun x3 g' r' h => ?_)
      obtain ⟨hx, h⟩ := h
      replace hx := hx.symm
      subst hx
      obtain ⟨hx, h⟩ := h
      replace hx := hx.symm
      subst hx
      refine Rn_pure 3 (i' := 102) (L' := [some (2, 161), none]) (st' := [(0, 10 * (g 161 21) + x3 - 48), (2, 161)]) rfl ?_
      refine Rn_putI rfl (⟨rfl, (by omega : (0 : Int) ≤ 161), (by omega : (161 : Int) < K)⟩) (fun g4 he_g4 => ?_)
      have h := h g4 he_g4
      refine Rn_pure 2 (i' := 105) (L' := [some (2, 161), none]) (st' := [(2, 161), (2, 161)]) rfl ?_
      refine Rn_getI rfl (⟨rfl, (by omega : (0 : Int) ≤ 161), (by omega : (161 : Int) < K)⟩) ?_
      refine Rn_pure 2 (i' := 108) (L' := [some (2, 161), none]) (st' := [(0, g4 161 18 + 1), (2, 161)]) rfl ?_
      refine Rn_putI rfl (⟨rfl, (by omega : (0 : Int) ≤ 161), (by omega : (161 : Int) < K)⟩) (fun g5 he_g5 => ?_)
      have h := h g5 he_g5
      refine Rn_pure 1 (i' := 81) (L' := [some (2, 161), none]) (st' := []) rfl ?_
      exact h
    · have h := h.2 hc
      refine Rn_pure 1 (i' := 91) (L' := [some (2, 161), none]) (st' := [(2, 161), (2, 161)]) rfl ?_
      refine Rn_getI rfl (⟨rfl, (by omega : (0 : Int) ≤ 161), (by omega : (161 : Int) < K)⟩) ?_
      refine Rn_pure 1 (i' := 102) (L' := [some (2, 161), none]) (st' := [(0, g 161 21), (2, 161)]) rfl ?_
      refine Rn_putI rfl (⟨rfl, (by omega : (0 : Int) ≤ 161), (by omega : (161 : Int) < K)⟩) (fun g6 he_g6 => ?_)
      have h := h g6 he_g6
      refine Rn_pure 2 (i' := 105) (L' := [some (2, 161), none]) (st' := [(2, 161), (2, 161)]) rfl ?_
      refine Rn_getI rfl (⟨rfl, (by omega : (0 : Int) ≤ 161), (by omega : (161 : Int) < K)⟩) ?_
      refine Rn_pure 2 (i' := 108) (L' := [some (2, 161), none]) (st' := [(0, g6 161 18 + 1), (2, 161)]) rfl ?_
      refine Rn_putI rfl (⟨rfl, (by omega : (0 : Int) ≤ 161), (by omega : (161 : Int) < K)⟩) (fun g7 he_g7 => ?_)
      have h := h g7 he_g7
      refine Rn_pure 1 (i' := 81) (L' := [some (2, 161), none]) (st' := []) rfl ?_
      exact h
-- EventLedgerModel.wordHere ()I
theorem v_M_wordHere {K : Int} {S : Nat} {g r : ab_H} (P : Int → ab_H → ab_H → Prop) (hr : SI r) (hK : 185 ≤ K) (h : ab_Rn m_M_wordHere 4 [some (2, 161), some (0, 0), some (0, 0), none] [] (K, S, g, r) (ab_Qi K S P)) : ab_RI m_M_wordHere [(2, 161)] K S g r P := by
  show ab_Rn m_M_wordHere 0 [some (2, 161), none, none, none] [] (K, S, g, r) (ab_Qi K S P)
  refine Rn_pure 4 (i' := 4) (L' := [some (2, 161), some (0, 0), some (0, 0), none]) (st' := []) rfl ?_
  exact h
theorem v_M_wordHere_4 {K : Int} {S : Nat} {g r : ab_H} {l1 l2 : Int} (P : Int → ab_H → ab_H → Prop) (hr : SI r) (hK : 185 ≤ K) (h : ((wr 85 ≤ wr l2 → P (-1) g r) ∧ (wr l2 < wr 85 → ab_Rn m_M_wordHere 10 [some (2, 161), some (0, l1), some (0, l2), some (0, 0)] [] (K, S, g, r) (ab_Qi K S P)))) : ab_Rn m_M_wordHere 4 [some (2, 161), some (0, l1), some (0, l2), none] [] (K, S, g, r) (ab_Qi K S P) := by
  refine Rn_pure 2 (i' := 6) (L' := [some (2, 161), some (0, l1), some (0, l2), none]) (st' := [(2, (-22)), (0, l2)]) rfl ?_
  refine Rn_strlen rfl (by decide) ?_
  refine Rn_icge rfl (fun hc => ?_) (fun hc => ?_)
  · have h := h.1 hc
    refine Rn_pure 1 (i' := 66) (L' := [some (2, 161), some (0, l1), some (0, l2), none]) (st' := [(0, (-1))]) rfl ?_
    exact Rn_ret1 rfl h
  · have h := h.2 hc
    refine Rn_pure 2 (i' := 10) (L' := [some (2, 161), some (0, l1), some (0, l2), some (0, 0)]) (st' := []) rfl ?_
    exact h
theorem v_M_wordHere_10 {K : Int} {S : Nat} {g r : ab_H} {l1 l2 l3 : Int} (P : Int → ab_H → ab_H → Prop) (hr : SI r) (hK : 185 ≤ K) (h : ((0 : Int) ≤ l2 + l3 ∧ (l2 + l3 : Int) < 85) ∧ ((wr ((ab_nth ab_str (l2 + l3).toNat).getD 0) = wr 32 → ((0 : Int) ≤ l2 + l3 ∧ (l2 + l3 : Int) < 85) ∧ ((¬ wr ((ab_nth ab_str (l2 + l3).toNat).getD 0) = wr 32 → ab_Rn m_M_wordHere 55 [some (2, 161), some (0, l1), some (0, l2), none] [] (K, S, g, r) (ab_Qi K S P)) ∧ (wr ((ab_nth ab_str (l2 + l3).toNat).getD 0) = wr 32 → ((¬ wr (g 161 19 + l3) = wr (g 161 18) → ab_Rn m_M_wordHere 55 [some (2, 161), some (0, l1), some (0, l2), none] [] (K, S, g, r) (ab_Qi K S P)) ∧ (wr (g 161 19 + l3) = wr (g 161 18) → P l1 g r))))) ∧ (¬ wr ((ab_nth ab_str (l2 + l3).toNat).getD 0) = wr 32 → ((wr (g 161 18) ≤ wr (g 161 19 + l3) → ((0 : Int) ≤ l2 + l3 ∧ (l2 + l3 : Int) < 85) ∧ ((¬ wr ((ab_nth ab_str (l2 + l3).toNat).getD 0) = wr 32 → ab_Rn m_M_wordHere 55 [some (2, 161), some (0, l1), some (0, l2), none] [] (K, S, g, r) (ab_Qi K S P)) ∧ (wr ((ab_nth ab_str (l2 + l3).toNat).getD 0) = wr 32 → ((¬ wr (g 161 19 + l3) = wr (g 161 18) → ab_Rn m_M_wordHere 55 [some (2, 161), some (0, l1), some (0, l2), none] [] (K, S, g, r) (ab_Qi K S P)) ∧ (wr (g 161 19 + l3) = wr (g 161 18) → P l1 g r))))) ∧ (wr (g 161 19 + l3) < wr (g 161 18) → ((0 : Int) ≤ g 161 19 + l3 ∧ (g 161 19 + l3 : Int) < 900) ∧ ((0 : Int) ≤ l2 + l3 ∧ (l2 + l3 : Int) < 85) ∧ ((¬ wr (g 162 (g 161 19 + l3)) = wr ((ab_nth ab_str (l2 + l3).toNat).getD 0) → ((0 : Int) ≤ l2 + l3 ∧ (l2 + l3 : Int) < 85) ∧ ((¬ wr ((ab_nth ab_str (l2 + l3).toNat).getD 0) = wr 32 → ab_Rn m_M_wordHere 55 [some (2, 161), some (0, l1), some (0, l2), none] [] (K, S, g, r) (ab_Qi K S P)) ∧ (wr ((ab_nth ab_str (l2 + l3).toNat).getD 0) = wr 32 → ((¬ wr (g 161 19 + l3) = wr (g 161 18) → ab_Rn m_M_wordHere 55 [some (2, 161), some (0, l1), some (0, l2), none] [] (K, S, g, r) (ab_Qi K S P)) ∧ (wr (g 161 19 + l3) = wr (g 161 18) → P l1 g r))))) ∧ (wr (g 162 (g 161 19 + l3)) = wr ((ab_nth ab_str (l2 + l3).toNat).getD 0) → ab_Rn m_M_wordHere 10 [some (2, 161), some (0, l1), some (0, l2), some (0, l3 + 1)] [] (K, S, g, r) (ab_Qi K S P)))))))) : ab_Rn m_M_wordHere 10 [some (2, 161), some (0, l1), some (0, l2), some (0, l3)] [] (K, S, g, r) (ab_Qi K S P) := by
  refine Rn_pure 4 (i' := 14) (L' := [some (2, 161), some (0, l1), some (0, l2), some (0, l3)]) (st' := [(0, l2 + l3), (2, (-22))]) rfl ?_
  obtain ⟨hg, h⟩ := h
  refine Rn_char rfl (by decide) hg ?_
  refine Rn_pure 1 (i' := 16) (L' := [some (2, 161), some (0, l1), some (0, l2), some (0, l3)]) (st' := [(0, 32), (0, (ab_nth ab_str (l2 + l3).toNat).getD 0)]) rfl ?_
  refine Rn_iceq rfl (fun hc => ?_) (fun hc => ?_)
  · have h := h.1 hc
    refine Rn_pure 4 (i' := 43) (L' := [some (2, 161), some (0, l1), some (0, l2), some (0, l3)]) (st' := [(0, l2 + l3), (2, (-22))]) rfl ?_
    obtain ⟨hg, h⟩ := h
    refine Rn_char rfl (by decide) hg ?_
    refine Rn_pure 1 (i' := 45) (L' := [some (2, 161), some (0, l1), some (0, l2), some (0, l3)]) (st' := [(0, 32), (0, (ab_nth ab_str (l2 + l3).toNat).getD 0)]) rfl ?_
    refine Rn_icne rfl (fun hc => ?_) (fun hc => ?_)
    · have h := h.1 hc
      refine Rn_weak (L' := [some (2, 161), some (0, l1), some (0, l2), none]) ⟨rfl, ⟨rfl, ⟨rfl, trivial⟩⟩⟩ ?_
      exact h
    · have h := h.2 hc
      refine Rn_pure 1 (i' := 47) (L' := [some (2, 161), some (0, l1), some (0, l2), some (0, l3)]) (st' := [(2, 161)]) rfl ?_
      refine Rn_getI rfl (⟨rfl, (by omega : (0 : Int) ≤ 161), (by omega : (161 : Int) < K)⟩) ?_
      refine Rn_pure 3 (i' := 51) (L' := [some (2, 161), some (0, l1), some (0, l2), some (0, l3)]) (st' := [(2, 161), (0, g 161 19 + l3)]) rfl ?_
      refine Rn_getI rfl (⟨rfl, (by omega : (0 : Int) ≤ 161), (by omega : (161 : Int) < K)⟩) ?_
      refine Rn_icne rfl (fun hc => ?_) (fun hc => ?_)
      · have h := h.1 hc
        refine Rn_weak (L' := [some (2, 161), some (0, l1), some (0, l2), none]) ⟨rfl, ⟨rfl, ⟨rfl, trivial⟩⟩⟩ ?_
        exact h
      · have h := h.2 hc
        refine Rn_pure 1 (i' := 54) (L' := [some (2, 161), some (0, l1), some (0, l2), some (0, l3)]) (st' := [(0, l1)]) rfl ?_
        exact Rn_ret1 rfl h
  · have h := h.2 hc
    refine Rn_pure 1 (i' := 18) (L' := [some (2, 161), some (0, l1), some (0, l2), some (0, l3)]) (st' := [(2, 161)]) rfl ?_
    refine Rn_getI rfl (⟨rfl, (by omega : (0 : Int) ≤ 161), (by omega : (161 : Int) < K)⟩) ?_
    refine Rn_pure 3 (i' := 22) (L' := [some (2, 161), some (0, l1), some (0, l2), some (0, l3)]) (st' := [(2, 161), (0, g 161 19 + l3)]) rfl ?_
    refine Rn_getI rfl (⟨rfl, (by omega : (0 : Int) ≤ 161), (by omega : (161 : Int) < K)⟩) ?_
    refine Rn_icge rfl (fun hc => ?_) (fun hc => ?_)
    · have h := h.1 hc
      refine Rn_pure 4 (i' := 43) (L' := [some (2, 161), some (0, l1), some (0, l2), some (0, l3)]) (st' := [(0, l2 + l3), (2, (-22))]) rfl ?_
      obtain ⟨hg, h⟩ := h
      refine Rn_char rfl (by decide) hg ?_
      refine Rn_pure 1 (i' := 45) (L' := [some (2, 161), some (0, l1), some (0, l2), some (0, l3)]) (st' := [(0, 32), (0, (ab_nth ab_str (l2 + l3).toNat).getD 0)]) rfl ?_
      refine Rn_icne rfl (fun hc => ?_) (fun hc => ?_)
      · have h := h.1 hc
        refine Rn_weak (L' := [some (2, 161), some (0, l1), some (0, l2), none]) ⟨rfl, ⟨rfl, ⟨rfl, trivial⟩⟩⟩ ?_
        exact h
      · have h := h.2 hc
        refine Rn_pure 1 (i' := 47) (L' := [some (2, 161), some (0, l1), some (0, l2), some (0, l3)]) (st' := [(2, 161)]) rfl ?_
        refine Rn_getI rfl (⟨rfl, (by omega : (0 : Int) ≤ 161), (by omega : (161 : Int) < K)⟩) ?_
        refine Rn_pure 3 (i' := 51) (L' := [some (2, 161), some (0, l1), some (0, l2), some (0, l3)]) (st' := [(2, 161), (0, g 161 19 + l3)]) rfl ?_
        refine Rn_getI rfl (⟨rfl, (by omega : (0 : Int) ≤ 161), (by omega : (161 : Int) < K)⟩) ?_
        refine Rn_icne rfl (fun hc => ?_) (fun hc => ?_)
        · have h := h.1 hc
          refine Rn_weak (L' := [some (2, 161), some (0, l1), some (0, l2), none]) ⟨rfl, ⟨rfl, ⟨rfl, trivial⟩⟩⟩ ?_
          exact h
        · have h := h.2 hc
          refine Rn_pure 1 (i' := 54) (L' := [some (2, 161), some (0, l1), some (0, l2), some (0, l3)]) (st' := [(0, l1)]) rfl ?_
          exact Rn_ret1 rfl h
    · have h := h.2 hc
      refine Rn_pure 1 (i' := 25) (L' := [some (2, 161), some (0, l1), some (0, l2), some (0, l3)]) (st' := [(2, 161)]) rfl ?_
      refine Rn_getR rfl (⟨rfl, (by omega : (0 : Int) ≤ 161), (by omega : (161 : Int) < K)⟩) (hr 137 _ rfl) (by decide) ?_
      refine Rn_pure 1 (i' := 27) (L' := [some (2, 161), some (0, l1), some (0, l2), some (0, l3)]) (st' := [(2, 161), (2, 162)]) rfl ?_
      refine Rn_getI rfl (⟨rfl, (by omega : (0 : Int) ≤ 161), (by omega : (161 : Int) < K)⟩) ?_
      refine Rn_pure 2 (i' := 30) (L' := [some (2, 161), some (0, l1), some (0, l2), some (0, l3)]) (st' := [(0, g 161 19 + l3), (2, 162)]) rfl ?_
      obtain ⟨hg, h⟩ := h
      refine Rn_iald rfl (⟨rfl, (by omega : (0 : Int) ≤ 162), (by omega : (162 : Int) < K)⟩) hg ?_
      refine Rn_pure 4 (i' := 35) (L' := [some (2, 161), some (0, l1), some (0, l2), some (0, l3)]) (st' := [(0, l2 + l3), (2, (-22)), (0, g 162 (g 161 19 + l3))]) rfl ?_
      obtain ⟨hg, h⟩ := h
      refine Rn_char rfl (by decide) hg ?_
      refine Rn_icne rfl (fun hc => ?_) (fun hc => ?_)
      · have h := h.1 hc
        refine Rn_pure 4 (i' := 43) (L' := [some (2, 161), some (0, l1), some (0, l2), some (0, l3)]) (st' := [(0, l2 + l3), (2, (-22))]) rfl ?_
        obtain ⟨hg, h⟩ := h
        refine Rn_char rfl (by decide) hg ?_
        refine Rn_pure 1 (i' := 45) (L' := [some (2, 161), some (0, l1), some (0, l2), some (0, l3)]) (st' := [(0, 32), (0, (ab_nth ab_str (l2 + l3).toNat).getD 0)]) rfl ?_
        refine Rn_icne rfl (fun hc => ?_) (fun hc => ?_)
        · have h := h.1 hc
          refine Rn_weak (L' := [some (2, 161), some (0, l1), some (0, l2), none]) ⟨rfl, ⟨rfl, ⟨rfl, trivial⟩⟩⟩ ?_
          exact h
        · have h := h.2 hc
          refine Rn_pure 1 (i' := 47) (L' := [some (2, 161), some (0, l1), some (0, l2), some (0, l3)]) (st' := [(2, 161)]) rfl ?_
          refine Rn_getI rfl (⟨rfl, (by omega : (0 : Int) ≤ 161), (by omega : (161 : Int) < K)⟩) ?_
          refine Rn_pure 3 (i' := 51) (L' := [some (2, 161), some (0, l1), some (0, l2), some (0, l3)]) (st' := [(2, 161), (0, g 161 19 + l3)]) rfl ?_
          refine Rn_getI rfl (⟨rfl, (by omega : (0 : Int) ≤ 161), (by omega : (161 : Int) < K)⟩) ?_
          refine Rn_icne rfl (fun hc => ?_) (fun hc => ?_)
          · have h := h.1 hc
            refine Rn_weak (L' := [some (2, 161), some (0, l1), some (0, l2), none]) ⟨rfl, ⟨rfl, ⟨rfl, trivial⟩⟩⟩ ?_
            exact h
          · have h := h.2 hc
            refine Rn_pure 1 (i' := 54) (L' := [some (2, 161), some (0, l1), some (0, l2), some (0, l3)]) (st' := [(0, l1)]) rfl ?_
            exact Rn_ret1 rfl h
      · have h := h.2 hc
        refine Rn_pure 2 (i' := 10) (L' := [some (2, 161), some (0, l1), some (0, l2), some (0, l3 + 1)]) (st' := []) rfl ?_
        exact h
theorem v_M_wordHere_55 {K : Int} {S : Nat} {g r : ab_H} {l1 l2 : Int} (P : Int → ab_H → ab_H → Prop) (hr : SI r) (hK : 185 ≤ K) (h : ((0 : Int) ≤ l2 ∧ (l2 : Int) < 85) ∧ ((wr ((ab_nth ab_str (l2).toNat).getD 0) = wr 32 → ab_Rn m_M_wordHere 4 [some (2, 161), some (0, l1 + 1), some (0, l2 + 1), none] [] (K, S, g, r) (ab_Qi K S P)) ∧ (¬ wr ((ab_nth ab_str (l2).toNat).getD 0) = wr 32 → ab_Rn m_M_wordHere 55 [some (2, 161), some (0, l1), some (0, l2 + 1), none] [] (K, S, g, r) (ab_Qi K S P)))) : ab_Rn m_M_wordHere 55 [some (2, 161), some (0, l1), some (0, l2), none] [] (K, S, g, r) (ab_Qi K S P) := by
  refine Rn_pure 2 (i' := 57) (L' := [some (2, 161), some (0, l1), some (0, l2), none]) (st' := [(0, l2), (2, (-22))]) rfl ?_
  obtain ⟨hg, h⟩ := h
  refine Rn_char rfl (by decide) hg ?_
  refine Rn_pure 1 (i' := 59) (L' := [some (2, 161), some (0, l1), some (0, l2), none]) (st' := [(0, 32), (0, (ab_nth ab_str (l2).toNat).getD 0)]) rfl ?_
  refine Rn_iceq rfl (fun hc => ?_) (fun hc => ?_)
  · have h := h.1 hc
    refine Rn_pure 3 (i' := 4) (L' := [some (2, 161), some (0, l1 + 1), some (0, l2 + 1), none]) (st' := []) rfl ?_
    exact h
  · have h := h.2 hc
    refine Rn_pure 2 (i' := 55) (L' := [some (2, 161), some (0, l1), some (0, l2 + 1), none]) (st' := []) rfl ?_
    exact h
-- EventLedgerModel.nameHere ()V
theorem v_M_nameHere {K : Int} {S : Nat} {g r : ab_H} (P : ab_H → ab_H → Prop) (hr : SI r) (hK : 185 ≤ K) (h : ∀ g1, g1 = ab_up g 161 21 0 → ab_Rn m_M_nameHere 5 [some (2, 161), some (0, 0)] [] (K, S, g1, r) (ab_Qv K S P)) : ab_RV m_M_nameHere [(2, 161)] K S g r P := by
  show ab_Rn m_M_nameHere 0 [some (2, 161), none] [] (K, S, g, r) (ab_Qv K S P)
  refine Rn_pure 2 (i' := 2) (L' := [some (2, 161), none]) (st' := [(0, 0), (2, 161)]) rfl ?_
  refine Rn_putI rfl (⟨rfl, (by omega : (0 : Int) ≤ 161), (by omega : (161 : Int) < K)⟩) (fun g1 he_g1 => ?_)
  have h := h g1 he_g1
  refine Rn_pure 2 (i' := 5) (L' := [some (2, 161), some (0, 0)]) (st' := []) rfl ?_
  exact h
theorem v_M_nameHere_5 {K : Int} {S : Nat} {g r : ab_H} {l1 : Int} (P : ab_H → ab_H → Prop) (hr : SI r) (hK : 185 ≤ K) (h : ((wr 6 ≤ wr l1 → P g r) ∧ (wr l1 < wr 6 → ((wr (g 161 18) ≤ wr (g 161 19 + l1) → ∀ g1, g1 = ab_up g 161 21 (ab_or (ab_shl (g 161 21) 5) 0) → ab_Rn m_M_nameHere 5 [some (2, 161), some (0, l1 + 1)] [] (K, S, g1, r) (ab_Qv K S P)) ∧ (wr (g 161 19 + l1) < wr (g 161 18) → ((0 : Int) ≤ g 161 19 + l1 ∧ (g 161 19 + l1 : Int) < 900) ∧ ∀ g2, g2 = ab_up g 161 21 (ab_or (ab_shl (g 161 21) 5) (g 162 (g 161 19 + l1) - 97 + 1)) → ab_Rn m_M_nameHere 5 [some (2, 161), some (0, l1 + 1)] [] (K, S, g2, r) (ab_Qv K S P)))))) : ab_Rn m_M_nameHere 5 [some (2, 161), some (0, l1)] [] (K, S, g, r) (ab_Qv K S P) := by
  refine Rn_pure 2 (i' := 7) (L' := [some (2, 161), some (0, l1)]) (st' := [(0, 6), (0, l1)]) rfl ?_
  refine Rn_icge rfl (fun hc => ?_) (fun hc => ?_)
  · have h := h.1 hc
    exact Rn_ret0 rfl h
  · have h := h.2 hc
    refine Rn_pure 2 (i' := 10) (L' := [some (2, 161), some (0, l1)]) (st' := [(2, 161), (2, 161)]) rfl ?_
    refine Rn_getI rfl (⟨rfl, (by omega : (0 : Int) ≤ 161), (by omega : (161 : Int) < K)⟩) ?_
    refine Rn_pure 3 (i' := 14) (L' := [some (2, 161), some (0, l1)]) (st' := [(2, 161), (0, ab_shl (g 161 21) 5), (2, 161)]) rfl ?_
    refine Rn_getI rfl (⟨rfl, (by omega : (0 : Int) ≤ 161), (by omega : (161 : Int) < K)⟩) ?_
    refine Rn_pure 3 (i' := 18) (L' := [some (2, 161), some (0, l1)]) (st' := [(2, 161), (0, g 161 19 + l1), (0, ab_shl (g 161 21) 5), (2, 161)]) rfl ?_
    refine Rn_getI rfl (⟨rfl, (by omega : (0 : Int) ≤ 161), (by omega : (161 : Int) < K)⟩) ?_
    refine Rn_icge rfl (fun hc => ?_) (fun hc => ?_)
    · have h := h.1 hc
      refine Rn_pure 2 (i' := 34) (L' := [some (2, 161), some (0, l1)]) (st' := [(0, ab_or (ab_shl (g 161 21) 5) 0), (2, 161)]) rfl ?_
      refine Rn_putI rfl (⟨rfl, (by omega : (0 : Int) ≤ 161), (by omega : (161 : Int) < K)⟩) (fun g1 he_g1 => ?_)
      have h := h g1 he_g1
      refine Rn_pure 2 (i' := 5) (L' := [some (2, 161), some (0, l1 + 1)]) (st' := []) rfl ?_
      exact h
    · have h := h.2 hc
      refine Rn_pure 1 (i' := 21) (L' := [some (2, 161), some (0, l1)]) (st' := [(2, 161), (0, ab_shl (g 161 21) 5), (2, 161)]) rfl ?_
      refine Rn_getR rfl (⟨rfl, (by omega : (0 : Int) ≤ 161), (by omega : (161 : Int) < K)⟩) (hr 137 _ rfl) (by decide) ?_
      refine Rn_pure 1 (i' := 23) (L' := [some (2, 161), some (0, l1)]) (st' := [(2, 161), (2, 162), (0, ab_shl (g 161 21) 5), (2, 161)]) rfl ?_
      refine Rn_getI rfl (⟨rfl, (by omega : (0 : Int) ≤ 161), (by omega : (161 : Int) < K)⟩) ?_
      refine Rn_pure 2 (i' := 26) (L' := [some (2, 161), some (0, l1)]) (st' := [(0, g 161 19 + l1), (2, 162), (0, ab_shl (g 161 21) 5), (2, 161)]) rfl ?_
      obtain ⟨hg, h⟩ := h
      refine Rn_iald rfl (⟨rfl, (by omega : (0 : Int) ≤ 162), (by omega : (162 : Int) < K)⟩) hg ?_
      refine Rn_pure 6 (i' := 34) (L' := [some (2, 161), some (0, l1)]) (st' := [(0, ab_or (ab_shl (g 161 21) 5) (g 162 (g 161 19 + l1) - 97 + 1)), (2, 161)]) rfl ?_
      refine Rn_putI rfl (⟨rfl, (by omega : (0 : Int) ≤ 161), (by omega : (161 : Int) < K)⟩) (fun g2 he_g2 => ?_)
      have h := h g2 he_g2
      refine Rn_pure 2 (i' := 5) (L' := [some (2, 161), some (0, l1 + 1)]) (st' := []) rfl ?_
      exact h
-- EventLedgerModel.wrong (I)V
theorem v_M_wrong {K : Int} {S : Nat} {g r : ab_H} {p1 : Int} (P : ab_H → ab_H → Prop) (hr : SI r) (hK : 185 ≤ K) (h : ((wr (g 161 22) = wr 0 → ∀ g1, g1 = ab_up g 161 22 p1 → ∀ g2, g2 = ab_up g1 161 23 (g1 161 19) → P g2 r) ∧ (¬ wr (g 161 22) = wr 0 → P g r))) : ab_RV m_M_wrong [(2, 161), (0, p1)] K S g r P := by
  show ab_Rn m_M_wrong 0 [some (2, 161), some (0, p1)] [] (K, S, g, r) (ab_Qv K S P)
  refine Rn_pure 1 (i' := 1) (L' := [some (2, 161), some (0, p1)]) (st' := [(2, 161)]) rfl ?_
  refine Rn_getI rfl (⟨rfl, (by omega : (0 : Int) ≤ 161), (by omega : (161 : Int) < K)⟩) ?_
  refine Rn_ifeq rfl (fun hc => ?_) (fun hc => ?_)
  · have h := h.1 hc
    refine Rn_pure 2 (i' := 6) (L' := [some (2, 161), some (0, p1)]) (st' := [(0, p1), (2, 161)]) rfl ?_
    refine Rn_putI rfl (⟨rfl, (by omega : (0 : Int) ≤ 161), (by omega : (161 : Int) < K)⟩) (fun g1 he_g1 => ?_)
    have h := h g1 he_g1
    refine Rn_pure 2 (i' := 9) (L' := [some (2, 161), some (0, p1)]) (st' := [(2, 161), (2, 161)]) rfl ?_
    refine Rn_getI rfl (⟨rfl, (by omega : (0 : Int) ≤ 161), (by omega : (161 : Int) < K)⟩) ?_
    refine Rn_putI rfl (⟨rfl, (by omega : (0 : Int) ≤ 161), (by omega : (161 : Int) < K)⟩) (fun g2 he_g2 => ?_)
    have h := h g2 he_g2
    exact Rn_ret0 rfl h
  · have h := h.2 hc
    exact Rn_ret0 rfl h
-- EventLedgerModel.goOn ()V
theorem v_M_goOn {K : Int} {S : Nat} {g r : ab_H} (P : ab_H → ab_H → Prop) (hr : SI r) (hK : 185 ≤ K) (h : ((¬ wr (g 161 22) = wr 0 → P g r) ∧ (wr (g 161 22) = wr 0 → ab_RV m_M_token [(2, 161)] K S g r (fun g1 r' => r' = r ∧ (P g1 r))))) : ab_RV m_M_goOn [(2, 161)] K S g r P := by
  show ab_Rn m_M_goOn 0 [some (2, 161)] [] (K, S, g, r) (ab_Qv K S P)
  refine Rn_pure 1 (i' := 1) (L' := [some (2, 161)]) (st' := [(2, 161)]) rfl ?_
  refine Rn_getI rfl (⟨rfl, (by omega : (0 : Int) ≤ 161), (by omega : (161 : Int) < K)⟩) ?_
  refine Rn_ifne rfl (fun hc => ?_) (fun hc => ?_)
  · have h := h.1 hc
    exact Rn_ret0 rfl h
  · have h := h.2 hc
    refine Rn_pure 1 (i' := 4) (L' := [some (2, 161)]) (st' := [(2, 161)]) rfl ?_
    refine Rn_callV [(2, 161)] [] rfl rfl rfl rfl (ab_rvB_of rfl (⟨rfl, (by omega : (0 : Int) ≤ 161), (by omega : (161 : Int) < K)⟩)) ?_
    refine h.mono (fun g1 r' h => ?_)
    obtain ⟨hx, h⟩ := h
    replace hx := hx.symm
    subst hx
    exact Rn_ret0 rfl h
-- EventLedgerModel.numeral (II)I
theorem v_M_numeral {K : Int} {S : Nat} {g r : ab_H} {p1 p2 : Int} (P : Int → ab_H → ab_H → Prop) (hr : SI r) (hK : 185 ≤ K) (h : ((wr (g 161 22) = wr 0 → ((wr (g 161 20) = wr 2 → ((wr (g 161 21) < wr p1 → ab_RV m_M_wrong [(2, 161), (0, 2)] K S g r (fun g1 r' => r' = r ∧ (((¬ wr (g1 161 22) = wr 0 → ab_RV m_M_goOn [(2, 161)] K S g1 r (fun g3 r' => r' = r ∧ (P p1 g3 r))) ∧ (wr (g1 161 22) = wr 0 → ab_RV m_M_goOn [(2, 161)] K S g1 r (fun g5 r' => r' = r ∧ (P (g1 161 21) g5 r))))))) ∧ (wr p1 ≤ wr (g 161 21) → ((wr (g 161 21) ≤ wr p2 → ((¬ wr (g 161 22) = wr 0 → ab_RV m_M_goOn [(2, 161)] K S g r (fun g7 r' => r' = r ∧ (P p1 g7 r))) ∧ (wr (g 161 22) = wr 0 → ab_RV m_M_goOn [(2, 161)] K S g r (fun g9 r' => r' = r ∧ (P (g 161 21) g9 r))))) ∧ (wr p2 < wr (g 161 21) → ab_RV m_M_wrong [(2, 161), (0, 2)] K S g r (fun g11 r' => r' = r ∧ (((¬ wr (g11 161 22) = wr 0 → ab_RV m_M_goOn [(2, 161)] K S g11 r (fun g13 r' => r' = r ∧ (P p1 g13 r))) ∧ (wr (g11 161 22) = wr 0 → ab_RV m_M_goOn [(2, 161)] K S g11 r (fun g15 r' => r' = r ∧ (P (g11 161 21) g15 r))))))))))) ∧ (¬ wr (g 161 20) = wr 2 → ab_RV m_M_wrong [(2, 161), (0, 1)] K S g r (fun g17 r' => r' = r ∧ (((¬ wr (g17 161 22) = wr 0 → ab_RV m_M_goOn [(2, 161)] K S g17 r (fun g19 r' => r' = r ∧ (P p1 g19 r))) ∧ (wr (g17 161 22) = wr 0 → ab_RV m_M_goOn [(2, 161)] K S g17 r (fun g21 r' => r' = r ∧ (P (g17 161 21) g21 r))))))))) ∧ (¬ wr (g 161 22) = wr 0 → P p1 g r))) : ab_RI m_M_numeral [(2, 161), (0, p1), (0, p2)] K S g r P := by
  show ab_Rn m_M_numeral 0 [some (2, 161), some (0, p1), some (0, p2), none] [] (K, S, g, r) (ab_Qi K S P)
  refine Rn_pure 1 (i' := 1) (L' := [some (2, 161), some (0, p1), some (0, p2), none]) (st' := [(2, 161)]) rfl ?_
  refine Rn_getI rfl (⟨rfl, (by omega : (0 : Int) ≤ 161), (by omega : (161 : Int) < K)⟩) ?_
  refine Rn_ifeq rfl (fun hc => ?_) (fun hc => ?_)
  · have h := h.1 hc
    refine Rn_pure 1 (i' := 6) (L' := [some (2, 161), some (0, p1), some (0, p2), none]) (st' := [(2, 161)]) rfl ?_
    refine Rn_getI rfl (⟨rfl, (by omega : (0 : Int) ≤ 161), (by omega : (161 : Int) < K)⟩) ?_
    refine Rn_pure 1 (i' := 8) (L' := [some (2, 161), some (0, p1), some (0, p2), none]) (st' := [(0, 2), (0, g 161 20)]) rfl ?_
    refine Rn_iceq rfl (fun hc => ?_) (fun hc => ?_)
    · have h := h.1 hc
      refine Rn_pure 1 (i' := 14) (L' := [some (2, 161), some (0, p1), some (0, p2), none]) (st' := [(2, 161)]) rfl ?_
      refine Rn_getI rfl (⟨rfl, (by omega : (0 : Int) ≤ 161), (by omega : (161 : Int) < K)⟩) ?_
      refine Rn_pure 1 (i' := 16) (L' := [some (2, 161), some (0, p1), some (0, p2), none]) (st' := [(0, p1), (0, g 161 21)]) rfl ?_
      refine Rn_iclt rfl (fun hc => ?_) (fun hc => ?_)
      · have h := h.1 hc
        refine Rn_pure 2 (i' := 23) (L' := [some (2, 161), some (0, p1), some (0, p2), none]) (st' := [(0, 2), (2, 161)]) rfl ?_
        refine Rn_callV [(2, 161), (0, 2)] [] rfl rfl rfl rfl (ab_rvB_of rfl (⟨rfl, (by omega : (0 : Int) ≤ 161), (by omega : (161 : Int) < K)⟩)) ?_
        refine h.mono (fun g1 r' h => ?_)
        obtain ⟨hx, h⟩ := h
        replace hx := hx.symm
        subst hx
        refine Rn_pure 1 (i' := 25) (L' := [some (2, 161), some (0, p1), some (0, p2), none]) (st' := [(2, 161)]) rfl ?_
        refine Rn_getI rfl (⟨rfl, (by omega : (0 : Int) ≤ 161), (by omega : (161 : Int) < K)⟩) ?_
        refine Rn_ifne rfl (fun hc => ?_) (fun hc => ?_)
        · have h := h.1 hc
          refine Rn_pure 3 (i' := 33) (L' := [some (2, 161), some (0, p1), some (0, p2), some (0, p1)]) (st' := [(2, 161)]) rfl ?_
          refine Rn_callV [(2, 161)] [] rfl rfl rfl rfl (ab_rvB_of rfl (⟨rfl, (by omega : (0 : Int) ≤ 161), (by omega : (161 : Int) < K)⟩)) ?_
          refine h.mono (fun g3 r' h => ?_)
          obtain ⟨hx, h⟩ := h
          replace hx := hx.symm
          subst hx
          refine Rn_pure 1 (i' := 35) (L' := [some (2, 161), some (0, p1), some (0, p2), some (0, p1)]) (st' := [(0, p1)]) rfl ?_
          exact Rn_ret1 rfl h
        · have h := h.2 hc
          refine Rn_pure 1 (i' := 28) (L' := [some (2, 161), some (0, p1), some (0, p2), none]) (st' := [(2, 161)]) rfl ?_
          refine Rn_getI rfl (⟨rfl, (by omega : (0 : Int) ≤ 161), (by omega : (161 : Int) < K)⟩) ?_
          refine Rn_pure 3 (i' := 33) (L' := [some (2, 161), some (0, p1), some (0, p2), some (0, g1 161 21)]) (st' := [(2, 161)]) rfl ?_
          refine Rn_callV [(2, 161)] [] rfl rfl rfl rfl (ab_rvB_of rfl (⟨rfl, (by omega : (0 : Int) ≤ 161), (by omega : (161 : Int) < K)⟩)) ?_
          refine h.mono (fun g5 r' h => ?_)
          obtain ⟨hx, h⟩ := h
          replace hx := hx.symm
          subst hx
          refine Rn_pure 1 (i' := 35) (L' := [some (2, 161), some (0, p1), some (0, p2), some (0, g1 161 21)]) (st' := [(0, g1 161 21)]) rfl ?_
          exact Rn_ret1 rfl h
      · have h := h.2 hc
        refine Rn_pure 1 (i' := 18) (L' := [some (2, 161), some (0, p1), some (0, p2), none]) (st' := [(2, 161)]) rfl ?_
        refine Rn_getI rfl (⟨rfl, (by omega : (0 : Int) ≤ 161), (by omega : (161 : Int) < K)⟩) ?_
        refine Rn_pure 1 (i' := 20) (L' := [some (2, 161), some (0, p1), some (0, p2), none]) (st' := [(0, p2), (0, g 161 21)]) rfl ?_
        refine Rn_icle rfl (fun hc => ?_) (fun hc => ?_)
        · have h := h.1 hc
          refine Rn_pure 1 (i' := 25) (L' := [some (2, 161), some (0, p1), some (0, p2), none]) (st' := [(2, 161)]) rfl ?_
          refine Rn_getI rfl (⟨rfl, (by omega : (0 : Int) ≤ 161), (by omega : (161 : Int) < K)⟩) ?_
          refine Rn_ifne rfl (fun hc => ?_) (fun hc => ?_)
          · have h := h.1 hc
            refine Rn_pure 3 (i' := 33) (L' := [some (2, 161), some (0, p1), some (0, p2), some (0, p1)]) (st' := [(2, 161)]) rfl ?_
            refine Rn_callV [(2, 161)] [] rfl rfl rfl rfl (ab_rvB_of rfl (⟨rfl, (by omega : (0 : Int) ≤ 161), (by omega : (161 : Int) < K)⟩)) ?_
            refine h.mono (fun g7 r' h => ?_)
            obtain ⟨hx, h⟩ := h
            replace hx := hx.symm
            subst hx
            refine Rn_pure 1 (i' := 35) (L' := [some (2, 161), some (0, p1), some (0, p2), some (0, p1)]) (st' := [(0, p1)]) rfl ?_
            exact Rn_ret1 rfl h
          · have h := h.2 hc
            refine Rn_pure 1 (i' := 28) (L' := [some (2, 161), some (0, p1), some (0, p2), none]) (st' := [(2, 161)]) rfl ?_
            refine Rn_getI rfl (⟨rfl, (by omega : (0 : Int) ≤ 161), (by omega : (161 : Int) < K)⟩) ?_
            refine Rn_pure 3 (i' := 33) (L' := [some (2, 161), some (0, p1), some (0, p2), some (0, g 161 21)]) (st' := [(2, 161)]) rfl ?_
            refine Rn_callV [(2, 161)] [] rfl rfl rfl rfl (ab_rvB_of rfl (⟨rfl, (by omega : (0 : Int) ≤ 161), (by omega : (161 : Int) < K)⟩)) ?_
            refine h.mono (fun g9 r' h => ?_)
            obtain ⟨hx, h⟩ := h
            replace hx := hx.symm
            subst hx
            refine Rn_pure 1 (i' := 35) (L' := [some (2, 161), some (0, p1), some (0, p2), some (0, g 161 21)]) (st' := [(0, g 161 21)]) rfl ?_
            exact Rn_ret1 rfl h
        · have h := h.2 hc
          refine Rn_pure 2 (i' := 23) (L' := [some (2, 161), some (0, p1), some (0, p2), none]) (st' := [(0, 2), (2, 161)]) rfl ?_
          refine Rn_callV [(2, 161), (0, 2)] [] rfl rfl rfl rfl (ab_rvB_of rfl (⟨rfl, (by omega : (0 : Int) ≤ 161), (by omega : (161 : Int) < K)⟩)) ?_
          refine h.mono (fun g11 r' h => ?_)
          obtain ⟨hx, h⟩ := h
          replace hx := hx.symm
          subst hx
          refine Rn_pure 1 (i' := 25) (L' := [some (2, 161), some (0, p1), some (0, p2), none]) (st' := [(2, 161)]) rfl ?_
          refine Rn_getI rfl (⟨rfl, (by omega : (0 : Int) ≤ 161), (by omega : (161 : Int) < K)⟩) ?_
          refine Rn_ifne rfl (fun hc => ?_) (fun hc => ?_)
          · have h := h.1 hc
            refine Rn_pure 3 (i' := 33) (L' := [some (2, 161), some (0, p1), some (0, p2), some (0, p1)]) (st' := [(2, 161)]) rfl ?_
            refine Rn_callV [(2, 161)] [] rfl rfl rfl rfl (ab_rvB_of rfl (⟨rfl, (by omega : (0 : Int) ≤ 161), (by omega : (161 : Int) < K)⟩)) ?_
            refine h.mono (fun g13 r' h => ?_)
            obtain ⟨hx, h⟩ := h
            replace hx := hx.symm
            subst hx
            refine Rn_pure 1 (i' := 35) (L' := [some (2, 161), some (0, p1), some (0, p2), some (0, p1)]) (st' := [(0, p1)]) rfl ?_
            exact Rn_ret1 rfl h
          · have h := h.2 hc
            refine Rn_pure 1 (i' := 28) (L' := [some (2, 161), some (0, p1), some (0, p2), none]) (st' := [(2, 161)]) rfl ?_
            refine Rn_getI rfl (⟨rfl, (by omega : (0 : Int) ≤ 161), (by omega : (161 : Int) < K)⟩) ?_
            refine Rn_pure 3 (i' := 33) (L' := [some (2, 161), some (0, p1), some (0, p2), some (0, g11 161 21)]) (st' := [(2, 161)]) rfl ?_
            refine Rn_callV [(2, 161)] [] rfl rfl rfl rfl (ab_rvB_of rfl (⟨rfl, (by omega : (0 : Int) ≤ 161), (by omega : (161 : Int) < K)⟩)) ?_
            refine h.mono (fun g15 r' h => ?_)
            obtain ⟨hx, h⟩ := h
            replace hx := hx.symm
            subst hx
            refine Rn_pure 1 (i' := 35) (L' := [some (2, 161), some (0, p1), some (0, p2), some (0, g11 161 21)]) (st' := [(0, g11 161 21)]) rfl ?_
            exact Rn_ret1 rfl h
    · have h := h.2 hc
      refine Rn_pure 2 (i' := 11) (L' := [some (2, 161), some (0, p1), some (0, p2), none]) (st' := [(0, 1), (2, 161)]) rfl ?_
      refine Rn_callV [(2, 161), (0, 1)] [] rfl rfl rfl rfl (ab_rvB_of rfl (⟨rfl, (by omega : (0 : Int) ≤ 161), (by omega : (161 : Int) < K)⟩)) ?_
      refine h.mono (fun g17 r' h => ?_)
      obtain ⟨hx, h⟩ := h
      replace hx := hx.symm
      subst hx
      refine Rn_pure 2 (i' := 25) (L' := [some (2, 161), some (0, p1), some (0, p2), none]) (st' := [(2, 161)]) rfl ?_
      refine Rn_getI rfl (⟨rfl, (by omega : (0 : Int) ≤ 161), (by omega : (161 : Int) < K)⟩) ?_
      refine Rn_ifne rfl (fun hc => ?_) (fun hc => ?_)
      · have h := h.1 hc
        refine Rn_pure 3 (i' := 33) (L' := [some (2, 161), some (0, p1), some (0, p2), some (0, p1)]) (st' := [(2, 161)]) rfl ?_
        refine Rn_callV [(2, 161)] [] rfl rfl rfl rfl (ab_rvB_of rfl (⟨rfl, (by omega : (0 : Int) ≤ 161), (by omega : (161 : Int) < K)⟩)) ?_
        refine h.mono (fun g19 r' h => ?_)
        obtain ⟨hx, h⟩ := h
        replace hx := hx.symm
        subst hx
        refine Rn_pure 1 (i' := 35) (L' := [some (2, 161), some (0, p1), some (0, p2), some (0, p1)]) (st' := [(0, p1)]) rfl ?_
        exact Rn_ret1 rfl h
      · have h := h.2 hc
        refine Rn_pure 1 (i' := 28) (L' := [some (2, 161), some (0, p1), some (0, p2), none]) (st' := [(2, 161)]) rfl ?_
        refine Rn_getI rfl (⟨rfl, (by omega : (0 : Int) ≤ 161), (by omega : (161 : Int) < K)⟩) ?_
        refine Rn_pure 3 (i' := 33) (L' := [some (2, 161), some (0, p1), some (0, p2), some (0, g17 161 21)]) (st' := [(2, 161)]) rfl ?_
        refine Rn_callV [(2, 161)] [] rfl rfl rfl rfl (ab_rvB_of rfl (⟨rfl, (by omega : (0 : Int) ≤ 161), (by omega : (161 : Int) < K)⟩)) ?_
        refine h.mono (fun g21 r' h => ?_)
        obtain ⟨hx, h⟩ := h
        replace hx := hx.symm
        subst hx
        refine Rn_pure 1 (i' := 35) (L' := [some (2, 161), some (0, p1), some (0, p2), some (0, g17 161 21)]) (st' := [(0, g17 161 21)]) rfl ?_
        exact Rn_ret1 rfl h
  · have h := h.2 hc
    refine Rn_pure 1 (i' := 4) (L' := [some (2, 161), some (0, p1), some (0, p2), none]) (st' := [(0, p1)]) rfl ?_
    exact Rn_ret1 rfl h
-- EventLedgerModel.reading (I)I
theorem v_M_reading {K : Int} {S : Nat} {g r : ab_H} {p1 : Int} (P : Int → ab_H → ab_H → Prop) (hr : SI r) (hK : 185 ≤ K) (h : ((0 : Int) ≤ 6 + p1 ∧ (6 + p1 : Int) < 12) ∧ P (g 163 (6 + p1)) g r) : ab_RI m_M_reading [(2, 161), (0, p1)] K S g r P := by
  show ab_Rn m_M_reading 0 [some (2, 161), some (0, p1)] [] (K, S, g, r) (ab_Qi K S P)
  refine Rn_pure 1 (i' := 1) (L' := [some (2, 161), some (0, p1)]) (st' := [(2, 161)]) rfl ?_
  refine Rn_getR rfl (⟨rfl, (by omega : (0 : Int) ≤ 161), (by omega : (161 : Int) < K)⟩) (hr 138 _ rfl) (by decide) ?_
  refine Rn_pure 3 (i' := 5) (L' := [some (2, 161), some (0, p1)]) (st' := [(0, 6 + p1), (2, 163)]) rfl ?_
  obtain ⟨hg, h⟩ := h
  refine Rn_iald rfl (⟨rfl, (by omega : (0 : Int) ≤ 163), (by omega : (163 : Int) < K)⟩) hg ?_
  exact Rn_ret1 rfl h
-- EventLedgerModel.reads (II)V
theorem v_M_reads {K : Int} {S : Nat} {g r : ab_H} {p1 p2 : Int} (P : ab_H → ab_H → Prop) (hr : SI r) (hK : 185 ≤ K) (h : ((0 : Int) ≤ 6 + p1 ∧ (6 + p1 : Int) < 12) ∧ ∀ g1, g1 = ab_up g 163 (6 + p1) p2 → P g1 r) : ab_RV m_M_reads [(2, 161), (0, p1), (0, p2)] K S g r P := by
  show ab_Rn m_M_reads 0 [some (2, 161), some (0, p1), some (0, p2)] [] (K, S, g, r) (ab_Qv K S P)
  refine Rn_pure 1 (i' := 1) (L' := [some (2, 161), some (0, p1), some (0, p2)]) (st' := [(2, 161)]) rfl ?_
  refine Rn_getR rfl (⟨rfl, (by omega : (0 : Int) ≤ 161), (by omega : (161 : Int) < K)⟩) (hr 138 _ rfl) (by decide) ?_
  refine Rn_pure 4 (i' := 6) (L' := [some (2, 161), some (0, p1), some (0, p2)]) (st' := [(0, p2), (0, 6 + p1), (2, 163)]) rfl ?_
  obtain ⟨hg, h⟩ := h
  refine Rn_iast rfl (⟨rfl, (by omega : (0 : Int) ≤ 163), (by omega : (163 : Int) < K)⟩) hg (fun g1 he_g1 => ?_)
  have h := h g1 he_g1
  exact Rn_ret0 rfl h
-- EventLedgerModel.foundIn ([IIII)I
theorem v_M_foundIn {K : Int} {S : Nat} {g r : ab_H} {p0 n0 p1 p2 p3 : Int} (P : Int → ab_H → ab_H → Prop) (hr : SI r) (hK : 185 ≤ K) (hp0 : ab_AR K p0 100 n0) (h : ab_Rn m_M_foundIn 2 [some (2, p0), some (0, p1), some (0, p2), some (0, p3), some (0, 0)] [] (K, S, g, r) (ab_Qi K S P)) : ab_RI m_M_foundIn [(2, p0), (0, p1), (0, p2), (0, p3)] K S g r P := by
  show ab_Rn m_M_foundIn 0 [some (2, p0), some (0, p1), some (0, p2), some (0, p3), none] [] (K, S, g, r) (ab_Qi K S P)
  refine Rn_pure 2 (i' := 2) (L' := [some (2, p0), some (0, p1), some (0, p2), some (0, p3), some (0, 0)]) (st' := []) rfl ?_
  exact h
theorem v_M_foundIn_2 {K : Int} {S : Nat} {g r : ab_H} {p0 n0 l1 l2 l3 l4 : Int} (P : Int → ab_H → ab_H → Prop) (hr : SI r) (hK : 185 ≤ K) (hp0 : ab_AR K p0 100 n0) (h : ((wr l2 ≤ wr l4 → P (-1) g r) ∧ (wr l4 < wr l2 → ((0 : Int) ≤ l1 + l4 ∧ (l1 + l4 : Int) < n0) ∧ ((¬ wr (g p0 (l1 + l4)) = wr l3 → ab_Rn m_M_foundIn 2 [some (2, p0), some (0, l1), some (0, l2), some (0, l3), some (0, l4 + 1)] [] (K, S, g, r) (ab_Qi K S P)) ∧ (wr (g p0 (l1 + l4)) = wr l3 → P l4 g r))))) : ab_Rn m_M_foundIn 2 [some (2, p0), some (0, l1), some (0, l2), some (0, l3), some (0, l4)] [] (K, S, g, r) (ab_Qi K S P) := by
  refine Rn_pure 2 (i' := 4) (L' := [some (2, p0), some (0, l1), some (0, l2), some (0, l3), some (0, l4)]) (st' := [(0, l2), (0, l4)]) rfl ?_
  refine Rn_icge rfl (fun hc => ?_) (fun hc => ?_)
  · have h := h.1 hc
    refine Rn_pure 1 (i' := 17) (L' := [some (2, p0), some (0, l1), some (0, l2), some (0, l3), some (0, l4)]) (st' := [(0, (-1))]) rfl ?_
    exact Rn_ret1 rfl h
  · have h := h.2 hc
    refine Rn_pure 4 (i' := 9) (L' := [some (2, p0), some (0, l1), some (0, l2), some (0, l3), some (0, l4)]) (st' := [(0, l1 + l4), (2, p0)]) rfl ?_
    obtain ⟨hg, h⟩ := h
    refine Rn_iald rfl (hp0) hg ?_
    refine Rn_pure 1 (i' := 11) (L' := [some (2, p0), some (0, l1), some (0, l2), some (0, l3), some (0, l4)]) (st' := [(0, l3), (0, g p0 (l1 + l4))]) rfl ?_
    refine Rn_icne rfl (fun hc => ?_) (fun hc => ?_)
    · have h := h.1 hc
      refine Rn_pure 2 (i' := 2) (L' := [some (2, p0), some (0, l1), some (0, l2), some (0, l3), some (0, l4 + 1)]) (st' := []) rfl ?_
      exact h
    · have h := h.2 hc
      refine Rn_pure 1 (i' := 13) (L' := [some (2, p0), some (0, l1), some (0, l2), some (0, l3), some (0, l4)]) (st' := [(0, l4)]) rfl ?_
      exact Rn_ret1 rfl h
-- EventLedgerModel.newName ([III)V
theorem v_M_newName {K : Int} {S : Nat} {g r : ab_H} {p1 n1 p2 p3 : Int} (P : ab_H → ab_H → Prop) (hr : SI r) (hK : 185 ≤ K) (hp1 : ab_AR K p1 100 n1) (h : ab_RV m_M_goOn [(2, 161)] K S g r (fun g1 r' => r' = r ∧ (((wr (g1 161 22) = wr 0 → ((wr (g1 161 20) = wr 1 → ab_RI m_M_foundIn [(2, p1), (0, p2), (0, p3), (0, g1 161 21)] K S g1 r (fun x3 g' r' => g' = g1 ∧ r' = r ∧ (((wr x3 = wr (-1) → ((wr (g1 161 22) = wr 0 → ((0 : Int) ≤ p2 + p3 ∧ (p2 + p3 : Int) < n1) ∧ ∀ g4, g4 = ab_up g1 p1 (p2 + p3) (g1 161 21) → ab_RV m_M_token [(2, 161)] K S g4 r (fun g5 r' => r' = r ∧ (P g5 r))) ∧ (¬ wr (g1 161 22) = wr 0 → P g1 r))) ∧ (¬ wr x3 = wr (-1) → ab_RV m_M_wrong [(2, 161), (0, 3)] K S g1 r (fun g7 r' => r' = r ∧ (((wr (g7 161 22) = wr 0 → ((0 : Int) ≤ p2 + p3 ∧ (p2 + p3 : Int) < n1) ∧ ∀ g9, g9 = ab_up g7 p1 (p2 + p3) (g7 161 21) → ab_RV m_M_token [(2, 161)] K S g9 r (fun g10 r' => r' = r ∧ (P g10 r))) ∧ (¬ wr (g7 161 22) = wr 0 → P g7 r))))))))) ∧ (¬ wr (g1 161 20) = wr 1 → ab_RV m_M_wrong [(2, 161), (0, 1)] K S g1 r (fun g12 r' => r' = r ∧ (((wr (g12 161 22) = wr 0 → ((0 : Int) ≤ p2 + p3 ∧ (p2 + p3 : Int) < n1) ∧ ∀ g14, g14 = ab_up g12 p1 (p2 + p3) (g12 161 21) → ab_RV m_M_token [(2, 161)] K S g14 r (fun g15 r' => r' = r ∧ (P g15 r))) ∧ (¬ wr (g12 161 22) = wr 0 → P g12 r))))))) ∧ (¬ wr (g1 161 22) = wr 0 → P g1 r))))) : ab_RV m_M_newName [(2, 161), (2, p1), (0, p2), (0, p3)] K S g r P := by
  show ab_Rn m_M_newName 0 [some (2, 161), some (2, p1), some (0, p2), some (0, p3)] [] (K, S, g, r) (ab_Qv K S P)
  refine Rn_pure 1 (i' := 1) (L' := [some (2, 161), some (2, p1), some (0, p2), some (0, p3)]) (st' := [(2, 161)]) rfl ?_
  refine Rn_callV [(2, 161)] [] rfl rfl rfl rfl (ab_rvB_of rfl (⟨rfl, (by omega : (0 : Int) ≤ 161), (by omega : (161 : Int) < K)⟩)) ?_
  refine h.mono (fun g1 r' h => ?_)
  obtain ⟨hx, h⟩ := h
  replace hx := hx.symm
  subst hx
  refine Rn_pure 1 (i' := 3) (L' := [some (2, 161), some (2, p1), some (0, p2), some (0, p3)]) (st' := [(2, 161)]) rfl ?_
  refine Rn_getI rfl (⟨rfl, (by omega : (0 : Int) ≤ 161), (by omega : (161 : Int) < K)⟩) ?_
  refine Rn_ifeq rfl (fun hc => ?_) (fun hc => ?_)
  · have h := h.1 hc
    refine Rn_pure 1 (i' := 7) (L' := [some (2, 161), some (2, p1), some (0, p2), some (0, p3)]) (st' := [(2, 161)]) rfl ?_
    refine Rn_getI rfl (⟨rfl, (by omega : (0 : Int) ≤ 161), (by omega : (161 : Int) < K)⟩) ?_
    refine Rn_pure 1 (i' := 9) (L' := [some (2, 161), some (2, p1), some (0, p2), some (0, p3)]) (st' := [(0, 1), (0, g1 161 20)]) rfl ?_
    refine Rn_iceq rfl (fun hc => ?_) (fun hc => ?_)
    · have h := h.1 hc
      refine Rn_pure 4 (i' := 18) (L' := [some (2, 161), some (2, p1), some (0, p2), some (0, p3)]) (st' := [(2, 161), (0, p3), (0, p2), (2, p1)]) rfl ?_
      refine Rn_getI rfl (⟨rfl, (by omega : (0 : Int) ≤ 161), (by omega : (161 : Int) < K)⟩) ?_
      refine Rn_callI [(2, p1), (0, p2), (0, p3), (0, g1 161 21)] [] rfl rfl rfl rfl (rfl) ?_
      refine h.mono (fun x3 g' r' h => ?_)
      obtain ⟨hx, h⟩ := h
      replace hx := hx.symm
      subst hx
      obtain ⟨hx, h⟩ := h
      replace hx := hx.symm
      subst hx
      refine Rn_pure 1 (i' := 21) (L' := [some (2, 161), some (2, p1), some (0, p2), some (0, p3)]) (st' := [(0, (-1)), (0, x3)]) rfl ?_
      refine Rn_iceq rfl (fun hc => ?_) (fun hc => ?_)
      · have h := h.1 hc
        refine Rn_pure 1 (i' := 26) (L' := [some (2, 161), some (2, p1), some (0, p2), some (0, p3)]) (st' := [(2, 161)]) rfl ?_
        refine Rn_getI rfl (⟨rfl, (by omega : (0 : Int) ≤ 161), (by omega : (161 : Int) < K)⟩) ?_
        refine Rn_ifeq rfl (fun hc => ?_) (fun hc => ?_)
        · have h := h.1 hc
          refine Rn_pure 5 (i' := 34) (L' := [some (2, 161), some (2, p1), some (0, p2), some (0, p3)]) (st' := [(2, 161), (0, p2 + p3), (2, p1)]) rfl ?_
          refine Rn_getI rfl (⟨rfl, (by omega : (0 : Int) ≤ 161), (by omega : (161 : Int) < K)⟩) ?_
          obtain ⟨hg, h⟩ := h
          refine Rn_iast rfl (hp1) hg (fun g4 he_g4 => ?_)
          have h := h g4 he_g4
          refine Rn_pure 1 (i' := 37) (L' := [some (2, 161), some (2, p1), some (0, p2), some (0, p3)]) (st' := [(2, 161)]) rfl ?_
          refine Rn_callV [(2, 161)] [] rfl rfl rfl rfl (ab_rvB_of rfl (⟨rfl, (by omega : (0 : Int) ≤ 161), (by omega : (161 : Int) < K)⟩)) ?_
          refine h.mono (fun g5 r' h => ?_)
          obtain ⟨hx, h⟩ := h
          replace hx := hx.symm
          subst hx
          exact Rn_ret0 rfl h
        · have h := h.2 hc
          exact Rn_ret0 rfl h
      · have h := h.2 hc
        refine Rn_pure 2 (i' := 24) (L' := [some (2, 161), some (2, p1), some (0, p2), some (0, p3)]) (st' := [(0, 3), (2, 161)]) rfl ?_
        refine Rn_callV [(2, 161), (0, 3)] [] rfl rfl rfl rfl (ab_rvB_of rfl (⟨rfl, (by omega : (0 : Int) ≤ 161), (by omega : (161 : Int) < K)⟩)) ?_
        refine h.mono (fun g7 r' h => ?_)
        obtain ⟨hx, h⟩ := h
        replace hx := hx.symm
        subst hx
        refine Rn_pure 1 (i' := 26) (L' := [some (2, 161), some (2, p1), some (0, p2), some (0, p3)]) (st' := [(2, 161)]) rfl ?_
        refine Rn_getI rfl (⟨rfl, (by omega : (0 : Int) ≤ 161), (by omega : (161 : Int) < K)⟩) ?_
        refine Rn_ifeq rfl (fun hc => ?_) (fun hc => ?_)
        · have h := h.1 hc
          refine Rn_pure 5 (i' := 34) (L' := [some (2, 161), some (2, p1), some (0, p2), some (0, p3)]) (st' := [(2, 161), (0, p2 + p3), (2, p1)]) rfl ?_
          refine Rn_getI rfl (⟨rfl, (by omega : (0 : Int) ≤ 161), (by omega : (161 : Int) < K)⟩) ?_
          obtain ⟨hg, h⟩ := h
          refine Rn_iast rfl (hp1) hg (fun g9 he_g9 => ?_)
          have h := h g9 he_g9
          refine Rn_pure 1 (i' := 37) (L' := [some (2, 161), some (2, p1), some (0, p2), some (0, p3)]) (st' := [(2, 161)]) rfl ?_
          refine Rn_callV [(2, 161)] [] rfl rfl rfl rfl (ab_rvB_of rfl (⟨rfl, (by omega : (0 : Int) ≤ 161), (by omega : (161 : Int) < K)⟩)) ?_
          refine h.mono (fun g10 r' h => ?_)
          obtain ⟨hx, h⟩ := h
          replace hx := hx.symm
          subst hx
          exact Rn_ret0 rfl h
        · have h := h.2 hc
          exact Rn_ret0 rfl h
    · have h := h.2 hc
      refine Rn_pure 2 (i' := 12) (L' := [some (2, 161), some (2, p1), some (0, p2), some (0, p3)]) (st' := [(0, 1), (2, 161)]) rfl ?_
      refine Rn_callV [(2, 161), (0, 1)] [] rfl rfl rfl rfl (ab_rvB_of rfl (⟨rfl, (by omega : (0 : Int) ≤ 161), (by omega : (161 : Int) < K)⟩)) ?_
      refine h.mono (fun g12 r' h => ?_)
      obtain ⟨hx, h⟩ := h
      replace hx := hx.symm
      subst hx
      refine Rn_pure 2 (i' := 26) (L' := [some (2, 161), some (2, p1), some (0, p2), some (0, p3)]) (st' := [(2, 161)]) rfl ?_
      refine Rn_getI rfl (⟨rfl, (by omega : (0 : Int) ≤ 161), (by omega : (161 : Int) < K)⟩) ?_
      refine Rn_ifeq rfl (fun hc => ?_) (fun hc => ?_)
      · have h := h.1 hc
        refine Rn_pure 5 (i' := 34) (L' := [some (2, 161), some (2, p1), some (0, p2), some (0, p3)]) (st' := [(2, 161), (0, p2 + p3), (2, p1)]) rfl ?_
        refine Rn_getI rfl (⟨rfl, (by omega : (0 : Int) ≤ 161), (by omega : (161 : Int) < K)⟩) ?_
        obtain ⟨hg, h⟩ := h
        refine Rn_iast rfl (hp1) hg (fun g14 he_g14 => ?_)
        have h := h g14 he_g14
        refine Rn_pure 1 (i' := 37) (L' := [some (2, 161), some (2, p1), some (0, p2), some (0, p3)]) (st' := [(2, 161)]) rfl ?_
        refine Rn_callV [(2, 161)] [] rfl rfl rfl rfl (ab_rvB_of rfl (⟨rfl, (by omega : (0 : Int) ≤ 161), (by omega : (161 : Int) < K)⟩)) ?_
        refine h.mono (fun g15 r' h => ?_)
        obtain ⟨hx, h⟩ := h
        replace hx := hx.symm
        subst hx
        exact Rn_ret0 rfl h
      · have h := h.2 hc
        exact Rn_ret0 rfl h
  · have h := h.2 hc
    exact Rn_ret0 rfl h
-- EventLedgerModel.wordOf (II)I
theorem v_M_wordOf {K : Int} {S : Nat} {g r : ab_H} {p1 p2 : Int} (P : Int → ab_H → ab_H → Prop) (hr : SI r) (hK : 185 ≤ K) (h : ((wr (g 161 22) = wr 0 → ((¬ wr (g 161 20) = wr 0 → ab_RV m_M_wrong [(2, 161), (0, 1)] K S g r (fun g1 r' => r' = r ∧ (((¬ wr (g1 161 22) = wr 0 → ab_RV m_M_goOn [(2, 161)] K S g1 r (fun g3 r' => r' = r ∧ (P p1 g3 r))) ∧ (wr (g1 161 22) = wr 0 → ab_RV m_M_goOn [(2, 161)] K S g1 r (fun g5 r' => r' = r ∧ (P (g1 161 21) g5 r))))))) ∧ (wr (g 161 20) = wr 0 → ((wr (g 161 21) < wr p1 → ab_RV m_M_wrong [(2, 161), (0, 1)] K S g r (fun g7 r' => r' = r ∧ (((¬ wr (g7 161 22) = wr 0 → ab_RV m_M_goOn [(2, 161)] K S g7 r (fun g9 r' => r' = r ∧ (P p1 g9 r))) ∧ (wr (g7 161 22) = wr 0 → ab_RV m_M_goOn [(2, 161)] K S g7 r (fun g11 r' => r' = r ∧ (P (g7 161 21) g11 r))))))) ∧ (wr p1 ≤ wr (g 161 21) → ((wr (g 161 21) ≤ wr p2 → ((¬ wr (g 161 22) = wr 0 → ab_RV m_M_goOn [(2, 161)] K S g r (fun g13 r' => r' = r ∧ (P p1 g13 r))) ∧ (wr (g 161 22) = wr 0 → ab_RV m_M_goOn [(2, 161)] K S g r (fun g15 r' => r' = r ∧ (P (g 161 21) g15 r))))) ∧ (wr p2 < wr (g 161 21) → ab_RV m_M_wrong [(2, 161), (0, 1)] K S g r (fun g17 r' => r' = r ∧ (((¬ wr (g17 161 22) = wr 0 → ab_RV m_M_goOn [(2, 161)] K S g17 r (fun g19 r' => r' = r ∧ (P p1 g19 r))) ∧ (wr (g17 161 22) = wr 0 → ab_RV m_M_goOn [(2, 161)] K S g17 r (fun g21 r' => r' = r ∧ (P (g17 161 21) g21 r))))))))))))) ∧ (¬ wr (g 161 22) = wr 0 → P p1 g r))) : ab_RI m_M_wordOf [(2, 161), (0, p1), (0, p2)] K S g r P := by
  show ab_Rn m_M_wordOf 0 [some (2, 161), some (0, p1), some (0, p2), none] [] (K, S, g, r) (ab_Qi K S P)
  refine Rn_pure 1 (i' := 1) (L' := [some (2, 161), some (0, p1), some (0, p2), none]) (st' := [(2, 161)]) rfl ?_
  refine Rn_getI rfl (⟨rfl, (by omega : (0 : Int) ≤ 161), (by omega : (161 : Int) < K)⟩) ?_
  refine Rn_ifeq rfl (fun hc => ?_) (fun hc => ?_)
  · have h := h.1 hc
    refine Rn_pure 1 (i' := 6) (L' := [some (2, 161), some (0, p1), some (0, p2), none]) (st' := [(2, 161)]) rfl ?_
    refine Rn_getI rfl (⟨rfl, (by omega : (0 : Int) ≤ 161), (by omega : (161 : Int) < K)⟩) ?_
    refine Rn_ifne rfl (fun hc => ?_) (fun hc => ?_)
    · have h := h.1 hc
      refine Rn_pure 2 (i' := 18) (L' := [some (2, 161), some (0, p1), some (0, p2), none]) (st' := [(0, 1), (2, 161)]) rfl ?_
      refine Rn_callV [(2, 161), (0, 1)] [] rfl rfl rfl rfl (ab_rvB_of rfl (⟨rfl, (by omega : (0 : Int) ≤ 161), (by omega : (161 : Int) < K)⟩)) ?_
      refine h.mono (fun g1 r' h => ?_)
      obtain ⟨hx, h⟩ := h
      replace hx := hx.symm
      subst hx
      refine Rn_pure 1 (i' := 20) (L' := [some (2, 161), some (0, p1), some (0, p2), none]) (st' := [(2, 161)]) rfl ?_
      refine Rn_getI rfl (⟨rfl, (by omega : (0 : Int) ≤ 161), (by omega : (161 : Int) < K)⟩) ?_
      refine Rn_ifne rfl (fun hc => ?_) (fun hc => ?_)
      · have h := h.1 hc
        refine Rn_pure 3 (i' := 28) (L' := [some (2, 161), some (0, p1), some (0, p2), some (0, p1)]) (st' := [(2, 161)]) rfl ?_
        refine Rn_callV [(2, 161)] [] rfl rfl rfl rfl (ab_rvB_of rfl (⟨rfl, (by omega : (0 : Int) ≤ 161), (by omega : (161 : Int) < K)⟩)) ?_
        refine h.mono (fun g3 r' h => ?_)
        obtain ⟨hx, h⟩ := h
        replace hx := hx.symm
        subst hx
        refine Rn_pure 1 (i' := 30) (L' := [some (2, 161), some (0, p1), some (0, p2), some (0, p1)]) (st' := [(0, p1)]) rfl ?_
        exact Rn_ret1 rfl h
      · have h := h.2 hc
        refine Rn_pure 1 (i' := 23) (L' := [some (2, 161), some (0, p1), some (0, p2), none]) (st' := [(2, 161)]) rfl ?_
        refine Rn_getI rfl (⟨rfl, (by omega : (0 : Int) ≤ 161), (by omega : (161 : Int) < K)⟩) ?_
        refine Rn_pure 3 (i' := 28) (L' := [some (2, 161), some (0, p1), some (0, p2), some (0, g1 161 21)]) (st' := [(2, 161)]) rfl ?_
        refine Rn_callV [(2, 161)] [] rfl rfl rfl rfl (ab_rvB_of rfl (⟨rfl, (by omega : (0 : Int) ≤ 161), (by omega : (161 : Int) < K)⟩)) ?_
        refine h.mono (fun g5 r' h => ?_)
        obtain ⟨hx, h⟩ := h
        replace hx := hx.symm
        subst hx
        refine Rn_pure 1 (i' := 30) (L' := [some (2, 161), some (0, p1), some (0, p2), some (0, g1 161 21)]) (st' := [(0, g1 161 21)]) rfl ?_
        exact Rn_ret1 rfl h
    · have h := h.2 hc
      refine Rn_pure 1 (i' := 9) (L' := [some (2, 161), some (0, p1), some (0, p2), none]) (st' := [(2, 161)]) rfl ?_
      refine Rn_getI rfl (⟨rfl, (by omega : (0 : Int) ≤ 161), (by omega : (161 : Int) < K)⟩) ?_
      refine Rn_pure 1 (i' := 11) (L' := [some (2, 161), some (0, p1), some (0, p2), none]) (st' := [(0, p1), (0, g 161 21)]) rfl ?_
      refine Rn_iclt rfl (fun hc => ?_) (fun hc => ?_)
      · have h := h.1 hc
        refine Rn_pure 2 (i' := 18) (L' := [some (2, 161), some (0, p1), some (0, p2), none]) (st' := [(0, 1), (2, 161)]) rfl ?_
        refine Rn_callV [(2, 161), (0, 1)] [] rfl rfl rfl rfl (ab_rvB_of rfl (⟨rfl, (by omega : (0 : Int) ≤ 161), (by omega : (161 : Int) < K)⟩)) ?_
        refine h.mono (fun g7 r' h => ?_)
        obtain ⟨hx, h⟩ := h
        replace hx := hx.symm
        subst hx
        refine Rn_pure 1 (i' := 20) (L' := [some (2, 161), some (0, p1), some (0, p2), none]) (st' := [(2, 161)]) rfl ?_
        refine Rn_getI rfl (⟨rfl, (by omega : (0 : Int) ≤ 161), (by omega : (161 : Int) < K)⟩) ?_
        refine Rn_ifne rfl (fun hc => ?_) (fun hc => ?_)
        · have h := h.1 hc
          refine Rn_pure 3 (i' := 28) (L' := [some (2, 161), some (0, p1), some (0, p2), some (0, p1)]) (st' := [(2, 161)]) rfl ?_
          refine Rn_callV [(2, 161)] [] rfl rfl rfl rfl (ab_rvB_of rfl (⟨rfl, (by omega : (0 : Int) ≤ 161), (by omega : (161 : Int) < K)⟩)) ?_
          refine h.mono (fun g9 r' h => ?_)
          obtain ⟨hx, h⟩ := h
          replace hx := hx.symm
          subst hx
          refine Rn_pure 1 (i' := 30) (L' := [some (2, 161), some (0, p1), some (0, p2), some (0, p1)]) (st' := [(0, p1)]) rfl ?_
          exact Rn_ret1 rfl h
        · have h := h.2 hc
          refine Rn_pure 1 (i' := 23) (L' := [some (2, 161), some (0, p1), some (0, p2), none]) (st' := [(2, 161)]) rfl ?_
          refine Rn_getI rfl (⟨rfl, (by omega : (0 : Int) ≤ 161), (by omega : (161 : Int) < K)⟩) ?_
          refine Rn_pure 3 (i' := 28) (L' := [some (2, 161), some (0, p1), some (0, p2), some (0, g7 161 21)]) (st' := [(2, 161)]) rfl ?_
          refine Rn_callV [(2, 161)] [] rfl rfl rfl rfl (ab_rvB_of rfl (⟨rfl, (by omega : (0 : Int) ≤ 161), (by omega : (161 : Int) < K)⟩)) ?_
          refine h.mono (fun g11 r' h => ?_)
          obtain ⟨hx, h⟩ := h
          replace hx := hx.symm
          subst hx
          refine Rn_pure 1 (i' := 30) (L' := [some (2, 161), some (0, p1), some (0, p2), some (0, g7 161 21)]) (st' := [(0, g7 161 21)]) rfl ?_
          exact Rn_ret1 rfl h
      · have h := h.2 hc
        refine Rn_pure 1 (i' := 13) (L' := [some (2, 161), some (0, p1), some (0, p2), none]) (st' := [(2, 161)]) rfl ?_
        refine Rn_getI rfl (⟨rfl, (by omega : (0 : Int) ≤ 161), (by omega : (161 : Int) < K)⟩) ?_
        refine Rn_pure 1 (i' := 15) (L' := [some (2, 161), some (0, p1), some (0, p2), none]) (st' := [(0, p2), (0, g 161 21)]) rfl ?_
        refine Rn_icle rfl (fun hc => ?_) (fun hc => ?_)
        · have h := h.1 hc
          refine Rn_pure 1 (i' := 20) (L' := [some (2, 161), some (0, p1), some (0, p2), none]) (st' := [(2, 161)]) rfl ?_
          refine Rn_getI rfl (⟨rfl, (by omega : (0 : Int) ≤ 161), (by omega : (161 : Int) < K)⟩) ?_
          refine Rn_ifne rfl (fun hc => ?_) (fun hc => ?_)
          · have h := h.1 hc
            refine Rn_pure 3 (i' := 28) (L' := [some (2, 161), some (0, p1), some (0, p2), some (0, p1)]) (st' := [(2, 161)]) rfl ?_
            refine Rn_callV [(2, 161)] [] rfl rfl rfl rfl (ab_rvB_of rfl (⟨rfl, (by omega : (0 : Int) ≤ 161), (by omega : (161 : Int) < K)⟩)) ?_
            refine h.mono (fun g13 r' h => ?_)
            obtain ⟨hx, h⟩ := h
            replace hx := hx.symm
            subst hx
            refine Rn_pure 1 (i' := 30) (L' := [some (2, 161), some (0, p1), some (0, p2), some (0, p1)]) (st' := [(0, p1)]) rfl ?_
            exact Rn_ret1 rfl h
          · have h := h.2 hc
            refine Rn_pure 1 (i' := 23) (L' := [some (2, 161), some (0, p1), some (0, p2), none]) (st' := [(2, 161)]) rfl ?_
            refine Rn_getI rfl (⟨rfl, (by omega : (0 : Int) ≤ 161), (by omega : (161 : Int) < K)⟩) ?_
            refine Rn_pure 3 (i' := 28) (L' := [some (2, 161), some (0, p1), some (0, p2), some (0, g 161 21)]) (st' := [(2, 161)]) rfl ?_
            refine Rn_callV [(2, 161)] [] rfl rfl rfl rfl (ab_rvB_of rfl (⟨rfl, (by omega : (0 : Int) ≤ 161), (by omega : (161 : Int) < K)⟩)) ?_
            refine h.mono (fun g15 r' h => ?_)
            obtain ⟨hx, h⟩ := h
            replace hx := hx.symm
            subst hx
            refine Rn_pure 1 (i' := 30) (L' := [some (2, 161), some (0, p1), some (0, p2), some (0, g 161 21)]) (st' := [(0, g 161 21)]) rfl ?_
            exact Rn_ret1 rfl h
        · have h := h.2 hc
          refine Rn_pure 2 (i' := 18) (L' := [some (2, 161), some (0, p1), some (0, p2), none]) (st' := [(0, 1), (2, 161)]) rfl ?_
          refine Rn_callV [(2, 161), (0, 1)] [] rfl rfl rfl rfl (ab_rvB_of rfl (⟨rfl, (by omega : (0 : Int) ≤ 161), (by omega : (161 : Int) < K)⟩)) ?_
          refine h.mono (fun g17 r' h => ?_)
          obtain ⟨hx, h⟩ := h
          replace hx := hx.symm
          subst hx
          refine Rn_pure 1 (i' := 20) (L' := [some (2, 161), some (0, p1), some (0, p2), none]) (st' := [(2, 161)]) rfl ?_
          refine Rn_getI rfl (⟨rfl, (by omega : (0 : Int) ≤ 161), (by omega : (161 : Int) < K)⟩) ?_
          refine Rn_ifne rfl (fun hc => ?_) (fun hc => ?_)
          · have h := h.1 hc
            refine Rn_pure 3 (i' := 28) (L' := [some (2, 161), some (0, p1), some (0, p2), some (0, p1)]) (st' := [(2, 161)]) rfl ?_
            refine Rn_callV [(2, 161)] [] rfl rfl rfl rfl (ab_rvB_of rfl (⟨rfl, (by omega : (0 : Int) ≤ 161), (by omega : (161 : Int) < K)⟩)) ?_
            refine h.mono (fun g19 r' h => ?_)
            obtain ⟨hx, h⟩ := h
            replace hx := hx.symm
            subst hx
            refine Rn_pure 1 (i' := 30) (L' := [some (2, 161), some (0, p1), some (0, p2), some (0, p1)]) (st' := [(0, p1)]) rfl ?_
            exact Rn_ret1 rfl h
          · have h := h.2 hc
            refine Rn_pure 1 (i' := 23) (L' := [some (2, 161), some (0, p1), some (0, p2), none]) (st' := [(2, 161)]) rfl ?_
            refine Rn_getI rfl (⟨rfl, (by omega : (0 : Int) ≤ 161), (by omega : (161 : Int) < K)⟩) ?_
            refine Rn_pure 3 (i' := 28) (L' := [some (2, 161), some (0, p1), some (0, p2), some (0, g17 161 21)]) (st' := [(2, 161)]) rfl ?_
            refine Rn_callV [(2, 161)] [] rfl rfl rfl rfl (ab_rvB_of rfl (⟨rfl, (by omega : (0 : Int) ≤ 161), (by omega : (161 : Int) < K)⟩)) ?_
            refine h.mono (fun g21 r' h => ?_)
            obtain ⟨hx, h⟩ := h
            replace hx := hx.symm
            subst hx
            refine Rn_pure 1 (i' := 30) (L' := [some (2, 161), some (0, p1), some (0, p2), some (0, g17 161 21)]) (st' := [(0, g17 161 21)]) rfl ?_
            exact Rn_ret1 rfl h
  · have h := h.2 hc
    refine Rn_pure 1 (i' := 4) (L' := [some (2, 161), some (0, p1), some (0, p2), none]) (st' := [(0, p1)]) rfl ?_
    exact Rn_ret1 rfl h
-- EventLedgerModel.accountHere ()I
theorem v_M_accountHere {K : Int} {S : Nat} {g r : ab_H} (P : Int → ab_H → ab_H → Prop) (hr : SI r) (hK : 185 ≤ K) (h : ((wr (g 161 22) = wr 0 → ((wr (g 161 20) = wr 1 → ab_Rn m_M_accountHere 12 [some (2, 161), none] [] (K, S, g, r) (ab_Qi K S P)) ∧ (¬ wr (g 161 20) = wr 1 → ab_RV m_M_wrong [(2, 161), (0, 1)] K S g r (fun g1 r' => r' = r ∧ (ab_Rn m_M_accountHere 12 [some (2, 161), none] [] (K, S, g1, r) (ab_Qi K S P)))))) ∧ (¬ wr (g 161 22) = wr 0 → P 0 g r))) : ab_RI m_M_accountHere [(2, 161)] K S g r P := by
  show ab_Rn m_M_accountHere 0 [some (2, 161), none] [] (K, S, g, r) (ab_Qi K S P)
  refine Rn_pure 1 (i' := 1) (L' := [some (2, 161), none]) (st' := [(2, 161)]) rfl ?_
  refine Rn_getI rfl (⟨rfl, (by omega : (0 : Int) ≤ 161), (by omega : (161 : Int) < K)⟩) ?_
  refine Rn_ifeq rfl (fun hc => ?_) (fun hc => ?_)
  · have h := h.1 hc
    refine Rn_pure 1 (i' := 6) (L' := [some (2, 161), none]) (st' := [(2, 161)]) rfl ?_
    refine Rn_getI rfl (⟨rfl, (by omega : (0 : Int) ≤ 161), (by omega : (161 : Int) < K)⟩) ?_
    refine Rn_pure 1 (i' := 8) (L' := [some (2, 161), none]) (st' := [(0, 1), (0, g 161 20)]) rfl ?_
    refine Rn_iceq rfl (fun hc => ?_) (fun hc => ?_)
    · have h := h.1 hc
      exact h
    · have h := h.2 hc
      refine Rn_pure 2 (i' := 11) (L' := [some (2, 161), none]) (st' := [(0, 1), (2, 161)]) rfl ?_
      refine Rn_callV [(2, 161), (0, 1)] [] rfl rfl rfl rfl (ab_rvB_of rfl (⟨rfl, (by omega : (0 : Int) ≤ 161), (by omega : (161 : Int) < K)⟩)) ?_
      refine h.mono (fun g1 r' h => ?_)
      obtain ⟨hx, h⟩ := h
      replace hx := hx.symm
      subst hx
      exact h
  · have h := h.2 hc
    refine Rn_pure 1 (i' := 4) (L' := [some (2, 161), none]) (st' := [(0, 0)]) rfl ?_
    exact Rn_ret1 rfl h
theorem v_M_accountHere_12 {K : Int} {S : Nat} {g r : ab_H} (P : Int → ab_H → ab_H → Prop) (hr : SI r) (hK : 185 ≤ K) (h : ((¬ wr (g 161 22) = wr 0 → ((¬ wr 0 = wr (-1) → ab_Rn m_M_accountHere 33 [none, some (0, 0)] [] (K, S, g, r) (ab_Qi K S P)) ∧ (wr 0 = wr (-1) → ab_RV m_M_wrong [(2, 161), (0, 4)] K S g r (fun g1 r' => r' = r ∧ (ab_Rn m_M_accountHere 33 [none, some (0, 0)] [] (K, S, g1, r) (ab_Qi K S P)))))) ∧ (wr (g 161 22) = wr 0 → ab_RI m_M_reading [(2, 161), (0, 0)] K S g r (fun x3 g' r' => g' = g ∧ r' = r ∧ (ab_RI m_M_foundIn [(2, 164), (0, 8), (0, x3), (0, g 161 21)] K S g r (fun x4 g' r' => g' = g ∧ r' = r ∧ (((¬ wr x4 = wr (-1) → ab_Rn m_M_accountHere 33 [none, some (0, x4)] [] (K, S, g, r) (ab_Qi K S P)) ∧ (wr x4 = wr (-1) → ab_RV m_M_wrong [(2, 161), (0, 4)] K S g r (fun g5 r' => r' = r ∧ (ab_Rn m_M_accountHere 33 [none, some (0, x4)] [] (K, S, g5, r) (ab_Qi K S P)))))))))))) : ab_Rn m_M_accountHere 12 [some (2, 161), none] [] (K, S, g, r) (ab_Qi K S P) := by
  refine Rn_pure 1 (i' := 13) (L' := [some (2, 161), none]) (st' := [(2, 161)]) rfl ?_
  refine Rn_getI rfl (⟨rfl, (by omega : (0 : Int) ≤ 161), (by omega : (161 : Int) < K)⟩) ?_
  refine Rn_ifne rfl (fun hc => ?_) (fun hc => ?_)
  · have h := h.1 hc
    refine Rn_pure 4 (i' := 29) (L' := [some (2, 161), some (0, 0)]) (st' := [(0, (-1)), (0, 0)]) rfl ?_
    refine Rn_icne rfl (fun hc => ?_) (fun hc => ?_)
    · have h := h.1 hc
      refine Rn_weak (L' := [none, some (0, 0)]) ⟨rfl, trivial⟩ ?_
      exact h
    · have h := h.2 hc
      refine Rn_pure 2 (i' := 32) (L' := [some (2, 161), some (0, 0)]) (st' := [(0, 4), (2, 161)]) rfl ?_
      refine Rn_callV [(2, 161), (0, 4)] [] rfl rfl rfl rfl (ab_rvB_of rfl (⟨rfl, (by omega : (0 : Int) ≤ 161), (by omega : (161 : Int) < K)⟩)) ?_
      refine h.mono (fun g1 r' h => ?_)
      obtain ⟨hx, h⟩ := h
      replace hx := hx.symm
      subst hx
      refine Rn_weak (L' := [none, some (0, 0)]) ⟨rfl, trivial⟩ ?_
      exact h
  · have h := h.2 hc
    refine Rn_pure 1 (i' := 16) (L' := [some (2, 161), none]) (st' := [(2, 161)]) rfl ?_
    refine Rn_getR rfl (⟨rfl, (by omega : (0 : Int) ≤ 161), (by omega : (161 : Int) < K)⟩) (hr 139 _ rfl) (by decide) ?_
    refine Rn_pure 3 (i' := 20) (L' := [some (2, 161), none]) (st' := [(0, 0), (2, 161), (0, 8), (2, 164)]) rfl ?_
    refine Rn_callI [(2, 161), (0, 0)] [(0, 8), (2, 164)] rfl rfl rfl rfl (ab_rvB_of rfl (⟨rfl, (by omega : (0 : Int) ≤ 161), (by omega : (161 : Int) < K)⟩)) ?_
    refine h.mono (fun x3 g' r' h => ?_)
    obtain ⟨hx, h⟩ := h
    replace hx := hx.symm
    subst hx
    obtain ⟨hx, h⟩ := h
    replace hx := hx.symm
    subst hx
    refine Rn_pure 1 (i' := 22) (L' := [some (2, 161), none]) (st' := [(2, 161), (0, x3), (0, 8), (2, 164)]) rfl ?_
    refine Rn_getI rfl (⟨rfl, (by omega : (0 : Int) ≤ 161), (by omega : (161 : Int) < K)⟩) ?_
    refine Rn_callI [(2, 164), (0, 8), (0, x3), (0, g 161 21)] [] rfl rfl rfl rfl (rfl) ?_
    refine h.mono (fun x4 g' r' h => ?_)
    obtain ⟨hx, h⟩ := h
    replace hx := hx.symm
    subst hx
    obtain ⟨hx, h⟩ := h
    replace hx := hx.symm
    subst hx
    refine Rn_pure 4 (i' := 29) (L' := [some (2, 161), some (0, x4)]) (st' := [(0, (-1)), (0, x4)]) rfl ?_
    refine Rn_icne rfl (fun hc => ?_) (fun hc => ?_)
    · have h := h.1 hc
      refine Rn_weak (L' := [none, some (0, x4)]) ⟨rfl, trivial⟩ ?_
      exact h
    · have h := h.2 hc
      refine Rn_pure 2 (i' := 32) (L' := [some (2, 161), some (0, x4)]) (st' := [(0, 4), (2, 161)]) rfl ?_
      refine Rn_callV [(2, 161), (0, 4)] [] rfl rfl rfl rfl (ab_rvB_of rfl (⟨rfl, (by omega : (0 : Int) ≤ 161), (by omega : (161 : Int) < K)⟩)) ?_
      refine h.mono (fun g5 r' h => ?_)
      obtain ⟨hx, h⟩ := h
      replace hx := hx.symm
      subst hx
      refine Rn_weak (L' := [none, some (0, x4)]) ⟨rfl, trivial⟩ ?_
      exact h
theorem v_M_accountHere_33 {K : Int} {S : Nat} {g r : ab_H} {l1 : Int} (P : Int → ab_H → ab_H → Prop) (hr : SI r) (hK : 185 ≤ K) (h : ((¬ wr l1 = wr (-1) → P l1 g r) ∧ (wr l1 = wr (-1) → P 0 g r))) : ab_Rn m_M_accountHere 33 [none, some (0, l1)] [] (K, S, g, r) (ab_Qi K S P) := by
  refine Rn_pure 2 (i' := 35) (L' := [none, some (0, l1)]) (st' := [(0, (-1)), (0, l1)]) rfl ?_
  refine Rn_icne rfl (fun hc => ?_) (fun hc => ?_)
  · have h := h.1 hc
    refine Rn_pure 1 (i' := 39) (L' := [none, some (0, l1)]) (st' := [(0, l1)]) rfl ?_
    exact Rn_ret1 rfl h
  · have h := h.2 hc
    refine Rn_pure 2 (i' := 39) (L' := [none, some (0, l1)]) (st' := [(0, 0)]) rfl ?_
    exact Rn_ret1 rfl h
-- EventLedgerModel.readAccount ()V
theorem v_M_readAccount {K : Int} {S : Nat} {g r : ab_H} (P : ab_H → ab_H → Prop) (hr : SI r) (hK : 185 ≤ K) (h : ab_RI m_M_reading [(2, 161), (0, 0)] K S g r (fun x1 g' r' => g' = g ∧ r' = r ∧ (((¬ wr x1 = wr 8 → ab_RI m_M_reading [(2, 161), (0, 0)] K S g r (fun x2 g' r' => g' = g ∧ r' = r ∧ (ab_RV m_M_newName [(2, 161), (2, 164), (0, 8), (0, x2)] K S g r (fun g3 r' => r' = r ∧ (((¬ wr (g3 161 22) = wr 0 → P g3 r) ∧ (wr (g3 161 22) = wr 0 → ab_RI m_M_reading [(2, 161), (0, 0)] K S g3 r (fun x5 g' r' => g' = g3 ∧ r' = r ∧ (ab_RV m_M_reads [(2, 161), (0, 0), (0, x5 + 1)] K S g3 r (fun g6 r' => r' = r ∧ (P g6 r))))))))))) ∧ (wr x1 = wr 8 → ab_RV m_M_wrong [(2, 161), (0, 2)] K S g r (fun g8 r' => r' = r ∧ (ab_RI m_M_reading [(2, 161), (0, 0)] K S g8 r (fun x10 g' r' => g' = g8 ∧ r' = r ∧ (ab_RV m_M_newName [(2, 161), (2, 164), (0, 8), (0, x10)] K S g8 r (fun g11 r' => r' = r ∧ (((¬ wr (g11 161 22) = wr 0 → P g11 r) ∧ (wr (g11 161 22) = wr 0 → ab_RI m_M_reading [(2, 161), (0, 0)] K S g11 r (fun x13 g' r' => g' = g11 ∧ r' = r ∧ (ab_RV m_M_reads [(2, 161), (0, 0), (0, x13 + 1)] K S g11 r (fun g14 r' => r' = r ∧ (P g14 r))))))))))))))))) : ab_RV m_M_readAccount [(2, 161)] K S g r P := by
  show ab_Rn m_M_readAccount 0 [some (2, 161)] [] (K, S, g, r) (ab_Qv K S P)
  refine Rn_pure 2 (i' := 2) (L' := [some (2, 161)]) (st' := [(0, 0), (2, 161)]) rfl ?_
  refine Rn_callI [(2, 161), (0, 0)] [] rfl rfl rfl rfl (ab_rvB_of rfl (⟨rfl, (by omega : (0 : Int) ≤ 161), (by omega : (161 : Int) < K)⟩)) ?_
  refine h.mono (fun x1 g' r' h => ?_)
  obtain ⟨hx, h⟩ := h
  replace hx := hx.symm
  subst hx
  obtain ⟨hx, h⟩ := h
  replace hx := hx.symm
  subst hx
  refine Rn_pure 1 (i' := 4) (L' := [some (2, 161)]) (st' := [(0, 8), (0, x1)]) rfl ?_
  refine Rn_icne rfl (fun hc => ?_) (fun hc => ?_)
  · have h := h.1 hc
    refine Rn_pure 2 (i' := 10) (L' := [some (2, 161)]) (st' := [(2, 161), (2, 161)]) rfl ?_
    refine Rn_getR rfl (⟨rfl, (by omega : (0 : Int) ≤ 161), (by omega : (161 : Int) < K)⟩) (hr 139 _ rfl) (by decide) ?_
    refine Rn_pure 3 (i' := 14) (L' := [some (2, 161)]) (st' := [(0, 0), (2, 161), (0, 8), (2, 164), (2, 161)]) rfl ?_
    refine Rn_callI [(2, 161), (0, 0)] [(0, 8), (2, 164), (2, 161)] rfl rfl rfl rfl (ab_rvB_of rfl (⟨rfl, (by omega : (0 : Int) ≤ 161), (by omega : (161 : Int) < K)⟩)) ?_
    refine h.mono (fun x2 g' r' h => ?_)
    obtain ⟨hx, h⟩ := h
    replace hx := hx.symm
    subst hx
    obtain ⟨hx, h⟩ := h
    replace hx := hx.symm
    subst hx
    refine Rn_callV [(2, 161), (2, 164), (0, 8), (0, x2)] [] rfl rfl rfl rfl (ab_rvB_of rfl (⟨rfl, (by omega : (0 : Int) ≤ 161), (by omega : (161 : Int) < K)⟩)) ?_
    refine h.mono (fun g3 r' h => ?_)
    obtain ⟨hx, h⟩ := h
    replace hx := hx.symm
    subst hx
    refine Rn_pure 1 (i' := 17) (L' := [some (2, 161)]) (st' := [(2, 161)]) rfl ?_
    refine Rn_getI rfl (⟨rfl, (by omega : (0 : Int) ≤ 161), (by omega : (161 : Int) < K)⟩) ?_
    refine Rn_ifne rfl (fun hc => ?_) (fun hc => ?_)
    · have h := h.1 hc
      exact Rn_ret0 rfl h
    · have h := h.2 hc
      refine Rn_pure 4 (i' := 23) (L' := [some (2, 161)]) (st' := [(0, 0), (2, 161), (0, 0), (2, 161)]) rfl ?_
      refine Rn_callI [(2, 161), (0, 0)] [(0, 0), (2, 161)] rfl rfl rfl rfl (ab_rvB_of rfl (⟨rfl, (by omega : (0 : Int) ≤ 161), (by omega : (161 : Int) < K)⟩)) ?_
      refine h.mono (fun x5 g' r' h => ?_)
      obtain ⟨hx, h⟩ := h
      replace hx := hx.symm
      subst hx
      obtain ⟨hx, h⟩ := h
      replace hx := hx.symm
      subst hx
      refine Rn_pure 2 (i' := 26) (L' := [some (2, 161)]) (st' := [(0, x5 + 1), (0, 0), (2, 161)]) rfl ?_
      refine Rn_callV [(2, 161), (0, 0), (0, x5 + 1)] [] rfl rfl rfl rfl (ab_rvB_of rfl (⟨rfl, (by omega : (0 : Int) ≤ 161), (by omega : (161 : Int) < K)⟩)) ?_
      refine h.mono (fun g6 r' h => ?_)
      obtain ⟨hx, h⟩ := h
      replace hx := hx.symm
      subst hx
      exact Rn_ret0 rfl h
  · have h := h.2 hc
    refine Rn_pure 2 (i' := 7) (L' := [some (2, 161)]) (st' := [(0, 2), (2, 161)]) rfl ?_
    refine Rn_callV [(2, 161), (0, 2)] [] rfl rfl rfl rfl (ab_rvB_of rfl (⟨rfl, (by omega : (0 : Int) ≤ 161), (by omega : (161 : Int) < K)⟩)) ?_
    refine h.mono (fun g8 r' h => ?_)
    obtain ⟨hx, h⟩ := h
    replace hx := hx.symm
    subst hx
    refine Rn_pure 2 (i' := 10) (L' := [some (2, 161)]) (st' := [(2, 161), (2, 161)]) rfl ?_
    refine Rn_getR rfl (⟨rfl, (by omega : (0 : Int) ≤ 161), (by omega : (161 : Int) < K)⟩) (hr 139 _ rfl) (by decide) ?_
    refine Rn_pure 3 (i' := 14) (L' := [some (2, 161)]) (st' := [(0, 0), (2, 161), (0, 8), (2, 164), (2, 161)]) rfl ?_
    refine Rn_callI [(2, 161), (0, 0)] [(0, 8), (2, 164), (2, 161)] rfl rfl rfl rfl (ab_rvB_of rfl (⟨rfl, (by omega : (0 : Int) ≤ 161), (by omega : (161 : Int) < K)⟩)) ?_
    refine h.mono (fun x10 g' r' h => ?_)
    obtain ⟨hx, h⟩ := h
    replace hx := hx.symm
    subst hx
    obtain ⟨hx, h⟩ := h
    replace hx := hx.symm
    subst hx
    refine Rn_callV [(2, 161), (2, 164), (0, 8), (0, x10)] [] rfl rfl rfl rfl (ab_rvB_of rfl (⟨rfl, (by omega : (0 : Int) ≤ 161), (by omega : (161 : Int) < K)⟩)) ?_
    refine h.mono (fun g11 r' h => ?_)
    obtain ⟨hx, h⟩ := h
    replace hx := hx.symm
    subst hx
    refine Rn_pure 1 (i' := 17) (L' := [some (2, 161)]) (st' := [(2, 161)]) rfl ?_
    refine Rn_getI rfl (⟨rfl, (by omega : (0 : Int) ≤ 161), (by omega : (161 : Int) < K)⟩) ?_
    refine Rn_ifne rfl (fun hc => ?_) (fun hc => ?_)
    · have h := h.1 hc
      exact Rn_ret0 rfl h
    · have h := h.2 hc
      refine Rn_pure 4 (i' := 23) (L' := [some (2, 161)]) (st' := [(0, 0), (2, 161), (0, 0), (2, 161)]) rfl ?_
      refine Rn_callI [(2, 161), (0, 0)] [(0, 0), (2, 161)] rfl rfl rfl rfl (ab_rvB_of rfl (⟨rfl, (by omega : (0 : Int) ≤ 161), (by omega : (161 : Int) < K)⟩)) ?_
      refine h.mono (fun x13 g' r' h => ?_)
      obtain ⟨hx, h⟩ := h
      replace hx := hx.symm
      subst hx
      obtain ⟨hx, h⟩ := h
      replace hx := hx.symm
      subst hx
      refine Rn_pure 2 (i' := 26) (L' := [some (2, 161)]) (st' := [(0, x13 + 1), (0, 0), (2, 161)]) rfl ?_
      refine Rn_callV [(2, 161), (0, 0), (0, x13 + 1)] [] rfl rfl rfl rfl (ab_rvB_of rfl (⟨rfl, (by omega : (0 : Int) ≤ 161), (by omega : (161 : Int) < K)⟩)) ?_
      refine h.mono (fun g14 r' h => ?_)
      obtain ⟨hx, h⟩ := h
      replace hx := hx.symm
      subst hx
      exact Rn_ret0 rfl h
-- EventLedgerModel.stepAt (IIII)I
theorem v_M_stepAt {K : Int} {S : Nat} {g r : ab_H} {p0 p1 p2 p3 : Int} (P : Int → ab_H → ab_H → Prop) (hr : SI r) (hK : 185 ≤ K) (h : P (56 * p0 + (8 * p1) + (4 * (p2 - 1)) + p3) g r) : ab_RI m_M_stepAt [(0, p0), (0, p1), (0, p2), (0, p3)] K S g r P := by
  show ab_Rn m_M_stepAt 0 [some (0, p0), some (0, p1), some (0, p2), some (0, p3)] [] (K, S, g, r) (ab_Qi K S P)
  refine Rn_pure 15 (i' := 15) (L' := [some (0, p0), some (0, p1), some (0, p2), some (0, p3)]) (st' := [(0, 56 * p0 + (8 * p1) + (4 * (p2 - 1)) + p3)]) rfl ?_
  exact Rn_ret1 rfl h
-- EventLedgerModel.readLift ()V
theorem v_M_readLift {K : Int} {S : Nat} {g r : ab_H} (P : ab_H → ab_H → Prop) (hr : SI r) (hK : 185 ≤ K) (h : ab_RV m_M_goOn [(2, 161)] K S g r (fun g1 r' => r' = r ∧ (ab_RI m_M_wordOf [(2, 161), (0, 0), (0, 6)] K S g1 r (fun x4 g3 r' => r' = r ∧ (ab_RI m_M_numeral [(2, 161), (0, 1), (0, 2)] K S g3 r (fun x6 g5 r' => r' = r ∧ (((¬ wr (g5 161 22) = wr 0 → ab_RI m_M_wordOf [(2, 161), (0, 8), (0, 11)] K S g5 r (fun x8 g7 r' => r' = r ∧ (ab_RI m_M_numeral [(2, 161), (0, 1), (0, 3)] K S g7 r (fun x10 g9 r' => r' = r ∧ (((¬ wr x8 = wr 11 → ab_RI m_M_numeral [(2, 161), (0, 0), (0, 999)] K S g9 r (fun x12 g11 r' => r' = r ∧ (((wr (g11 161 22) = wr 0 → ((0 : Int) ≤ 14 + (2 * x4) + x6 - 1 ∧ (14 + (2 * x4) + x6 - 1 : Int) < 28) ∧ ab_RI m_M_stepAt [(0, 1), (0, x4), (0, x6), (0, g11 168 (14 + (2 * x4) + x6 - 1))] K S g11 r (fun x13 g' r' => g' = g11 ∧ r' = r ∧ (((0 : Int) ≤ x13 ∧ (x13 : Int) < 112) ∧ ∀ g14, g14 = ab_up g11 169 x13 x8 → ((0 : Int) ≤ x13 ∧ (x13 : Int) < 112) ∧ ∀ g15, g15 = ab_up g14 170 x13 x10 → ((0 : Int) ≤ x13 ∧ (x13 : Int) < 112) ∧ ∀ g16, g16 = ab_up g15 171 x13 x12 → ((0 : Int) ≤ 14 + (2 * x4) + x6 - 1 ∧ (14 + (2 * x4) + x6 - 1 : Int) < 28) ∧ ((0 : Int) ≤ 14 + (2 * x4) + x6 - 1 ∧ (14 + (2 * x4) + x6 - 1 : Int) < 28) ∧ ∀ g17, g17 = ab_up g16 168 (14 + (2 * x4) + x6 - 1) (g16 168 (14 + (2 * x4) + x6 - 1) + 1) → P g17 r))) ∧ (¬ wr (g11 161 22) = wr 0 → P g11 r))))) ∧ (wr x8 = wr 11 → ab_RI m_M_numeral [(2, 161), (0, 1), (0, 3)] K S g9 r (fun x19 g18 r' => r' = r ∧ (((wr (g18 161 22) = wr 0 → ((0 : Int) ≤ 14 + (2 * x4) + x6 - 1 ∧ (14 + (2 * x4) + x6 - 1 : Int) < 28) ∧ ab_RI m_M_stepAt [(0, 1), (0, x4), (0, x6), (0, g18 168 (14 + (2 * x4) + x6 - 1))] K S g18 r (fun x20 g' r' => g' = g18 ∧ r' = r ∧ (((0 : Int) ≤ x20 ∧ (x20 : Int) < 112) ∧ ∀ g21, g21 = ab_up g18 169 x20 x8 → ((0 : Int) ≤ x20 ∧ (x20 : Int) < 112) ∧ ∀ g22, g22 = ab_up g21 170 x20 x10 → ((0 : Int) ≤ x20 ∧ (x20 : Int) < 112) ∧ ∀ g23, g23 = ab_up g22 171 x20 x19 → ((0 : Int) ≤ 14 + (2 * x4) + x6 - 1 ∧ (14 + (2 * x4) + x6 - 1 : Int) < 28) ∧ ((0 : Int) ≤ 14 + (2 * x4) + x6 - 1 ∧ (14 + (2 * x4) + x6 - 1 : Int) < 28) ∧ ∀ g24, g24 = ab_up g23 168 (14 + (2 * x4) + x6 - 1) (g23 168 (14 + (2 * x4) + x6 - 1) + 1) → P g24 r))) ∧ (¬ wr (g18 161 22) = wr 0 → P g18 r))))))))))) ∧ (wr (g5 161 22) = wr 0 → ((0 : Int) ≤ 14 + (2 * x4) + x6 - 1 ∧ (14 + (2 * x4) + x6 - 1 : Int) < 28) ∧ ((¬ wr (g5 168 (14 + (2 * x4) + x6 - 1)) = wr 4 → ab_RI m_M_wordOf [(2, 161), (0, 8), (0, 11)] K S g5 r (fun x26 g25 r' => r' = r ∧ (ab_RI m_M_numeral [(2, 161), (0, 1), (0, 3)] K S g25 r (fun x28 g27 r' => r' = r ∧ (((¬ wr x26 = wr 11 → ab_RI m_M_numeral [(2, 161), (0, 0), (0, 999)] K S g27 r (fun x30 g29 r' => r' = r ∧ (((wr (g29 161 22) = wr 0 → ((0 : Int) ≤ 14 + (2 * x4) + x6 - 1 ∧ (14 + (2 * x4) + x6 - 1 : Int) < 28) ∧ ab_RI m_M_stepAt [(0, 1), (0, x4), (0, x6), (0, g29 168 (14 + (2 * x4) + x6 - 1))] K S g29 r (fun x31 g' r' => g' = g29 ∧ r' = r ∧ (((0 : Int) ≤ x31 ∧ (x31 : Int) < 112) ∧ ∀ g32, g32 = ab_up g29 169 x31 x26 → ((0 : Int) ≤ x31 ∧ (x31 : Int) < 112) ∧ ∀ g33, g33 = ab_up g32 170 x31 x28 → ((0 : Int) ≤ x31 ∧ (x31 : Int) < 112) ∧ ∀ g34, g34 = ab_up g33 171 x31 x30 → ((0 : Int) ≤ 14 + (2 * x4) + x6 - 1 ∧ (14 + (2 * x4) + x6 - 1 : Int) < 28) ∧ ((0 : Int) ≤ 14 + (2 * x4) + x6 - 1 ∧ (14 + (2 * x4) + x6 - 1 : Int) < 28) ∧ ∀ g35, g35 = ab_up g34 168 (14 + (2 * x4) + x6 - 1) (g34 168 (14 + (2 * x4) + x6 - 1) + 1) → P g35 r))) ∧ (¬ wr (g29 161 22) = wr 0 → P g29 r))))) ∧ (wr x26 = wr 11 → ab_RI m_M_numeral [(2, 161), (0, 1), (0, 3)] K S g27 r (fun x37 g36 r' => r' = r ∧ (((wr (g36 161 22) = wr 0 → ((0 : Int) ≤ 14 + (2 * x4) + x6 - 1 ∧ (14 + (2 * x4) + x6 - 1 : Int) < 28) ∧ ab_RI m_M_stepAt [(0, 1), (0, x4), (0, x6), (0, g36 168 (14 + (2 * x4) + x6 - 1))] K S g36 r (fun x38 g' r' => g' = g36 ∧ r' = r ∧ (((0 : Int) ≤ x38 ∧ (x38 : Int) < 112) ∧ ∀ g39, g39 = ab_up g36 169 x38 x26 → ((0 : Int) ≤ x38 ∧ (x38 : Int) < 112) ∧ ∀ g40, g40 = ab_up g39 170 x38 x28 → ((0 : Int) ≤ x38 ∧ (x38 : Int) < 112) ∧ ∀ g41, g41 = ab_up g40 171 x38 x37 → ((0 : Int) ≤ 14 + (2 * x4) + x6 - 1 ∧ (14 + (2 * x4) + x6 - 1 : Int) < 28) ∧ ((0 : Int) ≤ 14 + (2 * x4) + x6 - 1 ∧ (14 + (2 * x4) + x6 - 1 : Int) < 28) ∧ ∀ g42, g42 = ab_up g41 168 (14 + (2 * x4) + x6 - 1) (g41 168 (14 + (2 * x4) + x6 - 1) + 1) → P g42 r))) ∧ (¬ wr (g36 161 22) = wr 0 → P g36 r))))))))))) ∧ (wr (g5 168 (14 + (2 * x4) + x6 - 1)) = wr 4 → ∀ g43, g43 = ab_up g5 161 22 2 → ∀ g44, g44 = ab_up g43 161 23 (g3 161 19) → ab_RI m_M_wordOf [(2, 161), (0, 8), (0, 11)] K S g44 r (fun x46 g45 r' => r' = r ∧ (ab_RI m_M_numeral [(2, 161), (0, 1), (0, 3)] K S g45 r (fun x48 g47 r' => r' = r ∧ (((¬ wr x46 = wr 11 → ab_RI m_M_numeral [(2, 161), (0, 0), (0, 999)] K S g47 r (fun x50 g49 r' => r' = r ∧ (((wr (g49 161 22) = wr 0 → ((0 : Int) ≤ 14 + (2 * x4) + x6 - 1 ∧ (14 + (2 * x4) + x6 - 1 : Int) < 28) ∧ ab_RI m_M_stepAt [(0, 1), (0, x4), (0, x6), (0, g49 168 (14 + (2 * x4) + x6 - 1))] K S g49 r (fun x51 g' r' => g' = g49 ∧ r' = r ∧ (((0 : Int) ≤ x51 ∧ (x51 : Int) < 112) ∧ ∀ g52, g52 = ab_up g49 169 x51 x46 → ((0 : Int) ≤ x51 ∧ (x51 : Int) < 112) ∧ ∀ g53, g53 = ab_up g52 170 x51 x48 → ((0 : Int) ≤ x51 ∧ (x51 : Int) < 112) ∧ ∀ g54, g54 = ab_up g53 171 x51 x50 → ((0 : Int) ≤ 14 + (2 * x4) + x6 - 1 ∧ (14 + (2 * x4) + x6 - 1 : Int) < 28) ∧ ((0 : Int) ≤ 14 + (2 * x4) + x6 - 1 ∧ (14 + (2 * x4) + x6 - 1 : Int) < 28) ∧ ∀ g55, g55 = ab_up g54 168 (14 + (2 * x4) + x6 - 1) (g54 168 (14 + (2 * x4) + x6 - 1) + 1) → P g55 r))) ∧ (¬ wr (g49 161 22) = wr 0 → P g49 r))))) ∧ (wr x46 = wr 11 → ab_RI m_M_numeral [(2, 161), (0, 1), (0, 3)] K S g47 r (fun x57 g56 r' => r' = r ∧ (((wr (g56 161 22) = wr 0 → ((0 : Int) ≤ 14 + (2 * x4) + x6 - 1 ∧ (14 + (2 * x4) + x6 - 1 : Int) < 28) ∧ ab_RI m_M_stepAt [(0, 1), (0, x4), (0, x6), (0, g56 168 (14 + (2 * x4) + x6 - 1))] K S g56 r (fun x58 g' r' => g' = g56 ∧ r' = r ∧ (((0 : Int) ≤ x58 ∧ (x58 : Int) < 112) ∧ ∀ g59, g59 = ab_up g56 169 x58 x46 → ((0 : Int) ≤ x58 ∧ (x58 : Int) < 112) ∧ ∀ g60, g60 = ab_up g59 170 x58 x48 → ((0 : Int) ≤ x58 ∧ (x58 : Int) < 112) ∧ ∀ g61, g61 = ab_up g60 171 x58 x57 → ((0 : Int) ≤ 14 + (2 * x4) + x6 - 1 ∧ (14 + (2 * x4) + x6 - 1 : Int) < 28) ∧ ((0 : Int) ≤ 14 + (2 * x4) + x6 - 1 ∧ (14 + (2 * x4) + x6 - 1 : Int) < 28) ∧ ∀ g62, g62 = ab_up g61 168 (14 + (2 * x4) + x6 - 1) (g61 168 (14 + (2 * x4) + x6 - 1) + 1) → P g62 r))) ∧ (¬ wr (g56 161 22) = wr 0 → P g56 r))))))))))))))))))))) : ab_RV m_M_readLift [(2, 161)] K S g r P := by
  show ab_Rn m_M_readLift 0 [some (2, 161), none, none, none, none, none, none, none, none] [] (K, S, g, r) (ab_Qv K S P)
  refine Rn_pure 1 (i' := 1) (L' := [some (2, 161), none, none, none, none, none, none, none, none]) (st' := [(2, 161)]) rfl ?_
  refine Rn_callV [(2, 161)] [] rfl rfl rfl rfl (ab_rvB_of rfl (⟨rfl, (by omega : (0 : Int) ≤ 161), (by omega : (161 : Int) < K)⟩)) ?_
  refine h.mono (fun g1 r' h => ?_)
  obtain ⟨hx, h⟩ := h
  replace hx := hx.symm
  subst hx
  refine Rn_pure 3 (i' := 5) (L' := [some (2, 161), none, none, none, none, none, none, none, none]) (st' := [(0, 6), (0, 0), (2, 161)]) rfl ?_
  refine Rn_callI [(2, 161), (0, 0), (0, 6)] [] rfl rfl rfl rfl (ab_rvB_of rfl (⟨rfl, (by omega : (0 : Int) ≤ 161), (by omega : (161 : Int) < K)⟩)) ?_
  refine h.mono (fun x4 g3 r' h => ?_)
  obtain ⟨hx, h⟩ := h
  replace hx := hx.symm
  subst hx
  refine Rn_pure 2 (i' := 8) (L' := [some (2, 161), some (0, x4), none, none, none, none, none, none, none]) (st' := [(2, 161)]) rfl ?_
  refine Rn_getI rfl (⟨rfl, (by omega : (0 : Int) ≤ 161), (by omega : (161 : Int) < K)⟩) ?_
  refine Rn_pure 4 (i' := 13) (L' := [some (2, 161), some (0, x4), some (0, g3 161 19), none, none, none, none, none, none]) (st' := [(0, 2), (0, 1), (2, 161)]) rfl ?_
  refine Rn_callI [(2, 161), (0, 1), (0, 2)] [] rfl rfl rfl rfl (ab_rvB_of rfl (⟨rfl, (by omega : (0 : Int) ≤ 161), (by omega : (161 : Int) < K)⟩)) ?_
  refine h.mono (fun x6 g5 r' h => ?_)
  obtain ⟨hx, h⟩ := h
  replace hx := hx.symm
  subst hx
  refine Rn_pure 12 (i' := 26) (L' := [some (2, 161), some (0, x4), some (0, g3 161 19), some (0, x6), some (0, 14 + (2 * x4) + x6 - 1), none, none, none, none]) (st' := [(2, 161)]) rfl ?_
  refine Rn_getI rfl (⟨rfl, (by omega : (0 : Int) ≤ 161), (by omega : (161 : Int) < K)⟩) ?_
  refine Rn_ifne rfl (fun hc => ?_) (fun hc => ?_)
  · have h := h.1 hc
    refine Rn_pure 3 (i' := 43) (L' := [some (2, 161), some (0, x4), some (0, g3 161 19), some (0, x6), some (0, 14 + (2 * x4) + x6 - 1), none, none, none, none]) (st' := [(0, 11), (0, 8), (2, 161)]) rfl ?_
    refine Rn_callI [(2, 161), (0, 8), (0, 11)] [] rfl rfl rfl rfl (ab_rvB_of rfl (⟨rfl, (by omega : (0 : Int) ≤ 161), (by omega : (161 : Int) < K)⟩)) ?_
    refine h.mono (fun x8 g7 r' h => ?_)
    obtain ⟨hx, h⟩ := h
    replace hx := hx.symm
    subst hx
    refine Rn_pure 4 (i' := 48) (L' := [some (2, 161), some (0, x4), some (0, g3 161 19), some (0, x6), some (0, 14 + (2 * x4) + x6 - 1), some (0, x8), none, none, none]) (st' := [(0, 3), (0, 1), (2, 161)]) rfl ?_
    refine Rn_callI [(2, 161), (0, 1), (0, 3)] [] rfl rfl rfl rfl (ab_rvB_of rfl (⟨rfl, (by omega : (0 : Int) ≤ 161), (by omega : (161 : Int) < K)⟩)) ?_
    refine h.mono (fun x10 g9 r' h => ?_)
    obtain ⟨hx, h⟩ := h
    replace hx := hx.symm
    subst hx
    refine Rn_pure 3 (i' := 52) (L' := [some (2, 161), some (0, x4), some (0, g3 161 19), some (0, x6), some (0, 14 + (2 * x4) + x6 - 1), some (0, x8), some (0, x10), none, none]) (st' := [(0, 11), (0, x8)]) rfl ?_
    refine Rn_icne rfl (fun hc => ?_) (fun hc => ?_)
    · have h := h.1 hc
      refine Rn_pure 3 (i' := 61) (L' := [some (2, 161), some (0, x4), some (0, g3 161 19), some (0, x6), some (0, 14 + (2 * x4) + x6 - 1), some (0, x8), some (0, x10), none, none]) (st' := [(0, 999), (0, 0), (2, 161)]) rfl ?_
      refine Rn_callI [(2, 161), (0, 0), (0, 999)] [] rfl rfl rfl rfl (ab_rvB_of rfl (⟨rfl, (by omega : (0 : Int) ≤ 161), (by omega : (161 : Int) < K)⟩)) ?_
      refine h.mono (fun x12 g11 r' h => ?_)
      obtain ⟨hx, h⟩ := h
      replace hx := hx.symm
      subst hx
      refine Rn_pure 2 (i' := 64) (L' := [some (2, 161), some (0, x4), some (0, g3 161 19), some (0, x6), some (0, 14 + (2 * x4) + x6 - 1), some (0, x8), some (0, x10), some (0, x12), none]) (st' := [(2, 161)]) rfl ?_
      refine Rn_getI rfl (⟨rfl, (by omega : (0 : Int) ≤ 161), (by omega : (161 : Int) < K)⟩) ?_
      refine Rn_ifeq rfl (fun hc => ?_) (fun hc => ?_)
      · have h := h.1 hc
        refine Rn_pure 4 (i' := 71) (L' := [some (2, 161), some (0, x4), some (0, g3 161 19), some (0, x6), some (0, 14 + (2 * x4) + x6 - 1), some (0, x8), some (0, x10), some (0, x12), none]) (st' := [(2, 161), (0, x6), (0, x4), (0, 1)]) rfl ?_
        refine Rn_getR rfl (⟨rfl, (by omega : (0 : Int) ≤ 161), (by omega : (161 : Int) < K)⟩) (hr 143 _ rfl) (by decide) ?_
        refine Rn_pure 1 (i' := 73) (L' := [some (2, 161), some (0, x4), some (0, g3 161 19), some (0, x6), some (0, 14 + (2 * x4) + x6 - 1), some (0, x8), some (0, x10), some (0, x12), none]) (st' := [(0, 14 + (2 * x4) + x6 - 1), (2, 168), (0, x6), (0, x4), (0, 1)]) rfl ?_
        obtain ⟨hg, h⟩ := h
        refine Rn_iald rfl (⟨rfl, (by omega : (0 : Int) ≤ 168), (by omega : (168 : Int) < K)⟩) hg ?_
        refine Rn_callI [(0, 1), (0, x4), (0, x6), (0, g11 168 (14 + (2 * x4) + x6 - 1))] [] rfl rfl rfl rfl (rfl) ?_
        refine h.mono (fun x13 g' r' h => ?_)
        obtain ⟨hx, h⟩ := h
        replace hx := hx.symm
        subst hx
        obtain ⟨hx, h⟩ := h
        replace hx := hx.symm
        subst hx
        refine Rn_pure 2 (i' := 77) (L' := [some (2, 161), some (0, x4), some (0, g3 161 19), some (0, x6), some (0, 14 + (2 * x4) + x6 - 1), some (0, x8), some (0, x10), some (0, x12), some (0, x13)]) (st' := [(2, 161)]) rfl ?_
        refine Rn_getR rfl (⟨rfl, (by omega : (0 : Int) ≤ 161), (by omega : (161 : Int) < K)⟩) (hr 144 _ rfl) (by decide) ?_
        refine Rn_pure 2 (i' := 80) (L' := [some (2, 161), some (0, x4), some (0, g3 161 19), some (0, x6), some (0, 14 + (2 * x4) + x6 - 1), some (0, x8), some (0, x10), some (0, x12), some (0, x13)]) (st' := [(0, x8), (0, x13), (2, 169)]) rfl ?_
        obtain ⟨hg, h⟩ := h
        refine Rn_iast rfl (⟨rfl, (by omega : (0 : Int) ≤ 169), (by omega : (169 : Int) < K)⟩) hg (fun g14 he_g14 => ?_)
        have h := h g14 he_g14
        refine Rn_pure 1 (i' := 82) (L' := [some (2, 161), some (0, x4), some (0, g3 161 19), some (0, x6), some (0, 14 + (2 * x4) + x6 - 1), some (0, x8), some (0, x10), some (0, x12), some (0, x13)]) (st' := [(2, 161)]) rfl ?_
        refine Rn_getR rfl (⟨rfl, (by omega : (0 : Int) ≤ 161), (by omega : (161 : Int) < K)⟩) (hr 145 _ rfl) (by decide) ?_
        refine Rn_pure 2 (i' := 85) (L' := [some (2, 161), some (0, x4), some (0, g3 161 19), some (0, x6), some (0, 14 + (2 * x4) + x6 - 1), some (0, x8), some (0, x10), some (0, x12), some (0, x13)]) (st' := [(0, x10), (0, x13), (2, 170)]) rfl ?_
        obtain ⟨hg, h⟩ := h
        refine Rn_iast rfl (⟨rfl, (by omega : (0 : Int) ≤ 170), (by omega : (170 : Int) < K)⟩) hg (fun g15 he_g15 => ?_)
        have h := h g15 he_g15
        refine Rn_pure 1 (i' := 87) (L' := [some (2, 161), some (0, x4), some (0, g3 161 19), some (0, x6), some (0, 14 + (2 * x4) + x6 - 1), some (0, x8), some (0, x10), some (0, x12), some (0, x13)]) (st' := [(2, 161)]) rfl ?_
        refine Rn_getR rfl (⟨rfl, (by omega : (0 : Int) ≤ 161), (by omega : (161 : Int) < K)⟩) (hr 146 _ rfl) (by decide) ?_
        refine Rn_pure 2 (i' := 90) (L' := [some (2, 161), some (0, x4), some (0, g3 161 19), some (0, x6), some (0, 14 + (2 * x4) + x6 - 1), some (0, x8), some (0, x10), some (0, x12), some (0, x13)]) (st' := [(0, x12), (0, x13), (2, 171)]) rfl ?_
        obtain ⟨hg, h⟩ := h
        refine Rn_iast rfl (⟨rfl, (by omega : (0 : Int) ≤ 171), (by omega : (171 : Int) < K)⟩) hg (fun g16 he_g16 => ?_)
        have h := h g16 he_g16
        refine Rn_pure 1 (i' := 92) (L' := [some (2, 161), some (0, x4), some (0, g3 161 19), some (0, x6), some (0, 14 + (2 * x4) + x6 - 1), some (0, x8), some (0, x10), some (0, x12), some (0, x13)]) (st' := [(2, 161)]) rfl ?_
        refine Rn_getR rfl (⟨rfl, (by omega : (0 : Int) ≤ 161), (by omega : (161 : Int) < K)⟩) (hr 143 _ rfl) (by decide) ?_
        refine Rn_pure 2 (i' := 95) (L' := [some (2, 161), some (0, x4), some (0, g3 161 19), some (0, x6), some (0, 14 + (2 * x4) + x6 - 1), some (0, x8), some (0, x10), some (0, x12), some (0, x13)]) (st' := [(0, 14 + (2 * x4) + x6 - 1), (2, 168), (0, 14 + (2 * x4) + x6 - 1), (2, 168)]) rfl ?_
        obtain ⟨hg, h⟩ := h
        refine Rn_iald rfl (⟨rfl, (by omega : (0 : Int) ≤ 168), (by omega : (168 : Int) < K)⟩) hg ?_
        refine Rn_pure 2 (i' := 98) (L' := [some (2, 161), some (0, x4), some (0, g3 161 19), some (0, x6), some (0, 14 + (2 * x4) + x6 - 1), some (0, x8), some (0, x10), some (0, x12), some (0, x13)]) (st' := [(0, g16 168 (14 + (2 * x4) + x6 - 1) + 1), (0, 14 + (2 * x4) + x6 - 1), (2, 168)]) rfl ?_
        obtain ⟨hg, h⟩ := h
        refine Rn_iast rfl (⟨rfl, (by omega : (0 : Int) ≤ 168), (by omega : (168 : Int) < K)⟩) hg (fun g17 he_g17 => ?_)
        have h := h g17 he_g17
        exact Rn_ret0 rfl h
      · have h := h.2 hc
        exact Rn_ret0 rfl h
    · have h := h.2 hc
      refine Rn_pure 3 (i' := 56) (L' := [some (2, 161), some (0, x4), some (0, g3 161 19), some (0, x6), some (0, 14 + (2 * x4) + x6 - 1), some (0, x8), some (0, x10), none, none]) (st' := [(0, 3), (0, 1), (2, 161)]) rfl ?_
      refine Rn_callI [(2, 161), (0, 1), (0, 3)] [] rfl rfl rfl rfl (ab_rvB_of rfl (⟨rfl, (by omega : (0 : Int) ≤ 161), (by omega : (161 : Int) < K)⟩)) ?_
      refine h.mono (fun x19 g18 r' h => ?_)
      obtain ⟨hx, h⟩ := h
      replace hx := hx.symm
      subst hx
      refine Rn_pure 3 (i' := 64) (L' := [some (2, 161), some (0, x4), some (0, g3 161 19), some (0, x6), some (0, 14 + (2 * x4) + x6 - 1), some (0, x8), some (0, x10), some (0, x19), none]) (st' := [(2, 161)]) rfl ?_
      refine Rn_getI rfl (⟨rfl, (by omega : (0 : Int) ≤ 161), (by omega : (161 : Int) < K)⟩) ?_
      refine Rn_ifeq rfl (fun hc => ?_) (fun hc => ?_)
      · have h := h.1 hc
        refine Rn_pure 4 (i' := 71) (L' := [some (2, 161), some (0, x4), some (0, g3 161 19), some (0, x6), some (0, 14 + (2 * x4) + x6 - 1), some (0, x8), some (0, x10), some (0, x19), none]) (st' := [(2, 161), (0, x6), (0, x4), (0, 1)]) rfl ?_
        refine Rn_getR rfl (⟨rfl, (by omega : (0 : Int) ≤ 161), (by omega : (161 : Int) < K)⟩) (hr 143 _ rfl) (by decide) ?_
        refine Rn_pure 1 (i' := 73) (L' := [some (2, 161), some (0, x4), some (0, g3 161 19), some (0, x6), some (0, 14 + (2 * x4) + x6 - 1), some (0, x8), some (0, x10), some (0, x19), none]) (st' := [(0, 14 + (2 * x4) + x6 - 1), (2, 168), (0, x6), (0, x4), (0, 1)]) rfl ?_
        obtain ⟨hg, h⟩ := h
        refine Rn_iald rfl (⟨rfl, (by omega : (0 : Int) ≤ 168), (by omega : (168 : Int) < K)⟩) hg ?_
        refine Rn_callI [(0, 1), (0, x4), (0, x6), (0, g18 168 (14 + (2 * x4) + x6 - 1))] [] rfl rfl rfl rfl (rfl) ?_
        refine h.mono (fun x20 g' r' h => ?_)
        obtain ⟨hx, h⟩ := h
        replace hx := hx.symm
        subst hx
        obtain ⟨hx, h⟩ := h
        replace hx := hx.symm
        subst hx
        refine Rn_pure 2 (i' := 77) (L' := [some (2, 161), some (0, x4), some (0, g3 161 19), some (0, x6), some (0, 14 + (2 * x4) + x6 - 1), some (0, x8), some (0, x10), some (0, x19), some (0, x20)]) (st' := [(2, 161)]) rfl ?_
        refine Rn_getR rfl (⟨rfl, (by omega : (0 : Int) ≤ 161), (by omega : (161 : Int) < K)⟩) (hr 144 _ rfl) (by decide) ?_
        refine Rn_pure 2 (i' := 80) (L' := [some (2, 161), some (0, x4), some (0, g3 161 19), some (0, x6), some (0, 14 + (2 * x4) + x6 - 1), some (0, x8), some (0, x10), some (0, x19), some (0, x20)]) (st' := [(0, x8), (0, x20), (2, 169)]) rfl ?_
        obtain ⟨hg, h⟩ := h
        refine Rn_iast rfl (⟨rfl, (by omega : (0 : Int) ≤ 169), (by omega : (169 : Int) < K)⟩) hg (fun g21 he_g21 => ?_)
        have h := h g21 he_g21
        refine Rn_pure 1 (i' := 82) (L' := [some (2, 161), some (0, x4), some (0, g3 161 19), some (0, x6), some (0, 14 + (2 * x4) + x6 - 1), some (0, x8), some (0, x10), some (0, x19), some (0, x20)]) (st' := [(2, 161)]) rfl ?_
        refine Rn_getR rfl (⟨rfl, (by omega : (0 : Int) ≤ 161), (by omega : (161 : Int) < K)⟩) (hr 145 _ rfl) (by decide) ?_
        refine Rn_pure 2 (i' := 85) (L' := [some (2, 161), some (0, x4), some (0, g3 161 19), some (0, x6), some (0, 14 + (2 * x4) + x6 - 1), some (0, x8), some (0, x10), some (0, x19), some (0, x20)]) (st' := [(0, x10), (0, x20), (2, 170)]) rfl ?_
        obtain ⟨hg, h⟩ := h
        refine Rn_iast rfl (⟨rfl, (by omega : (0 : Int) ≤ 170), (by omega : (170 : Int) < K)⟩) hg (fun g22 he_g22 => ?_)
        have h := h g22 he_g22
        refine Rn_pure 1 (i' := 87) (L' := [some (2, 161), some (0, x4), some (0, g3 161 19), some (0, x6), some (0, 14 + (2 * x4) + x6 - 1), some (0, x8), some (0, x10), some (0, x19), some (0, x20)]) (st' := [(2, 161)]) rfl ?_
        refine Rn_getR rfl (⟨rfl, (by omega : (0 : Int) ≤ 161), (by omega : (161 : Int) < K)⟩) (hr 146 _ rfl) (by decide) ?_
        refine Rn_pure 2 (i' := 90) (L' := [some (2, 161), some (0, x4), some (0, g3 161 19), some (0, x6), some (0, 14 + (2 * x4) + x6 - 1), some (0, x8), some (0, x10), some (0, x19), some (0, x20)]) (st' := [(0, x19), (0, x20), (2, 171)]) rfl ?_
        obtain ⟨hg, h⟩ := h
        refine Rn_iast rfl (⟨rfl, (by omega : (0 : Int) ≤ 171), (by omega : (171 : Int) < K)⟩) hg (fun g23 he_g23 => ?_)
        have h := h g23 he_g23
        refine Rn_pure 1 (i' := 92) (L' := [some (2, 161), some (0, x4), some (0, g3 161 19), some (0, x6), some (0, 14 + (2 * x4) + x6 - 1), some (0, x8), some (0, x10), some (0, x19), some (0, x20)]) (st' := [(2, 161)]) rfl ?_
        refine Rn_getR rfl (⟨rfl, (by omega : (0 : Int) ≤ 161), (by omega : (161 : Int) < K)⟩) (hr 143 _ rfl) (by decide) ?_
        refine Rn_pure 2 (i' := 95) (L' := [some (2, 161), some (0, x4), some (0, g3 161 19), some (0, x6), some (0, 14 + (2 * x4) + x6 - 1), some (0, x8), some (0, x10), some (0, x19), some (0, x20)]) (st' := [(0, 14 + (2 * x4) + x6 - 1), (2, 168), (0, 14 + (2 * x4) + x6 - 1), (2, 168)]) rfl ?_
        obtain ⟨hg, h⟩ := h
        refine Rn_iald rfl (⟨rfl, (by omega : (0 : Int) ≤ 168), (by omega : (168 : Int) < K)⟩) hg ?_
        refine Rn_pure 2 (i' := 98) (L' := [some (2, 161), some (0, x4), some (0, g3 161 19), some (0, x6), some (0, 14 + (2 * x4) + x6 - 1), some (0, x8), some (0, x10), some (0, x19), some (0, x20)]) (st' := [(0, g23 168 (14 + (2 * x4) + x6 - 1) + 1), (0, 14 + (2 * x4) + x6 - 1), (2, 168)]) rfl ?_
        obtain ⟨hg, h⟩ := h
        refine Rn_iast rfl (⟨rfl, (by omega : (0 : Int) ≤ 168), (by omega : (168 : Int) < K)⟩) hg (fun g24 he_g24 => ?_)
        have h := h g24 he_g24
        exact Rn_ret0 rfl h
      · have h := h.2 hc
        exact Rn_ret0 rfl h
  · have h := h.2 hc
    refine Rn_pure 1 (i' := 29) (L' := [some (2, 161), some (0, x4), some (0, g3 161 19), some (0, x6), some (0, 14 + (2 * x4) + x6 - 1), none, none, none, none]) (st' := [(2, 161)]) rfl ?_
    refine Rn_getR rfl (⟨rfl, (by omega : (0 : Int) ≤ 161), (by omega : (161 : Int) < K)⟩) (hr 143 _ rfl) (by decide) ?_
    refine Rn_pure 1 (i' := 31) (L' := [some (2, 161), some (0, x4), some (0, g3 161 19), some (0, x6), some (0, 14 + (2 * x4) + x6 - 1), none, none, none, none]) (st' := [(0, 14 + (2 * x4) + x6 - 1), (2, 168)]) rfl ?_
    obtain ⟨hg, h⟩ := h
    refine Rn_iald rfl (⟨rfl, (by omega : (0 : Int) ≤ 168), (by omega : (168 : Int) < K)⟩) hg ?_
    refine Rn_pure 1 (i' := 33) (L' := [some (2, 161), some (0, x4), some (0, g3 161 19), some (0, x6), some (0, 14 + (2 * x4) + x6 - 1), none, none, none, none]) (st' := [(0, 4), (0, g5 168 (14 + (2 * x4) + x6 - 1))]) rfl ?_
    refine Rn_icne rfl (fun hc => ?_) (fun hc => ?_)
    · have h := h.1 hc
      refine Rn_pure 3 (i' := 43) (L' := [some (2, 161), some (0, x4), some (0, g3 161 19), some (0, x6), some (0, 14 + (2 * x4) + x6 - 1), none, none, none, none]) (st' := [(0, 11), (0, 8), (2, 161)]) rfl ?_
      refine Rn_callI [(2, 161), (0, 8), (0, 11)] [] rfl rfl rfl rfl (ab_rvB_of rfl (⟨rfl, (by omega : (0 : Int) ≤ 161), (by omega : (161 : Int) < K)⟩)) ?_
      refine h.mono (fun x26 g25 r' h => ?_)
      obtain ⟨hx, h⟩ := h
      replace hx := hx.symm
      subst hx
      refine Rn_pure 4 (i' := 48) (L' := [some (2, 161), some (0, x4), some (0, g3 161 19), some (0, x6), some (0, 14 + (2 * x4) + x6 - 1), some (0, x26), none, none, none]) (st' := [(0, 3), (0, 1), (2, 161)]) rfl ?_
      refine Rn_callI [(2, 161), (0, 1), (0, 3)] [] rfl rfl rfl rfl (ab_rvB_of rfl (⟨rfl, (by omega : (0 : Int) ≤ 161), (by omega : (161 : Int) < K)⟩)) ?_
      refine h.mono (fun x28 g27 r' h => ?_)
      obtain ⟨hx, h⟩ := h
      replace hx := hx.symm
      subst hx
      refine Rn_pure 3 (i' := 52) (L' := [some (2, 161), some (0, x4), some (0, g3 161 19), some (0, x6), some (0, 14 + (2 * x4) + x6 - 1), some (0, x26), some (0, x28), none, none]) (st' := [(0, 11), (0, x26)]) rfl ?_
      refine Rn_icne rfl (fun hc => ?_) (fun hc => ?_)
      · have h := h.1 hc
        refine Rn_pure 3 (i' := 61) (L' := [some (2, 161), some (0, x4), some (0, g3 161 19), some (0, x6), some (0, 14 + (2 * x4) + x6 - 1), some (0, x26), some (0, x28), none, none]) (st' := [(0, 999), (0, 0), (2, 161)]) rfl ?_
        refine Rn_callI [(2, 161), (0, 0), (0, 999)] [] rfl rfl rfl rfl (ab_rvB_of rfl (⟨rfl, (by omega : (0 : Int) ≤ 161), (by omega : (161 : Int) < K)⟩)) ?_
        refine h.mono (fun x30 g29 r' h => ?_)
        obtain ⟨hx, h⟩ := h
        replace hx := hx.symm
        subst hx
        refine Rn_pure 2 (i' := 64) (L' := [some (2, 161), some (0, x4), some (0, g3 161 19), some (0, x6), some (0, 14 + (2 * x4) + x6 - 1), some (0, x26), some (0, x28), some (0, x30), none]) (st' := [(2, 161)]) rfl ?_
        refine Rn_getI rfl (⟨rfl, (by omega : (0 : Int) ≤ 161), (by omega : (161 : Int) < K)⟩) ?_
        refine Rn_ifeq rfl (fun hc => ?_) (fun hc => ?_)
        · have h := h.1 hc
          refine Rn_pure 4 (i' := 71) (L' := [some (2, 161), some (0, x4), some (0, g3 161 19), some (0, x6), some (0, 14 + (2 * x4) + x6 - 1), some (0, x26), some (0, x28), some (0, x30), none]) (st' := [(2, 161), (0, x6), (0, x4), (0, 1)]) rfl ?_
          refine Rn_getR rfl (⟨rfl, (by omega : (0 : Int) ≤ 161), (by omega : (161 : Int) < K)⟩) (hr 143 _ rfl) (by decide) ?_
          refine Rn_pure 1 (i' := 73) (L' := [some (2, 161), some (0, x4), some (0, g3 161 19), some (0, x6), some (0, 14 + (2 * x4) + x6 - 1), some (0, x26), some (0, x28), some (0, x30), none]) (st' := [(0, 14 + (2 * x4) + x6 - 1), (2, 168), (0, x6), (0, x4), (0, 1)]) rfl ?_
          obtain ⟨hg, h⟩ := h
          refine Rn_iald rfl (⟨rfl, (by omega : (0 : Int) ≤ 168), (by omega : (168 : Int) < K)⟩) hg ?_
          refine Rn_callI [(0, 1), (0, x4), (0, x6), (0, g29 168 (14 + (2 * x4) + x6 - 1))] [] rfl rfl rfl rfl (rfl) ?_
          refine h.mono (fun x31 g' r' h => ?_)
          obtain ⟨hx, h⟩ := h
          replace hx := hx.symm
          subst hx
          obtain ⟨hx, h⟩ := h
          replace hx := hx.symm
          subst hx
          refine Rn_pure 2 (i' := 77) (L' := [some (2, 161), some (0, x4), some (0, g3 161 19), some (0, x6), some (0, 14 + (2 * x4) + x6 - 1), some (0, x26), some (0, x28), some (0, x30), some (0, x31)]) (st' := [(2, 161)]) rfl ?_
          refine Rn_getR rfl (⟨rfl, (by omega : (0 : Int) ≤ 161), (by omega : (161 : Int) < K)⟩) (hr 144 _ rfl) (by decide) ?_
          refine Rn_pure 2 (i' := 80) (L' := [some (2, 161), some (0, x4), some (0, g3 161 19), some (0, x6), some (0, 14 + (2 * x4) + x6 - 1), some (0, x26), some (0, x28), some (0, x30), some (0, x31)]) (st' := [(0, x26), (0, x31), (2, 169)]) rfl ?_
          obtain ⟨hg, h⟩ := h
          refine Rn_iast rfl (⟨rfl, (by omega : (0 : Int) ≤ 169), (by omega : (169 : Int) < K)⟩) hg (fun g32 he_g32 => ?_)
          have h := h g32 he_g32
          refine Rn_pure 1 (i' := 82) (L' := [some (2, 161), some (0, x4), some (0, g3 161 19), some (0, x6), some (0, 14 + (2 * x4) + x6 - 1), some (0, x26), some (0, x28), some (0, x30), some (0, x31)]) (st' := [(2, 161)]) rfl ?_
          refine Rn_getR rfl (⟨rfl, (by omega : (0 : Int) ≤ 161), (by omega : (161 : Int) < K)⟩) (hr 145 _ rfl) (by decide) ?_
          refine Rn_pure 2 (i' := 85) (L' := [some (2, 161), some (0, x4), some (0, g3 161 19), some (0, x6), some (0, 14 + (2 * x4) + x6 - 1), some (0, x26), some (0, x28), some (0, x30), some (0, x31)]) (st' := [(0, x28), (0, x31), (2, 170)]) rfl ?_
          obtain ⟨hg, h⟩ := h
          refine Rn_iast rfl (⟨rfl, (by omega : (0 : Int) ≤ 170), (by omega : (170 : Int) < K)⟩) hg (fun g33 he_g33 => ?_)
          have h := h g33 he_g33
          refine Rn_pure 1 (i' := 87) (L' := [some (2, 161), some (0, x4), some (0, g3 161 19), some (0, x6), some (0, 14 + (2 * x4) + x6 - 1), some (0, x26), some (0, x28), some (0, x30), some (0, x31)]) (st' := [(2, 161)]) rfl ?_
          refine Rn_getR rfl (⟨rfl, (by omega : (0 : Int) ≤ 161), (by omega : (161 : Int) < K)⟩) (hr 146 _ rfl) (by decide) ?_
          refine Rn_pure 2 (i' := 90) (L' := [some (2, 161), some (0, x4), some (0, g3 161 19), some (0, x6), some (0, 14 + (2 * x4) + x6 - 1), some (0, x26), some (0, x28), some (0, x30), some (0, x31)]) (st' := [(0, x30), (0, x31), (2, 171)]) rfl ?_
          obtain ⟨hg, h⟩ := h
          refine Rn_iast rfl (⟨rfl, (by omega : (0 : Int) ≤ 171), (by omega : (171 : Int) < K)⟩) hg (fun g34 he_g34 => ?_)
          have h := h g34 he_g34
          refine Rn_pure 1 (i' := 92) (L' := [some (2, 161), some (0, x4), some (0, g3 161 19), some (0, x6), some (0, 14 + (2 * x4) + x6 - 1), some (0, x26), some (0, x28), some (0, x30), some (0, x31)]) (st' := [(2, 161)]) rfl ?_
          refine Rn_getR rfl (⟨rfl, (by omega : (0 : Int) ≤ 161), (by omega : (161 : Int) < K)⟩) (hr 143 _ rfl) (by decide) ?_
          refine Rn_pure 2 (i' := 95) (L' := [some (2, 161), some (0, x4), some (0, g3 161 19), some (0, x6), some (0, 14 + (2 * x4) + x6 - 1), some (0, x26), some (0, x28), some (0, x30), some (0, x31)]) (st' := [(0, 14 + (2 * x4) + x6 - 1), (2, 168), (0, 14 + (2 * x4) + x6 - 1), (2, 168)]) rfl ?_
          obtain ⟨hg, h⟩ := h
          refine Rn_iald rfl (⟨rfl, (by omega : (0 : Int) ≤ 168), (by omega : (168 : Int) < K)⟩) hg ?_
          refine Rn_pure 2 (i' := 98) (L' := [some (2, 161), some (0, x4), some (0, g3 161 19), some (0, x6), some (0, 14 + (2 * x4) + x6 - 1), some (0, x26), some (0, x28), some (0, x30), some (0, x31)]) (st' := [(0, g34 168 (14 + (2 * x4) + x6 - 1) + 1), (0, 14 + (2 * x4) + x6 - 1), (2, 168)]) rfl ?_
          obtain ⟨hg, h⟩ := h
          refine Rn_iast rfl (⟨rfl, (by omega : (0 : Int) ≤ 168), (by omega : (168 : Int) < K)⟩) hg (fun g35 he_g35 => ?_)
          have h := h g35 he_g35
          exact Rn_ret0 rfl h
        · have h := h.2 hc
          exact Rn_ret0 rfl h
      · have h := h.2 hc
        refine Rn_pure 3 (i' := 56) (L' := [some (2, 161), some (0, x4), some (0, g3 161 19), some (0, x6), some (0, 14 + (2 * x4) + x6 - 1), some (0, x26), some (0, x28), none, none]) (st' := [(0, 3), (0, 1), (2, 161)]) rfl ?_
        refine Rn_callI [(2, 161), (0, 1), (0, 3)] [] rfl rfl rfl rfl (ab_rvB_of rfl (⟨rfl, (by omega : (0 : Int) ≤ 161), (by omega : (161 : Int) < K)⟩)) ?_
        refine h.mono (fun x37 g36 r' h => ?_)
        obtain ⟨hx, h⟩ := h
        replace hx := hx.symm
        subst hx
        refine Rn_pure 3 (i' := 64) (L' := [some (2, 161), some (0, x4), some (0, g3 161 19), some (0, x6), some (0, 14 + (2 * x4) + x6 - 1), some (0, x26), some (0, x28), some (0, x37), none]) (st' := [(2, 161)]) rfl ?_
        refine Rn_getI rfl (⟨rfl, (by omega : (0 : Int) ≤ 161), (by omega : (161 : Int) < K)⟩) ?_
        refine Rn_ifeq rfl (fun hc => ?_) (fun hc => ?_)
        · have h := h.1 hc
          refine Rn_pure 4 (i' := 71) (L' := [some (2, 161), some (0, x4), some (0, g3 161 19), some (0, x6), some (0, 14 + (2 * x4) + x6 - 1), some (0, x26), some (0, x28), some (0, x37), none]) (st' := [(2, 161), (0, x6), (0, x4), (0, 1)]) rfl ?_
          refine Rn_getR rfl (⟨rfl, (by omega : (0 : Int) ≤ 161), (by omega : (161 : Int) < K)⟩) (hr 143 _ rfl) (by decide) ?_
          refine Rn_pure 1 (i' := 73) (L' := [some (2, 161), some (0, x4), some (0, g3 161 19), some (0, x6), some (0, 14 + (2 * x4) + x6 - 1), some (0, x26), some (0, x28), some (0, x37), none]) (st' := [(0, 14 + (2 * x4) + x6 - 1), (2, 168), (0, x6), (0, x4), (0, 1)]) rfl ?_
          obtain ⟨hg, h⟩ := h
          refine Rn_iald rfl (⟨rfl, (by omega : (0 : Int) ≤ 168), (by omega : (168 : Int) < K)⟩) hg ?_
          refine Rn_callI [(0, 1), (0, x4), (0, x6), (0, g36 168 (14 + (2 * x4) + x6 - 1))] [] rfl rfl rfl rfl (rfl) ?_
          refine h.mono (fun x38 g' r' h => ?_)
          obtain ⟨hx, h⟩ := h
          replace hx := hx.symm
          subst hx
          obtain ⟨hx, h⟩ := h
          replace hx := hx.symm
          subst hx
          refine Rn_pure 2 (i' := 77) (L' := [some (2, 161), some (0, x4), some (0, g3 161 19), some (0, x6), some (0, 14 + (2 * x4) + x6 - 1), some (0, x26), some (0, x28), some (0, x37), some (0, x38)]) (st' := [(2, 161)]) rfl ?_
          refine Rn_getR rfl (⟨rfl, (by omega : (0 : Int) ≤ 161), (by omega : (161 : Int) < K)⟩) (hr 144 _ rfl) (by decide) ?_
          refine Rn_pure 2 (i' := 80) (L' := [some (2, 161), some (0, x4), some (0, g3 161 19), some (0, x6), some (0, 14 + (2 * x4) + x6 - 1), some (0, x26), some (0, x28), some (0, x37), some (0, x38)]) (st' := [(0, x26), (0, x38), (2, 169)]) rfl ?_
          obtain ⟨hg, h⟩ := h
          refine Rn_iast rfl (⟨rfl, (by omega : (0 : Int) ≤ 169), (by omega : (169 : Int) < K)⟩) hg (fun g39 he_g39 => ?_)
          have h := h g39 he_g39
          refine Rn_pure 1 (i' := 82) (L' := [some (2, 161), some (0, x4), some (0, g3 161 19), some (0, x6), some (0, 14 + (2 * x4) + x6 - 1), some (0, x26), some (0, x28), some (0, x37), some (0, x38)]) (st' := [(2, 161)]) rfl ?_
          refine Rn_getR rfl (⟨rfl, (by omega : (0 : Int) ≤ 161), (by omega : (161 : Int) < K)⟩) (hr 145 _ rfl) (by decide) ?_
          refine Rn_pure 2 (i' := 85) (L' := [some (2, 161), some (0, x4), some (0, g3 161 19), some (0, x6), some (0, 14 + (2 * x4) + x6 - 1), some (0, x26), some (0, x28), some (0, x37), some (0, x38)]) (st' := [(0, x28), (0, x38), (2, 170)]) rfl ?_
          obtain ⟨hg, h⟩ := h
          refine Rn_iast rfl (⟨rfl, (by omega : (0 : Int) ≤ 170), (by omega : (170 : Int) < K)⟩) hg (fun g40 he_g40 => ?_)
          have h := h g40 he_g40
          refine Rn_pure 1 (i' := 87) (L' := [some (2, 161), some (0, x4), some (0, g3 161 19), some (0, x6), some (0, 14 + (2 * x4) + x6 - 1), some (0, x26), some (0, x28), some (0, x37), some (0, x38)]) (st' := [(2, 161)]) rfl ?_
          refine Rn_getR rfl (⟨rfl, (by omega : (0 : Int) ≤ 161), (by omega : (161 : Int) < K)⟩) (hr 146 _ rfl) (by decide) ?_
          refine Rn_pure 2 (i' := 90) (L' := [some (2, 161), some (0, x4), some (0, g3 161 19), some (0, x6), some (0, 14 + (2 * x4) + x6 - 1), some (0, x26), some (0, x28), some (0, x37), some (0, x38)]) (st' := [(0, x37), (0, x38), (2, 171)]) rfl ?_
          obtain ⟨hg, h⟩ := h
          refine Rn_iast rfl (⟨rfl, (by omega : (0 : Int) ≤ 171), (by omega : (171 : Int) < K)⟩) hg (fun g41 he_g41 => ?_)
          have h := h g41 he_g41
          refine Rn_pure 1 (i' := 92) (L' := [some (2, 161), some (0, x4), some (0, g3 161 19), some (0, x6), some (0, 14 + (2 * x4) + x6 - 1), some (0, x26), some (0, x28), some (0, x37), some (0, x38)]) (st' := [(2, 161)]) rfl ?_
          refine Rn_getR rfl (⟨rfl, (by omega : (0 : Int) ≤ 161), (by omega : (161 : Int) < K)⟩) (hr 143 _ rfl) (by decide) ?_
          refine Rn_pure 2 (i' := 95) (L' := [some (2, 161), some (0, x4), some (0, g3 161 19), some (0, x6), some (0, 14 + (2 * x4) + x6 - 1), some (0, x26), some (0, x28), some (0, x37), some (0, x38)]) (st' := [(0, 14 + (2 * x4) + x6 - 1), (2, 168), (0, 14 + (2 * x4) + x6 - 1), (2, 168)]) rfl ?_
          obtain ⟨hg, h⟩ := h
          refine Rn_iald rfl (⟨rfl, (by omega : (0 : Int) ≤ 168), (by omega : (168 : Int) < K)⟩) hg ?_
          refine Rn_pure 2 (i' := 98) (L' := [some (2, 161), some (0, x4), some (0, g3 161 19), some (0, x6), some (0, 14 + (2 * x4) + x6 - 1), some (0, x26), some (0, x28), some (0, x37), some (0, x38)]) (st' := [(0, g41 168 (14 + (2 * x4) + x6 - 1) + 1), (0, 14 + (2 * x4) + x6 - 1), (2, 168)]) rfl ?_
          obtain ⟨hg, h⟩ := h
          refine Rn_iast rfl (⟨rfl, (by omega : (0 : Int) ≤ 168), (by omega : (168 : Int) < K)⟩) hg (fun g42 he_g42 => ?_)
          have h := h g42 he_g42
          exact Rn_ret0 rfl h
        · have h := h.2 hc
          exact Rn_ret0 rfl h
    · have h := h.2 hc
      refine Rn_pure 2 (i' := 36) (L' := [some (2, 161), some (0, x4), some (0, g3 161 19), some (0, x6), some (0, 14 + (2 * x4) + x6 - 1), none, none, none, none]) (st' := [(0, 2), (2, 161)]) rfl ?_
      refine Rn_putI rfl (⟨rfl, (by omega : (0 : Int) ≤ 161), (by omega : (161 : Int) < K)⟩) (fun g43 he_g43 => ?_)
      have h := h g43 he_g43
      refine Rn_pure 2 (i' := 39) (L' := [some (2, 161), some (0, x4), some (0, g3 161 19), some (0, x6), some (0, 14 + (2 * x4) + x6 - 1), none, none, none, none]) (st' := [(0, g3 161 19), (2, 161)]) rfl ?_
      refine Rn_putI rfl (⟨rfl, (by omega : (0 : Int) ≤ 161), (by omega : (161 : Int) < K)⟩) (fun g44 he_g44 => ?_)
      have h := h g44 he_g44
      refine Rn_pure 3 (i' := 43) (L' := [some (2, 161), some (0, x4), some (0, g3 161 19), some (0, x6), some (0, 14 + (2 * x4) + x6 - 1), none, none, none, none]) (st' := [(0, 11), (0, 8), (2, 161)]) rfl ?_
      refine Rn_callI [(2, 161), (0, 8), (0, 11)] [] rfl rfl rfl rfl (ab_rvB_of rfl (⟨rfl, (by omega : (0 : Int) ≤ 161), (by omega : (161 : Int) < K)⟩)) ?_
      refine h.mono (fun x46 g45 r' h => ?_)
      obtain ⟨hx, h⟩ := h
      replace hx := hx.symm
      subst hx
      refine Rn_pure 4 (i' := 48) (L' := [some (2, 161), some (0, x4), some (0, g3 161 19), some (0, x6), some (0, 14 + (2 * x4) + x6 - 1), some (0, x46), none, none, none]) (st' := [(0, 3), (0, 1), (2, 161)]) rfl ?_
      refine Rn_callI [(2, 161), (0, 1), (0, 3)] [] rfl rfl rfl rfl (ab_rvB_of rfl (⟨rfl, (by omega : (0 : Int) ≤ 161), (by omega : (161 : Int) < K)⟩)) ?_
      refine h.mono (fun x48 g47 r' h => ?_)
      obtain ⟨hx, h⟩ := h
      replace hx := hx.symm
      subst hx
      refine Rn_pure 3 (i' := 52) (L' := [some (2, 161), some (0, x4), some (0, g3 161 19), some (0, x6), some (0, 14 + (2 * x4) + x6 - 1), some (0, x46), some (0, x48), none, none]) (st' := [(0, 11), (0, x46)]) rfl ?_
      refine Rn_icne rfl (fun hc => ?_) (fun hc => ?_)
      · have h := h.1 hc
        refine Rn_pure 3 (i' := 61) (L' := [some (2, 161), some (0, x4), some (0, g3 161 19), some (0, x6), some (0, 14 + (2 * x4) + x6 - 1), some (0, x46), some (0, x48), none, none]) (st' := [(0, 999), (0, 0), (2, 161)]) rfl ?_
        refine Rn_callI [(2, 161), (0, 0), (0, 999)] [] rfl rfl rfl rfl (ab_rvB_of rfl (⟨rfl, (by omega : (0 : Int) ≤ 161), (by omega : (161 : Int) < K)⟩)) ?_
        refine h.mono (fun x50 g49 r' h => ?_)
        obtain ⟨hx, h⟩ := h
        replace hx := hx.symm
        subst hx
        refine Rn_pure 2 (i' := 64) (L' := [some (2, 161), some (0, x4), some (0, g3 161 19), some (0, x6), some (0, 14 + (2 * x4) + x6 - 1), some (0, x46), some (0, x48), some (0, x50), none]) (st' := [(2, 161)]) rfl ?_
        refine Rn_getI rfl (⟨rfl, (by omega : (0 : Int) ≤ 161), (by omega : (161 : Int) < K)⟩) ?_
        refine Rn_ifeq rfl (fun hc => ?_) (fun hc => ?_)
        · have h := h.1 hc
          refine Rn_pure 4 (i' := 71) (L' := [some (2, 161), some (0, x4), some (0, g3 161 19), some (0, x6), some (0, 14 + (2 * x4) + x6 - 1), some (0, x46), some (0, x48), some (0, x50), none]) (st' := [(2, 161), (0, x6), (0, x4), (0, 1)]) rfl ?_
          refine Rn_getR rfl (⟨rfl, (by omega : (0 : Int) ≤ 161), (by omega : (161 : Int) < K)⟩) (hr 143 _ rfl) (by decide) ?_
          refine Rn_pure 1 (i' := 73) (L' := [some (2, 161), some (0, x4), some (0, g3 161 19), some (0, x6), some (0, 14 + (2 * x4) + x6 - 1), some (0, x46), some (0, x48), some (0, x50), none]) (st' := [(0, 14 + (2 * x4) + x6 - 1), (2, 168), (0, x6), (0, x4), (0, 1)]) rfl ?_
          obtain ⟨hg, h⟩ := h
          refine Rn_iald rfl (⟨rfl, (by omega : (0 : Int) ≤ 168), (by omega : (168 : Int) < K)⟩) hg ?_
          refine Rn_callI [(0, 1), (0, x4), (0, x6), (0, g49 168 (14 + (2 * x4) + x6 - 1))] [] rfl rfl rfl rfl (rfl) ?_
          refine h.mono (fun x51 g' r' h => ?_)
          obtain ⟨hx, h⟩ := h
          replace hx := hx.symm
          subst hx
          obtain ⟨hx, h⟩ := h
          replace hx := hx.symm
          subst hx
          refine Rn_pure 2 (i' := 77) (L' := [some (2, 161), some (0, x4), some (0, g3 161 19), some (0, x6), some (0, 14 + (2 * x4) + x6 - 1), some (0, x46), some (0, x48), some (0, x50), some (0, x51)]) (st' := [(2, 161)]) rfl ?_
          refine Rn_getR rfl (⟨rfl, (by omega : (0 : Int) ≤ 161), (by omega : (161 : Int) < K)⟩) (hr 144 _ rfl) (by decide) ?_
          refine Rn_pure 2 (i' := 80) (L' := [some (2, 161), some (0, x4), some (0, g3 161 19), some (0, x6), some (0, 14 + (2 * x4) + x6 - 1), some (0, x46), some (0, x48), some (0, x50), some (0, x51)]) (st' := [(0, x46), (0, x51), (2, 169)]) rfl ?_
          obtain ⟨hg, h⟩ := h
          refine Rn_iast rfl (⟨rfl, (by omega : (0 : Int) ≤ 169), (by omega : (169 : Int) < K)⟩) hg (fun g52 he_g52 => ?_)
          have h := h g52 he_g52
          refine Rn_pure 1 (i' := 82) (L' := [some (2, 161), some (0, x4), some (0, g3 161 19), some (0, x6), some (0, 14 + (2 * x4) + x6 - 1), some (0, x46), some (0, x48), some (0, x50), some (0, x51)]) (st' := [(2, 161)]) rfl ?_
          refine Rn_getR rfl (⟨rfl, (by omega : (0 : Int) ≤ 161), (by omega : (161 : Int) < K)⟩) (hr 145 _ rfl) (by decide) ?_
          refine Rn_pure 2 (i' := 85) (L' := [some (2, 161), some (0, x4), some (0, g3 161 19), some (0, x6), some (0, 14 + (2 * x4) + x6 - 1), some (0, x46), some (0, x48), some (0, x50), some (0, x51)]) (st' := [(0, x48), (0, x51), (2, 170)]) rfl ?_
          obtain ⟨hg, h⟩ := h
          refine Rn_iast rfl (⟨rfl, (by omega : (0 : Int) ≤ 170), (by omega : (170 : Int) < K)⟩) hg (fun g53 he_g53 => ?_)
          have h := h g53 he_g53
          refine Rn_pure 1 (i' := 87) (L' := [some (2, 161), some (0, x4), some (0, g3 161 19), some (0, x6), some (0, 14 + (2 * x4) + x6 - 1), some (0, x46), some (0, x48), some (0, x50), some (0, x51)]) (st' := [(2, 161)]) rfl ?_
          refine Rn_getR rfl (⟨rfl, (by omega : (0 : Int) ≤ 161), (by omega : (161 : Int) < K)⟩) (hr 146 _ rfl) (by decide) ?_
          refine Rn_pure 2 (i' := 90) (L' := [some (2, 161), some (0, x4), some (0, g3 161 19), some (0, x6), some (0, 14 + (2 * x4) + x6 - 1), some (0, x46), some (0, x48), some (0, x50), some (0, x51)]) (st' := [(0, x50), (0, x51), (2, 171)]) rfl ?_
          obtain ⟨hg, h⟩ := h
          refine Rn_iast rfl (⟨rfl, (by omega : (0 : Int) ≤ 171), (by omega : (171 : Int) < K)⟩) hg (fun g54 he_g54 => ?_)
          have h := h g54 he_g54
          refine Rn_pure 1 (i' := 92) (L' := [some (2, 161), some (0, x4), some (0, g3 161 19), some (0, x6), some (0, 14 + (2 * x4) + x6 - 1), some (0, x46), some (0, x48), some (0, x50), some (0, x51)]) (st' := [(2, 161)]) rfl ?_
          refine Rn_getR rfl (⟨rfl, (by omega : (0 : Int) ≤ 161), (by omega : (161 : Int) < K)⟩) (hr 143 _ rfl) (by decide) ?_
          refine Rn_pure 2 (i' := 95) (L' := [some (2, 161), some (0, x4), some (0, g3 161 19), some (0, x6), some (0, 14 + (2 * x4) + x6 - 1), some (0, x46), some (0, x48), some (0, x50), some (0, x51)]) (st' := [(0, 14 + (2 * x4) + x6 - 1), (2, 168), (0, 14 + (2 * x4) + x6 - 1), (2, 168)]) rfl ?_
          obtain ⟨hg, h⟩ := h
          refine Rn_iald rfl (⟨rfl, (by omega : (0 : Int) ≤ 168), (by omega : (168 : Int) < K)⟩) hg ?_
          refine Rn_pure 2 (i' := 98) (L' := [some (2, 161), some (0, x4), some (0, g3 161 19), some (0, x6), some (0, 14 + (2 * x4) + x6 - 1), some (0, x46), some (0, x48), some (0, x50), some (0, x51)]) (st' := [(0, g54 168 (14 + (2 * x4) + x6 - 1) + 1), (0, 14 + (2 * x4) + x6 - 1), (2, 168)]) rfl ?_
          obtain ⟨hg, h⟩ := h
          refine Rn_iast rfl (⟨rfl, (by omega : (0 : Int) ≤ 168), (by omega : (168 : Int) < K)⟩) hg (fun g55 he_g55 => ?_)
          have h := h g55 he_g55
          exact Rn_ret0 rfl h
        · have h := h.2 hc
          exact Rn_ret0 rfl h
      · have h := h.2 hc
        refine Rn_pure 3 (i' := 56) (L' := [some (2, 161), some (0, x4), some (0, g3 161 19), some (0, x6), some (0, 14 + (2 * x4) + x6 - 1), some (0, x46), some (0, x48), none, none]) (st' := [(0, 3), (0, 1), (2, 161)]) rfl ?_
        refine Rn_callI [(2, 161), (0, 1), (0, 3)] [] rfl rfl rfl rfl (ab_rvB_of rfl (⟨rfl, (by omega : (0 : Int) ≤ 161), (by omega : (161 : Int) < K)⟩)) ?_
        refine h.mono (fun x57 g56 r' h => ?_)
        obtain ⟨hx, h⟩ := h
        replace hx := hx.symm
        subst hx
        refine Rn_pure 3 (i' := 64) (L' := [some (2, 161), some (0, x4), some (0, g3 161 19), some (0, x6), some (0, 14 + (2 * x4) + x6 - 1), some (0, x46), some (0, x48), some (0, x57), none]) (st' := [(2, 161)]) rfl ?_
        refine Rn_getI rfl (⟨rfl, (by omega : (0 : Int) ≤ 161), (by omega : (161 : Int) < K)⟩) ?_
        refine Rn_ifeq rfl (fun hc => ?_) (fun hc => ?_)
        · have h := h.1 hc
          refine Rn_pure 4 (i' := 71) (L' := [some (2, 161), some (0, x4), some (0, g3 161 19), some (0, x6), some (0, 14 + (2 * x4) + x6 - 1), some (0, x46), some (0, x48), some (0, x57), none]) (st' := [(2, 161), (0, x6), (0, x4), (0, 1)]) rfl ?_
          refine Rn_getR rfl (⟨rfl, (by omega : (0 : Int) ≤ 161), (by omega : (161 : Int) < K)⟩) (hr 143 _ rfl) (by decide) ?_
          refine Rn_pure 1 (i' := 73) (L' := [some (2, 161), some (0, x4), some (0, g3 161 19), some (0, x6), some (0, 14 + (2 * x4) + x6 - 1), some (0, x46), some (0, x48), some (0, x57), none]) (st' := [(0, 14 + (2 * x4) + x6 - 1), (2, 168), (0, x6), (0, x4), (0, 1)]) rfl ?_
          obtain ⟨hg, h⟩ := h
          refine Rn_iald rfl (⟨rfl, (by omega : (0 : Int) ≤ 168), (by omega : (168 : Int) < K)⟩) hg ?_
          refine Rn_callI [(0, 1), (0, x4), (0, x6), (0, g56 168 (14 + (2 * x4) + x6 - 1))] [] rfl rfl rfl rfl (rfl) ?_
          refine h.mono (fun x58 g' r' h => ?_)
          obtain ⟨hx, h⟩ := h
          replace hx := hx.symm
          subst hx
          obtain ⟨hx, h⟩ := h
          replace hx := hx.symm
          subst hx
          refine Rn_pure 2 (i' := 77) (L' := [some (2, 161), some (0, x4), some (0, g3 161 19), some (0, x6), some (0, 14 + (2 * x4) + x6 - 1), some (0, x46), some (0, x48), some (0, x57), some (0, x58)]) (st' := [(2, 161)]) rfl ?_
          refine Rn_getR rfl (⟨rfl, (by omega : (0 : Int) ≤ 161), (by omega : (161 : Int) < K)⟩) (hr 144 _ rfl) (by decide) ?_
          refine Rn_pure 2 (i' := 80) (L' := [some (2, 161), some (0, x4), some (0, g3 161 19), some (0, x6), some (0, 14 + (2 * x4) + x6 - 1), some (0, x46), some (0, x48), some (0, x57), some (0, x58)]) (st' := [(0, x46), (0, x58), (2, 169)]) rfl ?_
          obtain ⟨hg, h⟩ := h
          refine Rn_iast rfl (⟨rfl, (by omega : (0 : Int) ≤ 169), (by omega : (169 : Int) < K)⟩) hg (fun g59 he_g59 => ?_)
          have h := h g59 he_g59
          refine Rn_pure 1 (i' := 82) (L' := [some (2, 161), some (0, x4), some (0, g3 161 19), some (0, x6), some (0, 14 + (2 * x4) + x6 - 1), some (0, x46), some (0, x48), some (0, x57), some (0, x58)]) (st' := [(2, 161)]) rfl ?_
          refine Rn_getR rfl (⟨rfl, (by omega : (0 : Int) ≤ 161), (by omega : (161 : Int) < K)⟩) (hr 145 _ rfl) (by decide) ?_
          refine Rn_pure 2 (i' := 85) (L' := [some (2, 161), some (0, x4), some (0, g3 161 19), some (0, x6), some (0, 14 + (2 * x4) + x6 - 1), some (0, x46), some (0, x48), some (0, x57), some (0, x58)]) (st' := [(0, x48), (0, x58), (2, 170)]) rfl ?_
          obtain ⟨hg, h⟩ := h
          refine Rn_iast rfl (⟨rfl, (by omega : (0 : Int) ≤ 170), (by omega : (170 : Int) < K)⟩) hg (fun g60 he_g60 => ?_)
          have h := h g60 he_g60
          refine Rn_pure 1 (i' := 87) (L' := [some (2, 161), some (0, x4), some (0, g3 161 19), some (0, x6), some (0, 14 + (2 * x4) + x6 - 1), some (0, x46), some (0, x48), some (0, x57), some (0, x58)]) (st' := [(2, 161)]) rfl ?_
          refine Rn_getR rfl (⟨rfl, (by omega : (0 : Int) ≤ 161), (by omega : (161 : Int) < K)⟩) (hr 146 _ rfl) (by decide) ?_
          refine Rn_pure 2 (i' := 90) (L' := [some (2, 161), some (0, x4), some (0, g3 161 19), some (0, x6), some (0, 14 + (2 * x4) + x6 - 1), some (0, x46), some (0, x48), some (0, x57), some (0, x58)]) (st' := [(0, x57), (0, x58), (2, 171)]) rfl ?_
          obtain ⟨hg, h⟩ := h
          refine Rn_iast rfl (⟨rfl, (by omega : (0 : Int) ≤ 171), (by omega : (171 : Int) < K)⟩) hg (fun g61 he_g61 => ?_)
          have h := h g61 he_g61
          refine Rn_pure 1 (i' := 92) (L' := [some (2, 161), some (0, x4), some (0, g3 161 19), some (0, x6), some (0, 14 + (2 * x4) + x6 - 1), some (0, x46), some (0, x48), some (0, x57), some (0, x58)]) (st' := [(2, 161)]) rfl ?_
          refine Rn_getR rfl (⟨rfl, (by omega : (0 : Int) ≤ 161), (by omega : (161 : Int) < K)⟩) (hr 143 _ rfl) (by decide) ?_
          refine Rn_pure 2 (i' := 95) (L' := [some (2, 161), some (0, x4), some (0, g3 161 19), some (0, x6), some (0, 14 + (2 * x4) + x6 - 1), some (0, x46), some (0, x48), some (0, x57), some (0, x58)]) (st' := [(0, 14 + (2 * x4) + x6 - 1), (2, 168), (0, 14 + (2 * x4) + x6 - 1), (2, 168)]) rfl ?_
          obtain ⟨hg, h⟩ := h
          refine Rn_iald rfl (⟨rfl, (by omega : (0 : Int) ≤ 168), (by omega : (168 : Int) < K)⟩) hg ?_
          refine Rn_pure 2 (i' := 98) (L' := [some (2, 161), some (0, x4), some (0, g3 161 19), some (0, x6), some (0, 14 + (2 * x4) + x6 - 1), some (0, x46), some (0, x48), some (0, x57), some (0, x58)]) (st' := [(0, g61 168 (14 + (2 * x4) + x6 - 1) + 1), (0, 14 + (2 * x4) + x6 - 1), (2, 168)]) rfl ?_
          obtain ⟨hg, h⟩ := h
          refine Rn_iast rfl (⟨rfl, (by omega : (0 : Int) ≤ 168), (by omega : (168 : Int) < K)⟩) hg (fun g62 he_g62 => ?_)
          have h := h g62 he_g62
          exact Rn_ret0 rfl h
        · have h := h.2 hc
          exact Rn_ret0 rfl h
-- EventLedgerModel.readTally ()V
theorem v_M_readTally {K : Int} {S : Nat} {g r : ab_H} (P : ab_H → ab_H → Prop) (hr : SI r) (hK : 185 ≤ K) (h : ab_RI m_M_reading [(2, 161), (0, 1)] K S g r (fun x1 g' r' => g' = g ∧ r' = r ∧ (((¬ wr (4 + x1) = wr 8 → ab_RI m_M_reading [(2, 161), (0, 1)] K S g r (fun x2 g' r' => g' = g ∧ r' = r ∧ (ab_RV m_M_newName [(2, 161), (2, 165), (0, 4), (0, x2)] K S g r (fun g3 r' => r' = r ∧ (ab_RI m_M_wordOf [(2, 161), (0, 0), (0, 6)] K S g3 r (fun x6 g5 r' => r' = r ∧ (ab_RI m_M_numeral [(2, 161), (0, 1), (0, 3)] K S g5 r (fun x8 g7 r' => r' = r ∧ (((wr (g7 161 22) = wr 0 → ((0 : Int) ≤ 4 + x1 ∧ (4 + x1 : Int) < 8) ∧ ∀ g9, g9 = ab_up g7 166 (4 + x1) x6 → ((0 : Int) ≤ 4 + x1 ∧ (4 + x1 : Int) < 8) ∧ ∀ g10, g10 = ab_up g9 167 (4 + x1) x8 → ab_RI m_M_reading [(2, 161), (0, 1)] K S g10 r (fun x11 g' r' => g' = g10 ∧ r' = r ∧ (ab_RV m_M_reads [(2, 161), (0, 1), (0, x11 + 1)] K S g10 r (fun g12 r' => r' = r ∧ (P g12 r))))) ∧ (¬ wr (g7 161 22) = wr 0 → P g7 r))))))))))) ∧ (wr (4 + x1) = wr 8 → ab_RV m_M_wrong [(2, 161), (0, 2)] K S g r (fun g14 r' => r' = r ∧ (ab_RI m_M_reading [(2, 161), (0, 1)] K S g14 r (fun x16 g' r' => g' = g14 ∧ r' = r ∧ (ab_RV m_M_newName [(2, 161), (2, 165), (0, 4), (0, x16)] K S g14 r (fun g17 r' => r' = r ∧ (ab_RI m_M_wordOf [(2, 161), (0, 0), (0, 6)] K S g17 r (fun x20 g19 r' => r' = r ∧ (ab_RI m_M_numeral [(2, 161), (0, 1), (0, 3)] K S g19 r (fun x22 g21 r' => r' = r ∧ (((wr (g21 161 22) = wr 0 → ((0 : Int) ≤ 4 + x1 ∧ (4 + x1 : Int) < 8) ∧ ∀ g23, g23 = ab_up g21 166 (4 + x1) x20 → ((0 : Int) ≤ 4 + x1 ∧ (4 + x1 : Int) < 8) ∧ ∀ g24, g24 = ab_up g23 167 (4 + x1) x22 → ab_RI m_M_reading [(2, 161), (0, 1)] K S g24 r (fun x25 g' r' => g' = g24 ∧ r' = r ∧ (ab_RV m_M_reads [(2, 161), (0, 1), (0, x25 + 1)] K S g24 r (fun g26 r' => r' = r ∧ (P g26 r))))) ∧ (¬ wr (g21 161 22) = wr 0 → P g21 r))))))))))))))))) : ab_RV m_M_readTally [(2, 161)] K S g r P := by
  show ab_Rn m_M_readTally 0 [some (2, 161), none, none, none] [] (K, S, g, r) (ab_Qv K S P)
  refine Rn_pure 3 (i' := 3) (L' := [some (2, 161), none, none, none]) (st' := [(0, 1), (2, 161), (0, 4)]) rfl ?_
  refine Rn_callI [(2, 161), (0, 1)] [(0, 4)] rfl rfl rfl rfl (ab_rvB_of rfl (⟨rfl, (by omega : (0 : Int) ≤ 161), (by omega : (161 : Int) < K)⟩)) ?_
  refine h.mono (fun x1 g' r' h => ?_)
  obtain ⟨hx, h⟩ := h
  replace hx := hx.symm
  subst hx
  obtain ⟨hx, h⟩ := h
  replace hx := hx.symm
  subst hx
  refine Rn_pure 4 (i' := 8) (L' := [some (2, 161), some (0, 4 + x1), none, none]) (st' := [(0, 8), (0, 4 + x1)]) rfl ?_
  refine Rn_icne rfl (fun hc => ?_) (fun hc => ?_)
  · have h := h.1 hc
    refine Rn_pure 2 (i' := 14) (L' := [some (2, 161), some (0, 4 + x1), none, none]) (st' := [(2, 161), (2, 161)]) rfl ?_
    refine Rn_getR rfl (⟨rfl, (by omega : (0 : Int) ≤ 161), (by omega : (161 : Int) < K)⟩) (hr 140 _ rfl) (by decide) ?_
    refine Rn_pure 3 (i' := 18) (L' := [some (2, 161), some (0, 4 + x1), none, none]) (st' := [(0, 1), (2, 161), (0, 4), (2, 165), (2, 161)]) rfl ?_
    refine Rn_callI [(2, 161), (0, 1)] [(0, 4), (2, 165), (2, 161)] rfl rfl rfl rfl (ab_rvB_of rfl (⟨rfl, (by omega : (0 : Int) ≤ 161), (by omega : (161 : Int) < K)⟩)) ?_
    refine h.mono (fun x2 g' r' h => ?_)
    obtain ⟨hx, h⟩ := h
    replace hx := hx.symm
    subst hx
    obtain ⟨hx, h⟩ := h
    replace hx := hx.symm
    subst hx
    refine Rn_callV [(2, 161), (2, 165), (0, 4), (0, x2)] [] rfl rfl rfl rfl (ab_rvB_of rfl (⟨rfl, (by omega : (0 : Int) ≤ 161), (by omega : (161 : Int) < K)⟩)) ?_
    refine h.mono (fun g3 r' h => ?_)
    obtain ⟨hx, h⟩ := h
    replace hx := hx.symm
    subst hx
    refine Rn_pure 3 (i' := 23) (L' := [some (2, 161), some (0, 4 + x1), none, none]) (st' := [(0, 6), (0, 0), (2, 161)]) rfl ?_
    refine Rn_callI [(2, 161), (0, 0), (0, 6)] [] rfl rfl rfl rfl (ab_rvB_of rfl (⟨rfl, (by omega : (0 : Int) ≤ 161), (by omega : (161 : Int) < K)⟩)) ?_
    refine h.mono (fun x6 g5 r' h => ?_)
    obtain ⟨hx, h⟩ := h
    replace hx := hx.symm
    subst hx
    refine Rn_pure 4 (i' := 28) (L' := [some (2, 161), some (0, 4 + x1), some (0, x6), none]) (st' := [(0, 3), (0, 1), (2, 161)]) rfl ?_
    refine Rn_callI [(2, 161), (0, 1), (0, 3)] [] rfl rfl rfl rfl (ab_rvB_of rfl (⟨rfl, (by omega : (0 : Int) ≤ 161), (by omega : (161 : Int) < K)⟩)) ?_
    refine h.mono (fun x8 g7 r' h => ?_)
    obtain ⟨hx, h⟩ := h
    replace hx := hx.symm
    subst hx
    refine Rn_pure 2 (i' := 31) (L' := [some (2, 161), some (0, 4 + x1), some (0, x6), some (0, x8)]) (st' := [(2, 161)]) rfl ?_
    refine Rn_getI rfl (⟨rfl, (by omega : (0 : Int) ≤ 161), (by omega : (161 : Int) < K)⟩) ?_
    refine Rn_ifeq rfl (fun hc => ?_) (fun hc => ?_)
    · have h := h.1 hc
      refine Rn_pure 1 (i' := 35) (L' := [some (2, 161), some (0, 4 + x1), some (0, x6), some (0, x8)]) (st' := [(2, 161)]) rfl ?_
      refine Rn_getR rfl (⟨rfl, (by omega : (0 : Int) ≤ 161), (by omega : (161 : Int) < K)⟩) (hr 141 _ rfl) (by decide) ?_
      refine Rn_pure 2 (i' := 38) (L' := [some (2, 161), some (0, 4 + x1), some (0, x6), some (0, x8)]) (st' := [(0, x6), (0, 4 + x1), (2, 166)]) rfl ?_
      obtain ⟨hg, h⟩ := h
      refine Rn_iast rfl (⟨rfl, (by omega : (0 : Int) ≤ 166), (by omega : (166 : Int) < K)⟩) hg (fun g9 he_g9 => ?_)
      have h := h g9 he_g9
      refine Rn_pure 1 (i' := 40) (L' := [some (2, 161), some (0, 4 + x1), some (0, x6), some (0, x8)]) (st' := [(2, 161)]) rfl ?_
      refine Rn_getR rfl (⟨rfl, (by omega : (0 : Int) ≤ 161), (by omega : (161 : Int) < K)⟩) (hr 142 _ rfl) (by decide) ?_
      refine Rn_pure 2 (i' := 43) (L' := [some (2, 161), some (0, 4 + x1), some (0, x6), some (0, x8)]) (st' := [(0, x8), (0, 4 + x1), (2, 167)]) rfl ?_
      obtain ⟨hg, h⟩ := h
      refine Rn_iast rfl (⟨rfl, (by omega : (0 : Int) ≤ 167), (by omega : (167 : Int) < K)⟩) hg (fun g10 he_g10 => ?_)
      have h := h g10 he_g10
      refine Rn_pure 4 (i' := 48) (L' := [some (2, 161), some (0, 4 + x1), some (0, x6), some (0, x8)]) (st' := [(0, 1), (2, 161), (0, 1), (2, 161)]) rfl ?_
      refine Rn_callI [(2, 161), (0, 1)] [(0, 1), (2, 161)] rfl rfl rfl rfl (ab_rvB_of rfl (⟨rfl, (by omega : (0 : Int) ≤ 161), (by omega : (161 : Int) < K)⟩)) ?_
      refine h.mono (fun x11 g' r' h => ?_)
      obtain ⟨hx, h⟩ := h
      replace hx := hx.symm
      subst hx
      obtain ⟨hx, h⟩ := h
      replace hx := hx.symm
      subst hx
      refine Rn_pure 2 (i' := 51) (L' := [some (2, 161), some (0, 4 + x1), some (0, x6), some (0, x8)]) (st' := [(0, x11 + 1), (0, 1), (2, 161)]) rfl ?_
      refine Rn_callV [(2, 161), (0, 1), (0, x11 + 1)] [] rfl rfl rfl rfl (ab_rvB_of rfl (⟨rfl, (by omega : (0 : Int) ≤ 161), (by omega : (161 : Int) < K)⟩)) ?_
      refine h.mono (fun g12 r' h => ?_)
      obtain ⟨hx, h⟩ := h
      replace hx := hx.symm
      subst hx
      exact Rn_ret0 rfl h
    · have h := h.2 hc
      exact Rn_ret0 rfl h
  · have h := h.2 hc
    refine Rn_pure 2 (i' := 11) (L' := [some (2, 161), some (0, 4 + x1), none, none]) (st' := [(0, 2), (2, 161)]) rfl ?_
    refine Rn_callV [(2, 161), (0, 2)] [] rfl rfl rfl rfl (ab_rvB_of rfl (⟨rfl, (by omega : (0 : Int) ≤ 161), (by omega : (161 : Int) < K)⟩)) ?_
    refine h.mono (fun g14 r' h => ?_)
    obtain ⟨hx, h⟩ := h
    replace hx := hx.symm
    subst hx
    refine Rn_pure 2 (i' := 14) (L' := [some (2, 161), some (0, 4 + x1), none, none]) (st' := [(2, 161), (2, 161)]) rfl ?_
    refine Rn_getR rfl (⟨rfl, (by omega : (0 : Int) ≤ 161), (by omega : (161 : Int) < K)⟩) (hr 140 _ rfl) (by decide) ?_
    refine Rn_pure 3 (i' := 18) (L' := [some (2, 161), some (0, 4 + x1), none, none]) (st' := [(0, 1), (2, 161), (0, 4), (2, 165), (2, 161)]) rfl ?_
    refine Rn_callI [(2, 161), (0, 1)] [(0, 4), (2, 165), (2, 161)] rfl rfl rfl rfl (ab_rvB_of rfl (⟨rfl, (by omega : (0 : Int) ≤ 161), (by omega : (161 : Int) < K)⟩)) ?_
    refine h.mono (fun x16 g' r' h => ?_)
    obtain ⟨hx, h⟩ := h
    replace hx := hx.symm
    subst hx
    obtain ⟨hx, h⟩ := h
    replace hx := hx.symm
    subst hx
    refine Rn_callV [(2, 161), (2, 165), (0, 4), (0, x16)] [] rfl rfl rfl rfl (ab_rvB_of rfl (⟨rfl, (by omega : (0 : Int) ≤ 161), (by omega : (161 : Int) < K)⟩)) ?_
    refine h.mono (fun g17 r' h => ?_)
    obtain ⟨hx, h⟩ := h
    replace hx := hx.symm
    subst hx
    refine Rn_pure 3 (i' := 23) (L' := [some (2, 161), some (0, 4 + x1), none, none]) (st' := [(0, 6), (0, 0), (2, 161)]) rfl ?_
    refine Rn_callI [(2, 161), (0, 0), (0, 6)] [] rfl rfl rfl rfl (ab_rvB_of rfl (⟨rfl, (by omega : (0 : Int) ≤ 161), (by omega : (161 : Int) < K)⟩)) ?_
    refine h.mono (fun x20 g19 r' h => ?_)
    obtain ⟨hx, h⟩ := h
    replace hx := hx.symm
    subst hx
    refine Rn_pure 4 (i' := 28) (L' := [some (2, 161), some (0, 4 + x1), some (0, x20), none]) (st' := [(0, 3), (0, 1), (2, 161)]) rfl ?_
    refine Rn_callI [(2, 161), (0, 1), (0, 3)] [] rfl rfl rfl rfl (ab_rvB_of rfl (⟨rfl, (by omega : (0 : Int) ≤ 161), (by omega : (161 : Int) < K)⟩)) ?_
    refine h.mono (fun x22 g21 r' h => ?_)
    obtain ⟨hx, h⟩ := h
    replace hx := hx.symm
    subst hx
    refine Rn_pure 2 (i' := 31) (L' := [some (2, 161), some (0, 4 + x1), some (0, x20), some (0, x22)]) (st' := [(2, 161)]) rfl ?_
    refine Rn_getI rfl (⟨rfl, (by omega : (0 : Int) ≤ 161), (by omega : (161 : Int) < K)⟩) ?_
    refine Rn_ifeq rfl (fun hc => ?_) (fun hc => ?_)
    · have h := h.1 hc
      refine Rn_pure 1 (i' := 35) (L' := [some (2, 161), some (0, 4 + x1), some (0, x20), some (0, x22)]) (st' := [(2, 161)]) rfl ?_
      refine Rn_getR rfl (⟨rfl, (by omega : (0 : Int) ≤ 161), (by omega : (161 : Int) < K)⟩) (hr 141 _ rfl) (by decide) ?_
      refine Rn_pure 2 (i' := 38) (L' := [some (2, 161), some (0, 4 + x1), some (0, x20), some (0, x22)]) (st' := [(0, x20), (0, 4 + x1), (2, 166)]) rfl ?_
      obtain ⟨hg, h⟩ := h
      refine Rn_iast rfl (⟨rfl, (by omega : (0 : Int) ≤ 166), (by omega : (166 : Int) < K)⟩) hg (fun g23 he_g23 => ?_)
      have h := h g23 he_g23
      refine Rn_pure 1 (i' := 40) (L' := [some (2, 161), some (0, 4 + x1), some (0, x20), some (0, x22)]) (st' := [(2, 161)]) rfl ?_
      refine Rn_getR rfl (⟨rfl, (by omega : (0 : Int) ≤ 161), (by omega : (161 : Int) < K)⟩) (hr 142 _ rfl) (by decide) ?_
      refine Rn_pure 2 (i' := 43) (L' := [some (2, 161), some (0, 4 + x1), some (0, x20), some (0, x22)]) (st' := [(0, x22), (0, 4 + x1), (2, 167)]) rfl ?_
      obtain ⟨hg, h⟩ := h
      refine Rn_iast rfl (⟨rfl, (by omega : (0 : Int) ≤ 167), (by omega : (167 : Int) < K)⟩) hg (fun g24 he_g24 => ?_)
      have h := h g24 he_g24
      refine Rn_pure 4 (i' := 48) (L' := [some (2, 161), some (0, 4 + x1), some (0, x20), some (0, x22)]) (st' := [(0, 1), (2, 161), (0, 1), (2, 161)]) rfl ?_
      refine Rn_callI [(2, 161), (0, 1)] [(0, 1), (2, 161)] rfl rfl rfl rfl (ab_rvB_of rfl (⟨rfl, (by omega : (0 : Int) ≤ 161), (by omega : (161 : Int) < K)⟩)) ?_
      refine h.mono (fun x25 g' r' h => ?_)
      obtain ⟨hx, h⟩ := h
      replace hx := hx.symm
      subst hx
      obtain ⟨hx, h⟩ := h
      replace hx := hx.symm
      subst hx
      refine Rn_pure 2 (i' := 51) (L' := [some (2, 161), some (0, 4 + x1), some (0, x20), some (0, x22)]) (st' := [(0, x25 + 1), (0, 1), (2, 161)]) rfl ?_
      refine Rn_callV [(2, 161), (0, 1), (0, x25 + 1)] [] rfl rfl rfl rfl (ab_rvB_of rfl (⟨rfl, (by omega : (0 : Int) ≤ 161), (by omega : (161 : Int) < K)⟩)) ?_
      refine h.mono (fun g26 r' h => ?_)
      obtain ⟨hx, h⟩ := h
      replace hx := hx.symm
      subst hx
      exact Rn_ret0 rfl h
    · have h := h.2 hc
      exact Rn_ret0 rfl h
-- EventLedgerModel.readSnap ()V
theorem v_M_readSnap {K : Int} {S : Nat} {g r : ab_H} (P : ab_H → ab_H → Prop) (hr : SI r) (hK : 185 ≤ K) (h : ((wr (g 161 14) = wr 0 → ∀ g1, g1 = ab_up g 161 14 1 → ab_RV m_M_goOn [(2, 161)] K S g1 r (fun g2 r' => r' = r ∧ (ab_RI m_M_numeral [(2, 161), (0, 1), (0, 999)] K S g2 r (fun x5 g4 r' => r' = r ∧ (ab_RV m_M_reads [(2, 161), (0, 2), (0, x5)] K S g4 r (fun g6 r' => r' = r ∧ (ab_RI m_M_numeral [(2, 161), (0, 0), (0, 6)] K S g6 r (fun x9 g8 r' => r' = r ∧ (ab_RV m_M_reads [(2, 161), (0, 3), (0, x9)] K S g8 r (fun g10 r' => r' = r ∧ (P g10 r))))))))))) ∧ (¬ wr (g 161 14) = wr 0 → ab_RV m_M_wrong [(2, 161), (0, 3)] K S g r (fun g12 r' => r' = r ∧ (∀ g14, g14 = ab_up g12 161 14 1 → ab_RV m_M_goOn [(2, 161)] K S g14 r (fun g15 r' => r' = r ∧ (ab_RI m_M_numeral [(2, 161), (0, 1), (0, 999)] K S g15 r (fun x18 g17 r' => r' = r ∧ (ab_RV m_M_reads [(2, 161), (0, 2), (0, x18)] K S g17 r (fun g19 r' => r' = r ∧ (ab_RI m_M_numeral [(2, 161), (0, 0), (0, 6)] K S g19 r (fun x22 g21 r' => r' = r ∧ (ab_RV m_M_reads [(2, 161), (0, 3), (0, x22)] K S g21 r (fun g23 r' => r' = r ∧ (P g23 r))))))))))))))) : ab_RV m_M_readSnap [(2, 161)] K S g r P := by
  show ab_Rn m_M_readSnap 0 [some (2, 161)] [] (K, S, g, r) (ab_Qv K S P)
  refine Rn_pure 1 (i' := 1) (L' := [some (2, 161)]) (st' := [(2, 161)]) rfl ?_
  refine Rn_getI rfl (⟨rfl, (by omega : (0 : Int) ≤ 161), (by omega : (161 : Int) < K)⟩) ?_
  refine Rn_ifeq rfl (fun hc => ?_) (fun hc => ?_)
  · have h := h.1 hc
    refine Rn_pure 2 (i' := 8) (L' := [some (2, 161)]) (st' := [(0, 1), (2, 161)]) rfl ?_
    refine Rn_putZ rfl (⟨rfl, (by omega : (0 : Int) ≤ 161), (by omega : (161 : Int) < K)⟩) (by decide) (fun g1 he_g1 => ?_)
    have h := h g1 he_g1
    refine Rn_pure 1 (i' := 10) (L' := [some (2, 161)]) (st' := [(2, 161)]) rfl ?_
    refine Rn_callV [(2, 161)] [] rfl rfl rfl rfl (ab_rvB_of rfl (⟨rfl, (by omega : (0 : Int) ≤ 161), (by omega : (161 : Int) < K)⟩)) ?_
    refine h.mono (fun g2 r' h => ?_)
    obtain ⟨hx, h⟩ := h
    replace hx := hx.symm
    subst hx
    refine Rn_pure 5 (i' := 16) (L' := [some (2, 161)]) (st' := [(0, 999), (0, 1), (2, 161), (0, 2), (2, 161)]) rfl ?_
    refine Rn_callI [(2, 161), (0, 1), (0, 999)] [(0, 2), (2, 161)] rfl rfl rfl rfl (ab_rvB_of rfl (⟨rfl, (by omega : (0 : Int) ≤ 161), (by omega : (161 : Int) < K)⟩)) ?_
    refine h.mono (fun x5 g4 r' h => ?_)
    obtain ⟨hx, h⟩ := h
    replace hx := hx.symm
    subst hx
    refine Rn_callV [(2, 161), (0, 2), (0, x5)] [] rfl rfl rfl rfl (ab_rvB_of rfl (⟨rfl, (by omega : (0 : Int) ≤ 161), (by omega : (161 : Int) < K)⟩)) ?_
    refine h.mono (fun g6 r' h => ?_)
    obtain ⟨hx, h⟩ := h
    replace hx := hx.symm
    subst hx
    refine Rn_pure 5 (i' := 23) (L' := [some (2, 161)]) (st' := [(0, 6), (0, 0), (2, 161), (0, 3), (2, 161)]) rfl ?_
    refine Rn_callI [(2, 161), (0, 0), (0, 6)] [(0, 3), (2, 161)] rfl rfl rfl rfl (ab_rvB_of rfl (⟨rfl, (by omega : (0 : Int) ≤ 161), (by omega : (161 : Int) < K)⟩)) ?_
    refine h.mono (fun x9 g8 r' h => ?_)
    obtain ⟨hx, h⟩ := h
    replace hx := hx.symm
    subst hx
    refine Rn_callV [(2, 161), (0, 3), (0, x9)] [] rfl rfl rfl rfl (ab_rvB_of rfl (⟨rfl, (by omega : (0 : Int) ≤ 161), (by omega : (161 : Int) < K)⟩)) ?_
    refine h.mono (fun g10 r' h => ?_)
    obtain ⟨hx, h⟩ := h
    replace hx := hx.symm
    subst hx
    exact Rn_ret0 rfl h
  · have h := h.2 hc
    refine Rn_pure 2 (i' := 5) (L' := [some (2, 161)]) (st' := [(0, 3), (2, 161)]) rfl ?_
    refine Rn_callV [(2, 161), (0, 3)] [] rfl rfl rfl rfl (ab_rvB_of rfl (⟨rfl, (by omega : (0 : Int) ≤ 161), (by omega : (161 : Int) < K)⟩)) ?_
    refine h.mono (fun g12 r' h => ?_)
    obtain ⟨hx, h⟩ := h
    replace hx := hx.symm
    subst hx
    refine Rn_pure 2 (i' := 8) (L' := [some (2, 161)]) (st' := [(0, 1), (2, 161)]) rfl ?_
    refine Rn_putZ rfl (⟨rfl, (by omega : (0 : Int) ≤ 161), (by omega : (161 : Int) < K)⟩) (by decide) (fun g14 he_g14 => ?_)
    have h := h g14 he_g14
    refine Rn_pure 1 (i' := 10) (L' := [some (2, 161)]) (st' := [(2, 161)]) rfl ?_
    refine Rn_callV [(2, 161)] [] rfl rfl rfl rfl (ab_rvB_of rfl (⟨rfl, (by omega : (0 : Int) ≤ 161), (by omega : (161 : Int) < K)⟩)) ?_
    refine h.mono (fun g15 r' h => ?_)
    obtain ⟨hx, h⟩ := h
    replace hx := hx.symm
    subst hx
    refine Rn_pure 5 (i' := 16) (L' := [some (2, 161)]) (st' := [(0, 999), (0, 1), (2, 161), (0, 2), (2, 161)]) rfl ?_
    refine Rn_callI [(2, 161), (0, 1), (0, 999)] [(0, 2), (2, 161)] rfl rfl rfl rfl (ab_rvB_of rfl (⟨rfl, (by omega : (0 : Int) ≤ 161), (by omega : (161 : Int) < K)⟩)) ?_
    refine h.mono (fun x18 g17 r' h => ?_)
    obtain ⟨hx, h⟩ := h
    replace hx := hx.symm
    subst hx
    refine Rn_callV [(2, 161), (0, 2), (0, x18)] [] rfl rfl rfl rfl (ab_rvB_of rfl (⟨rfl, (by omega : (0 : Int) ≤ 161), (by omega : (161 : Int) < K)⟩)) ?_
    refine h.mono (fun g19 r' h => ?_)
    obtain ⟨hx, h⟩ := h
    replace hx := hx.symm
    subst hx
    refine Rn_pure 5 (i' := 23) (L' := [some (2, 161)]) (st' := [(0, 6), (0, 0), (2, 161), (0, 3), (2, 161)]) rfl ?_
    refine Rn_callI [(2, 161), (0, 0), (0, 6)] [(0, 3), (2, 161)] rfl rfl rfl rfl (ab_rvB_of rfl (⟨rfl, (by omega : (0 : Int) ≤ 161), (by omega : (161 : Int) < K)⟩)) ?_
    refine h.mono (fun x22 g21 r' h => ?_)
    obtain ⟨hx, h⟩ := h
    replace hx := hx.symm
    subst hx
    refine Rn_callV [(2, 161), (0, 3), (0, x22)] [] rfl rfl rfl rfl (ab_rvB_of rfl (⟨rfl, (by omega : (0 : Int) ≤ 161), (by omega : (161 : Int) < K)⟩)) ?_
    refine h.mono (fun g23 r' h => ?_)
    obtain ⟨hx, h⟩ := h
    replace hx := hx.symm
    subst hx
    exact Rn_ret0 rfl h
-- EventLedgerModel.readSeed ()V
theorem v_M_readSeed {K : Int} {S : Nat} {g r : ab_H} (P : ab_H → ab_H → Prop) (hr : SI r) (hK : 185 ≤ K) (h : ((wr (g 161 15) = wr 0 → ∀ g1, g1 = ab_up g 161 15 1 → ab_RV m_M_goOn [(2, 161)] K S g1 r (fun g2 r' => r' = r ∧ (ab_RI m_M_numeral [(2, 161), (0, 0), (0, 99999)] K S g2 r (fun x5 g4 r' => r' = r ∧ (ab_RV m_M_reads [(2, 161), (0, 4), (0, x5)] K S g4 r (fun g6 r' => r' = r ∧ (P g6 r))))))) ∧ (¬ wr (g 161 15) = wr 0 → ab_RV m_M_wrong [(2, 161), (0, 3)] K S g r (fun g8 r' => r' = r ∧ (∀ g10, g10 = ab_up g8 161 15 1 → ab_RV m_M_goOn [(2, 161)] K S g10 r (fun g11 r' => r' = r ∧ (ab_RI m_M_numeral [(2, 161), (0, 0), (0, 99999)] K S g11 r (fun x14 g13 r' => r' = r ∧ (ab_RV m_M_reads [(2, 161), (0, 4), (0, x14)] K S g13 r (fun g15 r' => r' = r ∧ (P g15 r))))))))))) : ab_RV m_M_readSeed [(2, 161)] K S g r P := by
  show ab_Rn m_M_readSeed 0 [some (2, 161)] [] (K, S, g, r) (ab_Qv K S P)
  refine Rn_pure 1 (i' := 1) (L' := [some (2, 161)]) (st' := [(2, 161)]) rfl ?_
  refine Rn_getI rfl (⟨rfl, (by omega : (0 : Int) ≤ 161), (by omega : (161 : Int) < K)⟩) ?_
  refine Rn_ifeq rfl (fun hc => ?_) (fun hc => ?_)
  · have h := h.1 hc
    refine Rn_pure 2 (i' := 8) (L' := [some (2, 161)]) (st' := [(0, 1), (2, 161)]) rfl ?_
    refine Rn_putZ rfl (⟨rfl, (by omega : (0 : Int) ≤ 161), (by omega : (161 : Int) < K)⟩) (by decide) (fun g1 he_g1 => ?_)
    have h := h g1 he_g1
    refine Rn_pure 1 (i' := 10) (L' := [some (2, 161)]) (st' := [(2, 161)]) rfl ?_
    refine Rn_callV [(2, 161)] [] rfl rfl rfl rfl (ab_rvB_of rfl (⟨rfl, (by omega : (0 : Int) ≤ 161), (by omega : (161 : Int) < K)⟩)) ?_
    refine h.mono (fun g2 r' h => ?_)
    obtain ⟨hx, h⟩ := h
    replace hx := hx.symm
    subst hx
    refine Rn_pure 5 (i' := 16) (L' := [some (2, 161)]) (st' := [(0, 99999), (0, 0), (2, 161), (0, 4), (2, 161)]) rfl ?_
    refine Rn_callI [(2, 161), (0, 0), (0, 99999)] [(0, 4), (2, 161)] rfl rfl rfl rfl (ab_rvB_of rfl (⟨rfl, (by omega : (0 : Int) ≤ 161), (by omega : (161 : Int) < K)⟩)) ?_
    refine h.mono (fun x5 g4 r' h => ?_)
    obtain ⟨hx, h⟩ := h
    replace hx := hx.symm
    subst hx
    refine Rn_callV [(2, 161), (0, 4), (0, x5)] [] rfl rfl rfl rfl (ab_rvB_of rfl (⟨rfl, (by omega : (0 : Int) ≤ 161), (by omega : (161 : Int) < K)⟩)) ?_
    refine h.mono (fun g6 r' h => ?_)
    obtain ⟨hx, h⟩ := h
    replace hx := hx.symm
    subst hx
    exact Rn_ret0 rfl h
  · have h := h.2 hc
    refine Rn_pure 2 (i' := 5) (L' := [some (2, 161)]) (st' := [(0, 3), (2, 161)]) rfl ?_
    refine Rn_callV [(2, 161), (0, 3)] [] rfl rfl rfl rfl (ab_rvB_of rfl (⟨rfl, (by omega : (0 : Int) ≤ 161), (by omega : (161 : Int) < K)⟩)) ?_
    refine h.mono (fun g8 r' h => ?_)
    obtain ⟨hx, h⟩ := h
    replace hx := hx.symm
    subst hx
    refine Rn_pure 2 (i' := 8) (L' := [some (2, 161)]) (st' := [(0, 1), (2, 161)]) rfl ?_
    refine Rn_putZ rfl (⟨rfl, (by omega : (0 : Int) ≤ 161), (by omega : (161 : Int) < K)⟩) (by decide) (fun g10 he_g10 => ?_)
    have h := h g10 he_g10
    refine Rn_pure 1 (i' := 10) (L' := [some (2, 161)]) (st' := [(2, 161)]) rfl ?_
    refine Rn_callV [(2, 161)] [] rfl rfl rfl rfl (ab_rvB_of rfl (⟨rfl, (by omega : (0 : Int) ≤ 161), (by omega : (161 : Int) < K)⟩)) ?_
    refine h.mono (fun g11 r' h => ?_)
    obtain ⟨hx, h⟩ := h
    replace hx := hx.symm
    subst hx
    refine Rn_pure 5 (i' := 16) (L' := [some (2, 161)]) (st' := [(0, 99999), (0, 0), (2, 161), (0, 4), (2, 161)]) rfl ?_
    refine Rn_callI [(2, 161), (0, 0), (0, 99999)] [(0, 4), (2, 161)] rfl rfl rfl rfl (ab_rvB_of rfl (⟨rfl, (by omega : (0 : Int) ≤ 161), (by omega : (161 : Int) < K)⟩)) ?_
    refine h.mono (fun x14 g13 r' h => ?_)
    obtain ⟨hx, h⟩ := h
    replace hx := hx.symm
    subst hx
    refine Rn_callV [(2, 161), (0, 4), (0, x14)] [] rfl rfl rfl rfl (ab_rvB_of rfl (⟨rfl, (by omega : (0 : Int) ≤ 161), (by omega : (161 : Int) < K)⟩)) ?_
    refine h.mono (fun g15 r' h => ?_)
    obtain ⟨hx, h⟩ := h
    replace hx := hx.symm
    subst hx
    exact Rn_ret0 rfl h
-- EventLedgerModel.timeAhead ()I
theorem v_M_timeAhead {K : Int} {S : Nat} {g r : ab_H} (P : Int → ab_H → ab_H → Prop) (hr : SI r) (hK : 185 ≤ K) (h : ab_RI m_M_reading [(2, 161), (0, 5)] K S g r (fun x1 g' r' => g' = g ∧ r' = r ∧ (((¬ wr x1 = wr 0 → ab_RI m_M_reading [(2, 161), (0, 5)] K S g r (fun x2 g' r' => g' = g ∧ r' = r ∧ (((0 : Int) ≤ 8 * x2 - 8 + 3 ∧ (8 * x2 - 8 + 3 : Int) < 400) ∧ P (g 172 (8 * x2 - 8 + 3)) g r))) ∧ (wr x1 = wr 0 → P 0 g r))))) : ab_RI m_M_timeAhead [(2, 161)] K S g r P := by
  show ab_Rn m_M_timeAhead 0 [some (2, 161)] [] (K, S, g, r) (ab_Qi K S P)
  refine Rn_pure 2 (i' := 2) (L' := [some (2, 161)]) (st' := [(0, 5), (2, 161)]) rfl ?_
  refine Rn_callI [(2, 161), (0, 5)] [] rfl rfl rfl rfl (ab_rvB_of rfl (⟨rfl, (by omega : (0 : Int) ≤ 161), (by omega : (161 : Int) < K)⟩)) ?_
  refine h.mono (fun x1 g' r' h => ?_)
  obtain ⟨hx, h⟩ := h
  replace hx := hx.symm
  subst hx
  obtain ⟨hx, h⟩ := h
  replace hx := hx.symm
  subst hx
  refine Rn_ifne rfl (fun hc => ?_) (fun hc => ?_)
  · have h := h.1 hc
    refine Rn_pure 1 (i' := 7) (L' := [some (2, 161)]) (st' := [(2, 161)]) rfl ?_
    refine Rn_getR rfl (⟨rfl, (by omega : (0 : Int) ≤ 161), (by omega : (161 : Int) < K)⟩) (hr 147 _ rfl) (by decide) ?_
    refine Rn_pure 3 (i' := 11) (L' := [some (2, 161)]) (st' := [(0, 5), (2, 161), (0, 8), (2, 172)]) rfl ?_
    refine Rn_callI [(2, 161), (0, 5)] [(0, 8), (2, 172)] rfl rfl rfl rfl (ab_rvB_of rfl (⟨rfl, (by omega : (0 : Int) ≤ 161), (by omega : (161 : Int) < K)⟩)) ?_
    refine h.mono (fun x2 g' r' h => ?_)
    obtain ⟨hx, h⟩ := h
    replace hx := hx.symm
    subst hx
    obtain ⟨hx, h⟩ := h
    replace hx := hx.symm
    subst hx
    refine Rn_pure 5 (i' := 17) (L' := [some (2, 161)]) (st' := [(0, 8 * x2 - 8 + 3), (2, 172)]) rfl ?_
    obtain ⟨hg, h⟩ := h
    refine Rn_iald rfl (⟨rfl, (by omega : (0 : Int) ≤ 172), (by omega : (172 : Int) < K)⟩) hg ?_
    exact Rn_ret1 rfl h
  · have h := h.2 hc
    refine Rn_pure 2 (i' := 18) (L' := [some (2, 161)]) (st' := [(0, 0)]) rfl ?_
    exact Rn_ret1 rfl h
-- EventLedgerModel.readEvent (I)V
theorem v_M_readEvent {K : Int} {S : Nat} {g r : ab_H} {p1 : Int} (P : ab_H → ab_H → Prop) (hr : SI r) (hK : 185 ≤ K) (h : ab_RI m_M_reading [(2, 161), (0, 5)] K S g r (fun x1 g' r' => g' = g ∧ r' = r ∧ (ab_RI m_M_reading [(2, 161), (0, 5)] K S g r (fun x2 g' r' => g' = g ∧ r' = r ∧ (((¬ wr x2 = wr 50 → ab_Rn m_M_readEvent 14 [some (2, 161), some (0, p1), some (0, 8 * x1), none, none, none, none, none, none, none] [] (K, S, g, r) (ab_Qv K S P)) ∧ (wr x2 = wr 50 → ab_RV m_M_wrong [(2, 161), (0, 2)] K S g r (fun g3 r' => r' = r ∧ (ab_Rn m_M_readEvent 14 [some (2, 161), some (0, p1), some (0, 8 * x1), none, none, none, none, none, none, none] [] (K, S, g3, r) (ab_Qv K S P)))))))))) : ab_RV m_M_readEvent [(2, 161), (0, p1)] K S g r P := by
  show ab_Rn m_M_readEvent 0 [some (2, 161), some (0, p1), none, none, none, none, none, none, none, none] [] (K, S, g, r) (ab_Qv K S P)
  refine Rn_pure 3 (i' := 3) (L' := [some (2, 161), some (0, p1), none, none, none, none, none, none, none, none]) (st' := [(0, 5), (2, 161), (0, 8)]) rfl ?_
  refine Rn_callI [(2, 161), (0, 5)] [(0, 8)] rfl rfl rfl rfl (ab_rvB_of rfl (⟨rfl, (by omega : (0 : Int) ≤ 161), (by omega : (161 : Int) < K)⟩)) ?_
  refine h.mono (fun x1 g' r' h => ?_)
  obtain ⟨hx, h⟩ := h
  replace hx := hx.symm
  subst hx
  obtain ⟨hx, h⟩ := h
  replace hx := hx.symm
  subst hx
  refine Rn_pure 4 (i' := 8) (L' := [some (2, 161), some (0, p1), some (0, 8 * x1), none, none, none, none, none, none, none]) (st' := [(0, 5), (2, 161)]) rfl ?_
  refine Rn_callI [(2, 161), (0, 5)] [] rfl rfl rfl rfl (ab_rvB_of rfl (⟨rfl, (by omega : (0 : Int) ≤ 161), (by omega : (161 : Int) < K)⟩)) ?_
  refine h.mono (fun x2 g' r' h => ?_)
  obtain ⟨hx, h⟩ := h
  replace hx := hx.symm
  subst hx
  obtain ⟨hx, h⟩ := h
  replace hx := hx.symm
  subst hx
  refine Rn_pure 1 (i' := 10) (L' := [some (2, 161), some (0, p1), some (0, 8 * x1), none, none, none, none, none, none, none]) (st' := [(0, 50), (0, x2)]) rfl ?_
  refine Rn_icne rfl (fun hc => ?_) (fun hc => ?_)
  · have h := h.1 hc
    exact h
  · have h := h.2 hc
    refine Rn_pure 2 (i' := 13) (L' := [some (2, 161), some (0, p1), some (0, 8 * x1), none, none, none, none, none, none, none]) (st' := [(0, 2), (2, 161)]) rfl ?_
    refine Rn_callV [(2, 161), (0, 2)] [] rfl rfl rfl rfl (ab_rvB_of rfl (⟨rfl, (by omega : (0 : Int) ≤ 161), (by omega : (161 : Int) < K)⟩)) ?_
    refine h.mono (fun g3 r' h => ?_)
    obtain ⟨hx, h⟩ := h
    replace hx := hx.symm
    subst hx
    exact h
theorem v_M_readEvent_14 {K : Int} {S : Nat} {g r : ab_H} {l1 l2 : Int} (P : ab_H → ab_H → Prop) (hr : SI r) (hK : 185 ≤ K) (h : ab_RV m_M_goOn [(2, 161)] K S g r (fun g1 r' => r' = r ∧ (ab_RI m_M_accountHere [(2, 161)] K S g1 r (fun x4 g3 r' => r' = r ∧ (ab_RV m_M_goOn [(2, 161)] K S g3 r (fun g5 r' => r' = r ∧ (((¬ wr l1 = wr 6 → ((¬ wr (g5 161 22) = wr 0 → ab_Rn m_M_readEvent 38 [some (2, 161), some (0, l1), some (0, l2), some (0, x4), some (0, (-2)), none, none, none, none, none] [] (K, S, g5, r) (ab_Qv K S P)) ∧ (wr (g5 161 22) = wr 0 → ((¬ wr (-2) = wr x4 → ab_Rn m_M_readEvent 38 [some (2, 161), some (0, l1), some (0, l2), some (0, x4), some (0, (-2)), none, none, none, none, none] [] (K, S, g5, r) (ab_Qv K S P)) ∧ (wr (-2) = wr x4 → ab_RV m_M_wrong [(2, 161), (0, 3)] K S g5 r (fun g7 r' => r' = r ∧ (ab_Rn m_M_readEvent 38 [some (2, 161), some (0, l1), some (0, l2), some (0, x4), some (0, (-2)), none, none, none, none, none] [] (K, S, g7, r) (ab_Qv K S P)))))))) ∧ (wr l1 = wr 6 → ab_RI m_M_accountHere [(2, 161)] K S g5 r (fun x10 g9 r' => r' = r ∧ (((¬ wr (g9 161 22) = wr 0 → ab_Rn m_M_readEvent 38 [some (2, 161), some (0, l1), some (0, l2), some (0, x4), some (0, x10), none, none, none, none, none] [] (K, S, g9, r) (ab_Qv K S P)) ∧ (wr (g9 161 22) = wr 0 → ((¬ wr x10 = wr x4 → ab_Rn m_M_readEvent 38 [some (2, 161), some (0, l1), some (0, l2), some (0, x4), some (0, x10), none, none, none, none, none] [] (K, S, g9, r) (ab_Qv K S P)) ∧ (wr x10 = wr x4 → ab_RV m_M_wrong [(2, 161), (0, 3)] K S g9 r (fun g11 r' => r' = r ∧ (ab_Rn m_M_readEvent 38 [some (2, 161), some (0, l1), some (0, l2), some (0, x4), some (0, x10), none, none, none, none, none] [] (K, S, g11, r) (ab_Qv K S P)))))))))))))))))) : ab_Rn m_M_readEvent 14 [some (2, 161), some (0, l1), some (0, l2), none, none, none, none, none, none, none] [] (K, S, g, r) (ab_Qv K S P) := by
  refine Rn_pure 1 (i' := 15) (L' := [some (2, 161), some (0, l1), some (0, l2), none, none, none, none, none, none, none]) (st' := [(2, 161)]) rfl ?_
  refine Rn_callV [(2, 161)] [] rfl rfl rfl rfl (ab_rvB_of rfl (⟨rfl, (by omega : (0 : Int) ≤ 161), (by omega : (161 : Int) < K)⟩)) ?_
  refine h.mono (fun g1 r' h => ?_)
  obtain ⟨hx, h⟩ := h
  replace hx := hx.symm
  subst hx
  refine Rn_pure 1 (i' := 17) (L' := [some (2, 161), some (0, l1), some (0, l2), none, none, none, none, none, none, none]) (st' := [(2, 161)]) rfl ?_
  refine Rn_callI [(2, 161)] [] rfl rfl rfl rfl (ab_rvB_of rfl (⟨rfl, (by omega : (0 : Int) ≤ 161), (by omega : (161 : Int) < K)⟩)) ?_
  refine h.mono (fun x4 g3 r' h => ?_)
  obtain ⟨hx, h⟩ := h
  replace hx := hx.symm
  subst hx
  refine Rn_pure 2 (i' := 20) (L' := [some (2, 161), some (0, l1), some (0, l2), some (0, x4), none, none, none, none, none, none]) (st' := [(2, 161)]) rfl ?_
  refine Rn_callV [(2, 161)] [] rfl rfl rfl rfl (ab_rvB_of rfl (⟨rfl, (by omega : (0 : Int) ≤ 161), (by omega : (161 : Int) < K)⟩)) ?_
  refine h.mono (fun g5 r' h => ?_)
  obtain ⟨hx, h⟩ := h
  replace hx := hx.symm
  subst hx
  refine Rn_pure 2 (i' := 23) (L' := [some (2, 161), some (0, l1), some (0, l2), some (0, x4), none, none, none, none, none, none]) (st' := [(0, 6), (0, l1)]) rfl ?_
  refine Rn_icne rfl (fun hc => ?_) (fun hc => ?_)
  · have h := h.1 hc
    refine Rn_pure 3 (i' := 30) (L' := [some (2, 161), some (0, l1), some (0, l2), some (0, x4), some (0, (-2)), none, none, none, none, none]) (st' := [(2, 161)]) rfl ?_
    refine Rn_getI rfl (⟨rfl, (by omega : (0 : Int) ≤ 161), (by omega : (161 : Int) < K)⟩) ?_
    refine Rn_ifne rfl (fun hc => ?_) (fun hc => ?_)
    · have h := h.1 hc
      exact h
    · have h := h.2 hc
      refine Rn_pure 2 (i' := 34) (L' := [some (2, 161), some (0, l1), some (0, l2), some (0, x4), some (0, (-2)), none, none, none, none, none]) (st' := [(0, x4), (0, (-2))]) rfl ?_
      refine Rn_icne rfl (fun hc => ?_) (fun hc => ?_)
      · have h := h.1 hc
        exact h
      · have h := h.2 hc
        refine Rn_pure 2 (i' := 37) (L' := [some (2, 161), some (0, l1), some (0, l2), some (0, x4), some (0, (-2)), none, none, none, none, none]) (st' := [(0, 3), (2, 161)]) rfl ?_
        refine Rn_callV [(2, 161), (0, 3)] [] rfl rfl rfl rfl (ab_rvB_of rfl (⟨rfl, (by omega : (0 : Int) ≤ 161), (by omega : (161 : Int) < K)⟩)) ?_
        refine h.mono (fun g7 r' h => ?_)
        obtain ⟨hx, h⟩ := h
        replace hx := hx.symm
        subst hx
        exact h
  · have h := h.2 hc
    refine Rn_pure 1 (i' := 25) (L' := [some (2, 161), some (0, l1), some (0, l2), some (0, x4), none, none, none, none, none, none]) (st' := [(2, 161)]) rfl ?_
    refine Rn_callI [(2, 161)] [] rfl rfl rfl rfl (ab_rvB_of rfl (⟨rfl, (by omega : (0 : Int) ≤ 161), (by omega : (161 : Int) < K)⟩)) ?_
    refine h.mono (fun x10 g9 r' h => ?_)
    obtain ⟨hx, h⟩ := h
    replace hx := hx.symm
    subst hx
    refine Rn_pure 3 (i' := 30) (L' := [some (2, 161), some (0, l1), some (0, l2), some (0, x4), some (0, x10), none, none, none, none, none]) (st' := [(2, 161)]) rfl ?_
    refine Rn_getI rfl (⟨rfl, (by omega : (0 : Int) ≤ 161), (by omega : (161 : Int) < K)⟩) ?_
    refine Rn_ifne rfl (fun hc => ?_) (fun hc => ?_)
    · have h := h.1 hc
      exact h
    · have h := h.2 hc
      refine Rn_pure 2 (i' := 34) (L' := [some (2, 161), some (0, l1), some (0, l2), some (0, x4), some (0, x10), none, none, none, none, none]) (st' := [(0, x4), (0, x10)]) rfl ?_
      refine Rn_icne rfl (fun hc => ?_) (fun hc => ?_)
      · have h := h.1 hc
        exact h
      · have h := h.2 hc
        refine Rn_pure 2 (i' := 37) (L' := [some (2, 161), some (0, l1), some (0, l2), some (0, x4), some (0, x10), none, none, none, none, none]) (st' := [(0, 3), (2, 161)]) rfl ?_
        refine Rn_callV [(2, 161), (0, 3)] [] rfl rfl rfl rfl (ab_rvB_of rfl (⟨rfl, (by omega : (0 : Int) ≤ 161), (by omega : (161 : Int) < K)⟩)) ?_
        refine h.mono (fun g11 r' h => ?_)
        obtain ⟨hx, h⟩ := h
        replace hx := hx.symm
        subst hx
        exact h
theorem v_M_readEvent_38 {K : Int} {S : Nat} {g r : ab_H} {l1 l2 l3 l4 : Int} (P : ab_H → ab_H → Prop) (hr : SI r) (hK : 185 ≤ K) (h : ((¬ wr l1 = wr 6 → ab_Rn m_M_readEvent 43 [some (2, 161), some (0, l1), some (0, l2), some (0, l3), some (0, l4), none, none, none, none, none] [] (K, S, g, r) (ab_Qv K S P)) ∧ (wr l1 = wr 6 → ab_RV m_M_goOn [(2, 161)] K S g r (fun g1 r' => r' = r ∧ (ab_Rn m_M_readEvent 43 [some (2, 161), some (0, l1), some (0, l2), some (0, l3), some (0, l4), none, none, none, none, none] [] (K, S, g1, r) (ab_Qv K S P)))))) : ab_Rn m_M_readEvent 38 [some (2, 161), some (0, l1), some (0, l2), some (0, l3), some (0, l4), none, none, none, none, none] [] (K, S, g, r) (ab_Qv K S P) := by
  refine Rn_pure 2 (i' := 40) (L' := [some (2, 161), some (0, l1), some (0, l2), some (0, l3), some (0, l4), none, none, none, none, none]) (st' := [(0, 6), (0, l1)]) rfl ?_
  refine Rn_icne rfl (fun hc => ?_) (fun hc => ?_)
  · have h := h.1 hc
    exact h
  · have h := h.2 hc
    refine Rn_pure 1 (i' := 42) (L' := [some (2, 161), some (0, l1), some (0, l2), some (0, l3), some (0, l4), none, none, none, none, none]) (st' := [(2, 161)]) rfl ?_
    refine Rn_callV [(2, 161)] [] rfl rfl rfl rfl (ab_rvB_of rfl (⟨rfl, (by omega : (0 : Int) ≤ 161), (by omega : (161 : Int) < K)⟩)) ?_
    refine h.mono (fun g1 r' h => ?_)
    obtain ⟨hx, h⟩ := h
    replace hx := hx.symm
    subst hx
    exact h
theorem v_M_readEvent_43 {K : Int} {S : Nat} {g r : ab_H} {l1 l2 l3 l4 : Int} (P : ab_H → ab_H → Prop) (hr : SI r) (hK : 185 ≤ K) (h : ab_RI m_M_timeAhead [(2, 161)] K S g r (fun x1 g' r' => g' = g ∧ r' = r ∧ (ab_RI m_M_numeral [(2, 161), (0, x1), (0, 9999)] K S g r (fun x3 g2 r' => r' = r ∧ (ab_RI m_M_numeral [(2, 161), (0, 1), (0, 3)] K S g2 r (fun x5 g4 r' => r' = r ∧ (ab_RI m_M_numeral [(2, 161), (0, 0), (0, 99999)] K S g4 r (fun x7 g6 r' => r' = r ∧ (((wr x5 ≤ wr 1 → ((wr x5 ≤ wr 2 → ((wr (g6 161 22) = wr 0 → ((0 : Int) ≤ l2 + 0 ∧ (l2 + 0 : Int) < 400) ∧ ∀ g8, g8 = ab_up g6 172 (l2 + 0) l1 → ((0 : Int) ≤ l2 + 1 ∧ (l2 + 1 : Int) < 400) ∧ ∀ g9, g9 = ab_up g8 172 (l2 + 1) l3 → ((0 : Int) ≤ l2 + 2 ∧ (l2 + 2 : Int) < 400) ∧ ∀ g10, g10 = ab_up g9 172 (l2 + 2) l4 → ((0 : Int) ≤ l2 + 3 ∧ (l2 + 3 : Int) < 400) ∧ ∀ g11, g11 = ab_up g10 172 (l2 + 3) x3 → ((0 : Int) ≤ l2 + 4 ∧ (l2 + 4 : Int) < 400) ∧ ∀ g12, g12 = ab_up g11 172 (l2 + 4) x5 → ((0 : Int) ≤ l2 + 5 ∧ (l2 + 5 : Int) < 400) ∧ ∀ g13, g13 = ab_up g12 172 (l2 + 5) x7 → ((0 : Int) ≤ l2 + 5 + 1 ∧ (l2 + 5 + 1 : Int) < 400) ∧ ∀ g14, g14 = ab_up g13 172 (l2 + 5 + 1) 0 → ((0 : Int) ≤ l2 + 5 + 2 ∧ (l2 + 5 + 2 : Int) < 400) ∧ ∀ g15, g15 = ab_up g14 172 (l2 + 5 + 2) 0 → ab_RI m_M_reading [(2, 161), (0, 5)] K S g15 r (fun x16 g' r' => g' = g15 ∧ r' = r ∧ (((0 : Int) ≤ x16 ∧ (x16 : Int) < 50) ∧ ∀ g17, g17 = ab_up g15 173 x16 (-2) → ab_RI m_M_reading [(2, 161), (0, 5)] K S g17 r (fun x18 g' r' => g' = g17 ∧ r' = r ∧ (ab_RV m_M_reads [(2, 161), (0, 5), (0, x18 + 1)] K S g17 r (fun g19 r' => r' = r ∧ (P g19 r))))))) ∧ (¬ wr (g6 161 22) = wr 0 → P g6 r))) ∧ (wr 2 < wr x5 → ab_RI m_M_numeral [(2, 161), (0, 0), (0, 99999)] K S g6 r (fun x22 g21 r' => r' = r ∧ (((wr (g21 161 22) = wr 0 → ((0 : Int) ≤ l2 + 0 ∧ (l2 + 0 : Int) < 400) ∧ ∀ g23, g23 = ab_up g21 172 (l2 + 0) l1 → ((0 : Int) ≤ l2 + 1 ∧ (l2 + 1 : Int) < 400) ∧ ∀ g24, g24 = ab_up g23 172 (l2 + 1) l3 → ((0 : Int) ≤ l2 + 2 ∧ (l2 + 2 : Int) < 400) ∧ ∀ g25, g25 = ab_up g24 172 (l2 + 2) l4 → ((0 : Int) ≤ l2 + 3 ∧ (l2 + 3 : Int) < 400) ∧ ∀ g26, g26 = ab_up g25 172 (l2 + 3) x3 → ((0 : Int) ≤ l2 + 4 ∧ (l2 + 4 : Int) < 400) ∧ ∀ g27, g27 = ab_up g26 172 (l2 + 4) x5 → ((0 : Int) ≤ l2 + 5 ∧ (l2 + 5 : Int) < 400) ∧ ∀ g28, g28 = ab_up g27 172 (l2 + 5) x7 → ((0 : Int) ≤ l2 + 5 + 1 ∧ (l2 + 5 + 1 : Int) < 400) ∧ ∀ g29, g29 = ab_up g28 172 (l2 + 5 + 1) 0 → ((0 : Int) ≤ l2 + 5 + 2 ∧ (l2 + 5 + 2 : Int) < 400) ∧ ∀ g30, g30 = ab_up g29 172 (l2 + 5 + 2) x22 → ab_RI m_M_reading [(2, 161), (0, 5)] K S g30 r (fun x31 g' r' => g' = g30 ∧ r' = r ∧ (((0 : Int) ≤ x31 ∧ (x31 : Int) < 50) ∧ ∀ g32, g32 = ab_up g30 173 x31 (-2) → ab_RI m_M_reading [(2, 161), (0, 5)] K S g32 r (fun x33 g' r' => g' = g32 ∧ r' = r ∧ (ab_RV m_M_reads [(2, 161), (0, 5), (0, x33 + 1)] K S g32 r (fun g34 r' => r' = r ∧ (P g34 r))))))) ∧ (¬ wr (g21 161 22) = wr 0 → P g21 r))))))) ∧ (wr 1 < wr x5 → ab_RI m_M_numeral [(2, 161), (0, 0), (0, 99999)] K S g6 r (fun x37 g36 r' => r' = r ∧ (((wr x5 ≤ wr 2 → ((wr (g36 161 22) = wr 0 → ((0 : Int) ≤ l2 + 0 ∧ (l2 + 0 : Int) < 400) ∧ ∀ g38, g38 = ab_up g36 172 (l2 + 0) l1 → ((0 : Int) ≤ l2 + 1 ∧ (l2 + 1 : Int) < 400) ∧ ∀ g39, g39 = ab_up g38 172 (l2 + 1) l3 → ((0 : Int) ≤ l2 + 2 ∧ (l2 + 2 : Int) < 400) ∧ ∀ g40, g40 = ab_up g39 172 (l2 + 2) l4 → ((0 : Int) ≤ l2 + 3 ∧ (l2 + 3 : Int) < 400) ∧ ∀ g41, g41 = ab_up g40 172 (l2 + 3) x3 → ((0 : Int) ≤ l2 + 4 ∧ (l2 + 4 : Int) < 400) ∧ ∀ g42, g42 = ab_up g41 172 (l2 + 4) x5 → ((0 : Int) ≤ l2 + 5 ∧ (l2 + 5 : Int) < 400) ∧ ∀ g43, g43 = ab_up g42 172 (l2 + 5) x7 → ((0 : Int) ≤ l2 + 5 + 1 ∧ (l2 + 5 + 1 : Int) < 400) ∧ ∀ g44, g44 = ab_up g43 172 (l2 + 5 + 1) x37 → ((0 : Int) ≤ l2 + 5 + 2 ∧ (l2 + 5 + 2 : Int) < 400) ∧ ∀ g45, g45 = ab_up g44 172 (l2 + 5 + 2) 0 → ab_RI m_M_reading [(2, 161), (0, 5)] K S g45 r (fun x46 g' r' => g' = g45 ∧ r' = r ∧ (((0 : Int) ≤ x46 ∧ (x46 : Int) < 50) ∧ ∀ g47, g47 = ab_up g45 173 x46 (-2) → ab_RI m_M_reading [(2, 161), (0, 5)] K S g47 r (fun x48 g' r' => g' = g47 ∧ r' = r ∧ (ab_RV m_M_reads [(2, 161), (0, 5), (0, x48 + 1)] K S g47 r (fun g49 r' => r' = r ∧ (P g49 r))))))) ∧ (¬ wr (g36 161 22) = wr 0 → P g36 r))) ∧ (wr 2 < wr x5 → ab_RI m_M_numeral [(2, 161), (0, 0), (0, 99999)] K S g36 r (fun x52 g51 r' => r' = r ∧ (((wr (g51 161 22) = wr 0 → ((0 : Int) ≤ l2 + 0 ∧ (l2 + 0 : Int) < 400) ∧ ∀ g53, g53 = ab_up g51 172 (l2 + 0) l1 → ((0 : Int) ≤ l2 + 1 ∧ (l2 + 1 : Int) < 400) ∧ ∀ g54, g54 = ab_up g53 172 (l2 + 1) l3 → ((0 : Int) ≤ l2 + 2 ∧ (l2 + 2 : Int) < 400) ∧ ∀ g55, g55 = ab_up g54 172 (l2 + 2) l4 → ((0 : Int) ≤ l2 + 3 ∧ (l2 + 3 : Int) < 400) ∧ ∀ g56, g56 = ab_up g55 172 (l2 + 3) x3 → ((0 : Int) ≤ l2 + 4 ∧ (l2 + 4 : Int) < 400) ∧ ∀ g57, g57 = ab_up g56 172 (l2 + 4) x5 → ((0 : Int) ≤ l2 + 5 ∧ (l2 + 5 : Int) < 400) ∧ ∀ g58, g58 = ab_up g57 172 (l2 + 5) x7 → ((0 : Int) ≤ l2 + 5 + 1 ∧ (l2 + 5 + 1 : Int) < 400) ∧ ∀ g59, g59 = ab_up g58 172 (l2 + 5 + 1) x37 → ((0 : Int) ≤ l2 + 5 + 2 ∧ (l2 + 5 + 2 : Int) < 400) ∧ ∀ g60, g60 = ab_up g59 172 (l2 + 5 + 2) x52 → ab_RI m_M_reading [(2, 161), (0, 5)] K S g60 r (fun x61 g' r' => g' = g60 ∧ r' = r ∧ (((0 : Int) ≤ x61 ∧ (x61 : Int) < 50) ∧ ∀ g62, g62 = ab_up g60 173 x61 (-2) → ab_RI m_M_reading [(2, 161), (0, 5)] K S g62 r (fun x63 g' r' => g' = g62 ∧ r' = r ∧ (ab_RV m_M_reads [(2, 161), (0, 5), (0, x63 + 1)] K S g62 r (fun g64 r' => r' = r ∧ (P g64 r))))))) ∧ (¬ wr (g51 161 22) = wr 0 → P g51 r))))))))))))))))))) : ab_Rn m_M_readEvent 43 [some (2, 161), some (0, l1), some (0, l2), some (0, l3), some (0, l4), none, none, none, none, none] [] (K, S, g, r) (ab_Qv K S P) := by
  refine Rn_pure 2 (i' := 45) (L' := [some (2, 161), some (0, l1), some (0, l2), some (0, l3), some (0, l4), none, none, none, none, none]) (st' := [(2, 161), (2, 161)]) rfl ?_
  refine Rn_callI [(2, 161)] [(2, 161)] rfl rfl rfl rfl (ab_rvB_of rfl (⟨rfl, (by omega : (0 : Int) ≤ 161), (by omega : (161 : Int) < K)⟩)) ?_
  refine h.mono (fun x1 g' r' h => ?_)
  obtain ⟨hx, h⟩ := h
  replace hx := hx.symm
  subst hx
  obtain ⟨hx, h⟩ := h
  replace hx := hx.symm
  subst hx
  refine Rn_pure 1 (i' := 47) (L' := [some (2, 161), some (0, l1), some (0, l2), some (0, l3), some (0, l4), none, none, none, none, none]) (st' := [(0, 9999), (0, x1), (2, 161)]) rfl ?_
  refine Rn_callI [(2, 161), (0, x1), (0, 9999)] [] rfl rfl rfl rfl (ab_rvB_of rfl (⟨rfl, (by omega : (0 : Int) ≤ 161), (by omega : (161 : Int) < K)⟩)) ?_
  refine h.mono (fun x3 g2 r' h => ?_)
  obtain ⟨hx, h⟩ := h
  replace hx := hx.symm
  subst hx
  refine Rn_pure 4 (i' := 52) (L' := [some (2, 161), some (0, l1), some (0, l2), some (0, l3), some (0, l4), some (0, x3), none, none, none, none]) (st' := [(0, 3), (0, 1), (2, 161)]) rfl ?_
  refine Rn_callI [(2, 161), (0, 1), (0, 3)] [] rfl rfl rfl rfl (ab_rvB_of rfl (⟨rfl, (by omega : (0 : Int) ≤ 161), (by omega : (161 : Int) < K)⟩)) ?_
  refine h.mono (fun x5 g4 r' h => ?_)
  obtain ⟨hx, h⟩ := h
  replace hx := hx.symm
  subst hx
  refine Rn_pure 4 (i' := 57) (L' := [some (2, 161), some (0, l1), some (0, l2), some (0, l3), some (0, l4), some (0, x3), some (0, x5), none, none, none]) (st' := [(0, 99999), (0, 0), (2, 161)]) rfl ?_
  refine Rn_callI [(2, 161), (0, 0), (0, 99999)] [] rfl rfl rfl rfl (ab_rvB_of rfl (⟨rfl, (by omega : (0 : Int) ≤ 161), (by omega : (161 : Int) < K)⟩)) ?_
  refine h.mono (fun x7 g6 r' h => ?_)
  obtain ⟨hx, h⟩ := h
  replace hx := hx.symm
  subst hx
  refine Rn_pure 3 (i' := 61) (L' := [some (2, 161), some (0, l1), some (0, l2), some (0, l3), some (0, l4), some (0, x3), some (0, x5), some (0, x7), none, none]) (st' := [(0, 1), (0, x5)]) rfl ?_
  refine Rn_icle rfl (fun hc => ?_) (fun hc => ?_)
  · have h := h.1 hc
    refine Rn_pure 4 (i' := 71) (L' := [some (2, 161), some (0, l1), some (0, l2), some (0, l3), some (0, l4), some (0, x3), some (0, x5), some (0, x7), some (0, 0), none]) (st' := [(0, 2), (0, x5)]) rfl ?_
    refine Rn_icle rfl (fun hc => ?_) (fun hc => ?_)
    · have h := h.1 hc
      refine Rn_pure 3 (i' := 80) (L' := [some (2, 161), some (0, l1), some (0, l2), some (0, l3), some (0, l4), some (0, x3), some (0, x5), some (0, x7), some (0, 0), some (0, 0)]) (st' := [(2, 161)]) rfl ?_
      refine Rn_getI rfl (⟨rfl, (by omega : (0 : Int) ≤ 161), (by omega : (161 : Int) < K)⟩) ?_
      refine Rn_ifeq rfl (fun hc => ?_) (fun hc => ?_)
      · have h := h.1 hc
        refine Rn_pure 1 (i' := 84) (L' := [some (2, 161), some (0, l1), some (0, l2), some (0, l3), some (0, l4), some (0, x3), some (0, x5), some (0, x7), some (0, 0), some (0, 0)]) (st' := [(2, 161)]) rfl ?_
        refine Rn_getR rfl (⟨rfl, (by omega : (0 : Int) ≤ 161), (by omega : (161 : Int) < K)⟩) (hr 147 _ rfl) (by decide) ?_
        refine Rn_pure 4 (i' := 89) (L' := [some (2, 161), some (0, l1), some (0, l2), some (0, l3), some (0, l4), some (0, x3), some (0, x5), some (0, x7), some (0, 0), some (0, 0)]) (st' := [(0, l1), (0, l2 + 0), (2, 172)]) rfl ?_
        obtain ⟨hg, h⟩ := h
        refine Rn_iast rfl (⟨rfl, (by omega : (0 : Int) ≤ 172), (by omega : (172 : Int) < K)⟩) hg (fun g8 he_g8 => ?_)
        have h := h g8 he_g8
        refine Rn_pure 1 (i' := 91) (L' := [some (2, 161), some (0, l1), some (0, l2), some (0, l3), some (0, l4), some (0, x3), some (0, x5), some (0, x7), some (0, 0), some (0, 0)]) (st' := [(2, 161)]) rfl ?_
        refine Rn_getR rfl (⟨rfl, (by omega : (0 : Int) ≤ 161), (by omega : (161 : Int) < K)⟩) (hr 147 _ rfl) (by decide) ?_
        refine Rn_pure 4 (i' := 96) (L' := [some (2, 161), some (0, l1), some (0, l2), some (0, l3), some (0, l4), some (0, x3), some (0, x5), some (0, x7), some (0, 0), some (0, 0)]) (st' := [(0, l3), (0, l2 + 1), (2, 172)]) rfl ?_
        obtain ⟨hg, h⟩ := h
        refine Rn_iast rfl (⟨rfl, (by omega : (0 : Int) ≤ 172), (by omega : (172 : Int) < K)⟩) hg (fun g9 he_g9 => ?_)
        have h := h g9 he_g9
        refine Rn_pure 1 (i' := 98) (L' := [some (2, 161), some (0, l1), some (0, l2), some (0, l3), some (0, l4), some (0, x3), some (0, x5), some (0, x7), some (0, 0), some (0, 0)]) (st' := [(2, 161)]) rfl ?_
        refine Rn_getR rfl (⟨rfl, (by omega : (0 : Int) ≤ 161), (by omega : (161 : Int) < K)⟩) (hr 147 _ rfl) (by decide) ?_
        refine Rn_pure 4 (i' := 103) (L' := [some (2, 161), some (0, l1), some (0, l2), some (0, l3), some (0, l4), some (0, x3), some (0, x5), some (0, x7), some (0, 0), some (0, 0)]) (st' := [(0, l4), (0, l2 + 2), (2, 172)]) rfl ?_
        obtain ⟨hg, h⟩ := h
        refine Rn_iast rfl (⟨rfl, (by omega : (0 : Int) ≤ 172), (by omega : (172 : Int) < K)⟩) hg (fun g10 he_g10 => ?_)
        have h := h g10 he_g10
        refine Rn_pure 1 (i' := 105) (L' := [some (2, 161), some (0, l1), some (0, l2), some (0, l3), some (0, l4), some (0, x3), some (0, x5), some (0, x7), some (0, 0), some (0, 0)]) (st' := [(2, 161)]) rfl ?_
        refine Rn_getR rfl (⟨rfl, (by omega : (0 : Int) ≤ 161), (by omega : (161 : Int) < K)⟩) (hr 147 _ rfl) (by decide) ?_
        refine Rn_pure 4 (i' := 110) (L' := [some (2, 161), some (0, l1), some (0, l2), some (0, l3), some (0, l4), some (0, x3), some (0, x5), some (0, x7), some (0, 0), some (0, 0)]) (st' := [(0, x3), (0, l2 + 3), (2, 172)]) rfl ?_
        obtain ⟨hg, h⟩ := h
        refine Rn_iast rfl (⟨rfl, (by omega : (0 : Int) ≤ 172), (by omega : (172 : Int) < K)⟩) hg (fun g11 he_g11 => ?_)
        have h := h g11 he_g11
        refine Rn_pure 1 (i' := 112) (L' := [some (2, 161), some (0, l1), some (0, l2), some (0, l3), some (0, l4), some (0, x3), some (0, x5), some (0, x7), some (0, 0), some (0, 0)]) (st' := [(2, 161)]) rfl ?_
        refine Rn_getR rfl (⟨rfl, (by omega : (0 : Int) ≤ 161), (by omega : (161 : Int) < K)⟩) (hr 147 _ rfl) (by decide) ?_
        refine Rn_pure 4 (i' := 117) (L' := [some (2, 161), some (0, l1), some (0, l2), some (0, l3), some (0, l4), some (0, x3), some (0, x5), some (0, x7), some (0, 0), some (0, 0)]) (st' := [(0, x5), (0, l2 + 4), (2, 172)]) rfl ?_
        obtain ⟨hg, h⟩ := h
        refine Rn_iast rfl (⟨rfl, (by omega : (0 : Int) ≤ 172), (by omega : (172 : Int) < K)⟩) hg (fun g12 he_g12 => ?_)
        have h := h g12 he_g12
        refine Rn_pure 1 (i' := 119) (L' := [some (2, 161), some (0, l1), some (0, l2), some (0, l3), some (0, l4), some (0, x3), some (0, x5), some (0, x7), some (0, 0), some (0, 0)]) (st' := [(2, 161)]) rfl ?_
        refine Rn_getR rfl (⟨rfl, (by omega : (0 : Int) ≤ 161), (by omega : (161 : Int) < K)⟩) (hr 147 _ rfl) (by decide) ?_
        refine Rn_pure 4 (i' := 124) (L' := [some (2, 161), some (0, l1), some (0, l2), some (0, l3), some (0, l4), some (0, x3), some (0, x5), some (0, x7), some (0, 0), some (0, 0)]) (st' := [(0, x7), (0, l2 + 5), (2, 172)]) rfl ?_
        obtain ⟨hg, h⟩ := h
        refine Rn_iast rfl (⟨rfl, (by omega : (0 : Int) ≤ 172), (by omega : (172 : Int) < K)⟩) hg (fun g13 he_g13 => ?_)
        have h := h g13 he_g13
        refine Rn_pure 1 (i' := 126) (L' := [some (2, 161), some (0, l1), some (0, l2), some (0, l3), some (0, l4), some (0, x3), some (0, x5), some (0, x7), some (0, 0), some (0, 0)]) (st' := [(2, 161)]) rfl ?_
        refine Rn_getR rfl (⟨rfl, (by omega : (0 : Int) ≤ 161), (by omega : (161 : Int) < K)⟩) (hr 147 _ rfl) (by decide) ?_
        refine Rn_pure 6 (i' := 133) (L' := [some (2, 161), some (0, l1), some (0, l2), some (0, l3), some (0, l4), some (0, x3), some (0, x5), some (0, x7), some (0, 0), some (0, 0)]) (st' := [(0, 0), (0, l2 + 5 + 1), (2, 172)]) rfl ?_
        obtain ⟨hg, h⟩ := h
        refine Rn_iast rfl (⟨rfl, (by omega : (0 : Int) ≤ 172), (by omega : (172 : Int) < K)⟩) hg (fun g14 he_g14 => ?_)
        have h := h g14 he_g14
        refine Rn_pure 1 (i' := 135) (L' := [some (2, 161), some (0, l1), some (0, l2), some (0, l3), some (0, l4), some (0, x3), some (0, x5), some (0, x7), some (0, 0), some (0, 0)]) (st' := [(2, 161)]) rfl ?_
        refine Rn_getR rfl (⟨rfl, (by omega : (0 : Int) ≤ 161), (by omega : (161 : Int) < K)⟩) (hr 147 _ rfl) (by decide) ?_
        refine Rn_pure 6 (i' := 142) (L' := [some (2, 161), some (0, l1), some (0, l2), some (0, l3), some (0, l4), some (0, x3), some (0, x5), some (0, x7), some (0, 0), some (0, 0)]) (st' := [(0, 0), (0, l2 + 5 + 2), (2, 172)]) rfl ?_
        obtain ⟨hg, h⟩ := h
        refine Rn_iast rfl (⟨rfl, (by omega : (0 : Int) ≤ 172), (by omega : (172 : Int) < K)⟩) hg (fun g15 he_g15 => ?_)
        have h := h g15 he_g15
        refine Rn_pure 1 (i' := 144) (L' := [some (2, 161), some (0, l1), some (0, l2), some (0, l3), some (0, l4), some (0, x3), some (0, x5), some (0, x7), some (0, 0), some (0, 0)]) (st' := [(2, 161)]) rfl ?_
        refine Rn_getR rfl (⟨rfl, (by omega : (0 : Int) ≤ 161), (by omega : (161 : Int) < K)⟩) (hr 148 _ rfl) (by decide) ?_
        refine Rn_pure 2 (i' := 147) (L' := [some (2, 161), some (0, l1), some (0, l2), some (0, l3), some (0, l4), some (0, x3), some (0, x5), some (0, x7), some (0, 0), some (0, 0)]) (st' := [(0, 5), (2, 161), (2, 173)]) rfl ?_
        refine Rn_callI [(2, 161), (0, 5)] [(2, 173)] rfl rfl rfl rfl (ab_rvB_of rfl (⟨rfl, (by omega : (0 : Int) ≤ 161), (by omega : (161 : Int) < K)⟩)) ?_
        refine h.mono (fun x16 g' r' h => ?_)
        obtain ⟨hx, h⟩ := h
        replace hx := hx.symm
        subst hx
        obtain ⟨hx, h⟩ := h
        replace hx := hx.symm
        subst hx
        refine Rn_pure 1 (i' := 149) (L' := [some (2, 161), some (0, l1), some (0, l2), some (0, l3), some (0, l4), some (0, x3), some (0, x5), some (0, x7), some (0, 0), some (0, 0)]) (st' := [(0, (-2)), (0, x16), (2, 173)]) rfl ?_
        obtain ⟨hg, h⟩ := h
        refine Rn_iast rfl (⟨rfl, (by omega : (0 : Int) ≤ 173), (by omega : (173 : Int) < K)⟩) hg (fun g17 he_g17 => ?_)
        have h := h g17 he_g17
        refine Rn_pure 4 (i' := 154) (L' := [some (2, 161), some (0, l1), some (0, l2), some (0, l3), some (0, l4), some (0, x3), some (0, x5), some (0, x7), some (0, 0), some (0, 0)]) (st' := [(0, 5), (2, 161), (0, 5), (2, 161)]) rfl ?_
        refine Rn_callI [(2, 161), (0, 5)] [(0, 5), (2, 161)] rfl rfl rfl rfl (ab_rvB_of rfl (⟨rfl, (by omega : (0 : Int) ≤ 161), (by omega : (161 : Int) < K)⟩)) ?_
        refine h.mono (fun x18 g' r' h => ?_)
        obtain ⟨hx, h⟩ := h
        replace hx := hx.symm
        subst hx
        obtain ⟨hx, h⟩ := h
        replace hx := hx.symm
        subst hx
        refine Rn_pure 2 (i' := 157) (L' := [some (2, 161), some (0, l1), some (0, l2), some (0, l3), some (0, l4), some (0, x3), some (0, x5), some (0, x7), some (0, 0), some (0, 0)]) (st' := [(0, x18 + 1), (0, 5), (2, 161)]) rfl ?_
        refine Rn_callV [(2, 161), (0, 5), (0, x18 + 1)] [] rfl rfl rfl rfl (ab_rvB_of rfl (⟨rfl, (by omega : (0 : Int) ≤ 161), (by omega : (161 : Int) < K)⟩)) ?_
        refine h.mono (fun g19 r' h => ?_)
        obtain ⟨hx, h⟩ := h
        replace hx := hx.symm
        subst hx
        exact Rn_ret0 rfl h
      · have h := h.2 hc
        exact Rn_ret0 rfl h
    · have h := h.2 hc
      refine Rn_pure 3 (i' := 75) (L' := [some (2, 161), some (0, l1), some (0, l2), some (0, l3), some (0, l4), some (0, x3), some (0, x5), some (0, x7), some (0, 0), none]) (st' := [(0, 99999), (0, 0), (2, 161)]) rfl ?_
      refine Rn_callI [(2, 161), (0, 0), (0, 99999)] [] rfl rfl rfl rfl (ab_rvB_of rfl (⟨rfl, (by omega : (0 : Int) ≤ 161), (by omega : (161 : Int) < K)⟩)) ?_
      refine h.mono (fun x22 g21 r' h => ?_)
      obtain ⟨hx, h⟩ := h
      replace hx := hx.symm
      subst hx
      refine Rn_pure 3 (i' := 80) (L' := [some (2, 161), some (0, l1), some (0, l2), some (0, l3), some (0, l4), some (0, x3), some (0, x5), some (0, x7), some (0, 0), some (0, x22)]) (st' := [(2, 161)]) rfl ?_
      refine Rn_getI rfl (⟨rfl, (by omega : (0 : Int) ≤ 161), (by omega : (161 : Int) < K)⟩) ?_
      refine Rn_ifeq rfl (fun hc => ?_) (fun hc => ?_)
      · have h := h.1 hc
        refine Rn_pure 1 (i' := 84) (L' := [some (2, 161), some (0, l1), some (0, l2), some (0, l3), some (0, l4), some (0, x3), some (0, x5), some (0, x7), some (0, 0), some (0, x22)]) (st' := [(2, 161)]) rfl ?_
        refine Rn_getR rfl (⟨rfl, (by omega : (0 : Int) ≤ 161), (by omega : (161 : Int) < K)⟩) (hr 147 _ rfl) (by decide) ?_
        refine Rn_pure 4 (i' := 89) (L' := [some (2, 161), some (0, l1), some (0, l2), some (0, l3), some (0, l4), some (0, x3), some (0, x5), some (0, x7), some (0, 0), some (0, x22)]) (st' := [(0, l1), (0, l2 + 0), (2, 172)]) rfl ?_
        obtain ⟨hg, h⟩ := h
        refine Rn_iast rfl (⟨rfl, (by omega : (0 : Int) ≤ 172), (by omega : (172 : Int) < K)⟩) hg (fun g23 he_g23 => ?_)
        have h := h g23 he_g23
        refine Rn_pure 1 (i' := 91) (L' := [some (2, 161), some (0, l1), some (0, l2), some (0, l3), some (0, l4), some (0, x3), some (0, x5), some (0, x7), some (0, 0), some (0, x22)]) (st' := [(2, 161)]) rfl ?_
        refine Rn_getR rfl (⟨rfl, (by omega : (0 : Int) ≤ 161), (by omega : (161 : Int) < K)⟩) (hr 147 _ rfl) (by decide) ?_
        refine Rn_pure 4 (i' := 96) (L' := [some (2, 161), some (0, l1), some (0, l2), some (0, l3), some (0, l4), some (0, x3), some (0, x5), some (0, x7), some (0, 0), some (0, x22)]) (st' := [(0, l3), (0, l2 + 1), (2, 172)]) rfl ?_
        obtain ⟨hg, h⟩ := h
        refine Rn_iast rfl (⟨rfl, (by omega : (0 : Int) ≤ 172), (by omega : (172 : Int) < K)⟩) hg (fun g24 he_g24 => ?_)
        have h := h g24 he_g24
        refine Rn_pure 1 (i' := 98) (L' := [some (2, 161), some (0, l1), some (0, l2), some (0, l3), some (0, l4), some (0, x3), some (0, x5), some (0, x7), some (0, 0), some (0, x22)]) (st' := [(2, 161)]) rfl ?_
        refine Rn_getR rfl (⟨rfl, (by omega : (0 : Int) ≤ 161), (by omega : (161 : Int) < K)⟩) (hr 147 _ rfl) (by decide) ?_
        refine Rn_pure 4 (i' := 103) (L' := [some (2, 161), some (0, l1), some (0, l2), some (0, l3), some (0, l4), some (0, x3), some (0, x5), some (0, x7), some (0, 0), some (0, x22)]) (st' := [(0, l4), (0, l2 + 2), (2, 172)]) rfl ?_
        obtain ⟨hg, h⟩ := h
        refine Rn_iast rfl (⟨rfl, (by omega : (0 : Int) ≤ 172), (by omega : (172 : Int) < K)⟩) hg (fun g25 he_g25 => ?_)
        have h := h g25 he_g25
        refine Rn_pure 1 (i' := 105) (L' := [some (2, 161), some (0, l1), some (0, l2), some (0, l3), some (0, l4), some (0, x3), some (0, x5), some (0, x7), some (0, 0), some (0, x22)]) (st' := [(2, 161)]) rfl ?_
        refine Rn_getR rfl (⟨rfl, (by omega : (0 : Int) ≤ 161), (by omega : (161 : Int) < K)⟩) (hr 147 _ rfl) (by decide) ?_
        refine Rn_pure 4 (i' := 110) (L' := [some (2, 161), some (0, l1), some (0, l2), some (0, l3), some (0, l4), some (0, x3), some (0, x5), some (0, x7), some (0, 0), some (0, x22)]) (st' := [(0, x3), (0, l2 + 3), (2, 172)]) rfl ?_
        obtain ⟨hg, h⟩ := h
        refine Rn_iast rfl (⟨rfl, (by omega : (0 : Int) ≤ 172), (by omega : (172 : Int) < K)⟩) hg (fun g26 he_g26 => ?_)
        have h := h g26 he_g26
        refine Rn_pure 1 (i' := 112) (L' := [some (2, 161), some (0, l1), some (0, l2), some (0, l3), some (0, l4), some (0, x3), some (0, x5), some (0, x7), some (0, 0), some (0, x22)]) (st' := [(2, 161)]) rfl ?_
        refine Rn_getR rfl (⟨rfl, (by omega : (0 : Int) ≤ 161), (by omega : (161 : Int) < K)⟩) (hr 147 _ rfl) (by decide) ?_
        refine Rn_pure 4 (i' := 117) (L' := [some (2, 161), some (0, l1), some (0, l2), some (0, l3), some (0, l4), some (0, x3), some (0, x5), some (0, x7), some (0, 0), some (0, x22)]) (st' := [(0, x5), (0, l2 + 4), (2, 172)]) rfl ?_
        obtain ⟨hg, h⟩ := h
        refine Rn_iast rfl (⟨rfl, (by omega : (0 : Int) ≤ 172), (by omega : (172 : Int) < K)⟩) hg (fun g27 he_g27 => ?_)
        have h := h g27 he_g27
        refine Rn_pure 1 (i' := 119) (L' := [some (2, 161), some (0, l1), some (0, l2), some (0, l3), some (0, l4), some (0, x3), some (0, x5), some (0, x7), some (0, 0), some (0, x22)]) (st' := [(2, 161)]) rfl ?_
        refine Rn_getR rfl (⟨rfl, (by omega : (0 : Int) ≤ 161), (by omega : (161 : Int) < K)⟩) (hr 147 _ rfl) (by decide) ?_
        refine Rn_pure 4 (i' := 124) (L' := [some (2, 161), some (0, l1), some (0, l2), some (0, l3), some (0, l4), some (0, x3), some (0, x5), some (0, x7), some (0, 0), some (0, x22)]) (st' := [(0, x7), (0, l2 + 5), (2, 172)]) rfl ?_
        obtain ⟨hg, h⟩ := h
        refine Rn_iast rfl (⟨rfl, (by omega : (0 : Int) ≤ 172), (by omega : (172 : Int) < K)⟩) hg (fun g28 he_g28 => ?_)
        have h := h g28 he_g28
        refine Rn_pure 1 (i' := 126) (L' := [some (2, 161), some (0, l1), some (0, l2), some (0, l3), some (0, l4), some (0, x3), some (0, x5), some (0, x7), some (0, 0), some (0, x22)]) (st' := [(2, 161)]) rfl ?_
        refine Rn_getR rfl (⟨rfl, (by omega : (0 : Int) ≤ 161), (by omega : (161 : Int) < K)⟩) (hr 147 _ rfl) (by decide) ?_
        refine Rn_pure 6 (i' := 133) (L' := [some (2, 161), some (0, l1), some (0, l2), some (0, l3), some (0, l4), some (0, x3), some (0, x5), some (0, x7), some (0, 0), some (0, x22)]) (st' := [(0, 0), (0, l2 + 5 + 1), (2, 172)]) rfl ?_
        obtain ⟨hg, h⟩ := h
        refine Rn_iast rfl (⟨rfl, (by omega : (0 : Int) ≤ 172), (by omega : (172 : Int) < K)⟩) hg (fun g29 he_g29 => ?_)
        have h := h g29 he_g29
        refine Rn_pure 1 (i' := 135) (L' := [some (2, 161), some (0, l1), some (0, l2), some (0, l3), some (0, l4), some (0, x3), some (0, x5), some (0, x7), some (0, 0), some (0, x22)]) (st' := [(2, 161)]) rfl ?_
        refine Rn_getR rfl (⟨rfl, (by omega : (0 : Int) ≤ 161), (by omega : (161 : Int) < K)⟩) (hr 147 _ rfl) (by decide) ?_
        refine Rn_pure 6 (i' := 142) (L' := [some (2, 161), some (0, l1), some (0, l2), some (0, l3), some (0, l4), some (0, x3), some (0, x5), some (0, x7), some (0, 0), some (0, x22)]) (st' := [(0, x22), (0, l2 + 5 + 2), (2, 172)]) rfl ?_
        obtain ⟨hg, h⟩ := h
        refine Rn_iast rfl (⟨rfl, (by omega : (0 : Int) ≤ 172), (by omega : (172 : Int) < K)⟩) hg (fun g30 he_g30 => ?_)
        have h := h g30 he_g30
        refine Rn_pure 1 (i' := 144) (L' := [some (2, 161), some (0, l1), some (0, l2), some (0, l3), some (0, l4), some (0, x3), some (0, x5), some (0, x7), some (0, 0), some (0, x22)]) (st' := [(2, 161)]) rfl ?_
        refine Rn_getR rfl (⟨rfl, (by omega : (0 : Int) ≤ 161), (by omega : (161 : Int) < K)⟩) (hr 148 _ rfl) (by decide) ?_
        refine Rn_pure 2 (i' := 147) (L' := [some (2, 161), some (0, l1), some (0, l2), some (0, l3), some (0, l4), some (0, x3), some (0, x5), some (0, x7), some (0, 0), some (0, x22)]) (st' := [(0, 5), (2, 161), (2, 173)]) rfl ?_
        refine Rn_callI [(2, 161), (0, 5)] [(2, 173)] rfl rfl rfl rfl (ab_rvB_of rfl (⟨rfl, (by omega : (0 : Int) ≤ 161), (by omega : (161 : Int) < K)⟩)) ?_
        refine h.mono (fun x31 g' r' h => ?_)
        obtain ⟨hx, h⟩ := h
        replace hx := hx.symm
        subst hx
        obtain ⟨hx, h⟩ := h
        replace hx := hx.symm
        subst hx
        refine Rn_pure 1 (i' := 149) (L' := [some (2, 161), some (0, l1), some (0, l2), some (0, l3), some (0, l4), some (0, x3), some (0, x5), some (0, x7), some (0, 0), some (0, x22)]) (st' := [(0, (-2)), (0, x31), (2, 173)]) rfl ?_
        obtain ⟨hg, h⟩ := h
        refine Rn_iast rfl (⟨rfl, (by omega : (0 : Int) ≤ 173), (by omega : (173 : Int) < K)⟩) hg (fun g32 he_g32 => ?_)
        have h := h g32 he_g32
        refine Rn_pure 4 (i' := 154) (L' := [some (2, 161), some (0, l1), some (0, l2), some (0, l3), some (0, l4), some (0, x3), some (0, x5), some (0, x7), some (0, 0), some (0, x22)]) (st' := [(0, 5), (2, 161), (0, 5), (2, 161)]) rfl ?_
        refine Rn_callI [(2, 161), (0, 5)] [(0, 5), (2, 161)] rfl rfl rfl rfl (ab_rvB_of rfl (⟨rfl, (by omega : (0 : Int) ≤ 161), (by omega : (161 : Int) < K)⟩)) ?_
        refine h.mono (fun x33 g' r' h => ?_)
        obtain ⟨hx, h⟩ := h
        replace hx := hx.symm
        subst hx
        obtain ⟨hx, h⟩ := h
        replace hx := hx.symm
        subst hx
        refine Rn_pure 2 (i' := 157) (L' := [some (2, 161), some (0, l1), some (0, l2), some (0, l3), some (0, l4), some (0, x3), some (0, x5), some (0, x7), some (0, 0), some (0, x22)]) (st' := [(0, x33 + 1), (0, 5), (2, 161)]) rfl ?_
        refine Rn_callV [(2, 161), (0, 5), (0, x33 + 1)] [] rfl rfl rfl rfl (ab_rvB_of rfl (⟨rfl, (by omega : (0 : Int) ≤ 161), (by omega : (161 : Int) < K)⟩)) ?_
        refine h.mono (fun g34 r' h => ?_)
        obtain ⟨hx, h⟩ := h
        replace hx := hx.symm
        subst hx
        exact Rn_ret0 rfl h
      · have h := h.2 hc
        exact Rn_ret0 rfl h
  · have h := h.2 hc
    refine Rn_pure 3 (i' := 65) (L' := [some (2, 161), some (0, l1), some (0, l2), some (0, l3), some (0, l4), some (0, x3), some (0, x5), some (0, x7), none, none]) (st' := [(0, 99999), (0, 0), (2, 161)]) rfl ?_
    refine Rn_callI [(2, 161), (0, 0), (0, 99999)] [] rfl rfl rfl rfl (ab_rvB_of rfl (⟨rfl, (by omega : (0 : Int) ≤ 161), (by omega : (161 : Int) < K)⟩)) ?_
    refine h.mono (fun x37 g36 r' h => ?_)
    obtain ⟨hx, h⟩ := h
    replace hx := hx.symm
    subst hx
    refine Rn_pure 4 (i' := 71) (L' := [some (2, 161), some (0, l1), some (0, l2), some (0, l3), some (0, l4), some (0, x3), some (0, x5), some (0, x7), some (0, x37), none]) (st' := [(0, 2), (0, x5)]) rfl ?_
    refine Rn_icle rfl (fun hc => ?_) (fun hc => ?_)
    · have h := h.1 hc
      refine Rn_pure 3 (i' := 80) (L' := [some (2, 161), some (0, l1), some (0, l2), some (0, l3), some (0, l4), some (0, x3), some (0, x5), some (0, x7), some (0, x37), some (0, 0)]) (st' := [(2, 161)]) rfl ?_
      refine Rn_getI rfl (⟨rfl, (by omega : (0 : Int) ≤ 161), (by omega : (161 : Int) < K)⟩) ?_
      refine Rn_ifeq rfl (fun hc => ?_) (fun hc => ?_)
      · have h := h.1 hc
        refine Rn_pure 1 (i' := 84) (L' := [some (2, 161), some (0, l1), some (0, l2), some (0, l3), some (0, l4), some (0, x3), some (0, x5), some (0, x7), some (0, x37), some (0, 0)]) (st' := [(2, 161)]) rfl ?_
        refine Rn_getR rfl (⟨rfl, (by omega : (0 : Int) ≤ 161), (by omega : (161 : Int) < K)⟩) (hr 147 _ rfl) (by decide) ?_
        refine Rn_pure 4 (i' := 89) (L' := [some (2, 161), some (0, l1), some (0, l2), some (0, l3), some (0, l4), some (0, x3), some (0, x5), some (0, x7), some (0, x37), some (0, 0)]) (st' := [(0, l1), (0, l2 + 0), (2, 172)]) rfl ?_
        obtain ⟨hg, h⟩ := h
        refine Rn_iast rfl (⟨rfl, (by omega : (0 : Int) ≤ 172), (by omega : (172 : Int) < K)⟩) hg (fun g38 he_g38 => ?_)
        have h := h g38 he_g38
        refine Rn_pure 1 (i' := 91) (L' := [some (2, 161), some (0, l1), some (0, l2), some (0, l3), some (0, l4), some (0, x3), some (0, x5), some (0, x7), some (0, x37), some (0, 0)]) (st' := [(2, 161)]) rfl ?_
        refine Rn_getR rfl (⟨rfl, (by omega : (0 : Int) ≤ 161), (by omega : (161 : Int) < K)⟩) (hr 147 _ rfl) (by decide) ?_
        refine Rn_pure 4 (i' := 96) (L' := [some (2, 161), some (0, l1), some (0, l2), some (0, l3), some (0, l4), some (0, x3), some (0, x5), some (0, x7), some (0, x37), some (0, 0)]) (st' := [(0, l3), (0, l2 + 1), (2, 172)]) rfl ?_
        obtain ⟨hg, h⟩ := h
        refine Rn_iast rfl (⟨rfl, (by omega : (0 : Int) ≤ 172), (by omega : (172 : Int) < K)⟩) hg (fun g39 he_g39 => ?_)
        have h := h g39 he_g39
        refine Rn_pure 1 (i' := 98) (L' := [some (2, 161), some (0, l1), some (0, l2), some (0, l3), some (0, l4), some (0, x3), some (0, x5), some (0, x7), some (0, x37), some (0, 0)]) (st' := [(2, 161)]) rfl ?_
        refine Rn_getR rfl (⟨rfl, (by omega : (0 : Int) ≤ 161), (by omega : (161 : Int) < K)⟩) (hr 147 _ rfl) (by decide) ?_
        refine Rn_pure 4 (i' := 103) (L' := [some (2, 161), some (0, l1), some (0, l2), some (0, l3), some (0, l4), some (0, x3), some (0, x5), some (0, x7), some (0, x37), some (0, 0)]) (st' := [(0, l4), (0, l2 + 2), (2, 172)]) rfl ?_
        obtain ⟨hg, h⟩ := h
        refine Rn_iast rfl (⟨rfl, (by omega : (0 : Int) ≤ 172), (by omega : (172 : Int) < K)⟩) hg (fun g40 he_g40 => ?_)
        have h := h g40 he_g40
        refine Rn_pure 1 (i' := 105) (L' := [some (2, 161), some (0, l1), some (0, l2), some (0, l3), some (0, l4), some (0, x3), some (0, x5), some (0, x7), some (0, x37), some (0, 0)]) (st' := [(2, 161)]) rfl ?_
        refine Rn_getR rfl (⟨rfl, (by omega : (0 : Int) ≤ 161), (by omega : (161 : Int) < K)⟩) (hr 147 _ rfl) (by decide) ?_
        refine Rn_pure 4 (i' := 110) (L' := [some (2, 161), some (0, l1), some (0, l2), some (0, l3), some (0, l4), some (0, x3), some (0, x5), some (0, x7), some (0, x37), some (0, 0)]) (st' := [(0, x3), (0, l2 + 3), (2, 172)]) rfl ?_
        obtain ⟨hg, h⟩ := h
        refine Rn_iast rfl (⟨rfl, (by omega : (0 : Int) ≤ 172), (by omega : (172 : Int) < K)⟩) hg (fun g41 he_g41 => ?_)
        have h := h g41 he_g41
        refine Rn_pure 1 (i' := 112) (L' := [some (2, 161), some (0, l1), some (0, l2), some (0, l3), some (0, l4), some (0, x3), some (0, x5), some (0, x7), some (0, x37), some (0, 0)]) (st' := [(2, 161)]) rfl ?_
        refine Rn_getR rfl (⟨rfl, (by omega : (0 : Int) ≤ 161), (by omega : (161 : Int) < K)⟩) (hr 147 _ rfl) (by decide) ?_
        refine Rn_pure 4 (i' := 117) (L' := [some (2, 161), some (0, l1), some (0, l2), some (0, l3), some (0, l4), some (0, x3), some (0, x5), some (0, x7), some (0, x37), some (0, 0)]) (st' := [(0, x5), (0, l2 + 4), (2, 172)]) rfl ?_
        obtain ⟨hg, h⟩ := h
        refine Rn_iast rfl (⟨rfl, (by omega : (0 : Int) ≤ 172), (by omega : (172 : Int) < K)⟩) hg (fun g42 he_g42 => ?_)
        have h := h g42 he_g42
        refine Rn_pure 1 (i' := 119) (L' := [some (2, 161), some (0, l1), some (0, l2), some (0, l3), some (0, l4), some (0, x3), some (0, x5), some (0, x7), some (0, x37), some (0, 0)]) (st' := [(2, 161)]) rfl ?_
        refine Rn_getR rfl (⟨rfl, (by omega : (0 : Int) ≤ 161), (by omega : (161 : Int) < K)⟩) (hr 147 _ rfl) (by decide) ?_
        refine Rn_pure 4 (i' := 124) (L' := [some (2, 161), some (0, l1), some (0, l2), some (0, l3), some (0, l4), some (0, x3), some (0, x5), some (0, x7), some (0, x37), some (0, 0)]) (st' := [(0, x7), (0, l2 + 5), (2, 172)]) rfl ?_
        obtain ⟨hg, h⟩ := h
        refine Rn_iast rfl (⟨rfl, (by omega : (0 : Int) ≤ 172), (by omega : (172 : Int) < K)⟩) hg (fun g43 he_g43 => ?_)
        have h := h g43 he_g43
        refine Rn_pure 1 (i' := 126) (L' := [some (2, 161), some (0, l1), some (0, l2), some (0, l3), some (0, l4), some (0, x3), some (0, x5), some (0, x7), some (0, x37), some (0, 0)]) (st' := [(2, 161)]) rfl ?_
        refine Rn_getR rfl (⟨rfl, (by omega : (0 : Int) ≤ 161), (by omega : (161 : Int) < K)⟩) (hr 147 _ rfl) (by decide) ?_
        refine Rn_pure 6 (i' := 133) (L' := [some (2, 161), some (0, l1), some (0, l2), some (0, l3), some (0, l4), some (0, x3), some (0, x5), some (0, x7), some (0, x37), some (0, 0)]) (st' := [(0, x37), (0, l2 + 5 + 1), (2, 172)]) rfl ?_
        obtain ⟨hg, h⟩ := h
        refine Rn_iast rfl (⟨rfl, (by omega : (0 : Int) ≤ 172), (by omega : (172 : Int) < K)⟩) hg (fun g44 he_g44 => ?_)
        have h := h g44 he_g44
        refine Rn_pure 1 (i' := 135) (L' := [some (2, 161), some (0, l1), some (0, l2), some (0, l3), some (0, l4), some (0, x3), some (0, x5), some (0, x7), some (0, x37), some (0, 0)]) (st' := [(2, 161)]) rfl ?_
        refine Rn_getR rfl (⟨rfl, (by omega : (0 : Int) ≤ 161), (by omega : (161 : Int) < K)⟩) (hr 147 _ rfl) (by decide) ?_
        refine Rn_pure 6 (i' := 142) (L' := [some (2, 161), some (0, l1), some (0, l2), some (0, l3), some (0, l4), some (0, x3), some (0, x5), some (0, x7), some (0, x37), some (0, 0)]) (st' := [(0, 0), (0, l2 + 5 + 2), (2, 172)]) rfl ?_
        obtain ⟨hg, h⟩ := h
        refine Rn_iast rfl (⟨rfl, (by omega : (0 : Int) ≤ 172), (by omega : (172 : Int) < K)⟩) hg (fun g45 he_g45 => ?_)
        have h := h g45 he_g45
        refine Rn_pure 1 (i' := 144) (L' := [some (2, 161), some (0, l1), some (0, l2), some (0, l3), some (0, l4), some (0, x3), some (0, x5), some (0, x7), some (0, x37), some (0, 0)]) (st' := [(2, 161)]) rfl ?_
        refine Rn_getR rfl (⟨rfl, (by omega : (0 : Int) ≤ 161), (by omega : (161 : Int) < K)⟩) (hr 148 _ rfl) (by decide) ?_
        refine Rn_pure 2 (i' := 147) (L' := [some (2, 161), some (0, l1), some (0, l2), some (0, l3), some (0, l4), some (0, x3), some (0, x5), some (0, x7), some (0, x37), some (0, 0)]) (st' := [(0, 5), (2, 161), (2, 173)]) rfl ?_
        refine Rn_callI [(2, 161), (0, 5)] [(2, 173)] rfl rfl rfl rfl (ab_rvB_of rfl (⟨rfl, (by omega : (0 : Int) ≤ 161), (by omega : (161 : Int) < K)⟩)) ?_
        refine h.mono (fun x46 g' r' h => ?_)
        obtain ⟨hx, h⟩ := h
        replace hx := hx.symm
        subst hx
        obtain ⟨hx, h⟩ := h
        replace hx := hx.symm
        subst hx
        refine Rn_pure 1 (i' := 149) (L' := [some (2, 161), some (0, l1), some (0, l2), some (0, l3), some (0, l4), some (0, x3), some (0, x5), some (0, x7), some (0, x37), some (0, 0)]) (st' := [(0, (-2)), (0, x46), (2, 173)]) rfl ?_
        obtain ⟨hg, h⟩ := h
        refine Rn_iast rfl (⟨rfl, (by omega : (0 : Int) ≤ 173), (by omega : (173 : Int) < K)⟩) hg (fun g47 he_g47 => ?_)
        have h := h g47 he_g47
        refine Rn_pure 4 (i' := 154) (L' := [some (2, 161), some (0, l1), some (0, l2), some (0, l3), some (0, l4), some (0, x3), some (0, x5), some (0, x7), some (0, x37), some (0, 0)]) (st' := [(0, 5), (2, 161), (0, 5), (2, 161)]) rfl ?_
        refine Rn_callI [(2, 161), (0, 5)] [(0, 5), (2, 161)] rfl rfl rfl rfl (ab_rvB_of rfl (⟨rfl, (by omega : (0 : Int) ≤ 161), (by omega : (161 : Int) < K)⟩)) ?_
        refine h.mono (fun x48 g' r' h => ?_)
        obtain ⟨hx, h⟩ := h
        replace hx := hx.symm
        subst hx
        obtain ⟨hx, h⟩ := h
        replace hx := hx.symm
        subst hx
        refine Rn_pure 2 (i' := 157) (L' := [some (2, 161), some (0, l1), some (0, l2), some (0, l3), some (0, l4), some (0, x3), some (0, x5), some (0, x7), some (0, x37), some (0, 0)]) (st' := [(0, x48 + 1), (0, 5), (2, 161)]) rfl ?_
        refine Rn_callV [(2, 161), (0, 5), (0, x48 + 1)] [] rfl rfl rfl rfl (ab_rvB_of rfl (⟨rfl, (by omega : (0 : Int) ≤ 161), (by omega : (161 : Int) < K)⟩)) ?_
        refine h.mono (fun g49 r' h => ?_)
        obtain ⟨hx, h⟩ := h
        replace hx := hx.symm
        subst hx
        exact Rn_ret0 rfl h
      · have h := h.2 hc
        exact Rn_ret0 rfl h
    · have h := h.2 hc
      refine Rn_pure 3 (i' := 75) (L' := [some (2, 161), some (0, l1), some (0, l2), some (0, l3), some (0, l4), some (0, x3), some (0, x5), some (0, x7), some (0, x37), none]) (st' := [(0, 99999), (0, 0), (2, 161)]) rfl ?_
      refine Rn_callI [(2, 161), (0, 0), (0, 99999)] [] rfl rfl rfl rfl (ab_rvB_of rfl (⟨rfl, (by omega : (0 : Int) ≤ 161), (by omega : (161 : Int) < K)⟩)) ?_
      refine h.mono (fun x52 g51 r' h => ?_)
      obtain ⟨hx, h⟩ := h
      replace hx := hx.symm
      subst hx
      refine Rn_pure 3 (i' := 80) (L' := [some (2, 161), some (0, l1), some (0, l2), some (0, l3), some (0, l4), some (0, x3), some (0, x5), some (0, x7), some (0, x37), some (0, x52)]) (st' := [(2, 161)]) rfl ?_
      refine Rn_getI rfl (⟨rfl, (by omega : (0 : Int) ≤ 161), (by omega : (161 : Int) < K)⟩) ?_
      refine Rn_ifeq rfl (fun hc => ?_) (fun hc => ?_)
      · have h := h.1 hc
        refine Rn_pure 1 (i' := 84) (L' := [some (2, 161), some (0, l1), some (0, l2), some (0, l3), some (0, l4), some (0, x3), some (0, x5), some (0, x7), some (0, x37), some (0, x52)]) (st' := [(2, 161)]) rfl ?_
        refine Rn_getR rfl (⟨rfl, (by omega : (0 : Int) ≤ 161), (by omega : (161 : Int) < K)⟩) (hr 147 _ rfl) (by decide) ?_
        refine Rn_pure 4 (i' := 89) (L' := [some (2, 161), some (0, l1), some (0, l2), some (0, l3), some (0, l4), some (0, x3), some (0, x5), some (0, x7), some (0, x37), some (0, x52)]) (st' := [(0, l1), (0, l2 + 0), (2, 172)]) rfl ?_
        obtain ⟨hg, h⟩ := h
        refine Rn_iast rfl (⟨rfl, (by omega : (0 : Int) ≤ 172), (by omega : (172 : Int) < K)⟩) hg (fun g53 he_g53 => ?_)
        have h := h g53 he_g53
        refine Rn_pure 1 (i' := 91) (L' := [some (2, 161), some (0, l1), some (0, l2), some (0, l3), some (0, l4), some (0, x3), some (0, x5), some (0, x7), some (0, x37), some (0, x52)]) (st' := [(2, 161)]) rfl ?_
        refine Rn_getR rfl (⟨rfl, (by omega : (0 : Int) ≤ 161), (by omega : (161 : Int) < K)⟩) (hr 147 _ rfl) (by decide) ?_
        refine Rn_pure 4 (i' := 96) (L' := [some (2, 161), some (0, l1), some (0, l2), some (0, l3), some (0, l4), some (0, x3), some (0, x5), some (0, x7), some (0, x37), some (0, x52)]) (st' := [(0, l3), (0, l2 + 1), (2, 172)]) rfl ?_
        obtain ⟨hg, h⟩ := h
        refine Rn_iast rfl (⟨rfl, (by omega : (0 : Int) ≤ 172), (by omega : (172 : Int) < K)⟩) hg (fun g54 he_g54 => ?_)
        have h := h g54 he_g54
        refine Rn_pure 1 (i' := 98) (L' := [some (2, 161), some (0, l1), some (0, l2), some (0, l3), some (0, l4), some (0, x3), some (0, x5), some (0, x7), some (0, x37), some (0, x52)]) (st' := [(2, 161)]) rfl ?_
        refine Rn_getR rfl (⟨rfl, (by omega : (0 : Int) ≤ 161), (by omega : (161 : Int) < K)⟩) (hr 147 _ rfl) (by decide) ?_
        refine Rn_pure 4 (i' := 103) (L' := [some (2, 161), some (0, l1), some (0, l2), some (0, l3), some (0, l4), some (0, x3), some (0, x5), some (0, x7), some (0, x37), some (0, x52)]) (st' := [(0, l4), (0, l2 + 2), (2, 172)]) rfl ?_
        obtain ⟨hg, h⟩ := h
        refine Rn_iast rfl (⟨rfl, (by omega : (0 : Int) ≤ 172), (by omega : (172 : Int) < K)⟩) hg (fun g55 he_g55 => ?_)
        have h := h g55 he_g55
        refine Rn_pure 1 (i' := 105) (L' := [some (2, 161), some (0, l1), some (0, l2), some (0, l3), some (0, l4), some (0, x3), some (0, x5), some (0, x7), some (0, x37), some (0, x52)]) (st' := [(2, 161)]) rfl ?_
        refine Rn_getR rfl (⟨rfl, (by omega : (0 : Int) ≤ 161), (by omega : (161 : Int) < K)⟩) (hr 147 _ rfl) (by decide) ?_
        refine Rn_pure 4 (i' := 110) (L' := [some (2, 161), some (0, l1), some (0, l2), some (0, l3), some (0, l4), some (0, x3), some (0, x5), some (0, x7), some (0, x37), some (0, x52)]) (st' := [(0, x3), (0, l2 + 3), (2, 172)]) rfl ?_
        obtain ⟨hg, h⟩ := h
        refine Rn_iast rfl (⟨rfl, (by omega : (0 : Int) ≤ 172), (by omega : (172 : Int) < K)⟩) hg (fun g56 he_g56 => ?_)
        have h := h g56 he_g56
        refine Rn_pure 1 (i' := 112) (L' := [some (2, 161), some (0, l1), some (0, l2), some (0, l3), some (0, l4), some (0, x3), some (0, x5), some (0, x7), some (0, x37), some (0, x52)]) (st' := [(2, 161)]) rfl ?_
        refine Rn_getR rfl (⟨rfl, (by omega : (0 : Int) ≤ 161), (by omega : (161 : Int) < K)⟩) (hr 147 _ rfl) (by decide) ?_
        refine Rn_pure 4 (i' := 117) (L' := [some (2, 161), some (0, l1), some (0, l2), some (0, l3), some (0, l4), some (0, x3), some (0, x5), some (0, x7), some (0, x37), some (0, x52)]) (st' := [(0, x5), (0, l2 + 4), (2, 172)]) rfl ?_
        obtain ⟨hg, h⟩ := h
        refine Rn_iast rfl (⟨rfl, (by omega : (0 : Int) ≤ 172), (by omega : (172 : Int) < K)⟩) hg (fun g57 he_g57 => ?_)
        have h := h g57 he_g57
        refine Rn_pure 1 (i' := 119) (L' := [some (2, 161), some (0, l1), some (0, l2), some (0, l3), some (0, l4), some (0, x3), some (0, x5), some (0, x7), some (0, x37), some (0, x52)]) (st' := [(2, 161)]) rfl ?_
        refine Rn_getR rfl (⟨rfl, (by omega : (0 : Int) ≤ 161), (by omega : (161 : Int) < K)⟩) (hr 147 _ rfl) (by decide) ?_
        refine Rn_pure 4 (i' := 124) (L' := [some (2, 161), some (0, l1), some (0, l2), some (0, l3), some (0, l4), some (0, x3), some (0, x5), some (0, x7), some (0, x37), some (0, x52)]) (st' := [(0, x7), (0, l2 + 5), (2, 172)]) rfl ?_
        obtain ⟨hg, h⟩ := h
        refine Rn_iast rfl (⟨rfl, (by omega : (0 : Int) ≤ 172), (by omega : (172 : Int) < K)⟩) hg (fun g58 he_g58 => ?_)
        have h := h g58 he_g58
        refine Rn_pure 1 (i' := 126) (L' := [some (2, 161), some (0, l1), some (0, l2), some (0, l3), some (0, l4), some (0, x3), some (0, x5), some (0, x7), some (0, x37), some (0, x52)]) (st' := [(2, 161)]) rfl ?_
        refine Rn_getR rfl (⟨rfl, (by omega : (0 : Int) ≤ 161), (by omega : (161 : Int) < K)⟩) (hr 147 _ rfl) (by decide) ?_
        refine Rn_pure 6 (i' := 133) (L' := [some (2, 161), some (0, l1), some (0, l2), some (0, l3), some (0, l4), some (0, x3), some (0, x5), some (0, x7), some (0, x37), some (0, x52)]) (st' := [(0, x37), (0, l2 + 5 + 1), (2, 172)]) rfl ?_
        obtain ⟨hg, h⟩ := h
        refine Rn_iast rfl (⟨rfl, (by omega : (0 : Int) ≤ 172), (by omega : (172 : Int) < K)⟩) hg (fun g59 he_g59 => ?_)
        have h := h g59 he_g59
        refine Rn_pure 1 (i' := 135) (L' := [some (2, 161), some (0, l1), some (0, l2), some (0, l3), some (0, l4), some (0, x3), some (0, x5), some (0, x7), some (0, x37), some (0, x52)]) (st' := [(2, 161)]) rfl ?_
        refine Rn_getR rfl (⟨rfl, (by omega : (0 : Int) ≤ 161), (by omega : (161 : Int) < K)⟩) (hr 147 _ rfl) (by decide) ?_
        refine Rn_pure 6 (i' := 142) (L' := [some (2, 161), some (0, l1), some (0, l2), some (0, l3), some (0, l4), some (0, x3), some (0, x5), some (0, x7), some (0, x37), some (0, x52)]) (st' := [(0, x52), (0, l2 + 5 + 2), (2, 172)]) rfl ?_
        obtain ⟨hg, h⟩ := h
        refine Rn_iast rfl (⟨rfl, (by omega : (0 : Int) ≤ 172), (by omega : (172 : Int) < K)⟩) hg (fun g60 he_g60 => ?_)
        have h := h g60 he_g60
        refine Rn_pure 1 (i' := 144) (L' := [some (2, 161), some (0, l1), some (0, l2), some (0, l3), some (0, l4), some (0, x3), some (0, x5), some (0, x7), some (0, x37), some (0, x52)]) (st' := [(2, 161)]) rfl ?_
        refine Rn_getR rfl (⟨rfl, (by omega : (0 : Int) ≤ 161), (by omega : (161 : Int) < K)⟩) (hr 148 _ rfl) (by decide) ?_
        refine Rn_pure 2 (i' := 147) (L' := [some (2, 161), some (0, l1), some (0, l2), some (0, l3), some (0, l4), some (0, x3), some (0, x5), some (0, x7), some (0, x37), some (0, x52)]) (st' := [(0, 5), (2, 161), (2, 173)]) rfl ?_
        refine Rn_callI [(2, 161), (0, 5)] [(2, 173)] rfl rfl rfl rfl (ab_rvB_of rfl (⟨rfl, (by omega : (0 : Int) ≤ 161), (by omega : (161 : Int) < K)⟩)) ?_
        refine h.mono (fun x61 g' r' h => ?_)
        obtain ⟨hx, h⟩ := h
        replace hx := hx.symm
        subst hx
        obtain ⟨hx, h⟩ := h
        replace hx := hx.symm
        subst hx
        refine Rn_pure 1 (i' := 149) (L' := [some (2, 161), some (0, l1), some (0, l2), some (0, l3), some (0, l4), some (0, x3), some (0, x5), some (0, x7), some (0, x37), some (0, x52)]) (st' := [(0, (-2)), (0, x61), (2, 173)]) rfl ?_
        obtain ⟨hg, h⟩ := h
        refine Rn_iast rfl (⟨rfl, (by omega : (0 : Int) ≤ 173), (by omega : (173 : Int) < K)⟩) hg (fun g62 he_g62 => ?_)
        have h := h g62 he_g62
        refine Rn_pure 4 (i' := 154) (L' := [some (2, 161), some (0, l1), some (0, l2), some (0, l3), some (0, l4), some (0, x3), some (0, x5), some (0, x7), some (0, x37), some (0, x52)]) (st' := [(0, 5), (2, 161), (0, 5), (2, 161)]) rfl ?_
        refine Rn_callI [(2, 161), (0, 5)] [(0, 5), (2, 161)] rfl rfl rfl rfl (ab_rvB_of rfl (⟨rfl, (by omega : (0 : Int) ≤ 161), (by omega : (161 : Int) < K)⟩)) ?_
        refine h.mono (fun x63 g' r' h => ?_)
        obtain ⟨hx, h⟩ := h
        replace hx := hx.symm
        subst hx
        obtain ⟨hx, h⟩ := h
        replace hx := hx.symm
        subst hx
        refine Rn_pure 2 (i' := 157) (L' := [some (2, 161), some (0, l1), some (0, l2), some (0, l3), some (0, l4), some (0, x3), some (0, x5), some (0, x7), some (0, x37), some (0, x52)]) (st' := [(0, x63 + 1), (0, 5), (2, 161)]) rfl ?_
        refine Rn_callV [(2, 161), (0, 5), (0, x63 + 1)] [] rfl rfl rfl rfl (ab_rvB_of rfl (⟨rfl, (by omega : (0 : Int) ≤ 161), (by omega : (161 : Int) < K)⟩)) ?_
        refine h.mono (fun g64 r' h => ?_)
        obtain ⟨hx, h⟩ := h
        replace hx := hx.symm
        subst hx
        exact Rn_ret0 rfl h
      · have h := h.2 hc
        exact Rn_ret0 rfl h
-- EventLedgerModel.readRevoke ()V
theorem v_M_readRevoke {K : Int} {S : Nat} {g r : ab_H} (P : ab_H → ab_H → Prop) (hr : SI r) (hK : 185 ≤ K) (h : ab_RI m_M_reading [(2, 161), (0, 5)] K S g r (fun x1 g' r' => g' = g ∧ r' = r ∧ (ab_RI m_M_reading [(2, 161), (0, 5)] K S g r (fun x2 g' r' => g' = g ∧ r' = r ∧ (((¬ wr x2 = wr 50 → ab_Rn m_M_readRevoke 14 [some (2, 161), some (0, 8 * x1), none, none, none] [] (K, S, g, r) (ab_Qv K S P)) ∧ (wr x2 = wr 50 → ab_RV m_M_wrong [(2, 161), (0, 2)] K S g r (fun g3 r' => r' = r ∧ (ab_Rn m_M_readRevoke 14 [some (2, 161), some (0, 8 * x1), none, none, none] [] (K, S, g3, r) (ab_Qv K S P)))))))))) : ab_RV m_M_readRevoke [(2, 161)] K S g r P := by
  show ab_Rn m_M_readRevoke 0 [some (2, 161), none, none, none, none] [] (K, S, g, r) (ab_Qv K S P)
  refine Rn_pure 3 (i' := 3) (L' := [some (2, 161), none, none, none, none]) (st' := [(0, 5), (2, 161), (0, 8)]) rfl ?_
  refine Rn_callI [(2, 161), (0, 5)] [(0, 8)] rfl rfl rfl rfl (ab_rvB_of rfl (⟨rfl, (by omega : (0 : Int) ≤ 161), (by omega : (161 : Int) < K)⟩)) ?_
  refine h.mono (fun x1 g' r' h => ?_)
  obtain ⟨hx, h⟩ := h
  replace hx := hx.symm
  subst hx
  obtain ⟨hx, h⟩ := h
  replace hx := hx.symm
  subst hx
  refine Rn_pure 4 (i' := 8) (L' := [some (2, 161), some (0, 8 * x1), none, none, none]) (st' := [(0, 5), (2, 161)]) rfl ?_
  refine Rn_callI [(2, 161), (0, 5)] [] rfl rfl rfl rfl (ab_rvB_of rfl (⟨rfl, (by omega : (0 : Int) ≤ 161), (by omega : (161 : Int) < K)⟩)) ?_
  refine h.mono (fun x2 g' r' h => ?_)
  obtain ⟨hx, h⟩ := h
  replace hx := hx.symm
  subst hx
  obtain ⟨hx, h⟩ := h
  replace hx := hx.symm
  subst hx
  refine Rn_pure 1 (i' := 10) (L' := [some (2, 161), some (0, 8 * x1), none, none, none]) (st' := [(0, 50), (0, x2)]) rfl ?_
  refine Rn_icne rfl (fun hc => ?_) (fun hc => ?_)
  · have h := h.1 hc
    exact h
  · have h := h.2 hc
    refine Rn_pure 2 (i' := 13) (L' := [some (2, 161), some (0, 8 * x1), none, none, none]) (st' := [(0, 2), (2, 161)]) rfl ?_
    refine Rn_callV [(2, 161), (0, 2)] [] rfl rfl rfl rfl (ab_rvB_of rfl (⟨rfl, (by omega : (0 : Int) ≤ 161), (by omega : (161 : Int) < K)⟩)) ?_
    refine h.mono (fun g3 r' h => ?_)
    obtain ⟨hx, h⟩ := h
    replace hx := hx.symm
    subst hx
    exact h
theorem v_M_readRevoke_14 {K : Int} {S : Nat} {g r : ab_H} {l1 : Int} (P : ab_H → ab_H → Prop) (hr : SI r) (hK : 185 ≤ K) (h : ab_RV m_M_goOn [(2, 161)] K S g r (fun g1 r' => r' = r ∧ (((wr (g1 161 22) = wr 0 → ((wr (g1 161 20) = wr 2 → ab_RI m_M_reading [(2, 161), (0, 5)] K S g1 r (fun x3 g' r' => g' = g1 ∧ r' = r ∧ (((wr x3 ≤ wr (g1 161 21) → ab_Rn m_M_readRevoke 45 [some (2, 161), some (0, l1), none, none, none] [] (K, S, g1, r) (ab_Qv K S P)) ∧ (wr (g1 161 21) < wr x3 → ((0 : Int) ≤ 8 * (g1 161 21) + 0 ∧ (8 * (g1 161 21) + 0 : Int) < 400) ∧ ((¬ wr (g1 172 (8 * (g1 161 21) + 0)) = wr 7 → ((0 : Int) ≤ g1 161 21 ∧ (g1 161 21 : Int) < 50) ∧ ((wr (g1 173 (g1 161 21)) = wr (-2) → ab_Rn m_M_readRevoke 59 [some (2, 161), some (0, l1), none, none, none] [] (K, S, g1, r) (ab_Qv K S P)) ∧ (¬ wr (g1 173 (g1 161 21)) = wr (-2) → ab_RV m_M_wrong [(2, 161), (0, 3)] K S g1 r (fun g4 r' => r' = r ∧ (ab_Rn m_M_readRevoke 59 [some (2, 161), some (0, l1), none, none, none] [] (K, S, g4, r) (ab_Qv K S P)))))) ∧ (wr (g1 172 (8 * (g1 161 21) + 0)) = wr 7 → ab_Rn m_M_readRevoke 45 [some (2, 161), some (0, l1), none, none, none] [] (K, S, g1, r) (ab_Qv K S P)))))))) ∧ (¬ wr (g1 161 20) = wr 2 → ab_RV m_M_wrong [(2, 161), (0, 1)] K S g1 r (fun g6 r' => r' = r ∧ (ab_Rn m_M_readRevoke 59 [some (2, 161), some (0, l1), none, none, none] [] (K, S, g6, r) (ab_Qv K S P)))))) ∧ (¬ wr (g1 161 22) = wr 0 → P g1 r))))) : ab_Rn m_M_readRevoke 14 [some (2, 161), some (0, l1), none, none, none] [] (K, S, g, r) (ab_Qv K S P) := by
  refine Rn_pure 1 (i' := 15) (L' := [some (2, 161), some (0, l1), none, none, none]) (st' := [(2, 161)]) rfl ?_
  refine Rn_callV [(2, 161)] [] rfl rfl rfl rfl (ab_rvB_of rfl (⟨rfl, (by omega : (0 : Int) ≤ 161), (by omega : (161 : Int) < K)⟩)) ?_
  refine h.mono (fun g1 r' h => ?_)
  obtain ⟨hx, h⟩ := h
  replace hx := hx.symm
  subst hx
  refine Rn_pure 1 (i' := 17) (L' := [some (2, 161), some (0, l1), none, none, none]) (st' := [(2, 161)]) rfl ?_
  refine Rn_getI rfl (⟨rfl, (by omega : (0 : Int) ≤ 161), (by omega : (161 : Int) < K)⟩) ?_
  refine Rn_ifeq rfl (fun hc => ?_) (fun hc => ?_)
  · have h := h.1 hc
    refine Rn_pure 1 (i' := 21) (L' := [some (2, 161), some (0, l1), none, none, none]) (st' := [(2, 161)]) rfl ?_
    refine Rn_getI rfl (⟨rfl, (by omega : (0 : Int) ≤ 161), (by omega : (161 : Int) < K)⟩) ?_
    refine Rn_pure 1 (i' := 23) (L' := [some (2, 161), some (0, l1), none, none, none]) (st' := [(0, 2), (0, g1 161 20)]) rfl ?_
    refine Rn_iceq rfl (fun hc => ?_) (fun hc => ?_)
    · have h := h.1 hc
      refine Rn_pure 1 (i' := 29) (L' := [some (2, 161), some (0, l1), none, none, none]) (st' := [(2, 161)]) rfl ?_
      refine Rn_getI rfl (⟨rfl, (by omega : (0 : Int) ≤ 161), (by omega : (161 : Int) < K)⟩) ?_
      refine Rn_pure 2 (i' := 32) (L' := [some (2, 161), some (0, l1), none, none, none]) (st' := [(0, 5), (2, 161), (0, g1 161 21)]) rfl ?_
      refine Rn_callI [(2, 161), (0, 5)] [(0, g1 161 21)] rfl rfl rfl rfl (ab_rvB_of rfl (⟨rfl, (by omega : (0 : Int) ≤ 161), (by omega : (161 : Int) < K)⟩)) ?_
      refine h.mono (fun x3 g' r' h => ?_)
      obtain ⟨hx, h⟩ := h
      replace hx := hx.symm
      subst hx
      obtain ⟨hx, h⟩ := h
      replace hx := hx.symm
      subst hx
      refine Rn_icge rfl (fun hc => ?_) (fun hc => ?_)
      · have h := h.1 hc
        exact h
      · have h := h.2 hc
        refine Rn_pure 1 (i' := 35) (L' := [some (2, 161), some (0, l1), none, none, none]) (st' := [(2, 161)]) rfl ?_
        refine Rn_getR rfl (⟨rfl, (by omega : (0 : Int) ≤ 161), (by omega : (161 : Int) < K)⟩) (hr 147 _ rfl) (by decide) ?_
        refine Rn_pure 2 (i' := 38) (L' := [some (2, 161), some (0, l1), none, none, none]) (st' := [(2, 161), (0, 8), (2, 172)]) rfl ?_
        refine Rn_getI rfl (⟨rfl, (by omega : (0 : Int) ≤ 161), (by omega : (161 : Int) < K)⟩) ?_
        refine Rn_pure 3 (i' := 42) (L' := [some (2, 161), some (0, l1), none, none, none]) (st' := [(0, 8 * (g1 161 21) + 0), (2, 172)]) rfl ?_
        obtain ⟨hg, h⟩ := h
        refine Rn_iald rfl (⟨rfl, (by omega : (0 : Int) ≤ 172), (by omega : (172 : Int) < K)⟩) hg ?_
        refine Rn_pure 1 (i' := 44) (L' := [some (2, 161), some (0, l1), none, none, none]) (st' := [(0, 7), (0, g1 172 (8 * (g1 161 21) + 0))]) rfl ?_
        refine Rn_icne rfl (fun hc => ?_) (fun hc => ?_)
        · have h := h.1 hc
          refine Rn_pure 1 (i' := 50) (L' := [some (2, 161), some (0, l1), none, none, none]) (st' := [(2, 161)]) rfl ?_
          refine Rn_getR rfl (⟨rfl, (by omega : (0 : Int) ≤ 161), (by omega : (161 : Int) < K)⟩) (hr 148 _ rfl) (by decide) ?_
          refine Rn_pure 1 (i' := 52) (L' := [some (2, 161), some (0, l1), none, none, none]) (st' := [(2, 161), (2, 173)]) rfl ?_
          refine Rn_getI rfl (⟨rfl, (by omega : (0 : Int) ≤ 161), (by omega : (161 : Int) < K)⟩) ?_
          obtain ⟨hg, h⟩ := h
          refine Rn_iald rfl (⟨rfl, (by omega : (0 : Int) ≤ 173), (by omega : (173 : Int) < K)⟩) hg ?_
          refine Rn_pure 1 (i' := 55) (L' := [some (2, 161), some (0, l1), none, none, none]) (st' := [(0, (-2)), (0, g1 173 (g1 161 21))]) rfl ?_
          refine Rn_iceq rfl (fun hc => ?_) (fun hc => ?_)
          · have h := h.1 hc
            exact h
          · have h := h.2 hc
            refine Rn_pure 2 (i' := 58) (L' := [some (2, 161), some (0, l1), none, none, none]) (st' := [(0, 3), (2, 161)]) rfl ?_
            refine Rn_callV [(2, 161), (0, 3)] [] rfl rfl rfl rfl (ab_rvB_of rfl (⟨rfl, (by omega : (0 : Int) ≤ 161), (by omega : (161 : Int) < K)⟩)) ?_
            refine h.mono (fun g4 r' h => ?_)
            obtain ⟨hx, h⟩ := h
            replace hx := hx.symm
            subst hx
            exact h
        · have h := h.2 hc
          exact h
    · have h := h.2 hc
      refine Rn_pure 2 (i' := 26) (L' := [some (2, 161), some (0, l1), none, none, none]) (st' := [(0, 1), (2, 161)]) rfl ?_
      refine Rn_callV [(2, 161), (0, 1)] [] rfl rfl rfl rfl (ab_rvB_of rfl (⟨rfl, (by omega : (0 : Int) ≤ 161), (by omega : (161 : Int) < K)⟩)) ?_
      refine h.mono (fun g6 r' h => ?_)
      obtain ⟨hx, h⟩ := h
      replace hx := hx.symm
      subst hx
      refine Rn_pure 1 (i' := 59) (L' := [some (2, 161), some (0, l1), none, none, none]) (st' := []) rfl ?_
      exact h
  · have h := h.2 hc
    exact Rn_ret0 rfl h
theorem v_M_readRevoke_45 {K : Int} {S : Nat} {g r : ab_H} {l1 : Int} (P : ab_H → ab_H → Prop) (hr : SI r) (hK : 185 ≤ K) (h : ab_RV m_M_wrong [(2, 161), (0, 4)] K S g r (fun g1 r' => r' = r ∧ (ab_Rn m_M_readRevoke 59 [some (2, 161), some (0, l1), none, none, none] [] (K, S, g1, r) (ab_Qv K S P)))) : ab_Rn m_M_readRevoke 45 [some (2, 161), some (0, l1), none, none, none] [] (K, S, g, r) (ab_Qv K S P) := by
  refine Rn_pure 2 (i' := 47) (L' := [some (2, 161), some (0, l1), none, none, none]) (st' := [(0, 4), (2, 161)]) rfl ?_
  refine Rn_callV [(2, 161), (0, 4)] [] rfl rfl rfl rfl (ab_rvB_of rfl (⟨rfl, (by omega : (0 : Int) ≤ 161), (by omega : (161 : Int) < K)⟩)) ?_
  refine h.mono (fun g1 r' h => ?_)
  obtain ⟨hx, h⟩ := h
  replace hx := hx.symm
  subst hx
  refine Rn_pure 1 (i' := 59) (L' := [some (2, 161), some (0, l1), none, none, none]) (st' := []) rfl ?_
  exact h
theorem v_M_readRevoke_59 {K : Int} {S : Nat} {g r : ab_H} {l1 : Int} (P : ab_H → ab_H → Prop) (hr : SI r) (hK : 185 ≤ K) (h : ((¬ wr (g 161 22) = wr 0 → ab_RV m_M_goOn [(2, 161)] K S g r (fun g1 r' => r' = r ∧ (ab_RI m_M_timeAhead [(2, 161)] K S g1 r (fun x3 g' r' => g' = g1 ∧ r' = r ∧ (ab_RI m_M_numeral [(2, 161), (0, x3), (0, 9999)] K S g1 r (fun x5 g4 r' => r' = r ∧ (((wr (g4 161 22) = wr 0 → ((0 : Int) ≤ l1 + 0 ∧ (l1 + 0 : Int) < 400) ∧ ∀ g6, g6 = ab_up g4 172 (l1 + 0) 7 → ((0 : Int) ≤ l1 + 1 ∧ (l1 + 1 : Int) < 400) ∧ ∀ g7, g7 = ab_up g6 172 (l1 + 1) (-2) → ((0 : Int) ≤ l1 + 2 ∧ (l1 + 2 : Int) < 400) ∧ ∀ g8, g8 = ab_up g7 172 (l1 + 2) 0 → ((0 : Int) ≤ l1 + 3 ∧ (l1 + 3 : Int) < 400) ∧ ∀ g9, g9 = ab_up g8 172 (l1 + 3) x5 → ((0 : Int) ≤ l1 + 4 ∧ (l1 + 4 : Int) < 400) ∧ ∀ g10, g10 = ab_up g9 172 (l1 + 4) 0 → ab_Rn m_M_readRevoke 116 [some (2, 161), some (0, l1), some (0, 0), none, some (0, 0)] [] (K, S, g10, r) (ab_Qv K S P)) ∧ (¬ wr (g4 161 22) = wr 0 → P g4 r))))))))) ∧ (wr (g 161 22) = wr 0 → ab_RV m_M_goOn [(2, 161)] K S g r (fun g11 r' => r' = r ∧ (ab_RI m_M_timeAhead [(2, 161)] K S g11 r (fun x13 g' r' => g' = g11 ∧ r' = r ∧ (ab_RI m_M_numeral [(2, 161), (0, x13), (0, 9999)] K S g11 r (fun x15 g14 r' => r' = r ∧ (((wr (g14 161 22) = wr 0 → ((0 : Int) ≤ l1 + 0 ∧ (l1 + 0 : Int) < 400) ∧ ∀ g16, g16 = ab_up g14 172 (l1 + 0) 7 → ((0 : Int) ≤ l1 + 1 ∧ (l1 + 1 : Int) < 400) ∧ ∀ g17, g17 = ab_up g16 172 (l1 + 1) (-2) → ((0 : Int) ≤ l1 + 2 ∧ (l1 + 2 : Int) < 400) ∧ ∀ g18, g18 = ab_up g17 172 (l1 + 2) (g 161 21) → ((0 : Int) ≤ l1 + 3 ∧ (l1 + 3 : Int) < 400) ∧ ∀ g19, g19 = ab_up g18 172 (l1 + 3) x15 → ((0 : Int) ≤ l1 + 4 ∧ (l1 + 4 : Int) < 400) ∧ ∀ g20, g20 = ab_up g19 172 (l1 + 4) 0 → ab_Rn m_M_readRevoke 116 [some (2, 161), some (0, l1), some (0, g 161 21), none, some (0, 0)] [] (K, S, g20, r) (ab_Qv K S P)) ∧ (¬ wr (g14 161 22) = wr 0 → P g14 r))))))))))) : ab_Rn m_M_readRevoke 59 [some (2, 161), some (0, l1), none, none, none] [] (K, S, g, r) (ab_Qv K S P) := by
  refine Rn_pure 1 (i' := 60) (L' := [some (2, 161), some (0, l1), none, none, none]) (st' := [(2, 161)]) rfl ?_
  refine Rn_getI rfl (⟨rfl, (by omega : (0 : Int) ≤ 161), (by omega : (161 : Int) < K)⟩) ?_
  refine Rn_ifne rfl (fun hc => ?_) (fun hc => ?_)
  · have h := h.1 hc
    refine Rn_pure 3 (i' := 68) (L' := [some (2, 161), some (0, l1), some (0, 0), none, none]) (st' := [(2, 161)]) rfl ?_
    refine Rn_callV [(2, 161)] [] rfl rfl rfl rfl (ab_rvB_of rfl (⟨rfl, (by omega : (0 : Int) ≤ 161), (by omega : (161 : Int) < K)⟩)) ?_
    refine h.mono (fun g1 r' h => ?_)
    obtain ⟨hx, h⟩ := h
    replace hx := hx.symm
    subst hx
    refine Rn_pure 2 (i' := 71) (L' := [some (2, 161), some (0, l1), some (0, 0), none, none]) (st' := [(2, 161), (2, 161)]) rfl ?_
    refine Rn_callI [(2, 161)] [(2, 161)] rfl rfl rfl rfl (ab_rvB_of rfl (⟨rfl, (by omega : (0 : Int) ≤ 161), (by omega : (161 : Int) < K)⟩)) ?_
    refine h.mono (fun x3 g' r' h => ?_)
    obtain ⟨hx, h⟩ := h
    replace hx := hx.symm
    subst hx
    obtain ⟨hx, h⟩ := h
    replace hx := hx.symm
    subst hx
    refine Rn_pure 1 (i' := 73) (L' := [some (2, 161), some (0, l1), some (0, 0), none, none]) (st' := [(0, 9999), (0, x3), (2, 161)]) rfl ?_
    refine Rn_callI [(2, 161), (0, x3), (0, 9999)] [] rfl rfl rfl rfl (ab_rvB_of rfl (⟨rfl, (by omega : (0 : Int) ≤ 161), (by omega : (161 : Int) < K)⟩)) ?_
    refine h.mono (fun x5 g4 r' h => ?_)
    obtain ⟨hx, h⟩ := h
    replace hx := hx.symm
    subst hx
    refine Rn_pure 2 (i' := 76) (L' := [some (2, 161), some (0, l1), some (0, 0), some (0, x5), none]) (st' := [(2, 161)]) rfl ?_
    refine Rn_getI rfl (⟨rfl, (by omega : (0 : Int) ≤ 161), (by omega : (161 : Int) < K)⟩) ?_
    refine Rn_ifeq rfl (fun hc => ?_) (fun hc => ?_)
    · have h := h.1 hc
      refine Rn_pure 1 (i' := 80) (L' := [some (2, 161), some (0, l1), some (0, 0), some (0, x5), none]) (st' := [(2, 161)]) rfl ?_
      refine Rn_getR rfl (⟨rfl, (by omega : (0 : Int) ≤ 161), (by omega : (161 : Int) < K)⟩) (hr 147 _ rfl) (by decide) ?_
      refine Rn_pure 4 (i' := 85) (L' := [some (2, 161), some (0, l1), some (0, 0), some (0, x5), none]) (st' := [(0, 7), (0, l1 + 0), (2, 172)]) rfl ?_
      obtain ⟨hg, h⟩ := h
      refine Rn_iast rfl (⟨rfl, (by omega : (0 : Int) ≤ 172), (by omega : (172 : Int) < K)⟩) hg (fun g6 he_g6 => ?_)
      have h := h g6 he_g6
      refine Rn_pure 1 (i' := 87) (L' := [some (2, 161), some (0, l1), some (0, 0), some (0, x5), none]) (st' := [(2, 161)]) rfl ?_
      refine Rn_getR rfl (⟨rfl, (by omega : (0 : Int) ≤ 161), (by omega : (161 : Int) < K)⟩) (hr 147 _ rfl) (by decide) ?_
      refine Rn_pure 4 (i' := 92) (L' := [some (2, 161), some (0, l1), some (0, 0), some (0, x5), none]) (st' := [(0, (-2)), (0, l1 + 1), (2, 172)]) rfl ?_
      obtain ⟨hg, h⟩ := h
      refine Rn_iast rfl (⟨rfl, (by omega : (0 : Int) ≤ 172), (by omega : (172 : Int) < K)⟩) hg (fun g7 he_g7 => ?_)
      have h := h g7 he_g7
      refine Rn_pure 1 (i' := 94) (L' := [some (2, 161), some (0, l1), some (0, 0), some (0, x5), none]) (st' := [(2, 161)]) rfl ?_
      refine Rn_getR rfl (⟨rfl, (by omega : (0 : Int) ≤ 161), (by omega : (161 : Int) < K)⟩) (hr 147 _ rfl) (by decide) ?_
      refine Rn_pure 4 (i' := 99) (L' := [some (2, 161), some (0, l1), some (0, 0), some (0, x5), none]) (st' := [(0, 0), (0, l1 + 2), (2, 172)]) rfl ?_
      obtain ⟨hg, h⟩ := h
      refine Rn_iast rfl (⟨rfl, (by omega : (0 : Int) ≤ 172), (by omega : (172 : Int) < K)⟩) hg (fun g8 he_g8 => ?_)
      have h := h g8 he_g8
      refine Rn_pure 1 (i' := 101) (L' := [some (2, 161), some (0, l1), some (0, 0), some (0, x5), none]) (st' := [(2, 161)]) rfl ?_
      refine Rn_getR rfl (⟨rfl, (by omega : (0 : Int) ≤ 161), (by omega : (161 : Int) < K)⟩) (hr 147 _ rfl) (by decide) ?_
      refine Rn_pure 4 (i' := 106) (L' := [some (2, 161), some (0, l1), some (0, 0), some (0, x5), none]) (st' := [(0, x5), (0, l1 + 3), (2, 172)]) rfl ?_
      obtain ⟨hg, h⟩ := h
      refine Rn_iast rfl (⟨rfl, (by omega : (0 : Int) ≤ 172), (by omega : (172 : Int) < K)⟩) hg (fun g9 he_g9 => ?_)
      have h := h g9 he_g9
      refine Rn_pure 1 (i' := 108) (L' := [some (2, 161), some (0, l1), some (0, 0), some (0, x5), none]) (st' := [(2, 161)]) rfl ?_
      refine Rn_getR rfl (⟨rfl, (by omega : (0 : Int) ≤ 161), (by omega : (161 : Int) < K)⟩) (hr 147 _ rfl) (by decide) ?_
      refine Rn_pure 4 (i' := 113) (L' := [some (2, 161), some (0, l1), some (0, 0), some (0, x5), none]) (st' := [(0, 0), (0, l1 + 4), (2, 172)]) rfl ?_
      obtain ⟨hg, h⟩ := h
      refine Rn_iast rfl (⟨rfl, (by omega : (0 : Int) ≤ 172), (by omega : (172 : Int) < K)⟩) hg (fun g10 he_g10 => ?_)
      have h := h g10 he_g10
      refine Rn_pure 2 (i' := 116) (L' := [some (2, 161), some (0, l1), some (0, 0), some (0, x5), some (0, 0)]) (st' := []) rfl ?_
      refine Rn_weak (L' := [some (2, 161), some (0, l1), some (0, 0), none, some (0, 0)]) ⟨rfl, ⟨rfl, ⟨rfl, ⟨rfl, trivial⟩⟩⟩⟩ ?_
      exact h
    · have h := h.2 hc
      exact Rn_ret0 rfl h
  · have h := h.2 hc
    refine Rn_pure 1 (i' := 63) (L' := [some (2, 161), some (0, l1), none, none, none]) (st' := [(2, 161)]) rfl ?_
    refine Rn_getI rfl (⟨rfl, (by omega : (0 : Int) ≤ 161), (by omega : (161 : Int) < K)⟩) ?_
    refine Rn_pure 3 (i' := 68) (L' := [some (2, 161), some (0, l1), some (0, g 161 21), none, none]) (st' := [(2, 161)]) rfl ?_
    refine Rn_callV [(2, 161)] [] rfl rfl rfl rfl (ab_rvB_of rfl (⟨rfl, (by omega : (0 : Int) ≤ 161), (by omega : (161 : Int) < K)⟩)) ?_
    refine h.mono (fun g11 r' h => ?_)
    obtain ⟨hx, h⟩ := h
    replace hx := hx.symm
    subst hx
    refine Rn_pure 2 (i' := 71) (L' := [some (2, 161), some (0, l1), some (0, g 161 21), none, none]) (st' := [(2, 161), (2, 161)]) rfl ?_
    refine Rn_callI [(2, 161)] [(2, 161)] rfl rfl rfl rfl (ab_rvB_of rfl (⟨rfl, (by omega : (0 : Int) ≤ 161), (by omega : (161 : Int) < K)⟩)) ?_
    refine h.mono (fun x13 g' r' h => ?_)
    obtain ⟨hx, h⟩ := h
    replace hx := hx.symm
    subst hx
    obtain ⟨hx, h⟩ := h
    replace hx := hx.symm
    subst hx
    refine Rn_pure 1 (i' := 73) (L' := [some (2, 161), some (0, l1), some (0, g 161 21), none, none]) (st' := [(0, 9999), (0, x13), (2, 161)]) rfl ?_
    refine Rn_callI [(2, 161), (0, x13), (0, 9999)] [] rfl rfl rfl rfl (ab_rvB_of rfl (⟨rfl, (by omega : (0 : Int) ≤ 161), (by omega : (161 : Int) < K)⟩)) ?_
    refine h.mono (fun x15 g14 r' h => ?_)
    obtain ⟨hx, h⟩ := h
    replace hx := hx.symm
    subst hx
    refine Rn_pure 2 (i' := 76) (L' := [some (2, 161), some (0, l1), some (0, g 161 21), some (0, x15), none]) (st' := [(2, 161)]) rfl ?_
    refine Rn_getI rfl (⟨rfl, (by omega : (0 : Int) ≤ 161), (by omega : (161 : Int) < K)⟩) ?_
    refine Rn_ifeq rfl (fun hc => ?_) (fun hc => ?_)
    · have h := h.1 hc
      refine Rn_pure 1 (i' := 80) (L' := [some (2, 161), some (0, l1), some (0, g 161 21), some (0, x15), none]) (st' := [(2, 161)]) rfl ?_
      refine Rn_getR rfl (⟨rfl, (by omega : (0 : Int) ≤ 161), (by omega : (161 : Int) < K)⟩) (hr 147 _ rfl) (by decide) ?_
      refine Rn_pure 4 (i' := 85) (L' := [some (2, 161), some (0, l1), some (0, g 161 21), some (0, x15), none]) (st' := [(0, 7), (0, l1 + 0), (2, 172)]) rfl ?_
      obtain ⟨hg, h⟩ := h
      refine Rn_iast rfl (⟨rfl, (by omega : (0 : Int) ≤ 172), (by omega : (172 : Int) < K)⟩) hg (fun g16 he_g16 => ?_)
      have h := h g16 he_g16
      refine Rn_pure 1 (i' := 87) (L' := [some (2, 161), some (0, l1), some (0, g 161 21), some (0, x15), none]) (st' := [(2, 161)]) rfl ?_
      refine Rn_getR rfl (⟨rfl, (by omega : (0 : Int) ≤ 161), (by omega : (161 : Int) < K)⟩) (hr 147 _ rfl) (by decide) ?_
      refine Rn_pure 4 (i' := 92) (L' := [some (2, 161), some (0, l1), some (0, g 161 21), some (0, x15), none]) (st' := [(0, (-2)), (0, l1 + 1), (2, 172)]) rfl ?_
      obtain ⟨hg, h⟩ := h
      refine Rn_iast rfl (⟨rfl, (by omega : (0 : Int) ≤ 172), (by omega : (172 : Int) < K)⟩) hg (fun g17 he_g17 => ?_)
      have h := h g17 he_g17
      refine Rn_pure 1 (i' := 94) (L' := [some (2, 161), some (0, l1), some (0, g 161 21), some (0, x15), none]) (st' := [(2, 161)]) rfl ?_
      refine Rn_getR rfl (⟨rfl, (by omega : (0 : Int) ≤ 161), (by omega : (161 : Int) < K)⟩) (hr 147 _ rfl) (by decide) ?_
      refine Rn_pure 4 (i' := 99) (L' := [some (2, 161), some (0, l1), some (0, g 161 21), some (0, x15), none]) (st' := [(0, g 161 21), (0, l1 + 2), (2, 172)]) rfl ?_
      obtain ⟨hg, h⟩ := h
      refine Rn_iast rfl (⟨rfl, (by omega : (0 : Int) ≤ 172), (by omega : (172 : Int) < K)⟩) hg (fun g18 he_g18 => ?_)
      have h := h g18 he_g18
      refine Rn_pure 1 (i' := 101) (L' := [some (2, 161), some (0, l1), some (0, g 161 21), some (0, x15), none]) (st' := [(2, 161)]) rfl ?_
      refine Rn_getR rfl (⟨rfl, (by omega : (0 : Int) ≤ 161), (by omega : (161 : Int) < K)⟩) (hr 147 _ rfl) (by decide) ?_
      refine Rn_pure 4 (i' := 106) (L' := [some (2, 161), some (0, l1), some (0, g 161 21), some (0, x15), none]) (st' := [(0, x15), (0, l1 + 3), (2, 172)]) rfl ?_
      obtain ⟨hg, h⟩ := h
      refine Rn_iast rfl (⟨rfl, (by omega : (0 : Int) ≤ 172), (by omega : (172 : Int) < K)⟩) hg (fun g19 he_g19 => ?_)
      have h := h g19 he_g19
      refine Rn_pure 1 (i' := 108) (L' := [some (2, 161), some (0, l1), some (0, g 161 21), some (0, x15), none]) (st' := [(2, 161)]) rfl ?_
      refine Rn_getR rfl (⟨rfl, (by omega : (0 : Int) ≤ 161), (by omega : (161 : Int) < K)⟩) (hr 147 _ rfl) (by decide) ?_
      refine Rn_pure 4 (i' := 113) (L' := [some (2, 161), some (0, l1), some (0, g 161 21), some (0, x15), none]) (st' := [(0, 0), (0, l1 + 4), (2, 172)]) rfl ?_
      obtain ⟨hg, h⟩ := h
      refine Rn_iast rfl (⟨rfl, (by omega : (0 : Int) ≤ 172), (by omega : (172 : Int) < K)⟩) hg (fun g20 he_g20 => ?_)
      have h := h g20 he_g20
      refine Rn_pure 2 (i' := 116) (L' := [some (2, 161), some (0, l1), some (0, g 161 21), some (0, x15), some (0, 0)]) (st' := []) rfl ?_
      refine Rn_weak (L' := [some (2, 161), some (0, l1), some (0, g 161 21), none, some (0, 0)]) ⟨rfl, ⟨rfl, ⟨rfl, ⟨rfl, trivial⟩⟩⟩⟩ ?_
      exact h
    · have h := h.2 hc
      exact Rn_ret0 rfl h
theorem v_M_readRevoke_116 {K : Int} {S : Nat} {g r : ab_H} {l1 l2 l4 : Int} (P : ab_H → ab_H → Prop) (hr : SI r) (hK : 185 ≤ K) (h : ((wr 3 ≤ wr l4 → ab_RI m_M_reading [(2, 161), (0, 5)] K S g r (fun x1 g' r' => g' = g ∧ r' = r ∧ (((0 : Int) ≤ l2 ∧ (l2 : Int) < 50) ∧ ∀ g2, g2 = ab_up g 173 l2 x1 → ab_RI m_M_reading [(2, 161), (0, 5)] K S g2 r (fun x3 g' r' => g' = g2 ∧ r' = r ∧ (((0 : Int) ≤ x3 ∧ (x3 : Int) < 50) ∧ ∀ g4, g4 = ab_up g2 173 x3 (-2) → ab_RI m_M_reading [(2, 161), (0, 5)] K S g4 r (fun x5 g' r' => g' = g4 ∧ r' = r ∧ (ab_RV m_M_reads [(2, 161), (0, 5), (0, x5 + 1)] K S g4 r (fun g6 r' => r' = r ∧ (P g6 r))))))))) ∧ (wr l4 < wr 3 → ((0 : Int) ≤ l1 + 5 + l4 ∧ (l1 + 5 + l4 : Int) < 400) ∧ ∀ g8, g8 = ab_up g 172 (l1 + 5 + l4) 0 → ab_Rn m_M_readRevoke 116 [some (2, 161), some (0, l1), some (0, l2), none, some (0, l4 + 1)] [] (K, S, g8, r) (ab_Qv K S P)))) : ab_Rn m_M_readRevoke 116 [some (2, 161), some (0, l1), some (0, l2), none, some (0, l4)] [] (K, S, g, r) (ab_Qv K S P) := by
  refine Rn_pure 2 (i' := 118) (L' := [some (2, 161), some (0, l1), some (0, l2), none, some (0, l4)]) (st' := [(0, 3), (0, l4)]) rfl ?_
  refine Rn_icge rfl (fun hc => ?_) (fun hc => ?_)
  · have h := h.1 hc
    refine Rn_pure 1 (i' := 131) (L' := [some (2, 161), some (0, l1), some (0, l2), none, some (0, l4)]) (st' := [(2, 161)]) rfl ?_
    refine Rn_getR rfl (⟨rfl, (by omega : (0 : Int) ≤ 161), (by omega : (161 : Int) < K)⟩) (hr 148 _ rfl) (by decide) ?_
    refine Rn_pure 3 (i' := 135) (L' := [some (2, 161), some (0, l1), some (0, l2), none, some (0, l4)]) (st' := [(0, 5), (2, 161), (0, l2), (2, 173)]) rfl ?_
    refine Rn_callI [(2, 161), (0, 5)] [(0, l2), (2, 173)] rfl rfl rfl rfl (ab_rvB_of rfl (⟨rfl, (by omega : (0 : Int) ≤ 161), (by omega : (161 : Int) < K)⟩)) ?_
    refine h.mono (fun x1 g' r' h => ?_)
    obtain ⟨hx, h⟩ := h
    replace hx := hx.symm
    subst hx
    obtain ⟨hx, h⟩ := h
    replace hx := hx.symm
    subst hx
    obtain ⟨hg, h⟩ := h
    refine Rn_iast rfl (⟨rfl, (by omega : (0 : Int) ≤ 173), (by omega : (173 : Int) < K)⟩) hg (fun g2 he_g2 => ?_)
    have h := h g2 he_g2
    refine Rn_pure 1 (i' := 138) (L' := [some (2, 161), some (0, l1), some (0, l2), none, some (0, l4)]) (st' := [(2, 161)]) rfl ?_
    refine Rn_getR rfl (⟨rfl, (by omega : (0 : Int) ≤ 161), (by omega : (161 : Int) < K)⟩) (hr 148 _ rfl) (by decide) ?_
    refine Rn_pure 2 (i' := 141) (L' := [some (2, 161), some (0, l1), some (0, l2), none, some (0, l4)]) (st' := [(0, 5), (2, 161), (2, 173)]) rfl ?_
    refine Rn_callI [(2, 161), (0, 5)] [(2, 173)] rfl rfl rfl rfl (ab_rvB_of rfl (⟨rfl, (by omega : (0 : Int) ≤ 161), (by omega : (161 : Int) < K)⟩)) ?_
    refine h.mono (fun x3 g' r' h => ?_)
    obtain ⟨hx, h⟩ := h
    replace hx := hx.symm
    subst hx
    obtain ⟨hx, h⟩ := h
    replace hx := hx.symm
    subst hx
    refine Rn_pure 1 (i' := 143) (L' := [some (2, 161), some (0, l1), some (0, l2), none, some (0, l4)]) (st' := [(0, (-2)), (0, x3), (2, 173)]) rfl ?_
    obtain ⟨hg, h⟩ := h
    refine Rn_iast rfl (⟨rfl, (by omega : (0 : Int) ≤ 173), (by omega : (173 : Int) < K)⟩) hg (fun g4 he_g4 => ?_)
    have h := h g4 he_g4
    refine Rn_pure 4 (i' := 148) (L' := [some (2, 161), some (0, l1), some (0, l2), none, some (0, l4)]) (st' := [(0, 5), (2, 161), (0, 5), (2, 161)]) rfl ?_
    refine Rn_callI [(2, 161), (0, 5)] [(0, 5), (2, 161)] rfl rfl rfl rfl (ab_rvB_of rfl (⟨rfl, (by omega : (0 : Int) ≤ 161), (by omega : (161 : Int) < K)⟩)) ?_
    refine h.mono (fun x5 g' r' h => ?_)
    obtain ⟨hx, h⟩ := h
    replace hx := hx.symm
    subst hx
    obtain ⟨hx, h⟩ := h
    replace hx := hx.symm
    subst hx
    refine Rn_pure 2 (i' := 151) (L' := [some (2, 161), some (0, l1), some (0, l2), none, some (0, l4)]) (st' := [(0, x5 + 1), (0, 5), (2, 161)]) rfl ?_
    refine Rn_callV [(2, 161), (0, 5), (0, x5 + 1)] [] rfl rfl rfl rfl (ab_rvB_of rfl (⟨rfl, (by omega : (0 : Int) ≤ 161), (by omega : (161 : Int) < K)⟩)) ?_
    refine h.mono (fun g6 r' h => ?_)
    obtain ⟨hx, h⟩ := h
    replace hx := hx.symm
    subst hx
    exact Rn_ret0 rfl h
  · have h := h.2 hc
    refine Rn_pure 1 (i' := 120) (L' := [some (2, 161), some (0, l1), some (0, l2), none, some (0, l4)]) (st' := [(2, 161)]) rfl ?_
    refine Rn_getR rfl (⟨rfl, (by omega : (0 : Int) ≤ 161), (by omega : (161 : Int) < K)⟩) (hr 147 _ rfl) (by decide) ?_
    refine Rn_pure 6 (i' := 127) (L' := [some (2, 161), some (0, l1), some (0, l2), none, some (0, l4)]) (st' := [(0, 0), (0, l1 + 5 + l4), (2, 172)]) rfl ?_
    obtain ⟨hg, h⟩ := h
    refine Rn_iast rfl (⟨rfl, (by omega : (0 : Int) ≤ 172), (by omega : (172 : Int) < K)⟩) hg (fun g8 he_g8 => ?_)
    have h := h g8 he_g8
    refine Rn_pure 2 (i' := 116) (L' := [some (2, 161), some (0, l1), some (0, l2), none, some (0, l4 + 1)]) (st' := []) rfl ?_
    exact h
-- EventLedgerModel.readLine ()V
theorem v_M_readLine {K : Int} {S : Nat} {g r : ab_H} (P : ab_H → ab_H → Prop) (hr : SI r) (hK : 185 ≤ K) (h : ((¬ wr (g 161 20) = wr 0 → ab_Rn m_M_readLine 11 [some (2, 161)] [] (K, S, g, r) (ab_Qv K S P)) ∧ (wr (g 161 20) = wr 0 → ((wr (g 161 21) < wr 8 → ab_Rn m_M_readLine 15 [some (2, 161)] [] (K, S, g, r) (ab_Qv K S P)) ∧ (wr 8 ≤ wr (g 161 21) → ((wr 11 < wr (g 161 21) → ab_Rn m_M_readLine 15 [some (2, 161)] [] (K, S, g, r) (ab_Qv K S P)) ∧ (wr (g 161 21) ≤ wr 11 → ab_Rn m_M_readLine 11 [some (2, 161)] [] (K, S, g, r) (ab_Qv K S P)))))))) : ab_RV m_M_readLine [(2, 161)] K S g r P := by
  show ab_Rn m_M_readLine 0 [some (2, 161)] [] (K, S, g, r) (ab_Qv K S P)
  refine Rn_pure 1 (i' := 1) (L' := [some (2, 161)]) (st' := [(2, 161)]) rfl ?_
  refine Rn_getI rfl (⟨rfl, (by omega : (0 : Int) ≤ 161), (by omega : (161 : Int) < K)⟩) ?_
  refine Rn_ifne rfl (fun hc => ?_) (fun hc => ?_)
  · have h := h.1 hc
    exact h
  · have h := h.2 hc
    refine Rn_pure 1 (i' := 4) (L' := [some (2, 161)]) (st' := [(2, 161)]) rfl ?_
    refine Rn_getI rfl (⟨rfl, (by omega : (0 : Int) ≤ 161), (by omega : (161 : Int) < K)⟩) ?_
    refine Rn_pure 1 (i' := 6) (L' := [some (2, 161)]) (st' := [(0, 8), (0, g 161 21)]) rfl ?_
    refine Rn_iclt rfl (fun hc => ?_) (fun hc => ?_)
    · have h := h.1 hc
      exact h
    · have h := h.2 hc
      refine Rn_pure 1 (i' := 8) (L' := [some (2, 161)]) (st' := [(2, 161)]) rfl ?_
      refine Rn_getI rfl (⟨rfl, (by omega : (0 : Int) ≤ 161), (by omega : (161 : Int) < K)⟩) ?_
      refine Rn_pure 1 (i' := 10) (L' := [some (2, 161)]) (st' := [(0, 11), (0, g 161 21)]) rfl ?_
      refine Rn_icgt rfl (fun hc => ?_) (fun hc => ?_)
      · have h := h.1 hc
        exact h
      · have h := h.2 hc
        exact h
theorem v_M_readLine_11 {K : Int} {S : Nat} {g r : ab_H} (P : ab_H → ab_H → Prop) (hr : SI r) (hK : 185 ≤ K) (h : ab_RV m_M_wrong [(2, 161), (0, 1)] K S g r (fun g1 r' => r' = r ∧ (ab_Rn m_M_readLine 61 [some (2, 161)] [] (K, S, g1, r) (ab_Qv K S P)))) : ab_Rn m_M_readLine 11 [some (2, 161)] [] (K, S, g, r) (ab_Qv K S P) := by
  refine Rn_pure 2 (i' := 13) (L' := [some (2, 161)]) (st' := [(0, 1), (2, 161)]) rfl ?_
  refine Rn_callV [(2, 161), (0, 1)] [] rfl rfl rfl rfl (ab_rvB_of rfl (⟨rfl, (by omega : (0 : Int) ≤ 161), (by omega : (161 : Int) < K)⟩)) ?_
  refine h.mono (fun g1 r' h => ?_)
  obtain ⟨hx, h⟩ := h
  replace hx := hx.symm
  subst hx
  refine Rn_pure 1 (i' := 61) (L' := [some (2, 161)]) (st' := []) rfl ?_
  exact h
theorem v_M_readLine_15 {K : Int} {S : Nat} {g r : ab_H} (P : ab_H → ab_H → Prop) (hr : SI r) (hK : 185 ≤ K) (h : ((wr 6 < wr (g 161 21) → ((¬ wr (g 161 21) = wr 7 → ((¬ wr (g 161 21) = wr 12 → ((¬ wr (g 161 21) = wr 13 → ((¬ wr (g 161 21) = wr 14 → ((¬ wr (g 161 21) = wr 15 → ab_RV m_M_readSeed [(2, 161)] K S g r (fun g1 r' => r' = r ∧ (ab_Rn m_M_readLine 61 [some (2, 161)] [] (K, S, g1, r) (ab_Qv K S P)))) ∧ (wr (g 161 21) = wr 15 → ab_RV m_M_readSnap [(2, 161)] K S g r (fun g3 r' => r' = r ∧ (ab_Rn m_M_readLine 61 [some (2, 161)] [] (K, S, g3, r) (ab_Qv K S P)))))) ∧ (wr (g 161 21) = wr 14 → ab_RV m_M_readTally [(2, 161)] K S g r (fun g5 r' => r' = r ∧ (ab_Rn m_M_readLine 61 [some (2, 161)] [] (K, S, g5, r) (ab_Qv K S P)))))) ∧ (wr (g 161 21) = wr 13 → ab_RV m_M_readLift [(2, 161)] K S g r (fun g7 r' => r' = r ∧ (ab_Rn m_M_readLine 61 [some (2, 161)] [] (K, S, g7, r) (ab_Qv K S P)))))) ∧ (wr (g 161 21) = wr 12 → ab_RV m_M_readAccount [(2, 161)] K S g r (fun g9 r' => r' = r ∧ (ab_Rn m_M_readLine 61 [some (2, 161)] [] (K, S, g9, r) (ab_Qv K S P)))))) ∧ (wr (g 161 21) = wr 7 → ab_RV m_M_readRevoke [(2, 161)] K S g r (fun g11 r' => r' = r ∧ (ab_Rn m_M_readLine 61 [some (2, 161)] [] (K, S, g11, r) (ab_Qv K S P)))))) ∧ (wr (g 161 21) ≤ wr 6 → ab_RV m_M_readEvent [(2, 161), (0, g 161 21)] K S g r (fun g13 r' => r' = r ∧ (ab_Rn m_M_readLine 61 [some (2, 161)] [] (K, S, g13, r) (ab_Qv K S P)))))) : ab_Rn m_M_readLine 15 [some (2, 161)] [] (K, S, g, r) (ab_Qv K S P) := by
  refine Rn_pure 1 (i' := 16) (L' := [some (2, 161)]) (st' := [(2, 161)]) rfl ?_
  refine Rn_getI rfl (⟨rfl, (by omega : (0 : Int) ≤ 161), (by omega : (161 : Int) < K)⟩) ?_
  refine Rn_pure 1 (i' := 18) (L' := [some (2, 161)]) (st' := [(0, 6), (0, g 161 21)]) rfl ?_
  refine Rn_icgt rfl (fun hc => ?_) (fun hc => ?_)
  · have h := h.1 hc
    refine Rn_pure 1 (i' := 25) (L' := [some (2, 161)]) (st' := [(2, 161)]) rfl ?_
    refine Rn_getI rfl (⟨rfl, (by omega : (0 : Int) ≤ 161), (by omega : (161 : Int) < K)⟩) ?_
    refine Rn_pure 1 (i' := 27) (L' := [some (2, 161)]) (st' := [(0, 7), (0, g 161 21)]) rfl ?_
    refine Rn_icne rfl (fun hc => ?_) (fun hc => ?_)
    · have h := h.1 hc
      refine Rn_pure 1 (i' := 32) (L' := [some (2, 161)]) (st' := [(2, 161)]) rfl ?_
      refine Rn_getI rfl (⟨rfl, (by omega : (0 : Int) ≤ 161), (by omega : (161 : Int) < K)⟩) ?_
      refine Rn_pure 1 (i' := 34) (L' := [some (2, 161)]) (st' := [(0, 12), (0, g 161 21)]) rfl ?_
      refine Rn_icne rfl (fun hc => ?_) (fun hc => ?_)
      · have h := h.1 hc
        refine Rn_pure 1 (i' := 39) (L' := [some (2, 161)]) (st' := [(2, 161)]) rfl ?_
        refine Rn_getI rfl (⟨rfl, (by omega : (0 : Int) ≤ 161), (by omega : (161 : Int) < K)⟩) ?_
        refine Rn_pure 1 (i' := 41) (L' := [some (2, 161)]) (st' := [(0, 13), (0, g 161 21)]) rfl ?_
        refine Rn_icne rfl (fun hc => ?_) (fun hc => ?_)
        · have h := h.1 hc
          refine Rn_pure 1 (i' := 46) (L' := [some (2, 161)]) (st' := [(2, 161)]) rfl ?_
          refine Rn_getI rfl (⟨rfl, (by omega : (0 : Int) ≤ 161), (by omega : (161 : Int) < K)⟩) ?_
          refine Rn_pure 1 (i' := 48) (L' := [some (2, 161)]) (st' := [(0, 14), (0, g 161 21)]) rfl ?_
          refine Rn_icne rfl (fun hc => ?_) (fun hc => ?_)
          · have h := h.1 hc
            refine Rn_pure 1 (i' := 53) (L' := [some (2, 161)]) (st' := [(2, 161)]) rfl ?_
            refine Rn_getI rfl (⟨rfl, (by omega : (0 : Int) ≤ 161), (by omega : (161 : Int) < K)⟩) ?_
            refine Rn_pure 1 (i' := 55) (L' := [some (2, 161)]) (st' := [(0, 15), (0, g 161 21)]) rfl ?_
            refine Rn_icne rfl (fun hc => ?_) (fun hc => ?_)
            · have h := h.1 hc
              refine Rn_pure 1 (i' := 60) (L' := [some (2, 161)]) (st' := [(2, 161)]) rfl ?_
              refine Rn_callV [(2, 161)] [] rfl rfl rfl rfl (ab_rvB_of rfl (⟨rfl, (by omega : (0 : Int) ≤ 161), (by omega : (161 : Int) < K)⟩)) ?_
              refine h.mono (fun g1 r' h => ?_)
              obtain ⟨hx, h⟩ := h
              replace hx := hx.symm
              subst hx
              exact h
            · have h := h.2 hc
              refine Rn_pure 1 (i' := 57) (L' := [some (2, 161)]) (st' := [(2, 161)]) rfl ?_
              refine Rn_callV [(2, 161)] [] rfl rfl rfl rfl (ab_rvB_of rfl (⟨rfl, (by omega : (0 : Int) ≤ 161), (by omega : (161 : Int) < K)⟩)) ?_
              refine h.mono (fun g3 r' h => ?_)
              obtain ⟨hx, h⟩ := h
              replace hx := hx.symm
              subst hx
              refine Rn_pure 1 (i' := 61) (L' := [some (2, 161)]) (st' := []) rfl ?_
              exact h
          · have h := h.2 hc
            refine Rn_pure 1 (i' := 50) (L' := [some (2, 161)]) (st' := [(2, 161)]) rfl ?_
            refine Rn_callV [(2, 161)] [] rfl rfl rfl rfl (ab_rvB_of rfl (⟨rfl, (by omega : (0 : Int) ≤ 161), (by omega : (161 : Int) < K)⟩)) ?_
            refine h.mono (fun g5 r' h => ?_)
            obtain ⟨hx, h⟩ := h
            replace hx := hx.symm
            subst hx
            refine Rn_pure 1 (i' := 61) (L' := [some (2, 161)]) (st' := []) rfl ?_
            exact h
        · have h := h.2 hc
          refine Rn_pure 1 (i' := 43) (L' := [some (2, 161)]) (st' := [(2, 161)]) rfl ?_
          refine Rn_callV [(2, 161)] [] rfl rfl rfl rfl (ab_rvB_of rfl (⟨rfl, (by omega : (0 : Int) ≤ 161), (by omega : (161 : Int) < K)⟩)) ?_
          refine h.mono (fun g7 r' h => ?_)
          obtain ⟨hx, h⟩ := h
          replace hx := hx.symm
          subst hx
          refine Rn_pure 1 (i' := 61) (L' := [some (2, 161)]) (st' := []) rfl ?_
          exact h
      · have h := h.2 hc
        refine Rn_pure 1 (i' := 36) (L' := [some (2, 161)]) (st' := [(2, 161)]) rfl ?_
        refine Rn_callV [(2, 161)] [] rfl rfl rfl rfl (ab_rvB_of rfl (⟨rfl, (by omega : (0 : Int) ≤ 161), (by omega : (161 : Int) < K)⟩)) ?_
        refine h.mono (fun g9 r' h => ?_)
        obtain ⟨hx, h⟩ := h
        replace hx := hx.symm
        subst hx
        refine Rn_pure 1 (i' := 61) (L' := [some (2, 161)]) (st' := []) rfl ?_
        exact h
    · have h := h.2 hc
      refine Rn_pure 1 (i' := 29) (L' := [some (2, 161)]) (st' := [(2, 161)]) rfl ?_
      refine Rn_callV [(2, 161)] [] rfl rfl rfl rfl (ab_rvB_of rfl (⟨rfl, (by omega : (0 : Int) ≤ 161), (by omega : (161 : Int) < K)⟩)) ?_
      refine h.mono (fun g11 r' h => ?_)
      obtain ⟨hx, h⟩ := h
      replace hx := hx.symm
      subst hx
      refine Rn_pure 1 (i' := 61) (L' := [some (2, 161)]) (st' := []) rfl ?_
      exact h
  · have h := h.2 hc
    refine Rn_pure 2 (i' := 21) (L' := [some (2, 161)]) (st' := [(2, 161), (2, 161)]) rfl ?_
    refine Rn_getI rfl (⟨rfl, (by omega : (0 : Int) ≤ 161), (by omega : (161 : Int) < K)⟩) ?_
    refine Rn_callV [(2, 161), (0, g 161 21)] [] rfl rfl rfl rfl (ab_rvB_of rfl (⟨rfl, (by omega : (0 : Int) ≤ 161), (by omega : (161 : Int) < K)⟩)) ?_
    refine h.mono (fun g13 r' h => ?_)
    obtain ⟨hx, h⟩ := h
    replace hx := hx.symm
    subst hx
    refine Rn_pure 1 (i' := 61) (L' := [some (2, 161)]) (st' := []) rfl ?_
    exact h
theorem v_M_readLine_61 {K : Int} {S : Nat} {g r : ab_H} (P : ab_H → ab_H → Prop) (hr : SI r) (hK : 185 ≤ K) (h : ((¬ wr (g 161 22) = wr 0 → ab_Rn m_M_readLine 71 [some (2, 161)] [] (K, S, g, r) (ab_Qv K S P)) ∧ (wr (g 161 22) = wr 0 → ((wr (g 161 20) = wr 3 → ab_Rn m_M_readLine 71 [some (2, 161)] [] (K, S, g, r) (ab_Qv K S P)) ∧ (¬ wr (g 161 20) = wr 3 → ab_RV m_M_wrong [(2, 161), (0, 1)] K S g r (fun g1 r' => r' = r ∧ (ab_Rn m_M_readLine 71 [some (2, 161)] [] (K, S, g1, r) (ab_Qv K S P)))))))) : ab_Rn m_M_readLine 61 [some (2, 161)] [] (K, S, g, r) (ab_Qv K S P) := by
  refine Rn_pure 1 (i' := 62) (L' := [some (2, 161)]) (st' := [(2, 161)]) rfl ?_
  refine Rn_getI rfl (⟨rfl, (by omega : (0 : Int) ≤ 161), (by omega : (161 : Int) < K)⟩) ?_
  refine Rn_ifne rfl (fun hc => ?_) (fun hc => ?_)
  · have h := h.1 hc
    exact h
  · have h := h.2 hc
    refine Rn_pure 1 (i' := 65) (L' := [some (2, 161)]) (st' := [(2, 161)]) rfl ?_
    refine Rn_getI rfl (⟨rfl, (by omega : (0 : Int) ≤ 161), (by omega : (161 : Int) < K)⟩) ?_
    refine Rn_pure 1 (i' := 67) (L' := [some (2, 161)]) (st' := [(0, 3), (0, g 161 20)]) rfl ?_
    refine Rn_iceq rfl (fun hc => ?_) (fun hc => ?_)
    · have h := h.1 hc
      exact h
    · have h := h.2 hc
      refine Rn_pure 2 (i' := 70) (L' := [some (2, 161)]) (st' := [(0, 1), (2, 161)]) rfl ?_
      refine Rn_callV [(2, 161), (0, 1)] [] rfl rfl rfl rfl (ab_rvB_of rfl (⟨rfl, (by omega : (0 : Int) ≤ 161), (by omega : (161 : Int) < K)⟩)) ?_
      refine h.mono (fun g1 r' h => ?_)
      obtain ⟨hx, h⟩ := h
      replace hx := hx.symm
      subst hx
      exact h
theorem v_M_readLine_71 {K : Int} {S : Nat} {g r : ab_H} (P : ab_H → ab_H → Prop) (hr : SI r) (hK : 185 ≤ K) (h : ab_RV m_M_goOn [(2, 161)] K S g r (fun g1 r' => r' = r ∧ (∀ g3, g3 = ab_up g1 161 16 (g1 161 16 + 1) → P g3 r))) : ab_Rn m_M_readLine 71 [some (2, 161)] [] (K, S, g, r) (ab_Qv K S P) := by
  refine Rn_pure 1 (i' := 72) (L' := [some (2, 161)]) (st' := [(2, 161)]) rfl ?_
  refine Rn_callV [(2, 161)] [] rfl rfl rfl rfl (ab_rvB_of rfl (⟨rfl, (by omega : (0 : Int) ≤ 161), (by omega : (161 : Int) < K)⟩)) ?_
  refine h.mono (fun g1 r' h => ?_)
  obtain ⟨hx, h⟩ := h
  replace hx := hx.symm
  subst hx
  refine Rn_pure 2 (i' := 75) (L' := [some (2, 161)]) (st' := [(2, 161), (2, 161)]) rfl ?_
  refine Rn_getI rfl (⟨rfl, (by omega : (0 : Int) ≤ 161), (by omega : (161 : Int) < K)⟩) ?_
  refine Rn_pure 2 (i' := 78) (L' := [some (2, 161)]) (st' := [(0, g1 161 16 + 1), (2, 161)]) rfl ?_
  refine Rn_putI rfl (⟨rfl, (by omega : (0 : Int) ≤ 161), (by omega : (161 : Int) < K)⟩) (fun g3 he_g3 => ?_)
  have h := h g3 he_g3
  exact Rn_ret0 rfl h
-- EventLedgerModel.freshText ()V
theorem v_M_freshText {K : Int} {S : Nat} {g r : ab_H} (P : ab_H → ab_H → Prop) (hr : SI r) (hK : 185 ≤ K) (h : ab_Rn m_M_freshText 2 [some (2, 161), some (0, 0)] [] (K, S, g, r) (ab_Qv K S P)) : ab_RV m_M_freshText [(2, 161)] K S g r P := by
  show ab_Rn m_M_freshText 0 [some (2, 161), none] [] (K, S, g, r) (ab_Qv K S P)
  refine Rn_pure 2 (i' := 2) (L' := [some (2, 161), some (0, 0)]) (st' := []) rfl ?_
  exact h
theorem v_M_freshText_2 {K : Int} {S : Nat} {g r : ab_H} {l1 : Int} (P : ab_H → ab_H → Prop) (hr : SI r) (hK : 185 ≤ K) (h : ((wr 6 ≤ wr l1 → ab_RV m_M_reads [(2, 161), (0, 2), (0, 20)] K S g r (fun g1 r' => r' = r ∧ (ab_RV m_M_reads [(2, 161), (0, 3), (0, 3)] K S g1 r (fun g3 r' => r' = r ∧ (ab_Rn m_M_freshText 21 [some (2, 161), some (0, 0)] [] (K, S, g3, r) (ab_Qv K S P)))))) ∧ (wr l1 < wr 6 → ab_RV m_M_reads [(2, 161), (0, l1), (0, 0)] K S g r (fun g5 r' => r' = r ∧ (ab_Rn m_M_freshText 2 [some (2, 161), some (0, l1 + 1)] [] (K, S, g5, r) (ab_Qv K S P)))))) : ab_Rn m_M_freshText 2 [some (2, 161), some (0, l1)] [] (K, S, g, r) (ab_Qv K S P) := by
  refine Rn_pure 2 (i' := 4) (L' := [some (2, 161), some (0, l1)]) (st' := [(0, 6), (0, l1)]) rfl ?_
  refine Rn_icge rfl (fun hc => ?_) (fun hc => ?_)
  · have h := h.1 hc
    refine Rn_pure 3 (i' := 14) (L' := [some (2, 161), some (0, l1)]) (st' := [(0, 20), (0, 2), (2, 161)]) rfl ?_
    refine Rn_callV [(2, 161), (0, 2), (0, 20)] [] rfl rfl rfl rfl (ab_rvB_of rfl (⟨rfl, (by omega : (0 : Int) ≤ 161), (by omega : (161 : Int) < K)⟩)) ?_
    refine h.mono (fun g1 r' h => ?_)
    obtain ⟨hx, h⟩ := h
    replace hx := hx.symm
    subst hx
    refine Rn_pure 3 (i' := 18) (L' := [some (2, 161), some (0, l1)]) (st' := [(0, 3), (0, 3), (2, 161)]) rfl ?_
    refine Rn_callV [(2, 161), (0, 3), (0, 3)] [] rfl rfl rfl rfl (ab_rvB_of rfl (⟨rfl, (by omega : (0 : Int) ≤ 161), (by omega : (161 : Int) < K)⟩)) ?_
    refine h.mono (fun g3 r' h => ?_)
    obtain ⟨hx, h⟩ := h
    replace hx := hx.symm
    subst hx
    refine Rn_pure 2 (i' := 21) (L' := [some (2, 161), some (0, 0)]) (st' := []) rfl ?_
    exact h
  · have h := h.2 hc
    refine Rn_pure 3 (i' := 8) (L' := [some (2, 161), some (0, l1)]) (st' := [(0, 0), (0, l1), (2, 161)]) rfl ?_
    refine Rn_callV [(2, 161), (0, l1), (0, 0)] [] rfl rfl rfl rfl (ab_rvB_of rfl (⟨rfl, (by omega : (0 : Int) ≤ 161), (by omega : (161 : Int) < K)⟩)) ?_
    refine h.mono (fun g5 r' h => ?_)
    obtain ⟨hx, h⟩ := h
    replace hx := hx.symm
    subst hx
    refine Rn_pure 2 (i' := 2) (L' := [some (2, 161), some (0, l1 + 1)]) (st' := []) rfl ?_
    exact h
theorem v_M_freshText_21 {K : Int} {S : Nat} {g r : ab_H} {l1 : Int} (P : ab_H → ab_H → Prop) (hr : SI r) (hK : 185 ≤ K) (h : ((wr 14 ≤ wr l1 → ∀ g1, g1 = ab_up g 161 14 0 → ∀ g2, g2 = ab_up g1 161 15 0 → P g2 r) ∧ (wr l1 < wr 14 → ((0 : Int) ≤ 14 + l1 ∧ (14 + l1 : Int) < 28) ∧ ∀ g3, g3 = ab_up g 168 (14 + l1) 0 → ab_Rn m_M_freshText 21 [some (2, 161), some (0, l1 + 1)] [] (K, S, g3, r) (ab_Qv K S P)))) : ab_Rn m_M_freshText 21 [some (2, 161), some (0, l1)] [] (K, S, g, r) (ab_Qv K S P) := by
  refine Rn_pure 2 (i' := 23) (L' := [some (2, 161), some (0, l1)]) (st' := [(0, 14), (0, l1)]) rfl ?_
  refine Rn_icge rfl (fun hc => ?_) (fun hc => ?_)
  · have h := h.1 hc
    refine Rn_pure 2 (i' := 35) (L' := [some (2, 161), some (0, l1)]) (st' := [(0, 0), (2, 161)]) rfl ?_
    refine Rn_putZ rfl (⟨rfl, (by omega : (0 : Int) ≤ 161), (by omega : (161 : Int) < K)⟩) (by decide) (fun g1 he_g1 => ?_)
    have h := h g1 he_g1
    refine Rn_pure 2 (i' := 38) (L' := [some (2, 161), some (0, l1)]) (st' := [(0, 0), (2, 161)]) rfl ?_
    refine Rn_putZ rfl (⟨rfl, (by omega : (0 : Int) ≤ 161), (by omega : (161 : Int) < K)⟩) (by decide) (fun g2 he_g2 => ?_)
    have h := h g2 he_g2
    exact Rn_ret0 rfl h
  · have h := h.2 hc
    refine Rn_pure 1 (i' := 25) (L' := [some (2, 161), some (0, l1)]) (st' := [(2, 161)]) rfl ?_
    refine Rn_getR rfl (⟨rfl, (by omega : (0 : Int) ≤ 161), (by omega : (161 : Int) < K)⟩) (hr 143 _ rfl) (by decide) ?_
    refine Rn_pure 4 (i' := 30) (L' := [some (2, 161), some (0, l1)]) (st' := [(0, 0), (0, 14 + l1), (2, 168)]) rfl ?_
    obtain ⟨hg, h⟩ := h
    refine Rn_iast rfl (⟨rfl, (by omega : (0 : Int) ≤ 168), (by omega : (168 : Int) < K)⟩) hg (fun g3 he_g3 => ?_)
    have h := h g3 he_g3
    refine Rn_pure 2 (i' := 21) (L' := [some (2, 161), some (0, l1 + 1)]) (st' := []) rfl ?_
    exact h
-- EventLedgerModel.readText (I)V
theorem v_M_readText {K : Int} {S : Nat} {g r : ab_H} {p1 : Int} (P : ab_H → ab_H → Prop) (hr : SI r) (hK : 185 ≤ K) (h : ∀ g1, g1 = ab_up g 161 17 p1 → ∀ g2, g2 = ab_up g1 161 18 0 → ∀ g3, g3 = ab_up g2 161 22 0 → ∀ g4, g4 = ab_up g3 161 16 0 → ab_RV m_M_freshText [(2, 161)] K S g4 r (fun g5 r' => r' = r ∧ (ab_RV m_M_token [(2, 161)] K S g5 r (fun g7 r' => r' = r ∧ (ab_Rn m_M_readText 16 [some (2, 161), none] [] (K, S, g7, r) (ab_Qv K S P)))))) : ab_RV m_M_readText [(2, 161), (0, p1)] K S g r P := by
  show ab_Rn m_M_readText 0 [some (2, 161), some (0, p1)] [] (K, S, g, r) (ab_Qv K S P)
  refine Rn_pure 2 (i' := 2) (L' := [some (2, 161), some (0, p1)]) (st' := [(0, p1), (2, 161)]) rfl ?_
  refine Rn_putI rfl (⟨rfl, (by omega : (0 : Int) ≤ 161), (by omega : (161 : Int) < K)⟩) (fun g1 he_g1 => ?_)
  have h := h g1 he_g1
  refine Rn_pure 2 (i' := 5) (L' := [some (2, 161), some (0, p1)]) (st' := [(0, 0), (2, 161)]) rfl ?_
  refine Rn_putI rfl (⟨rfl, (by omega : (0 : Int) ≤ 161), (by omega : (161 : Int) < K)⟩) (fun g2 he_g2 => ?_)
  have h := h g2 he_g2
  refine Rn_pure 2 (i' := 8) (L' := [some (2, 161), some (0, p1)]) (st' := [(0, 0), (2, 161)]) rfl ?_
  refine Rn_putI rfl (⟨rfl, (by omega : (0 : Int) ≤ 161), (by omega : (161 : Int) < K)⟩) (fun g3 he_g3 => ?_)
  have h := h g3 he_g3
  refine Rn_pure 2 (i' := 11) (L' := [some (2, 161), some (0, p1)]) (st' := [(0, 0), (2, 161)]) rfl ?_
  refine Rn_putI rfl (⟨rfl, (by omega : (0 : Int) ≤ 161), (by omega : (161 : Int) < K)⟩) (fun g4 he_g4 => ?_)
  have h := h g4 he_g4
  refine Rn_pure 1 (i' := 13) (L' := [some (2, 161), some (0, p1)]) (st' := [(2, 161)]) rfl ?_
  refine Rn_callV [(2, 161)] [] rfl rfl rfl rfl (ab_rvB_of rfl (⟨rfl, (by omega : (0 : Int) ≤ 161), (by omega : (161 : Int) < K)⟩)) ?_
  refine h.mono (fun g5 r' h => ?_)
  obtain ⟨hx, h⟩ := h
  replace hx := hx.symm
  subst hx
  refine Rn_pure 1 (i' := 15) (L' := [some (2, 161), some (0, p1)]) (st' := [(2, 161)]) rfl ?_
  refine Rn_callV [(2, 161)] [] rfl rfl rfl rfl (ab_rvB_of rfl (⟨rfl, (by omega : (0 : Int) ≤ 161), (by omega : (161 : Int) < K)⟩)) ?_
  refine h.mono (fun g7 r' h => ?_)
  obtain ⟨hx, h⟩ := h
  replace hx := hx.symm
  subst hx
  refine Rn_weak (L' := [some (2, 161), none]) ⟨rfl, trivial⟩ ?_
  exact h
theorem v_M_readText_16 {K : Int} {S : Nat} {g r : ab_H} (P : ab_H → ab_H → Prop) (hr : SI r) (hK : 185 ≤ K) (h : ((¬ wr (g 161 22) = wr 0 → P g r) ∧ (wr (g 161 22) = wr 0 → ((wr (g 161 20) = wr 4 → P g r) ∧ (¬ wr (g 161 20) = wr 4 → ab_RV m_M_readLine [(2, 161)] K S g r (fun g1 r' => r' = r ∧ (ab_Rn m_M_readText 16 [some (2, 161), none] [] (K, S, g1, r) (ab_Qv K S P)))))))) : ab_Rn m_M_readText 16 [some (2, 161), none] [] (K, S, g, r) (ab_Qv K S P) := by
  refine Rn_pure 1 (i' := 17) (L' := [some (2, 161), none]) (st' := [(2, 161)]) rfl ?_
  refine Rn_getI rfl (⟨rfl, (by omega : (0 : Int) ≤ 161), (by omega : (161 : Int) < K)⟩) ?_
  refine Rn_ifne rfl (fun hc => ?_) (fun hc => ?_)
  · have h := h.1 hc
    exact Rn_ret0 rfl h
  · have h := h.2 hc
    refine Rn_pure 1 (i' := 20) (L' := [some (2, 161), none]) (st' := [(2, 161)]) rfl ?_
    refine Rn_getI rfl (⟨rfl, (by omega : (0 : Int) ≤ 161), (by omega : (161 : Int) < K)⟩) ?_
    refine Rn_pure 1 (i' := 22) (L' := [some (2, 161), none]) (st' := [(0, 4), (0, g 161 20)]) rfl ?_
    refine Rn_iceq rfl (fun hc => ?_) (fun hc => ?_)
    · have h := h.1 hc
      exact Rn_ret0 rfl h
    · have h := h.2 hc
      refine Rn_pure 1 (i' := 24) (L' := [some (2, 161), none]) (st' := [(2, 161)]) rfl ?_
      refine Rn_callV [(2, 161)] [] rfl rfl rfl rfl (ab_rvB_of rfl (⟨rfl, (by omega : (0 : Int) ≤ 161), (by omega : (161 : Int) < K)⟩)) ?_
      refine h.mono (fun g1 r' h => ?_)
      obtain ⟨hx, h⟩ := h
      replace hx := hx.symm
      subst hx
      refine Rn_pure 1 (i' := 16) (L' := [some (2, 161), none]) (st' := []) rfl ?_
      exact h
-- EventLedgerModel.takeText ()V
theorem v_M_takeText {K : Int} {S : Nat} {g r : ab_H} (P : ab_H → ab_H → Prop) (hr : SI r) (hK : 185 ≤ K) (h : ab_Rn m_M_takeText 2 [some (2, 161), some (0, 0)] [] (K, S, g, r) (ab_Qv K S P)) : ab_RV m_M_takeText [(2, 161)] K S g r P := by
  show ab_Rn m_M_takeText 0 [some (2, 161), none] [] (K, S, g, r) (ab_Qv K S P)
  refine Rn_pure 2 (i' := 2) (L' := [some (2, 161), some (0, 0)]) (st' := []) rfl ?_
  exact h
theorem v_M_takeText_2 {K : Int} {S : Nat} {g r : ab_H} {l1 : Int} (P : ab_H → ab_H → Prop) (hr : SI r) (hK : 185 ≤ K) (h : ((wr 6 ≤ wr l1 → ab_Rn m_M_takeText 16 [some (2, 161), some (0, 0)] [] (K, S, g, r) (ab_Qv K S P)) ∧ (wr l1 < wr 6 → ab_RI m_M_reading [(2, 161), (0, l1)] K S g r (fun x1 g' r' => g' = g ∧ r' = r ∧ (((0 : Int) ≤ l1 ∧ (l1 : Int) < 12) ∧ ∀ g2, g2 = ab_up g 163 l1 x1 → ab_Rn m_M_takeText 2 [some (2, 161), some (0, l1 + 1)] [] (K, S, g2, r) (ab_Qv K S P)))))) : ab_Rn m_M_takeText 2 [some (2, 161), some (0, l1)] [] (K, S, g, r) (ab_Qv K S P) := by
  refine Rn_pure 2 (i' := 4) (L' := [some (2, 161), some (0, l1)]) (st' := [(0, 6), (0, l1)]) rfl ?_
  refine Rn_icge rfl (fun hc => ?_) (fun hc => ?_)
  · have h := h.1 hc
    refine Rn_pure 2 (i' := 16) (L' := [some (2, 161), some (0, 0)]) (st' := []) rfl ?_
    exact h
  · have h := h.2 hc
    refine Rn_pure 1 (i' := 6) (L' := [some (2, 161), some (0, l1)]) (st' := [(2, 161)]) rfl ?_
    refine Rn_getR rfl (⟨rfl, (by omega : (0 : Int) ≤ 161), (by omega : (161 : Int) < K)⟩) (hr 138 _ rfl) (by decide) ?_
    refine Rn_pure 3 (i' := 10) (L' := [some (2, 161), some (0, l1)]) (st' := [(0, l1), (2, 161), (0, l1), (2, 163)]) rfl ?_
    refine Rn_callI [(2, 161), (0, l1)] [(0, l1), (2, 163)] rfl rfl rfl rfl (ab_rvB_of rfl (⟨rfl, (by omega : (0 : Int) ≤ 161), (by omega : (161 : Int) < K)⟩)) ?_
    refine h.mono (fun x1 g' r' h => ?_)
    obtain ⟨hx, h⟩ := h
    replace hx := hx.symm
    subst hx
    obtain ⟨hx, h⟩ := h
    replace hx := hx.symm
    subst hx
    obtain ⟨hg, h⟩ := h
    refine Rn_iast rfl (⟨rfl, (by omega : (0 : Int) ≤ 163), (by omega : (163 : Int) < K)⟩) hg (fun g2 he_g2 => ?_)
    have h := h g2 he_g2
    refine Rn_pure 2 (i' := 2) (L' := [some (2, 161), some (0, l1 + 1)]) (st' := []) rfl ?_
    exact h
theorem v_M_takeText_16 {K : Int} {S : Nat} {g r : ab_H} {l1 : Int} (P : ab_H → ab_H → Prop) (hr : SI r) (hK : 185 ≤ K) (h : ((wr 8 ≤ wr l1 → ab_Rn m_M_takeText 33 [some (2, 161), some (0, 0)] [] (K, S, g, r) (ab_Qv K S P)) ∧ (wr l1 < wr 8 → ((0 : Int) ≤ 8 + l1 ∧ (8 + l1 : Int) < 16) ∧ ((0 : Int) ≤ l1 ∧ (l1 : Int) < 16) ∧ ∀ g1, g1 = ab_up g 164 l1 (g 164 (8 + l1)) → ab_Rn m_M_takeText 16 [some (2, 161), some (0, l1 + 1)] [] (K, S, g1, r) (ab_Qv K S P)))) : ab_Rn m_M_takeText 16 [some (2, 161), some (0, l1)] [] (K, S, g, r) (ab_Qv K S P) := by
  refine Rn_pure 2 (i' := 18) (L' := [some (2, 161), some (0, l1)]) (st' := [(0, 8), (0, l1)]) rfl ?_
  refine Rn_icge rfl (fun hc => ?_) (fun hc => ?_)
  · have h := h.1 hc
    refine Rn_pure 2 (i' := 33) (L' := [some (2, 161), some (0, 0)]) (st' := []) rfl ?_
    exact h
  · have h := h.2 hc
    refine Rn_pure 1 (i' := 20) (L' := [some (2, 161), some (0, l1)]) (st' := [(2, 161)]) rfl ?_
    refine Rn_getR rfl (⟨rfl, (by omega : (0 : Int) ≤ 161), (by omega : (161 : Int) < K)⟩) (hr 139 _ rfl) (by decide) ?_
    refine Rn_pure 2 (i' := 23) (L' := [some (2, 161), some (0, l1)]) (st' := [(2, 161), (0, l1), (2, 164)]) rfl ?_
    refine Rn_getR rfl (⟨rfl, (by omega : (0 : Int) ≤ 161), (by omega : (161 : Int) < K)⟩) (hr 139 _ rfl) (by decide) ?_
    refine Rn_pure 3 (i' := 27) (L' := [some (2, 161), some (0, l1)]) (st' := [(0, 8 + l1), (2, 164), (0, l1), (2, 164)]) rfl ?_
    obtain ⟨hg, h⟩ := h
    refine Rn_iald rfl (⟨rfl, (by omega : (0 : Int) ≤ 164), (by omega : (164 : Int) < K)⟩) hg ?_
    obtain ⟨hg, h⟩ := h
    refine Rn_iast rfl (⟨rfl, (by omega : (0 : Int) ≤ 164), (by omega : (164 : Int) < K)⟩) hg (fun g1 he_g1 => ?_)
    have h := h g1 he_g1
    refine Rn_pure 2 (i' := 16) (L' := [some (2, 161), some (0, l1 + 1)]) (st' := []) rfl ?_
    exact h
theorem v_M_takeText_33 {K : Int} {S : Nat} {g r : ab_H} {l1 : Int} (P : ab_H → ab_H → Prop) (hr : SI r) (hK : 185 ≤ K) (h : ((wr 4 ≤ wr l1 → ab_Rn m_M_takeText 70 [some (2, 161), some (0, 0)] [] (K, S, g, r) (ab_Qv K S P)) ∧ (wr l1 < wr 4 → ((0 : Int) ≤ 4 + l1 ∧ (4 + l1 : Int) < 8) ∧ ((0 : Int) ≤ l1 ∧ (l1 : Int) < 8) ∧ ∀ g1, g1 = ab_up g 165 l1 (g 165 (4 + l1)) → ((0 : Int) ≤ 4 + l1 ∧ (4 + l1 : Int) < 8) ∧ ((0 : Int) ≤ l1 ∧ (l1 : Int) < 8) ∧ ∀ g2, g2 = ab_up g1 166 l1 (g1 166 (4 + l1)) → ((0 : Int) ≤ 4 + l1 ∧ (4 + l1 : Int) < 8) ∧ ((0 : Int) ≤ l1 ∧ (l1 : Int) < 8) ∧ ∀ g3, g3 = ab_up g2 167 l1 (g2 167 (4 + l1)) → ab_Rn m_M_takeText 33 [some (2, 161), some (0, l1 + 1)] [] (K, S, g3, r) (ab_Qv K S P)))) : ab_Rn m_M_takeText 33 [some (2, 161), some (0, l1)] [] (K, S, g, r) (ab_Qv K S P) := by
  refine Rn_pure 2 (i' := 35) (L' := [some (2, 161), some (0, l1)]) (st' := [(0, 4), (0, l1)]) rfl ?_
  refine Rn_icge rfl (fun hc => ?_) (fun hc => ?_)
  · have h := h.1 hc
    refine Rn_pure 2 (i' := 70) (L' := [some (2, 161), some (0, 0)]) (st' := []) rfl ?_
    exact h
  · have h := h.2 hc
    refine Rn_pure 1 (i' := 37) (L' := [some (2, 161), some (0, l1)]) (st' := [(2, 161)]) rfl ?_
    refine Rn_getR rfl (⟨rfl, (by omega : (0 : Int) ≤ 161), (by omega : (161 : Int) < K)⟩) (hr 140 _ rfl) (by decide) ?_
    refine Rn_pure 2 (i' := 40) (L' := [some (2, 161), some (0, l1)]) (st' := [(2, 161), (0, l1), (2, 165)]) rfl ?_
    refine Rn_getR rfl (⟨rfl, (by omega : (0 : Int) ≤ 161), (by omega : (161 : Int) < K)⟩) (hr 140 _ rfl) (by decide) ?_
    refine Rn_pure 3 (i' := 44) (L' := [some (2, 161), some (0, l1)]) (st' := [(0, 4 + l1), (2, 165), (0, l1), (2, 165)]) rfl ?_
    obtain ⟨hg, h⟩ := h
    refine Rn_iald rfl (⟨rfl, (by omega : (0 : Int) ≤ 165), (by omega : (165 : Int) < K)⟩) hg ?_
    obtain ⟨hg, h⟩ := h
    refine Rn_iast rfl (⟨rfl, (by omega : (0 : Int) ≤ 165), (by omega : (165 : Int) < K)⟩) hg (fun g1 he_g1 => ?_)
    have h := h g1 he_g1
    refine Rn_pure 1 (i' := 47) (L' := [some (2, 161), some (0, l1)]) (st' := [(2, 161)]) rfl ?_
    refine Rn_getR rfl (⟨rfl, (by omega : (0 : Int) ≤ 161), (by omega : (161 : Int) < K)⟩) (hr 141 _ rfl) (by decide) ?_
    refine Rn_pure 2 (i' := 50) (L' := [some (2, 161), some (0, l1)]) (st' := [(2, 161), (0, l1), (2, 166)]) rfl ?_
    refine Rn_getR rfl (⟨rfl, (by omega : (0 : Int) ≤ 161), (by omega : (161 : Int) < K)⟩) (hr 141 _ rfl) (by decide) ?_
    refine Rn_pure 3 (i' := 54) (L' := [some (2, 161), some (0, l1)]) (st' := [(0, 4 + l1), (2, 166), (0, l1), (2, 166)]) rfl ?_
    obtain ⟨hg, h⟩ := h
    refine Rn_iald rfl (⟨rfl, (by omega : (0 : Int) ≤ 166), (by omega : (166 : Int) < K)⟩) hg ?_
    obtain ⟨hg, h⟩ := h
    refine Rn_iast rfl (⟨rfl, (by omega : (0 : Int) ≤ 166), (by omega : (166 : Int) < K)⟩) hg (fun g2 he_g2 => ?_)
    have h := h g2 he_g2
    refine Rn_pure 1 (i' := 57) (L' := [some (2, 161), some (0, l1)]) (st' := [(2, 161)]) rfl ?_
    refine Rn_getR rfl (⟨rfl, (by omega : (0 : Int) ≤ 161), (by omega : (161 : Int) < K)⟩) (hr 142 _ rfl) (by decide) ?_
    refine Rn_pure 2 (i' := 60) (L' := [some (2, 161), some (0, l1)]) (st' := [(2, 161), (0, l1), (2, 167)]) rfl ?_
    refine Rn_getR rfl (⟨rfl, (by omega : (0 : Int) ≤ 161), (by omega : (161 : Int) < K)⟩) (hr 142 _ rfl) (by decide) ?_
    refine Rn_pure 3 (i' := 64) (L' := [some (2, 161), some (0, l1)]) (st' := [(0, 4 + l1), (2, 167), (0, l1), (2, 167)]) rfl ?_
    obtain ⟨hg, h⟩ := h
    refine Rn_iald rfl (⟨rfl, (by omega : (0 : Int) ≤ 167), (by omega : (167 : Int) < K)⟩) hg ?_
    obtain ⟨hg, h⟩ := h
    refine Rn_iast rfl (⟨rfl, (by omega : (0 : Int) ≤ 167), (by omega : (167 : Int) < K)⟩) hg (fun g3 he_g3 => ?_)
    have h := h g3 he_g3
    refine Rn_pure 2 (i' := 33) (L' := [some (2, 161), some (0, l1 + 1)]) (st' := []) rfl ?_
    exact h
theorem v_M_takeText_70 {K : Int} {S : Nat} {g r : ab_H} {l1 : Int} (P : ab_H → ab_H → Prop) (hr : SI r) (hK : 185 ≤ K) (h : ((wr 14 ≤ wr l1 → ab_Rn m_M_takeText 87 [some (2, 161), some (0, 0)] [] (K, S, g, r) (ab_Qv K S P)) ∧ (wr l1 < wr 14 → ((0 : Int) ≤ 14 + l1 ∧ (14 + l1 : Int) < 28) ∧ ((0 : Int) ≤ l1 ∧ (l1 : Int) < 28) ∧ ∀ g1, g1 = ab_up g 168 l1 (g 168 (14 + l1)) → ab_Rn m_M_takeText 70 [some (2, 161), some (0, l1 + 1)] [] (K, S, g1, r) (ab_Qv K S P)))) : ab_Rn m_M_takeText 70 [some (2, 161), some (0, l1)] [] (K, S, g, r) (ab_Qv K S P) := by
  refine Rn_pure 2 (i' := 72) (L' := [some (2, 161), some (0, l1)]) (st' := [(0, 14), (0, l1)]) rfl ?_
  refine Rn_icge rfl (fun hc => ?_) (fun hc => ?_)
  · have h := h.1 hc
    refine Rn_pure 2 (i' := 87) (L' := [some (2, 161), some (0, 0)]) (st' := []) rfl ?_
    exact h
  · have h := h.2 hc
    refine Rn_pure 1 (i' := 74) (L' := [some (2, 161), some (0, l1)]) (st' := [(2, 161)]) rfl ?_
    refine Rn_getR rfl (⟨rfl, (by omega : (0 : Int) ≤ 161), (by omega : (161 : Int) < K)⟩) (hr 143 _ rfl) (by decide) ?_
    refine Rn_pure 2 (i' := 77) (L' := [some (2, 161), some (0, l1)]) (st' := [(2, 161), (0, l1), (2, 168)]) rfl ?_
    refine Rn_getR rfl (⟨rfl, (by omega : (0 : Int) ≤ 161), (by omega : (161 : Int) < K)⟩) (hr 143 _ rfl) (by decide) ?_
    refine Rn_pure 3 (i' := 81) (L' := [some (2, 161), some (0, l1)]) (st' := [(0, 14 + l1), (2, 168), (0, l1), (2, 168)]) rfl ?_
    obtain ⟨hg, h⟩ := h
    refine Rn_iald rfl (⟨rfl, (by omega : (0 : Int) ≤ 168), (by omega : (168 : Int) < K)⟩) hg ?_
    obtain ⟨hg, h⟩ := h
    refine Rn_iast rfl (⟨rfl, (by omega : (0 : Int) ≤ 168), (by omega : (168 : Int) < K)⟩) hg (fun g1 he_g1 => ?_)
    have h := h g1 he_g1
    refine Rn_pure 2 (i' := 70) (L' := [some (2, 161), some (0, l1 + 1)]) (st' := []) rfl ?_
    exact h
theorem v_M_takeText_87 {K : Int} {S : Nat} {g r : ab_H} {l1 : Int} (P : ab_H → ab_H → Prop) (hr : SI r) (hK : 185 ≤ K) (h : ((wr 56 ≤ wr l1 → P g r) ∧ (wr l1 < wr 56 → ((0 : Int) ≤ 56 + l1 ∧ (56 + l1 : Int) < 112) ∧ ((0 : Int) ≤ l1 ∧ (l1 : Int) < 112) ∧ ∀ g1, g1 = ab_up g 169 l1 (g 169 (56 + l1)) → ((0 : Int) ≤ 56 + l1 ∧ (56 + l1 : Int) < 112) ∧ ((0 : Int) ≤ l1 ∧ (l1 : Int) < 112) ∧ ∀ g2, g2 = ab_up g1 170 l1 (g1 170 (56 + l1)) → ((0 : Int) ≤ 56 + l1 ∧ (56 + l1 : Int) < 112) ∧ ((0 : Int) ≤ l1 ∧ (l1 : Int) < 112) ∧ ∀ g3, g3 = ab_up g2 171 l1 (g2 171 (56 + l1)) → ab_Rn m_M_takeText 87 [some (2, 161), some (0, l1 + 1)] [] (K, S, g3, r) (ab_Qv K S P)))) : ab_Rn m_M_takeText 87 [some (2, 161), some (0, l1)] [] (K, S, g, r) (ab_Qv K S P) := by
  refine Rn_pure 2 (i' := 89) (L' := [some (2, 161), some (0, l1)]) (st' := [(0, 56), (0, l1)]) rfl ?_
  refine Rn_icge rfl (fun hc => ?_) (fun hc => ?_)
  · have h := h.1 hc
    exact Rn_ret0 rfl h
  · have h := h.2 hc
    refine Rn_pure 1 (i' := 91) (L' := [some (2, 161), some (0, l1)]) (st' := [(2, 161)]) rfl ?_
    refine Rn_getR rfl (⟨rfl, (by omega : (0 : Int) ≤ 161), (by omega : (161 : Int) < K)⟩) (hr 144 _ rfl) (by decide) ?_
    refine Rn_pure 2 (i' := 94) (L' := [some (2, 161), some (0, l1)]) (st' := [(2, 161), (0, l1), (2, 169)]) rfl ?_
    refine Rn_getR rfl (⟨rfl, (by omega : (0 : Int) ≤ 161), (by omega : (161 : Int) < K)⟩) (hr 144 _ rfl) (by decide) ?_
    refine Rn_pure 3 (i' := 98) (L' := [some (2, 161), some (0, l1)]) (st' := [(0, 56 + l1), (2, 169), (0, l1), (2, 169)]) rfl ?_
    obtain ⟨hg, h⟩ := h
    refine Rn_iald rfl (⟨rfl, (by omega : (0 : Int) ≤ 169), (by omega : (169 : Int) < K)⟩) hg ?_
    obtain ⟨hg, h⟩ := h
    refine Rn_iast rfl (⟨rfl, (by omega : (0 : Int) ≤ 169), (by omega : (169 : Int) < K)⟩) hg (fun g1 he_g1 => ?_)
    have h := h g1 he_g1
    refine Rn_pure 1 (i' := 101) (L' := [some (2, 161), some (0, l1)]) (st' := [(2, 161)]) rfl ?_
    refine Rn_getR rfl (⟨rfl, (by omega : (0 : Int) ≤ 161), (by omega : (161 : Int) < K)⟩) (hr 145 _ rfl) (by decide) ?_
    refine Rn_pure 2 (i' := 104) (L' := [some (2, 161), some (0, l1)]) (st' := [(2, 161), (0, l1), (2, 170)]) rfl ?_
    refine Rn_getR rfl (⟨rfl, (by omega : (0 : Int) ≤ 161), (by omega : (161 : Int) < K)⟩) (hr 145 _ rfl) (by decide) ?_
    refine Rn_pure 3 (i' := 108) (L' := [some (2, 161), some (0, l1)]) (st' := [(0, 56 + l1), (2, 170), (0, l1), (2, 170)]) rfl ?_
    obtain ⟨hg, h⟩ := h
    refine Rn_iald rfl (⟨rfl, (by omega : (0 : Int) ≤ 170), (by omega : (170 : Int) < K)⟩) hg ?_
    obtain ⟨hg, h⟩ := h
    refine Rn_iast rfl (⟨rfl, (by omega : (0 : Int) ≤ 170), (by omega : (170 : Int) < K)⟩) hg (fun g2 he_g2 => ?_)
    have h := h g2 he_g2
    refine Rn_pure 1 (i' := 111) (L' := [some (2, 161), some (0, l1)]) (st' := [(2, 161)]) rfl ?_
    refine Rn_getR rfl (⟨rfl, (by omega : (0 : Int) ≤ 161), (by omega : (161 : Int) < K)⟩) (hr 146 _ rfl) (by decide) ?_
    refine Rn_pure 2 (i' := 114) (L' := [some (2, 161), some (0, l1)]) (st' := [(2, 161), (0, l1), (2, 171)]) rfl ?_
    refine Rn_getR rfl (⟨rfl, (by omega : (0 : Int) ≤ 161), (by omega : (161 : Int) < K)⟩) (hr 146 _ rfl) (by decide) ?_
    refine Rn_pure 3 (i' := 118) (L' := [some (2, 161), some (0, l1)]) (st' := [(0, 56 + l1), (2, 171), (0, l1), (2, 171)]) rfl ?_
    obtain ⟨hg, h⟩ := h
    refine Rn_iald rfl (⟨rfl, (by omega : (0 : Int) ≤ 171), (by omega : (171 : Int) < K)⟩) hg ?_
    obtain ⟨hg, h⟩ := h
    refine Rn_iast rfl (⟨rfl, (by omega : (0 : Int) ≤ 171), (by omega : (171 : Int) < K)⟩) hg (fun g3 he_g3 => ?_)
    have h := h g3 he_g3
    refine Rn_pure 2 (i' := 87) (L' := [some (2, 161), some (0, l1 + 1)]) (st' := []) rfl ?_
    exact h
-- EventLedgerModel.text (I)I
theorem v_M_text {K : Int} {S : Nat} {g r : ab_H} {p1 : Int} (P : Int → ab_H → ab_H → Prop) (hr : SI r) (hK : 185 ≤ K) (h : ∀ g1, g1 = ab_up g 161 0 0 → ((wr p1 < wr 0 → P (-2) g1 r) ∧ (wr 0 ≤ wr p1 → ((wr p1 ≤ wr (g1 161 2) → ab_RV m_M_readText [(2, 161), (0, p1)] K S g1 r (fun g2 r' => r' = r ∧ (∀ g4, g4 = ab_up g2 161 2 0 → ∀ g5, g5 = ab_up g4 161 24 (g4 161 22) → ((¬ wr (g5 161 22) = wr 0 → ∀ g6, g6 = ab_up g5 161 25 (g5 161 23) → ((wr (g6 161 22) = wr 0 → ab_RV m_M_takeText [(2, 161)] K S g6 r (fun g7 r' => r' = r ∧ (ab_RV m_M_begins [(2, 161)] K S g7 r (fun g9 r' => r' = r ∧ (∀ g11, g11 = ab_up g9 161 30 0 → ∀ g12, g12 = ab_up g11 161 31 0 → P (g12 161 16) g12 r))))) ∧ (¬ wr (g6 161 22) = wr 0 → P (-1) g6 r))) ∧ (wr (g5 161 22) = wr 0 → ∀ g13, g13 = ab_up g5 161 25 (-1) → ((wr (g13 161 22) = wr 0 → ab_RV m_M_takeText [(2, 161)] K S g13 r (fun g14 r' => r' = r ∧ (ab_RV m_M_begins [(2, 161)] K S g14 r (fun g16 r' => r' = r ∧ (∀ g18, g18 = ab_up g16 161 30 0 → ∀ g19, g19 = ab_up g18 161 31 0 → P (g19 161 16) g19 r))))) ∧ (¬ wr (g13 161 22) = wr 0 → P (-1) g13 r))))))) ∧ (wr (g1 161 2) < wr p1 → P (-2) g1 r))))) : ab_RI m_M_text [(2, 161), (0, p1)] K S g r P := by
  show ab_Rn m_M_text 0 [some (2, 161), some (0, p1)] [] (K, S, g, r) (ab_Qi K S P)
  refine Rn_pure 2 (i' := 2) (L' := [some (2, 161), some (0, p1)]) (st' := [(0, 0), (2, 161)]) rfl ?_
  refine Rn_putI rfl (⟨rfl, (by omega : (0 : Int) ≤ 161), (by omega : (161 : Int) < K)⟩) (fun g1 he_g1 => ?_)
  have h := h g1 he_g1
  refine Rn_pure 1 (i' := 4) (L' := [some (2, 161), some (0, p1)]) (st' := [(0, p1)]) rfl ?_
  refine Rn_iflt rfl (fun hc => ?_) (fun hc => ?_)
  · have h := h.1 hc
    refine Rn_pure 1 (i' := 10) (L' := [some (2, 161), some (0, p1)]) (st' := [(0, (-2))]) rfl ?_
    exact Rn_ret1 rfl h
  · have h := h.2 hc
    refine Rn_pure 2 (i' := 7) (L' := [some (2, 161), some (0, p1)]) (st' := [(2, 161), (0, p1)]) rfl ?_
    refine Rn_getI rfl (⟨rfl, (by omega : (0 : Int) ≤ 161), (by omega : (161 : Int) < K)⟩) ?_
    refine Rn_icle rfl (fun hc => ?_) (fun hc => ?_)
    · have h := h.1 hc
      refine Rn_pure 2 (i' := 13) (L' := [some (2, 161), some (0, p1)]) (st' := [(0, p1), (2, 161)]) rfl ?_
      refine Rn_callV [(2, 161), (0, p1)] [] rfl rfl rfl rfl (ab_rvB_of rfl (⟨rfl, (by omega : (0 : Int) ≤ 161), (by omega : (161 : Int) < K)⟩)) ?_
      refine h.mono (fun g2 r' h => ?_)
      obtain ⟨hx, h⟩ := h
      replace hx := hx.symm
      subst hx
      refine Rn_pure 2 (i' := 16) (L' := [some (2, 161), some (0, p1)]) (st' := [(0, 0), (2, 161)]) rfl ?_
      refine Rn_putI rfl (⟨rfl, (by omega : (0 : Int) ≤ 161), (by omega : (161 : Int) < K)⟩) (fun g4 he_g4 => ?_)
      have h := h g4 he_g4
      refine Rn_pure 2 (i' := 19) (L' := [some (2, 161), some (0, p1)]) (st' := [(2, 161), (2, 161)]) rfl ?_
      refine Rn_getI rfl (⟨rfl, (by omega : (0 : Int) ≤ 161), (by omega : (161 : Int) < K)⟩) ?_
      refine Rn_putI rfl (⟨rfl, (by omega : (0 : Int) ≤ 161), (by omega : (161 : Int) < K)⟩) (fun g5 he_g5 => ?_)
      have h := h g5 he_g5
      refine Rn_pure 2 (i' := 23) (L' := [some (2, 161), some (0, p1)]) (st' := [(2, 161), (2, 161)]) rfl ?_
      refine Rn_getI rfl (⟨rfl, (by omega : (0 : Int) ≤ 161), (by omega : (161 : Int) < K)⟩) ?_
      refine Rn_ifne rfl (fun hc => ?_) (fun hc => ?_)
      · have h := h.1 hc
        refine Rn_pure 1 (i' := 28) (L' := [some (2, 161), some (0, p1)]) (st' := [(2, 161), (2, 161)]) rfl ?_
        refine Rn_getI rfl (⟨rfl, (by omega : (0 : Int) ≤ 161), (by omega : (161 : Int) < K)⟩) ?_
        refine Rn_putI rfl (⟨rfl, (by omega : (0 : Int) ≤ 161), (by omega : (161 : Int) < K)⟩) (fun g6 he_g6 => ?_)
        have h := h g6 he_g6
        refine Rn_pure 1 (i' := 31) (L' := [some (2, 161), some (0, p1)]) (st' := [(2, 161)]) rfl ?_
        refine Rn_getI rfl (⟨rfl, (by omega : (0 : Int) ≤ 161), (by omega : (161 : Int) < K)⟩) ?_
        refine Rn_ifeq rfl (fun hc => ?_) (fun hc => ?_)
        · have h := h.1 hc
          refine Rn_pure 1 (i' := 36) (L' := [some (2, 161), some (0, p1)]) (st' := [(2, 161)]) rfl ?_
          refine Rn_callV [(2, 161)] [] rfl rfl rfl rfl (ab_rvB_of rfl (⟨rfl, (by omega : (0 : Int) ≤ 161), (by omega : (161 : Int) < K)⟩)) ?_
          refine h.mono (fun g7 r' h => ?_)
          obtain ⟨hx, h⟩ := h
          replace hx := hx.symm
          subst hx
          refine Rn_pure 1 (i' := 38) (L' := [some (2, 161), some (0, p1)]) (st' := [(2, 161)]) rfl ?_
          refine Rn_callV [(2, 161)] [] rfl rfl rfl rfl (ab_rvB_of rfl (⟨rfl, (by omega : (0 : Int) ≤ 161), (by omega : (161 : Int) < K)⟩)) ?_
          refine h.mono (fun g9 r' h => ?_)
          obtain ⟨hx, h⟩ := h
          replace hx := hx.symm
          subst hx
          refine Rn_pure 2 (i' := 41) (L' := [some (2, 161), some (0, p1)]) (st' := [(0, 0), (2, 161)]) rfl ?_
          refine Rn_putI rfl (⟨rfl, (by omega : (0 : Int) ≤ 161), (by omega : (161 : Int) < K)⟩) (fun g11 he_g11 => ?_)
          have h := h g11 he_g11
          refine Rn_pure 2 (i' := 44) (L' := [some (2, 161), some (0, p1)]) (st' := [(0, 0), (2, 161)]) rfl ?_
          refine Rn_putZ rfl (⟨rfl, (by omega : (0 : Int) ≤ 161), (by omega : (161 : Int) < K)⟩) (by decide) (fun g12 he_g12 => ?_)
          have h := h g12 he_g12
          refine Rn_pure 1 (i' := 46) (L' := [some (2, 161), some (0, p1)]) (st' := [(2, 161)]) rfl ?_
          refine Rn_getI rfl (⟨rfl, (by omega : (0 : Int) ≤ 161), (by omega : (161 : Int) < K)⟩) ?_
          exact Rn_ret1 rfl h
        · have h := h.2 hc
          refine Rn_pure 1 (i' := 34) (L' := [some (2, 161), some (0, p1)]) (st' := [(0, (-1))]) rfl ?_
          exact Rn_ret1 rfl h
      · have h := h.2 hc
        refine Rn_pure 2 (i' := 29) (L' := [some (2, 161), some (0, p1)]) (st' := [(0, (-1)), (2, 161)]) rfl ?_
        refine Rn_putI rfl (⟨rfl, (by omega : (0 : Int) ≤ 161), (by omega : (161 : Int) < K)⟩) (fun g13 he_g13 => ?_)
        have h := h g13 he_g13
        refine Rn_pure 1 (i' := 31) (L' := [some (2, 161), some (0, p1)]) (st' := [(2, 161)]) rfl ?_
        refine Rn_getI rfl (⟨rfl, (by omega : (0 : Int) ≤ 161), (by omega : (161 : Int) < K)⟩) ?_
        refine Rn_ifeq rfl (fun hc => ?_) (fun hc => ?_)
        · have h := h.1 hc
          refine Rn_pure 1 (i' := 36) (L' := [some (2, 161), some (0, p1)]) (st' := [(2, 161)]) rfl ?_
          refine Rn_callV [(2, 161)] [] rfl rfl rfl rfl (ab_rvB_of rfl (⟨rfl, (by omega : (0 : Int) ≤ 161), (by omega : (161 : Int) < K)⟩)) ?_
          refine h.mono (fun g14 r' h => ?_)
          obtain ⟨hx, h⟩ := h
          replace hx := hx.symm
          subst hx
          refine Rn_pure 1 (i' := 38) (L' := [some (2, 161), some (0, p1)]) (st' := [(2, 161)]) rfl ?_
          refine Rn_callV [(2, 161)] [] rfl rfl rfl rfl (ab_rvB_of rfl (⟨rfl, (by omega : (0 : Int) ≤ 161), (by omega : (161 : Int) < K)⟩)) ?_
          refine h.mono (fun g16 r' h => ?_)
          obtain ⟨hx, h⟩ := h
          replace hx := hx.symm
          subst hx
          refine Rn_pure 2 (i' := 41) (L' := [some (2, 161), some (0, p1)]) (st' := [(0, 0), (2, 161)]) rfl ?_
          refine Rn_putI rfl (⟨rfl, (by omega : (0 : Int) ≤ 161), (by omega : (161 : Int) < K)⟩) (fun g18 he_g18 => ?_)
          have h := h g18 he_g18
          refine Rn_pure 2 (i' := 44) (L' := [some (2, 161), some (0, p1)]) (st' := [(0, 0), (2, 161)]) rfl ?_
          refine Rn_putZ rfl (⟨rfl, (by omega : (0 : Int) ≤ 161), (by omega : (161 : Int) < K)⟩) (by decide) (fun g19 he_g19 => ?_)
          have h := h g19 he_g19
          refine Rn_pure 1 (i' := 46) (L' := [some (2, 161), some (0, p1)]) (st' := [(2, 161)]) rfl ?_
          refine Rn_getI rfl (⟨rfl, (by omega : (0 : Int) ≤ 161), (by omega : (161 : Int) < K)⟩) ?_
          exact Rn_ret1 rfl h
        · have h := h.2 hc
          refine Rn_pure 1 (i' := 34) (L' := [some (2, 161), some (0, p1)]) (st' := [(0, (-1))]) rfl ?_
          exact Rn_ret1 rfl h
    · have h := h.2 hc
      refine Rn_pure 1 (i' := 10) (L' := [some (2, 161), some (0, p1)]) (st' := [(0, (-2))]) rfl ?_
      exact Rn_ret1 rfl h
-- EventLedgerModel.fault (I)I
theorem v_M_fault {K : Int} {S : Nat} {g r : ab_H} {p1 : Int} (P : Int → ab_H → ab_H → Prop) (hr : SI r) (hK : 185 ≤ K) (h : ∀ g1, g1 = ab_up g 161 0 0 → ((¬ wr p1 = wr 0 → ((¬ wr p1 = wr 1 → P (-1) g1 r) ∧ (wr p1 = wr 1 → P (g1 161 25) g1 r))) ∧ (wr p1 = wr 0 → P (g1 161 24) g1 r))) : ab_RI m_M_fault [(2, 161), (0, p1)] K S g r P := by
  show ab_Rn m_M_fault 0 [some (2, 161), some (0, p1)] [] (K, S, g, r) (ab_Qi K S P)
  refine Rn_pure 2 (i' := 2) (L' := [some (2, 161), some (0, p1)]) (st' := [(0, 0), (2, 161)]) rfl ?_
  refine Rn_putI rfl (⟨rfl, (by omega : (0 : Int) ≤ 161), (by omega : (161 : Int) < K)⟩) (fun g1 he_g1 => ?_)
  have h := h g1 he_g1
  refine Rn_pure 1 (i' := 4) (L' := [some (2, 161), some (0, p1)]) (st' := [(0, p1)]) rfl ?_
  refine Rn_ifne rfl (fun hc => ?_) (fun hc => ?_)
  · have h := h.1 hc
    refine Rn_pure 2 (i' := 10) (L' := [some (2, 161), some (0, p1)]) (st' := [(0, 1), (0, p1)]) rfl ?_
    refine Rn_icne rfl (fun hc => ?_) (fun hc => ?_)
    · have h := h.1 hc
      refine Rn_pure 1 (i' := 15) (L' := [some (2, 161), some (0, p1)]) (st' := [(0, (-1))]) rfl ?_
      exact Rn_ret1 rfl h
    · have h := h.2 hc
      refine Rn_pure 1 (i' := 12) (L' := [some (2, 161), some (0, p1)]) (st' := [(2, 161)]) rfl ?_
      refine Rn_getI rfl (⟨rfl, (by omega : (0 : Int) ≤ 161), (by omega : (161 : Int) < K)⟩) ?_
      refine Rn_pure 1 (i' := 15) (L' := [some (2, 161), some (0, p1)]) (st' := [(0, g1 161 25)]) rfl ?_
      exact Rn_ret1 rfl h
  · have h := h.2 hc
    refine Rn_pure 1 (i' := 6) (L' := [some (2, 161), some (0, p1)]) (st' := [(2, 161)]) rfl ?_
    refine Rn_getI rfl (⟨rfl, (by omega : (0 : Int) ≤ 161), (by omega : (161 : Int) < K)⟩) ?_
    refine Rn_pure 1 (i' := 15) (L' := [some (2, 161), some (0, p1)]) (st' := [(0, g1 161 24)]) rfl ?_
    exact Rn_ret1 rfl h
-- EventLedgerModel.accounts ()I
theorem v_M_accounts {K : Int} {S : Nat} {g r : ab_H} (P : Int → ab_H → ab_H → Prop) (hr : SI r) (hK : 185 ≤ K) (h : ((0 : Int) ≤ 0 ∧ (0 : Int) < 12) ∧ P (g 163 0) g r) : ab_RI m_M_accounts [(2, 161)] K S g r P := by
  show ab_Rn m_M_accounts 0 [some (2, 161)] [] (K, S, g, r) (ab_Qi K S P)
  refine Rn_pure 1 (i' := 1) (L' := [some (2, 161)]) (st' := [(2, 161)]) rfl ?_
  refine Rn_getR rfl (⟨rfl, (by omega : (0 : Int) ≤ 161), (by omega : (161 : Int) < K)⟩) (hr 138 _ rfl) (by decide) ?_
  refine Rn_pure 1 (i' := 3) (L' := [some (2, 161)]) (st' := [(0, 0), (2, 163)]) rfl ?_
  obtain ⟨hg, h⟩ := h
  refine Rn_iald rfl (⟨rfl, (by omega : (0 : Int) ≤ 163), (by omega : (163 : Int) < K)⟩) hg ?_
  exact Rn_ret1 rfl h
-- EventLedgerModel.tallies ()I
theorem v_M_tallies {K : Int} {S : Nat} {g r : ab_H} (P : Int → ab_H → ab_H → Prop) (hr : SI r) (hK : 185 ≤ K) (h : ((0 : Int) ≤ 1 ∧ (1 : Int) < 12) ∧ P (g 163 1) g r) : ab_RI m_M_tallies [(2, 161)] K S g r P := by
  show ab_Rn m_M_tallies 0 [some (2, 161)] [] (K, S, g, r) (ab_Qi K S P)
  refine Rn_pure 1 (i' := 1) (L' := [some (2, 161)]) (st' := [(2, 161)]) rfl ?_
  refine Rn_getR rfl (⟨rfl, (by omega : (0 : Int) ≤ 161), (by omega : (161 : Int) < K)⟩) (hr 138 _ rfl) (by decide) ?_
  refine Rn_pure 1 (i' := 3) (L' := [some (2, 161)]) (st' := [(0, 1), (2, 163)]) rfl ?_
  obtain ⟨hg, h⟩ := h
  refine Rn_iald rfl (⟨rfl, (by omega : (0 : Int) ≤ 163), (by omega : (163 : Int) < K)⟩) hg ?_
  exact Rn_ret1 rfl h
-- EventLedgerModel.named (II)I
theorem v_M_named {K : Int} {S : Nat} {g r : ab_H} {p1 p2 : Int} (P : Int → ab_H → ab_H → Prop) (hr : SI r) (hK : 185 ≤ K) (h : ∀ g1, g1 = ab_up g 161 0 0 → ((¬ wr p1 = wr 0 → ((¬ wr p1 = wr 1 → P (-1) g1 r) ∧ (wr p1 = wr 1 → ab_RI m_M_tallies [(2, 161)] K S g1 r (fun x2 g' r' => g' = g1 ∧ r' = r ∧ (ab_RI m_M_foundIn [(2, 165), (0, 0), (0, x2), (0, p2)] K S g1 r (fun x3 g' r' => g' = g1 ∧ r' = r ∧ (P x3 g1 r))))))) ∧ (wr p1 = wr 0 → ab_RI m_M_accounts [(2, 161)] K S g1 r (fun x4 g' r' => g' = g1 ∧ r' = r ∧ (ab_RI m_M_foundIn [(2, 164), (0, 0), (0, x4), (0, p2)] K S g1 r (fun x5 g' r' => g' = g1 ∧ r' = r ∧ (P x5 g1 r))))))) : ab_RI m_M_named [(2, 161), (0, p1), (0, p2)] K S g r P := by
  show ab_Rn m_M_named 0 [some (2, 161), some (0, p1), some (0, p2)] [] (K, S, g, r) (ab_Qi K S P)
  refine Rn_pure 2 (i' := 2) (L' := [some (2, 161), some (0, p1), some (0, p2)]) (st' := [(0, 0), (2, 161)]) rfl ?_
  refine Rn_putI rfl (⟨rfl, (by omega : (0 : Int) ≤ 161), (by omega : (161 : Int) < K)⟩) (fun g1 he_g1 => ?_)
  have h := h g1 he_g1
  refine Rn_pure 1 (i' := 4) (L' := [some (2, 161), some (0, p1), some (0, p2)]) (st' := [(0, p1)]) rfl ?_
  refine Rn_ifne rfl (fun hc => ?_) (fun hc => ?_)
  · have h := h.1 hc
    refine Rn_pure 2 (i' := 15) (L' := [some (2, 161), some (0, p1), some (0, p2)]) (st' := [(0, 1), (0, p1)]) rfl ?_
    refine Rn_icne rfl (fun hc => ?_) (fun hc => ?_)
    · have h := h.1 hc
      refine Rn_pure 1 (i' := 25) (L' := [some (2, 161), some (0, p1), some (0, p2)]) (st' := [(0, (-1))]) rfl ?_
      exact Rn_ret1 rfl h
    · have h := h.2 hc
      refine Rn_pure 1 (i' := 17) (L' := [some (2, 161), some (0, p1), some (0, p2)]) (st' := [(2, 161)]) rfl ?_
      refine Rn_getR rfl (⟨rfl, (by omega : (0 : Int) ≤ 161), (by omega : (161 : Int) < K)⟩) (hr 140 _ rfl) (by decide) ?_
      refine Rn_pure 2 (i' := 20) (L' := [some (2, 161), some (0, p1), some (0, p2)]) (st' := [(2, 161), (0, 0), (2, 165)]) rfl ?_
      refine Rn_callI [(2, 161)] [(0, 0), (2, 165)] rfl rfl rfl rfl (ab_rvB_of rfl (⟨rfl, (by omega : (0 : Int) ≤ 161), (by omega : (161 : Int) < K)⟩)) ?_
      refine h.mono (fun x2 g' r' h => ?_)
      obtain ⟨hx, h⟩ := h
      replace hx := hx.symm
      subst hx
      obtain ⟨hx, h⟩ := h
      replace hx := hx.symm
      subst hx
      refine Rn_pure 1 (i' := 22) (L' := [some (2, 161), some (0, p1), some (0, p2)]) (st' := [(0, p2), (0, x2), (0, 0), (2, 165)]) rfl ?_
      refine Rn_callI [(2, 165), (0, 0), (0, x2), (0, p2)] [] rfl rfl rfl rfl (rfl) ?_
      refine h.mono (fun x3 g' r' h => ?_)
      obtain ⟨hx, h⟩ := h
      replace hx := hx.symm
      subst hx
      obtain ⟨hx, h⟩ := h
      replace hx := hx.symm
      subst hx
      refine Rn_pure 1 (i' := 25) (L' := [some (2, 161), some (0, p1), some (0, p2)]) (st' := [(0, x3)]) rfl ?_
      exact Rn_ret1 rfl h
  · have h := h.2 hc
    refine Rn_pure 1 (i' := 6) (L' := [some (2, 161), some (0, p1), some (0, p2)]) (st' := [(2, 161)]) rfl ?_
    refine Rn_getR rfl (⟨rfl, (by omega : (0 : Int) ≤ 161), (by omega : (161 : Int) < K)⟩) (hr 139 _ rfl) (by decide) ?_
    refine Rn_pure 2 (i' := 9) (L' := [some (2, 161), some (0, p1), some (0, p2)]) (st' := [(2, 161), (0, 0), (2, 164)]) rfl ?_
    refine Rn_callI [(2, 161)] [(0, 0), (2, 164)] rfl rfl rfl rfl (ab_rvB_of rfl (⟨rfl, (by omega : (0 : Int) ≤ 161), (by omega : (161 : Int) < K)⟩)) ?_
    refine h.mono (fun x4 g' r' h => ?_)
    obtain ⟨hx, h⟩ := h
    replace hx := hx.symm
    subst hx
    obtain ⟨hx, h⟩ := h
    replace hx := hx.symm
    subst hx
    refine Rn_pure 1 (i' := 11) (L' := [some (2, 161), some (0, p1), some (0, p2)]) (st' := [(0, p2), (0, x4), (0, 0), (2, 164)]) rfl ?_
    refine Rn_callI [(2, 164), (0, 0), (0, x4), (0, p2)] [] rfl rfl rfl rfl (rfl) ?_
    refine h.mono (fun x5 g' r' h => ?_)
    obtain ⟨hx, h⟩ := h
    replace hx := hx.symm
    subst hx
    obtain ⟨hx, h⟩ := h
    replace hx := hx.symm
    subst hx
    refine Rn_pure 1 (i' := 25) (L' := [some (2, 161), some (0, p1), some (0, p2)]) (st' := [(0, x5)]) rfl ?_
    exact Rn_ret1 rfl h
-- EventLedgerModel.copies ([II[II)V
theorem v_M_copies {K : Int} {S : Nat} {g r : ab_H} {p0 n0 p1 p2 n2 p3 : Int} (P : ab_H → ab_H → Prop) (hr : SI r) (hK : 185 ≤ K) (hp0 : ab_AR K p0 100 n0) (hp2 : ab_AR K p2 100 n2) (h : ab_Rn m_M_copies 2 [some (2, p0), some (0, p1), some (2, p2), some (0, p3), some (0, 0)] [] (K, S, g, r) (ab_Qv K S P)) : ab_RV m_M_copies [(2, p0), (0, p1), (2, p2), (0, p3)] K S g r P := by
  show ab_Rn m_M_copies 0 [some (2, p0), some (0, p1), some (2, p2), some (0, p3), none] [] (K, S, g, r) (ab_Qv K S P)
  refine Rn_pure 2 (i' := 2) (L' := [some (2, p0), some (0, p1), some (2, p2), some (0, p3), some (0, 0)]) (st' := []) rfl ?_
  exact h
theorem v_M_copies_2 {K : Int} {S : Nat} {g r : ab_H} {p0 n0 l1 p2 n2 l3 l4 : Int} (P : ab_H → ab_H → Prop) (hr : SI r) (hK : 185 ≤ K) (hp0 : ab_AR K p0 100 n0) (hp2 : ab_AR K p2 100 n2) (h : ((wr 1607 ≤ wr l4 → P g r) ∧ (wr l4 < wr 1607 → ((0 : Int) ≤ l1 + l4 ∧ (l1 + l4 : Int) < n0) ∧ ((0 : Int) ≤ l3 + l4 ∧ (l3 + l4 : Int) < n2) ∧ ∀ g1, g1 = ab_up g p2 (l3 + l4) (g p0 (l1 + l4)) → ab_Rn m_M_copies 2 [some (2, p0), some (0, l1), some (2, p2), some (0, l3), some (0, l4 + 1)] [] (K, S, g1, r) (ab_Qv K S P)))) : ab_Rn m_M_copies 2 [some (2, p0), some (0, l1), some (2, p2), some (0, l3), some (0, l4)] [] (K, S, g, r) (ab_Qv K S P) := by
  refine Rn_pure 2 (i' := 4) (L' := [some (2, p0), some (0, l1), some (2, p2), some (0, l3), some (0, l4)]) (st' := [(0, 1607), (0, l4)]) rfl ?_
  refine Rn_icge rfl (fun hc => ?_) (fun hc => ?_)
  · have h := h.1 hc
    exact Rn_ret0 rfl h
  · have h := h.2 hc
    refine Rn_pure 8 (i' := 13) (L' := [some (2, p0), some (0, l1), some (2, p2), some (0, l3), some (0, l4)]) (st' := [(0, l1 + l4), (2, p0), (0, l3 + l4), (2, p2)]) rfl ?_
    obtain ⟨hg, h⟩ := h
    refine Rn_iald rfl (hp0) hg ?_
    obtain ⟨hg, h⟩ := h
    refine Rn_iast rfl (hp2) hg (fun g1 he_g1 => ?_)
    have h := h g1 he_g1
    refine Rn_pure 2 (i' := 2) (L' := [some (2, p0), some (0, l1), some (2, p2), some (0, l3), some (0, l4 + 1)]) (st' := []) rfl ?_
    exact h
-- EventLedgerModel.many ()I
theorem v_M_many {K : Int} {S : Nat} {g r : ab_H} (P : Int → ab_H → ab_H → Prop) (hr : SI r) (hK : 185 ≤ K) (h : ((0 : Int) ≤ 1080 ∧ (1080 : Int) < 1607) ∧ P (g 174 1080) g r) : ab_RI m_M_many [(2, 161)] K S g r P := by
  show ab_Rn m_M_many 0 [some (2, 161)] [] (K, S, g, r) (ab_Qi K S P)
  refine Rn_pure 1 (i' := 1) (L' := [some (2, 161)]) (st' := [(2, 161)]) rfl ?_
  refine Rn_getR rfl (⟨rfl, (by omega : (0 : Int) ≤ 161), (by omega : (161 : Int) < K)⟩) (hr 149 _ rfl) (by decide) ?_
  refine Rn_pure 1 (i' := 3) (L' := [some (2, 161)]) (st' := [(0, 1080), (2, 174)]) rfl ?_
  obtain ⟨hg, h⟩ := h
  refine Rn_iald rfl (⟨rfl, (by omega : (0 : Int) ≤ 174), (by omega : (174 : Int) < K)⟩) hg ?_
  exact Rn_ret1 rfl h
-- EventLedgerModel.begins ()V
theorem v_M_begins {K : Int} {S : Nat} {g r : ab_H} (P : ab_H → ab_H → Prop) (hr : SI r) (hK : 185 ≤ K) (h : ab_Rn m_M_begins 2 [some (2, 161), some (0, 0), none, none] [] (K, S, g, r) (ab_Qv K S P)) : ab_RV m_M_begins [(2, 161)] K S g r P := by
  show ab_Rn m_M_begins 0 [some (2, 161), none, none, none] [] (K, S, g, r) (ab_Qv K S P)
  refine Rn_pure 2 (i' := 2) (L' := [some (2, 161), some (0, 0), none, none]) (st' := []) rfl ?_
  exact h
theorem v_M_begins_2 {K : Int} {S : Nat} {g r : ab_H} {l1 : Int} (P : ab_H → ab_H → Prop) (hr : SI r) (hK : 185 ≤ K) (h : ((wr 1607 ≤ wr l1 → ((0 : Int) ≤ 2 ∧ (2 : Int) < 12) ∧ ((0 : Int) ≤ 1089 ∧ (1089 : Int) < 1607) ∧ ∀ g1, g1 = ab_up g 174 1089 (g 163 2) → ((0 : Int) ≤ 3 ∧ (3 : Int) < 12) ∧ ((0 : Int) ≤ 1090 ∧ (1090 : Int) < 1607) ∧ ∀ g2, g2 = ab_up g1 174 1090 (g1 163 3) → ab_Rn m_M_begins 30 [some (2, 161), some (0, 0), none, none] [] (K, S, g2, r) (ab_Qv K S P)) ∧ (wr l1 < wr 1607 → ((0 : Int) ≤ l1 ∧ (l1 : Int) < 1607) ∧ ∀ g3, g3 = ab_up g 174 l1 0 → ab_Rn m_M_begins 2 [some (2, 161), some (0, l1 + 1), none, none] [] (K, S, g3, r) (ab_Qv K S P)))) : ab_Rn m_M_begins 2 [some (2, 161), some (0, l1), none, none] [] (K, S, g, r) (ab_Qv K S P) := by
  refine Rn_pure 2 (i' := 4) (L' := [some (2, 161), some (0, l1), none, none]) (st' := [(0, 1607), (0, l1)]) rfl ?_
  refine Rn_icge rfl (fun hc => ?_) (fun hc => ?_)
  · have h := h.1 hc
    refine Rn_pure 1 (i' := 13) (L' := [some (2, 161), some (0, l1), none, none]) (st' := [(2, 161)]) rfl ?_
    refine Rn_getR rfl (⟨rfl, (by omega : (0 : Int) ≤ 161), (by omega : (161 : Int) < K)⟩) (hr 149 _ rfl) (by decide) ?_
    refine Rn_pure 2 (i' := 16) (L' := [some (2, 161), some (0, l1), none, none]) (st' := [(2, 161), (0, 1089), (2, 174)]) rfl ?_
    refine Rn_getR rfl (⟨rfl, (by omega : (0 : Int) ≤ 161), (by omega : (161 : Int) < K)⟩) (hr 138 _ rfl) (by decide) ?_
    refine Rn_pure 1 (i' := 18) (L' := [some (2, 161), some (0, l1), none, none]) (st' := [(0, 2), (2, 163), (0, 1089), (2, 174)]) rfl ?_
    obtain ⟨hg, h⟩ := h
    refine Rn_iald rfl (⟨rfl, (by omega : (0 : Int) ≤ 163), (by omega : (163 : Int) < K)⟩) hg ?_
    obtain ⟨hg, h⟩ := h
    refine Rn_iast rfl (⟨rfl, (by omega : (0 : Int) ≤ 174), (by omega : (174 : Int) < K)⟩) hg (fun g1 he_g1 => ?_)
    have h := h g1 he_g1
    refine Rn_pure 1 (i' := 21) (L' := [some (2, 161), some (0, l1), none, none]) (st' := [(2, 161)]) rfl ?_
    refine Rn_getR rfl (⟨rfl, (by omega : (0 : Int) ≤ 161), (by omega : (161 : Int) < K)⟩) (hr 149 _ rfl) (by decide) ?_
    refine Rn_pure 2 (i' := 24) (L' := [some (2, 161), some (0, l1), none, none]) (st' := [(2, 161), (0, 1090), (2, 174)]) rfl ?_
    refine Rn_getR rfl (⟨rfl, (by omega : (0 : Int) ≤ 161), (by omega : (161 : Int) < K)⟩) (hr 138 _ rfl) (by decide) ?_
    refine Rn_pure 1 (i' := 26) (L' := [some (2, 161), some (0, l1), none, none]) (st' := [(0, 3), (2, 163), (0, 1090), (2, 174)]) rfl ?_
    obtain ⟨hg, h⟩ := h
    refine Rn_iald rfl (⟨rfl, (by omega : (0 : Int) ≤ 163), (by omega : (163 : Int) < K)⟩) hg ?_
    obtain ⟨hg, h⟩ := h
    refine Rn_iast rfl (⟨rfl, (by omega : (0 : Int) ≤ 174), (by omega : (174 : Int) < K)⟩) hg (fun g2 he_g2 => ?_)
    have h := h g2 he_g2
    refine Rn_pure 2 (i' := 30) (L' := [some (2, 161), some (0, 0), none, none]) (st' := []) rfl ?_
    exact h
  · have h := h.2 hc
    refine Rn_pure 1 (i' := 6) (L' := [some (2, 161), some (0, l1), none, none]) (st' := [(2, 161)]) rfl ?_
    refine Rn_getR rfl (⟨rfl, (by omega : (0 : Int) ≤ 161), (by omega : (161 : Int) < K)⟩) (hr 149 _ rfl) (by decide) ?_
    refine Rn_pure 2 (i' := 9) (L' := [some (2, 161), some (0, l1), none, none]) (st' := [(0, 0), (0, l1), (2, 174)]) rfl ?_
    obtain ⟨hg, h⟩ := h
    refine Rn_iast rfl (⟨rfl, (by omega : (0 : Int) ≤ 174), (by omega : (174 : Int) < K)⟩) hg (fun g3 he_g3 => ?_)
    have h := h g3 he_g3
    refine Rn_pure 2 (i' := 2) (L' := [some (2, 161), some (0, l1 + 1), none, none]) (st' := []) rfl ?_
    exact h
theorem v_M_begins_30 {K : Int} {S : Nat} {g r : ab_H} {l1 : Int} (P : ab_H → ab_H → Prop) (hr : SI r) (hK : 185 ≤ K) (h : ((0 : Int) ≤ 5 ∧ (5 : Int) < 12) ∧ ((wr (g 163 5) ≤ wr l1 → P g r) ∧ (wr l1 < wr (g 163 5) → ((0 : Int) ≤ 8 * l1 + 0 ∧ (8 * l1 + 0 : Int) < 400) ∧ ((0 : Int) ≤ 8 * l1 + 1 ∧ (8 * l1 + 1 : Int) < 400) ∧ ((0 : Int) ≤ 8 * l1 + 2 ∧ (8 * l1 + 2 : Int) < 400) ∧ ((0 : Int) ≤ 8 * l1 + 3 ∧ (8 * l1 + 3 : Int) < 400) ∧ ((0 : Int) ≤ 8 * l1 + 4 ∧ (8 * l1 + 4 : Int) < 400) ∧ ab_RV m_M_comes [(2, 161), (0, g 172 (8 * l1 + 0)), (0, g 172 (8 * l1 + 1)), (0, g 172 (8 * l1 + 2)), (0, g 172 (8 * l1 + 3)), (0, g 172 (8 * l1 + 4))] K S g r (fun g1 r' => r' = r ∧ (ab_Rn m_M_begins 74 [some (2, 161), some (0, l1), some (0, 8 * l1), some (0, 0)] [] (K, S, g1, r) (ab_Qv K S P)))))) : ab_Rn m_M_begins 30 [some (2, 161), some (0, l1), none, none] [] (K, S, g, r) (ab_Qv K S P) := by
  refine Rn_pure 2 (i' := 32) (L' := [some (2, 161), some (0, l1), none, none]) (st' := [(2, 161), (0, l1)]) rfl ?_
  refine Rn_getR rfl (⟨rfl, (by omega : (0 : Int) ≤ 161), (by omega : (161 : Int) < K)⟩) (hr 138 _ rfl) (by decide) ?_
  refine Rn_pure 1 (i' := 34) (L' := [some (2, 161), some (0, l1), none, none]) (st' := [(0, 5), (2, 163), (0, l1)]) rfl ?_
  obtain ⟨hg, h⟩ := h
  refine Rn_iald rfl (⟨rfl, (by omega : (0 : Int) ≤ 163), (by omega : (163 : Int) < K)⟩) hg ?_
  refine Rn_icge rfl (fun hc => ?_) (fun hc => ?_)
  · have h := h.1 hc
    exact Rn_ret0 rfl h
  · have h := h.2 hc
    refine Rn_pure 6 (i' := 42) (L' := [some (2, 161), some (0, l1), some (0, 8 * l1), none]) (st' := [(2, 161), (2, 161)]) rfl ?_
    refine Rn_getR rfl (⟨rfl, (by omega : (0 : Int) ≤ 161), (by omega : (161 : Int) < K)⟩) (hr 147 _ rfl) (by decide) ?_
    refine Rn_pure 3 (i' := 46) (L' := [some (2, 161), some (0, l1), some (0, 8 * l1), none]) (st' := [(0, 8 * l1 + 0), (2, 172), (2, 161)]) rfl ?_
    obtain ⟨hg, h⟩ := h
    refine Rn_iald rfl (⟨rfl, (by omega : (0 : Int) ≤ 172), (by omega : (172 : Int) < K)⟩) hg ?_
    refine Rn_pure 1 (i' := 48) (L' := [some (2, 161), some (0, l1), some (0, 8 * l1), none]) (st' := [(2, 161), (0, g 172 (8 * l1 + 0)), (2, 161)]) rfl ?_
    refine Rn_getR rfl (⟨rfl, (by omega : (0 : Int) ≤ 161), (by omega : (161 : Int) < K)⟩) (hr 147 _ rfl) (by decide) ?_
    refine Rn_pure 3 (i' := 52) (L' := [some (2, 161), some (0, l1), some (0, 8 * l1), none]) (st' := [(0, 8 * l1 + 1), (2, 172), (0, g 172 (8 * l1 + 0)), (2, 161)]) rfl ?_
    obtain ⟨hg, h⟩ := h
    refine Rn_iald rfl (⟨rfl, (by omega : (0 : Int) ≤ 172), (by omega : (172 : Int) < K)⟩) hg ?_
    refine Rn_pure 1 (i' := 54) (L' := [some (2, 161), some (0, l1), some (0, 8 * l1), none]) (st' := [(2, 161), (0, g 172 (8 * l1 + 1)), (0, g 172 (8 * l1 + 0)), (2, 161)]) rfl ?_
    refine Rn_getR rfl (⟨rfl, (by omega : (0 : Int) ≤ 161), (by omega : (161 : Int) < K)⟩) (hr 147 _ rfl) (by decide) ?_
    refine Rn_pure 3 (i' := 58) (L' := [some (2, 161), some (0, l1), some (0, 8 * l1), none]) (st' := [(0, 8 * l1 + 2), (2, 172), (0, g 172 (8 * l1 + 1)), (0, g 172 (8 * l1 + 0)), (2, 161)]) rfl ?_
    obtain ⟨hg, h⟩ := h
    refine Rn_iald rfl (⟨rfl, (by omega : (0 : Int) ≤ 172), (by omega : (172 : Int) < K)⟩) hg ?_
    refine Rn_pure 1 (i' := 60) (L' := [some (2, 161), some (0, l1), some (0, 8 * l1), none]) (st' := [(2, 161), (0, g 172 (8 * l1 + 2)), (0, g 172 (8 * l1 + 1)), (0, g 172 (8 * l1 + 0)), (2, 161)]) rfl ?_
    refine Rn_getR rfl (⟨rfl, (by omega : (0 : Int) ≤ 161), (by omega : (161 : Int) < K)⟩) (hr 147 _ rfl) (by decide) ?_
    refine Rn_pure 3 (i' := 64) (L' := [some (2, 161), some (0, l1), some (0, 8 * l1), none]) (st' := [(0, 8 * l1 + 3), (2, 172), (0, g 172 (8 * l1 + 2)), (0, g 172 (8 * l1 + 1)), (0, g 172 (8 * l1 + 0)), (2, 161)]) rfl ?_
    obtain ⟨hg, h⟩ := h
    refine Rn_iald rfl (⟨rfl, (by omega : (0 : Int) ≤ 172), (by omega : (172 : Int) < K)⟩) hg ?_
    refine Rn_pure 1 (i' := 66) (L' := [some (2, 161), some (0, l1), some (0, 8 * l1), none]) (st' := [(2, 161), (0, g 172 (8 * l1 + 3)), (0, g 172 (8 * l1 + 2)), (0, g 172 (8 * l1 + 1)), (0, g 172 (8 * l1 + 0)), (2, 161)]) rfl ?_
    refine Rn_getR rfl (⟨rfl, (by omega : (0 : Int) ≤ 161), (by omega : (161 : Int) < K)⟩) (hr 147 _ rfl) (by decide) ?_
    refine Rn_pure 3 (i' := 70) (L' := [some (2, 161), some (0, l1), some (0, 8 * l1), none]) (st' := [(0, 8 * l1 + 4), (2, 172), (0, g 172 (8 * l1 + 3)), (0, g 172 (8 * l1 + 2)), (0, g 172 (8 * l1 + 1)), (0, g 172 (8 * l1 + 0)), (2, 161)]) rfl ?_
    obtain ⟨hg, h⟩ := h
    refine Rn_iald rfl (⟨rfl, (by omega : (0 : Int) ≤ 172), (by omega : (172 : Int) < K)⟩) hg ?_
    refine Rn_callV [(2, 161), (0, g 172 (8 * l1 + 0)), (0, g 172 (8 * l1 + 1)), (0, g 172 (8 * l1 + 2)), (0, g 172 (8 * l1 + 3)), (0, g 172 (8 * l1 + 4))] [] rfl rfl rfl rfl (ab_rvB_of rfl (⟨rfl, (by omega : (0 : Int) ≤ 161), (by omega : (161 : Int) < K)⟩)) ?_
    refine h.mono (fun g1 r' h => ?_)
    obtain ⟨hx, h⟩ := h
    replace hx := hx.symm
    subst hx
    refine Rn_pure 2 (i' := 74) (L' := [some (2, 161), some (0, l1), some (0, 8 * l1), some (0, 0)]) (st' := []) rfl ?_
    exact h
theorem v_M_begins_74 {K : Int} {S : Nat} {g r : ab_H} {l1 l2 l3 : Int} (P : ab_H → ab_H → Prop) (hr : SI r) (hK : 185 ≤ K) (h : ((wr 3 ≤ wr l3 → ab_Rn m_M_begins 30 [some (2, 161), some (0, l1 + 1), none, none] [] (K, S, g, r) (ab_Qv K S P)) ∧ (wr l3 < wr 3 → ((0 : Int) ≤ l2 + 5 + l3 ∧ (l2 + 5 + l3 : Int) < 400) ∧ ((0 : Int) ≤ 9 * l1 + 5 + l3 ∧ (9 * l1 + 5 + l3 : Int) < 1607) ∧ ∀ g1, g1 = ab_up g 174 (9 * l1 + 5 + l3) (g 172 (l2 + 5 + l3)) → ab_Rn m_M_begins 74 [some (2, 161), some (0, l1), some (0, l2), some (0, l3 + 1)] [] (K, S, g1, r) (ab_Qv K S P)))) : ab_Rn m_M_begins 74 [some (2, 161), some (0, l1), some (0, l2), some (0, l3)] [] (K, S, g, r) (ab_Qv K S P) := by
  refine Rn_pure 2 (i' := 76) (L' := [some (2, 161), some (0, l1), some (0, l2), some (0, l3)]) (st' := [(0, 3), (0, l3)]) rfl ?_
  refine Rn_icge rfl (fun hc => ?_) (fun hc => ?_)
  · have h := h.1 hc
    refine Rn_pure 2 (i' := 30) (L' := [some (2, 161), some (0, l1 + 1), some (0, l2), some (0, l3)]) (st' := []) rfl ?_
    refine Rn_weak (L' := [some (2, 161), some (0, l1 + 1), none, none]) ⟨rfl, ⟨rfl, trivial⟩⟩ ?_
    exact h
  · have h := h.2 hc
    refine Rn_pure 1 (i' := 78) (L' := [some (2, 161), some (0, l1), some (0, l2), some (0, l3)]) (st' := [(2, 161)]) rfl ?_
    refine Rn_getR rfl (⟨rfl, (by omega : (0 : Int) ≤ 161), (by omega : (161 : Int) < K)⟩) (hr 149 _ rfl) (by decide) ?_
    refine Rn_pure 8 (i' := 87) (L' := [some (2, 161), some (0, l1), some (0, l2), some (0, l3)]) (st' := [(2, 161), (0, 9 * l1 + 5 + l3), (2, 174)]) rfl ?_
    refine Rn_getR rfl (⟨rfl, (by omega : (0 : Int) ≤ 161), (by omega : (161 : Int) < K)⟩) (hr 147 _ rfl) (by decide) ?_
    refine Rn_pure 5 (i' := 93) (L' := [some (2, 161), some (0, l1), some (0, l2), some (0, l3)]) (st' := [(0, l2 + 5 + l3), (2, 172), (0, 9 * l1 + 5 + l3), (2, 174)]) rfl ?_
    obtain ⟨hg, h⟩ := h
    refine Rn_iald rfl (⟨rfl, (by omega : (0 : Int) ≤ 172), (by omega : (172 : Int) < K)⟩) hg ?_
    obtain ⟨hg, h⟩ := h
    refine Rn_iast rfl (⟨rfl, (by omega : (0 : Int) ≤ 174), (by omega : (174 : Int) < K)⟩) hg (fun g1 he_g1 => ?_)
    have h := h g1 he_g1
    refine Rn_pure 2 (i' := 74) (L' := [some (2, 161), some (0, l1), some (0, l2), some (0, l3 + 1)]) (st' := []) rfl ?_
    exact h
-- EventLedgerModel.remembers ()V
theorem v_M_remembers {K : Int} {S : Nat} {g r : ab_H} (P : ab_H → ab_H → Prop) (hr : SI r) (hK : 185 ≤ K) (h : ((¬ wr (g 161 30) = wr 20 → ab_RV m_M_copies [(2, 174), (0, 0), (2, 177), (0, 1607 * (g 161 30))] K S g r (fun g1 r' => r' = r ∧ (∀ g3, g3 = ab_up g1 161 30 (g1 161 30 + 1) → P g3 r))) ∧ (wr (g 161 30) = wr 20 → ab_Rn m_M_remembers 6 [some (2, 161), some (0, 0)] [] (K, S, g, r) (ab_Qv K S P)))) : ab_RV m_M_remembers [(2, 161)] K S g r P := by
  show ab_Rn m_M_remembers 0 [some (2, 161), none] [] (K, S, g, r) (ab_Qv K S P)
  refine Rn_pure 1 (i' := 1) (L' := [some (2, 161), none]) (st' := [(2, 161)]) rfl ?_
  refine Rn_getI rfl (⟨rfl, (by omega : (0 : Int) ≤ 161), (by omega : (161 : Int) < K)⟩) ?_
  refine Rn_pure 1 (i' := 3) (L' := [some (2, 161), none]) (st' := [(0, 20), (0, g 161 30)]) rfl ?_
  refine Rn_icne rfl (fun hc => ?_) (fun hc => ?_)
  · have h := h.1 hc
    refine Rn_pure 1 (i' := 28) (L' := [some (2, 161), none]) (st' := [(2, 161)]) rfl ?_
    refine Rn_getR rfl (⟨rfl, (by omega : (0 : Int) ≤ 161), (by omega : (161 : Int) < K)⟩) (hr 149 _ rfl) (by decide) ?_
    refine Rn_pure 2 (i' := 31) (L' := [some (2, 161), none]) (st' := [(2, 161), (0, 0), (2, 174)]) rfl ?_
    refine Rn_getR rfl (⟨rfl, (by omega : (0 : Int) ≤ 161), (by omega : (161 : Int) < K)⟩) (hr 152 _ rfl) (by decide) ?_
    refine Rn_pure 2 (i' := 34) (L' := [some (2, 161), none]) (st' := [(2, 161), (0, 1607), (2, 177), (0, 0), (2, 174)]) rfl ?_
    refine Rn_getI rfl (⟨rfl, (by omega : (0 : Int) ≤ 161), (by omega : (161 : Int) < K)⟩) ?_
    refine Rn_pure 1 (i' := 36) (L' := [some (2, 161), none]) (st' := [(0, 1607 * (g 161 30)), (2, 177), (0, 0), (2, 174)]) rfl ?_
    refine Rn_callV [(2, 174), (0, 0), (2, 177), (0, 1607 * (g 161 30))] [] rfl rfl rfl rfl (rfl) ?_
    refine h.mono (fun g1 r' h => ?_)
    obtain ⟨hx, h⟩ := h
    replace hx := hx.symm
    subst hx
    refine Rn_pure 2 (i' := 39) (L' := [some (2, 161), none]) (st' := [(2, 161), (2, 161)]) rfl ?_
    refine Rn_getI rfl (⟨rfl, (by omega : (0 : Int) ≤ 161), (by omega : (161 : Int) < K)⟩) ?_
    refine Rn_pure 2 (i' := 42) (L' := [some (2, 161), none]) (st' := [(0, g1 161 30 + 1), (2, 161)]) rfl ?_
    refine Rn_putI rfl (⟨rfl, (by omega : (0 : Int) ≤ 161), (by omega : (161 : Int) < K)⟩) (fun g3 he_g3 => ?_)
    have h := h g3 he_g3
    exact Rn_ret0 rfl h
  · have h := h.2 hc
    refine Rn_pure 2 (i' := 6) (L' := [some (2, 161), some (0, 0)]) (st' := []) rfl ?_
    exact h
theorem v_M_remembers_6 {K : Int} {S : Nat} {g r : ab_H} {l1 : Int} (P : ab_H → ab_H → Prop) (hr : SI r) (hK : 185 ≤ K) (h : ((wr 30533 ≤ wr l1 → ∀ g1, g1 = ab_up g 161 30 (g 161 30 - 1) → ab_RV m_M_copies [(2, 174), (0, 0), (2, 177), (0, 1607 * (g1 161 30))] K S g1 r (fun g2 r' => r' = r ∧ (∀ g4, g4 = ab_up g2 161 30 (g2 161 30 + 1) → P g4 r))) ∧ (wr l1 < wr 30533 → ((0 : Int) ≤ 1607 + l1 ∧ (1607 + l1 : Int) < 32140) ∧ ((0 : Int) ≤ l1 ∧ (l1 : Int) < 32140) ∧ ∀ g5, g5 = ab_up g 177 l1 (g 177 (1607 + l1)) → ab_Rn m_M_remembers 6 [some (2, 161), some (0, l1 + 1)] [] (K, S, g5, r) (ab_Qv K S P)))) : ab_Rn m_M_remembers 6 [some (2, 161), some (0, l1)] [] (K, S, g, r) (ab_Qv K S P) := by
  refine Rn_pure 2 (i' := 8) (L' := [some (2, 161), some (0, l1)]) (st' := [(0, 30533), (0, l1)]) rfl ?_
  refine Rn_icge rfl (fun hc => ?_) (fun hc => ?_)
  · have h := h.1 hc
    refine Rn_pure 2 (i' := 23) (L' := [some (2, 161), some (0, l1)]) (st' := [(2, 161), (2, 161)]) rfl ?_
    refine Rn_getI rfl (⟨rfl, (by omega : (0 : Int) ≤ 161), (by omega : (161 : Int) < K)⟩) ?_
    refine Rn_pure 2 (i' := 26) (L' := [some (2, 161), some (0, l1)]) (st' := [(0, g 161 30 - 1), (2, 161)]) rfl ?_
    refine Rn_putI rfl (⟨rfl, (by omega : (0 : Int) ≤ 161), (by omega : (161 : Int) < K)⟩) (fun g1 he_g1 => ?_)
    have h := h g1 he_g1
    refine Rn_pure 1 (i' := 28) (L' := [some (2, 161), some (0, l1)]) (st' := [(2, 161)]) rfl ?_
    refine Rn_getR rfl (⟨rfl, (by omega : (0 : Int) ≤ 161), (by omega : (161 : Int) < K)⟩) (hr 149 _ rfl) (by decide) ?_
    refine Rn_pure 2 (i' := 31) (L' := [some (2, 161), some (0, l1)]) (st' := [(2, 161), (0, 0), (2, 174)]) rfl ?_
    refine Rn_getR rfl (⟨rfl, (by omega : (0 : Int) ≤ 161), (by omega : (161 : Int) < K)⟩) (hr 152 _ rfl) (by decide) ?_
    refine Rn_pure 2 (i' := 34) (L' := [some (2, 161), some (0, l1)]) (st' := [(2, 161), (0, 1607), (2, 177), (0, 0), (2, 174)]) rfl ?_
    refine Rn_getI rfl (⟨rfl, (by omega : (0 : Int) ≤ 161), (by omega : (161 : Int) < K)⟩) ?_
    refine Rn_pure 1 (i' := 36) (L' := [some (2, 161), some (0, l1)]) (st' := [(0, 1607 * (g1 161 30)), (2, 177), (0, 0), (2, 174)]) rfl ?_
    refine Rn_callV [(2, 174), (0, 0), (2, 177), (0, 1607 * (g1 161 30))] [] rfl rfl rfl rfl (rfl) ?_
    refine h.mono (fun g2 r' h => ?_)
    obtain ⟨hx, h⟩ := h
    replace hx := hx.symm
    subst hx
    refine Rn_pure 2 (i' := 39) (L' := [some (2, 161), some (0, l1)]) (st' := [(2, 161), (2, 161)]) rfl ?_
    refine Rn_getI rfl (⟨rfl, (by omega : (0 : Int) ≤ 161), (by omega : (161 : Int) < K)⟩) ?_
    refine Rn_pure 2 (i' := 42) (L' := [some (2, 161), some (0, l1)]) (st' := [(0, g2 161 30 + 1), (2, 161)]) rfl ?_
    refine Rn_putI rfl (⟨rfl, (by omega : (0 : Int) ≤ 161), (by omega : (161 : Int) < K)⟩) (fun g4 he_g4 => ?_)
    have h := h g4 he_g4
    exact Rn_ret0 rfl h
  · have h := h.2 hc
    refine Rn_pure 1 (i' := 10) (L' := [some (2, 161), some (0, l1)]) (st' := [(2, 161)]) rfl ?_
    refine Rn_getR rfl (⟨rfl, (by omega : (0 : Int) ≤ 161), (by omega : (161 : Int) < K)⟩) (hr 152 _ rfl) (by decide) ?_
    refine Rn_pure 2 (i' := 13) (L' := [some (2, 161), some (0, l1)]) (st' := [(2, 161), (0, l1), (2, 177)]) rfl ?_
    refine Rn_getR rfl (⟨rfl, (by omega : (0 : Int) ≤ 161), (by omega : (161 : Int) < K)⟩) (hr 152 _ rfl) (by decide) ?_
    refine Rn_pure 3 (i' := 17) (L' := [some (2, 161), some (0, l1)]) (st' := [(0, 1607 + l1), (2, 177), (0, l1), (2, 177)]) rfl ?_
    obtain ⟨hg, h⟩ := h
    refine Rn_iald rfl (⟨rfl, (by omega : (0 : Int) ≤ 177), (by omega : (177 : Int) < K)⟩) hg ?_
    obtain ⟨hg, h⟩ := h
    refine Rn_iast rfl (⟨rfl, (by omega : (0 : Int) ≤ 177), (by omega : (177 : Int) < K)⟩) hg (fun g5 he_g5 => ?_)
    have h := h g5 he_g5
    refine Rn_pure 2 (i' := 6) (L' := [some (2, 161), some (0, l1 + 1)]) (st' := []) rfl ?_
    exact h
-- EventLedgerModel.undo ()I
theorem v_M_undo {K : Int} {S : Nat} {g r : ab_H} (P : Int → ab_H → ab_H → Prop) (hr : SI r) (hK : 185 ≤ K) (h : ∀ g1, g1 = ab_up g 161 0 0 → ((¬ wr (g1 161 30) = wr 0 → ∀ g2, g2 = ab_up g1 161 30 (g1 161 30 - 1) → ab_RV m_M_copies [(2, 177), (0, 1607 * (g2 161 30)), (2, 174), (0, 0)] K S g2 r (fun g3 r' => r' = r ∧ (P (g3 161 30) g3 r))) ∧ (wr (g1 161 30) = wr 0 → P (-1) g1 r))) : ab_RI m_M_undo [(2, 161)] K S g r P := by
  show ab_Rn m_M_undo 0 [some (2, 161)] [] (K, S, g, r) (ab_Qi K S P)
  refine Rn_pure 2 (i' := 2) (L' := [some (2, 161)]) (st' := [(0, 0), (2, 161)]) rfl ?_
  refine Rn_putI rfl (⟨rfl, (by omega : (0 : Int) ≤ 161), (by omega : (161 : Int) < K)⟩) (fun g1 he_g1 => ?_)
  have h := h g1 he_g1
  refine Rn_pure 1 (i' := 4) (L' := [some (2, 161)]) (st' := [(2, 161)]) rfl ?_
  refine Rn_getI rfl (⟨rfl, (by omega : (0 : Int) ≤ 161), (by omega : (161 : Int) < K)⟩) ?_
  refine Rn_ifne rfl (fun hc => ?_) (fun hc => ?_)
  · have h := h.1 hc
    refine Rn_pure 2 (i' := 10) (L' := [some (2, 161)]) (st' := [(2, 161), (2, 161)]) rfl ?_
    refine Rn_getI rfl (⟨rfl, (by omega : (0 : Int) ≤ 161), (by omega : (161 : Int) < K)⟩) ?_
    refine Rn_pure 2 (i' := 13) (L' := [some (2, 161)]) (st' := [(0, g1 161 30 - 1), (2, 161)]) rfl ?_
    refine Rn_putI rfl (⟨rfl, (by omega : (0 : Int) ≤ 161), (by omega : (161 : Int) < K)⟩) (fun g2 he_g2 => ?_)
    have h := h g2 he_g2
    refine Rn_pure 1 (i' := 15) (L' := [some (2, 161)]) (st' := [(2, 161)]) rfl ?_
    refine Rn_getR rfl (⟨rfl, (by omega : (0 : Int) ≤ 161), (by omega : (161 : Int) < K)⟩) (hr 152 _ rfl) (by decide) ?_
    refine Rn_pure 2 (i' := 18) (L' := [some (2, 161)]) (st' := [(2, 161), (0, 1607), (2, 177)]) rfl ?_
    refine Rn_getI rfl (⟨rfl, (by omega : (0 : Int) ≤ 161), (by omega : (161 : Int) < K)⟩) ?_
    refine Rn_pure 2 (i' := 21) (L' := [some (2, 161)]) (st' := [(2, 161), (0, 1607 * (g2 161 30)), (2, 177)]) rfl ?_
    refine Rn_getR rfl (⟨rfl, (by omega : (0 : Int) ≤ 161), (by omega : (161 : Int) < K)⟩) (hr 149 _ rfl) (by decide) ?_
    refine Rn_pure 1 (i' := 23) (L' := [some (2, 161)]) (st' := [(0, 0), (2, 174), (0, 1607 * (g2 161 30)), (2, 177)]) rfl ?_
    refine Rn_callV [(2, 177), (0, 1607 * (g2 161 30)), (2, 174), (0, 0)] [] rfl rfl rfl rfl (rfl) ?_
    refine h.mono (fun g3 r' h => ?_)
    obtain ⟨hx, h⟩ := h
    replace hx := hx.symm
    subst hx
    refine Rn_pure 1 (i' := 25) (L' := [some (2, 161)]) (st' := [(2, 161)]) rfl ?_
    refine Rn_getI rfl (⟨rfl, (by omega : (0 : Int) ≤ 161), (by omega : (161 : Int) < K)⟩) ?_
    exact Rn_ret1 rfl h
  · have h := h.2 hc
    refine Rn_pure 1 (i' := 7) (L' := [some (2, 161)]) (st' := [(0, (-1))]) rfl ?_
    exact Rn_ret1 rfl h
-- EventLedgerModel.keep ()I
theorem v_M_keep {K : Int} {S : Nat} {g r : ab_H} (P : Int → ab_H → ab_H → Prop) (hr : SI r) (hK : 185 ≤ K) (h : ∀ g1, g1 = ab_up g 161 0 0 → ab_RV m_M_copies [(2, 174), (0, 0), (2, 176), (0, 0)] K S g1 r (fun g2 r' => r' = r ∧ (∀ g4, g4 = ab_up g2 161 31 1 → ab_RI m_M_many [(2, 161)] K S g4 r (fun x5 g' r' => g' = g4 ∧ r' = r ∧ (P x5 g4 r))))) : ab_RI m_M_keep [(2, 161)] K S g r P := by
  show ab_Rn m_M_keep 0 [some (2, 161)] [] (K, S, g, r) (ab_Qi K S P)
  refine Rn_pure 2 (i' := 2) (L' := [some (2, 161)]) (st' := [(0, 0), (2, 161)]) rfl ?_
  refine Rn_putI rfl (⟨rfl, (by omega : (0 : Int) ≤ 161), (by omega : (161 : Int) < K)⟩) (fun g1 he_g1 => ?_)
  have h := h g1 he_g1
  refine Rn_pure 1 (i' := 4) (L' := [some (2, 161)]) (st' := [(2, 161)]) rfl ?_
  refine Rn_getR rfl (⟨rfl, (by omega : (0 : Int) ≤ 161), (by omega : (161 : Int) < K)⟩) (hr 149 _ rfl) (by decide) ?_
  refine Rn_pure 2 (i' := 7) (L' := [some (2, 161)]) (st' := [(2, 161), (0, 0), (2, 174)]) rfl ?_
  refine Rn_getR rfl (⟨rfl, (by omega : (0 : Int) ≤ 161), (by omega : (161 : Int) < K)⟩) (hr 151 _ rfl) (by decide) ?_
  refine Rn_pure 1 (i' := 9) (L' := [some (2, 161)]) (st' := [(0, 0), (2, 176), (0, 0), (2, 174)]) rfl ?_
  refine Rn_callV [(2, 174), (0, 0), (2, 176), (0, 0)] [] rfl rfl rfl rfl (rfl) ?_
  refine h.mono (fun g2 r' h => ?_)
  obtain ⟨hx, h⟩ := h
  replace hx := hx.symm
  subst hx
  refine Rn_pure 2 (i' := 12) (L' := [some (2, 161)]) (st' := [(0, 1), (2, 161)]) rfl ?_
  refine Rn_putZ rfl (⟨rfl, (by omega : (0 : Int) ≤ 161), (by omega : (161 : Int) < K)⟩) (by decide) (fun g4 he_g4 => ?_)
  have h := h g4 he_g4
  refine Rn_pure 1 (i' := 14) (L' := [some (2, 161)]) (st' := [(2, 161)]) rfl ?_
  refine Rn_callI [(2, 161)] [] rfl rfl rfl rfl (ab_rvB_of rfl (⟨rfl, (by omega : (0 : Int) ≤ 161), (by omega : (161 : Int) < K)⟩)) ?_
  refine h.mono (fun x5 g' r' h => ?_)
  obtain ⟨hx, h⟩ := h
  replace hx := hx.symm
  subst hx
  obtain ⟨hx, h⟩ := h
  replace hx := hx.symm
  subst hx
  exact Rn_ret1 rfl h
-- EventLedgerModel.back ()I
theorem v_M_back {K : Int} {S : Nat} {g r : ab_H} (P : Int → ab_H → ab_H → Prop) (hr : SI r) (hK : 185 ≤ K) (h : ∀ g1, g1 = ab_up g 161 0 0 → ((¬ wr (g1 161 31) = wr 0 → ab_RV m_M_copies [(2, 176), (0, 0), (2, 174), (0, 0)] K S g1 r (fun g2 r' => r' = r ∧ (∀ g4, g4 = ab_up g2 161 30 0 → ab_RI m_M_many [(2, 161)] K S g4 r (fun x5 g' r' => g' = g4 ∧ r' = r ∧ (P x5 g4 r))))) ∧ (wr (g1 161 31) = wr 0 → P (-1) g1 r))) : ab_RI m_M_back [(2, 161)] K S g r P := by
  show ab_Rn m_M_back 0 [some (2, 161)] [] (K, S, g, r) (ab_Qi K S P)
  refine Rn_pure 2 (i' := 2) (L' := [some (2, 161)]) (st' := [(0, 0), (2, 161)]) rfl ?_
  refine Rn_putI rfl (⟨rfl, (by omega : (0 : Int) ≤ 161), (by omega : (161 : Int) < K)⟩) (fun g1 he_g1 => ?_)
  have h := h g1 he_g1
  refine Rn_pure 1 (i' := 4) (L' := [some (2, 161)]) (st' := [(2, 161)]) rfl ?_
  refine Rn_getI rfl (⟨rfl, (by omega : (0 : Int) ≤ 161), (by omega : (161 : Int) < K)⟩) ?_
  refine Rn_ifne rfl (fun hc => ?_) (fun hc => ?_)
  · have h := h.1 hc
    refine Rn_pure 1 (i' := 9) (L' := [some (2, 161)]) (st' := [(2, 161)]) rfl ?_
    refine Rn_getR rfl (⟨rfl, (by omega : (0 : Int) ≤ 161), (by omega : (161 : Int) < K)⟩) (hr 151 _ rfl) (by decide) ?_
    refine Rn_pure 2 (i' := 12) (L' := [some (2, 161)]) (st' := [(2, 161), (0, 0), (2, 176)]) rfl ?_
    refine Rn_getR rfl (⟨rfl, (by omega : (0 : Int) ≤ 161), (by omega : (161 : Int) < K)⟩) (hr 149 _ rfl) (by decide) ?_
    refine Rn_pure 1 (i' := 14) (L' := [some (2, 161)]) (st' := [(0, 0), (2, 174), (0, 0), (2, 176)]) rfl ?_
    refine Rn_callV [(2, 176), (0, 0), (2, 174), (0, 0)] [] rfl rfl rfl rfl (rfl) ?_
    refine h.mono (fun g2 r' h => ?_)
    obtain ⟨hx, h⟩ := h
    replace hx := hx.symm
    subst hx
    refine Rn_pure 2 (i' := 17) (L' := [some (2, 161)]) (st' := [(0, 0), (2, 161)]) rfl ?_
    refine Rn_putI rfl (⟨rfl, (by omega : (0 : Int) ≤ 161), (by omega : (161 : Int) < K)⟩) (fun g4 he_g4 => ?_)
    have h := h g4 he_g4
    refine Rn_pure 1 (i' := 19) (L' := [some (2, 161)]) (st' := [(2, 161)]) rfl ?_
    refine Rn_callI [(2, 161)] [] rfl rfl rfl rfl (ab_rvB_of rfl (⟨rfl, (by omega : (0 : Int) ≤ 161), (by omega : (161 : Int) < K)⟩)) ?_
    refine h.mono (fun x5 g' r' h => ?_)
    obtain ⟨hx, h⟩ := h
    replace hx := hx.symm
    subst hx
    obtain ⟨hx, h⟩ := h
    replace hx := hx.symm
    subst hx
    exact Rn_ret1 rfl h
  · have h := h.2 hc
    refine Rn_pure 1 (i' := 7) (L' := [some (2, 161)]) (st' := [(0, (-1))]) rfl ?_
    exact Rn_ret1 rfl h
-- EventLedgerModel.isVoid (I)Z
theorem v_M_isVoid {K : Int} {S : Nat} {g r : ab_H} {p1 : Int} (P : Int → ab_H → ab_H → Prop) (hr : SI r) (hK : 185 ≤ K) (h : ((0 : Int) ≤ 9 * p1 + 0 ∧ (9 * p1 + 0 : Int) < 1607) ∧ ((¬ wr (g 174 (9 * p1 + 0)) = wr 7 → P 0 g r) ∧ (wr (g 174 (9 * p1 + 0)) = wr 7 → P 1 g r))) : ab_RI m_M_isVoid [(2, 161), (0, p1)] K S g r P := by
  show ab_Rn m_M_isVoid 0 [some (2, 161), some (0, p1)] [] (K, S, g, r) (ab_Qi K S P)
  refine Rn_pure 1 (i' := 1) (L' := [some (2, 161), some (0, p1)]) (st' := [(2, 161)]) rfl ?_
  refine Rn_getR rfl (⟨rfl, (by omega : (0 : Int) ≤ 161), (by omega : (161 : Int) < K)⟩) (hr 149 _ rfl) (by decide) ?_
  refine Rn_pure 5 (i' := 7) (L' := [some (2, 161), some (0, p1)]) (st' := [(0, 9 * p1 + 0), (2, 174)]) rfl ?_
  obtain ⟨hg, h⟩ := h
  refine Rn_iald rfl (⟨rfl, (by omega : (0 : Int) ≤ 174), (by omega : (174 : Int) < K)⟩) hg ?_
  refine Rn_pure 1 (i' := 9) (L' := [some (2, 161), some (0, p1)]) (st' := [(0, 7), (0, g 174 (9 * p1 + 0))]) rfl ?_
  refine Rn_icne rfl (fun hc => ?_) (fun hc => ?_)
  · have h := h.1 hc
    refine Rn_pure 1 (i' := 13) (L' := [some (2, 161), some (0, p1)]) (st' := [(0, 0)]) rfl ?_
    exact Rn_ret2 rfl (by decide) h
  · have h := h.2 hc
    refine Rn_pure 2 (i' := 13) (L' := [some (2, 161), some (0, p1)]) (st' := [(0, 1)]) rfl ?_
    exact Rn_ret2 rfl (by decide) h
-- EventLedgerModel.isVoided (I)Z
theorem v_M_isVoided {K : Int} {S : Nat} {g r : ab_H} {p1 : Int} (P : Int → ab_H → ab_H → Prop) (hr : SI r) (hK : 185 ≤ K) (h : ((0 : Int) ≤ 9 * p1 + 8 ∧ (9 * p1 + 8 : Int) < 1607) ∧ ((wr (g 174 (9 * p1 + 8)) = wr 0 → P 0 g r) ∧ (¬ wr (g 174 (9 * p1 + 8)) = wr 0 → P 1 g r))) : ab_RI m_M_isVoided [(2, 161), (0, p1)] K S g r P := by
  show ab_Rn m_M_isVoided 0 [some (2, 161), some (0, p1)] [] (K, S, g, r) (ab_Qi K S P)
  refine Rn_pure 1 (i' := 1) (L' := [some (2, 161), some (0, p1)]) (st' := [(2, 161)]) rfl ?_
  refine Rn_getR rfl (⟨rfl, (by omega : (0 : Int) ≤ 161), (by omega : (161 : Int) < K)⟩) (hr 149 _ rfl) (by decide) ?_
  refine Rn_pure 5 (i' := 7) (L' := [some (2, 161), some (0, p1)]) (st' := [(0, 9 * p1 + 8), (2, 174)]) rfl ?_
  obtain ⟨hg, h⟩ := h
  refine Rn_iald rfl (⟨rfl, (by omega : (0 : Int) ≤ 174), (by omega : (174 : Int) < K)⟩) hg ?_
  refine Rn_ifeq rfl (fun hc => ?_) (fun hc => ?_)
  · have h := h.1 hc
    refine Rn_pure 1 (i' := 12) (L' := [some (2, 161), some (0, p1)]) (st' := [(0, 0)]) rfl ?_
    exact Rn_ret2 rfl (by decide) h
  · have h := h.2 hc
    refine Rn_pure 2 (i' := 12) (L' := [some (2, 161), some (0, p1)]) (st' := [(0, 1)]) rfl ?_
    exact Rn_ret2 rfl (by decide) h
-- EventLedgerModel.weightOf (I)I
theorem v_M_weightOf {K : Int} {S : Nat} {g r : ab_H} {p1 : Int} (P : Int → ab_H → ab_H → Prop) (hr : SI r) (hK : 185 ≤ K) (h : ab_RI m_M_isVoid [(2, 161), (0, p1)] K S g r (fun x1 g' r' => g' = g ∧ r' = r ∧ (((wr x1 = wr 0 → ((0 : Int) ≤ 9 * p1 + 4 ∧ (9 * p1 + 4 : Int) < 1607) ∧ P (4 - (g 174 (9 * p1 + 4))) g r) ∧ (¬ wr x1 = wr 0 → P 1 g r))))) : ab_RI m_M_weightOf [(2, 161), (0, p1)] K S g r P := by
  show ab_Rn m_M_weightOf 0 [some (2, 161), some (0, p1)] [] (K, S, g, r) (ab_Qi K S P)
  refine Rn_pure 2 (i' := 2) (L' := [some (2, 161), some (0, p1)]) (st' := [(0, p1), (2, 161)]) rfl ?_
  refine Rn_callI [(2, 161), (0, p1)] [] rfl rfl rfl rfl (ab_rvB_of rfl (⟨rfl, (by omega : (0 : Int) ≤ 161), (by omega : (161 : Int) < K)⟩)) ?_
  refine h.mono (fun x1 g' r' h => ?_)
  obtain ⟨hx, h⟩ := h
  replace hx := hx.symm
  subst hx
  obtain ⟨hx, h⟩ := h
  replace hx := hx.symm
  subst hx
  refine Rn_ifeq rfl (fun hc => ?_) (fun hc => ?_)
  · have h := h.1 hc
    refine Rn_pure 2 (i' := 8) (L' := [some (2, 161), some (0, p1)]) (st' := [(2, 161), (0, 4)]) rfl ?_
    refine Rn_getR rfl (⟨rfl, (by omega : (0 : Int) ≤ 161), (by omega : (161 : Int) < K)⟩) (hr 149 _ rfl) (by decide) ?_
    refine Rn_pure 5 (i' := 14) (L' := [some (2, 161), some (0, p1)]) (st' := [(0, 9 * p1 + 4), (2, 174), (0, 4)]) rfl ?_
    obtain ⟨hg, h⟩ := h
    refine Rn_iald rfl (⟨rfl, (by omega : (0 : Int) ≤ 174), (by omega : (174 : Int) < K)⟩) hg ?_
    refine Rn_pure 1 (i' := 16) (L' := [some (2, 161), some (0, p1)]) (st' := [(0, 4 - (g 174 (9 * p1 + 4)))]) rfl ?_
    exact Rn_ret1 rfl h
  · have h := h.2 hc
    refine Rn_pure 2 (i' := 16) (L' := [some (2, 161), some (0, p1)]) (st' := [(0, 1)]) rfl ?_
    exact Rn_ret1 rfl h
-- EventLedgerModel.weights (II)I
theorem v_M_weights {K : Int} {S : Nat} {g r : ab_H} {p1 p2 : Int} (P : Int → ab_H → ab_H → Prop) (hr : SI r) (hK : 185 ≤ K) (h : ab_Rn m_M_weights 4 [some (2, 161), none, some (0, p2), some (0, 0), some (0, p1)] [] (K, S, g, r) (ab_Qi K S P)) : ab_RI m_M_weights [(2, 161), (0, p1), (0, p2)] K S g r P := by
  show ab_Rn m_M_weights 0 [some (2, 161), some (0, p1), some (0, p2), none, none] [] (K, S, g, r) (ab_Qi K S P)
  refine Rn_pure 4 (i' := 4) (L' := [some (2, 161), some (0, p1), some (0, p2), some (0, 0), some (0, p1)]) (st' := []) rfl ?_
  refine Rn_weak (L' := [some (2, 161), none, some (0, p2), some (0, 0), some (0, p1)]) ⟨rfl, ⟨rfl, ⟨rfl, ⟨rfl, trivial⟩⟩⟩⟩ ?_
  exact h
theorem v_M_weights_4 {K : Int} {S : Nat} {g r : ab_H} {l2 l3 l4 : Int} (P : Int → ab_H → ab_H → Prop) (hr : SI r) (hK : 185 ≤ K) (h : ((wr l2 ≤ wr l4 → P l3 g r) ∧ (wr l4 < wr l2 → ab_RI m_M_weightOf [(2, 161), (0, l4)] K S g r (fun x1 g' r' => g' = g ∧ r' = r ∧ (ab_Rn m_M_weights 4 [some (2, 161), none, some (0, l2), some (0, l3 + x1), some (0, l4 + 1)] [] (K, S, g, r) (ab_Qi K S P)))))) : ab_Rn m_M_weights 4 [some (2, 161), none, some (0, l2), some (0, l3), some (0, l4)] [] (K, S, g, r) (ab_Qi K S P) := by
  refine Rn_pure 2 (i' := 6) (L' := [some (2, 161), none, some (0, l2), some (0, l3), some (0, l4)]) (st' := [(0, l2), (0, l4)]) rfl ?_
  refine Rn_icge rfl (fun hc => ?_) (fun hc => ?_)
  · have h := h.1 hc
    refine Rn_pure 1 (i' := 16) (L' := [some (2, 161), none, some (0, l2), some (0, l3), some (0, l4)]) (st' := [(0, l3)]) rfl ?_
    exact Rn_ret1 rfl h
  · have h := h.2 hc
    refine Rn_pure 3 (i' := 10) (L' := [some (2, 161), none, some (0, l2), some (0, l3), some (0, l4)]) (st' := [(0, l4), (2, 161), (0, l3)]) rfl ?_
    refine Rn_callI [(2, 161), (0, l4)] [(0, l3)] rfl rfl rfl rfl (ab_rvB_of rfl (⟨rfl, (by omega : (0 : Int) ≤ 161), (by omega : (161 : Int) < K)⟩)) ?_
    refine h.mono (fun x1 g' r' h => ?_)
    obtain ⟨hx, h⟩ := h
    replace hx := hx.symm
    subst hx
    obtain ⟨hx, h⟩ := h
    replace hx := hx.symm
    subst hx
    refine Rn_pure 4 (i' := 4) (L' := [some (2, 161), none, some (0, l2), some (0, l3 + x1), some (0, l4 + 1)]) (st' := []) rfl ?_
    exact h
-- EventLedgerModel.snapAt (I)I
theorem v_M_snapAt {K : Int} {S : Nat} {g r : ab_H} {p1 : Int} (P : Int → ab_H → ab_H → Prop) (hr : SI r) (hK : 185 ≤ K) (h : ((wr 0 ≤ wr p1 → ((0 : Int) ≤ 1082 + p1 ∧ (1082 + p1 : Int) < 1607) ∧ P (g 174 (1082 + p1)) g r) ∧ (wr p1 < wr 0 → P 0 g r))) : ab_RI m_M_snapAt [(2, 161), (0, p1)] K S g r P := by
  show ab_Rn m_M_snapAt 0 [some (2, 161), some (0, p1)] [] (K, S, g, r) (ab_Qi K S P)
  refine Rn_pure 1 (i' := 1) (L' := [some (2, 161), some (0, p1)]) (st' := [(0, p1)]) rfl ?_
  refine Rn_ifge rfl (fun hc => ?_) (fun hc => ?_)
  · have h := h.1 hc
    refine Rn_pure 1 (i' := 5) (L' := [some (2, 161), some (0, p1)]) (st' := [(2, 161)]) rfl ?_
    refine Rn_getR rfl (⟨rfl, (by omega : (0 : Int) ≤ 161), (by omega : (161 : Int) < K)⟩) (hr 149 _ rfl) (by decide) ?_
    refine Rn_pure 3 (i' := 9) (L' := [some (2, 161), some (0, p1)]) (st' := [(0, 1082 + p1), (2, 174)]) rfl ?_
    obtain ⟨hg, h⟩ := h
    refine Rn_iald rfl (⟨rfl, (by omega : (0 : Int) ≤ 174), (by omega : (174 : Int) < K)⟩) hg ?_
    exact Rn_ret1 rfl h
  · have h := h.2 hc
    refine Rn_pure 2 (i' := 10) (L' := [some (2, 161), some (0, p1)]) (st' := [(0, 0)]) rfl ?_
    exact Rn_ret1 rfl h
-- EventLedgerModel.snapGoes (I)V
theorem v_M_snapGoes {K : Int} {S : Nat} {g r : ab_H} {p1 : Int} (P : ab_H → ab_H → Prop) (hr : SI r) (hK : 185 ≤ K) (h : ((0 : Int) ≤ 1081 ∧ (1081 : Int) < 1607) ∧ ((0 : Int) ≤ 1081 ∧ (1081 : Int) < 1607) ∧ ∀ g1, g1 = ab_up g 174 1081 (g 174 1081 - 1) → ab_Rn m_M_snapGoes 10 [some (2, 161), none, some (0, p1)] [] (K, S, g1, r) (ab_Qv K S P)) : ab_RV m_M_snapGoes [(2, 161), (0, p1)] K S g r P := by
  show ab_Rn m_M_snapGoes 0 [some (2, 161), some (0, p1), none] [] (K, S, g, r) (ab_Qv K S P)
  refine Rn_pure 1 (i' := 1) (L' := [some (2, 161), some (0, p1), none]) (st' := [(2, 161)]) rfl ?_
  refine Rn_getR rfl (⟨rfl, (by omega : (0 : Int) ≤ 161), (by omega : (161 : Int) < K)⟩) (hr 149 _ rfl) (by decide) ?_
  refine Rn_pure 2 (i' := 4) (L' := [some (2, 161), some (0, p1), none]) (st' := [(0, 1081), (2, 174), (0, 1081), (2, 174)]) rfl ?_
  obtain ⟨hg, h⟩ := h
  refine Rn_iald rfl (⟨rfl, (by omega : (0 : Int) ≤ 174), (by omega : (174 : Int) < K)⟩) hg ?_
  refine Rn_pure 2 (i' := 7) (L' := [some (2, 161), some (0, p1), none]) (st' := [(0, g 174 1081 - 1), (0, 1081), (2, 174)]) rfl ?_
  obtain ⟨hg, h⟩ := h
  refine Rn_iast rfl (⟨rfl, (by omega : (0 : Int) ≤ 174), (by omega : (174 : Int) < K)⟩) hg (fun g1 he_g1 => ?_)
  have h := h g1 he_g1
  refine Rn_pure 2 (i' := 10) (L' := [some (2, 161), some (0, p1), some (0, p1)]) (st' := []) rfl ?_
  refine Rn_weak (L' := [some (2, 161), none, some (0, p1)]) ⟨rfl, ⟨rfl, trivial⟩⟩ ?_
  exact h
theorem v_M_snapGoes_10 {K : Int} {S : Nat} {g r : ab_H} {l2 : Int} (P : ab_H → ab_H → Prop) (hr : SI r) (hK : 185 ≤ K) (h : ((0 : Int) ≤ 1081 ∧ (1081 : Int) < 1607) ∧ ((wr (g 174 1081) ≤ wr l2 → P g r) ∧ (wr l2 < wr (g 174 1081) → ((0 : Int) ≤ 1082 + l2 + 1 ∧ (1082 + l2 + 1 : Int) < 1607) ∧ ((0 : Int) ≤ 1082 + l2 ∧ (1082 + l2 : Int) < 1607) ∧ ∀ g1, g1 = ab_up g 174 (1082 + l2) (g 174 (1082 + l2 + 1)) → ab_Rn m_M_snapGoes 10 [some (2, 161), none, some (0, l2 + 1)] [] (K, S, g1, r) (ab_Qv K S P)))) : ab_Rn m_M_snapGoes 10 [some (2, 161), none, some (0, l2)] [] (K, S, g, r) (ab_Qv K S P) := by
  refine Rn_pure 2 (i' := 12) (L' := [some (2, 161), none, some (0, l2)]) (st' := [(2, 161), (0, l2)]) rfl ?_
  refine Rn_getR rfl (⟨rfl, (by omega : (0 : Int) ≤ 161), (by omega : (161 : Int) < K)⟩) (hr 149 _ rfl) (by decide) ?_
  refine Rn_pure 1 (i' := 14) (L' := [some (2, 161), none, some (0, l2)]) (st' := [(0, 1081), (2, 174), (0, l2)]) rfl ?_
  obtain ⟨hg, h⟩ := h
  refine Rn_iald rfl (⟨rfl, (by omega : (0 : Int) ≤ 174), (by omega : (174 : Int) < K)⟩) hg ?_
  refine Rn_icge rfl (fun hc => ?_) (fun hc => ?_)
  · have h := h.1 hc
    exact Rn_ret0 rfl h
  · have h := h.2 hc
    refine Rn_pure 1 (i' := 17) (L' := [some (2, 161), none, some (0, l2)]) (st' := [(2, 161)]) rfl ?_
    refine Rn_getR rfl (⟨rfl, (by omega : (0 : Int) ≤ 161), (by omega : (161 : Int) < K)⟩) (hr 149 _ rfl) (by decide) ?_
    refine Rn_pure 4 (i' := 22) (L' := [some (2, 161), none, some (0, l2)]) (st' := [(2, 161), (0, 1082 + l2), (2, 174)]) rfl ?_
    refine Rn_getR rfl (⟨rfl, (by omega : (0 : Int) ≤ 161), (by omega : (161 : Int) < K)⟩) (hr 149 _ rfl) (by decide) ?_
    refine Rn_pure 5 (i' := 28) (L' := [some (2, 161), none, some (0, l2)]) (st' := [(0, 1082 + l2 + 1), (2, 174), (0, 1082 + l2), (2, 174)]) rfl ?_
    obtain ⟨hg, h⟩ := h
    refine Rn_iald rfl (⟨rfl, (by omega : (0 : Int) ≤ 174), (by omega : (174 : Int) < K)⟩) hg ?_
    obtain ⟨hg, h⟩ := h
    refine Rn_iast rfl (⟨rfl, (by omega : (0 : Int) ≤ 174), (by omega : (174 : Int) < K)⟩) hg (fun g1 he_g1 => ?_)
    have h := h g1 he_g1
    refine Rn_pure 2 (i' := 10) (L' := [some (2, 161), none, some (0, l2 + 1)]) (st' := []) rfl ?_
    exact h
-- EventLedgerModel.snaps (I)V
theorem v_M_snaps {K : Int} {S : Nat} {g r : ab_H} {p1 : Int} (P : ab_H → ab_H → Prop) (hr : SI r) (hK : 185 ≤ K) (h : ((0 : Int) ≤ 1081 ∧ (1081 : Int) < 1607) ∧ ab_RI m_M_snapAt [(2, 161), (0, g 174 1081 - 1)] K S g r (fun x1 g' r' => g' = g ∧ r' = r ∧ (ab_RI m_M_weights [(2, 161), (0, x1), (0, p1)] K S g r (fun x2 g' r' => g' = g ∧ r' = r ∧ (((0 : Int) ≤ 1089 ∧ (1089 : Int) < 1607) ∧ ((wr (g 174 1089) ≤ wr x2 → ((0 : Int) ≤ 1081 ∧ (1081 : Int) < 1607) ∧ ((0 : Int) ≤ 1082 + (g 174 1081) ∧ (1082 + (g 174 1081) : Int) < 1607) ∧ ∀ g3, g3 = ab_up g 174 (1082 + (g 174 1081)) p1 → ((0 : Int) ≤ 1081 ∧ (1081 : Int) < 1607) ∧ ((0 : Int) ≤ 1081 ∧ (1081 : Int) < 1607) ∧ ∀ g4, g4 = ab_up g3 174 1081 (g3 174 1081 + 1) → ∀ g5, g5 = ab_up g4 161 32 (g4 161 32 + 1) → ((0 : Int) ≤ 1081 ∧ (1081 : Int) < 1607) ∧ ((0 : Int) ≤ 1090 ∧ (1090 : Int) < 1607) ∧ ((wr (g5 174 1090) < wr (g5 174 1081) → ab_Rn m_M_snaps 55 [some (2, 161), none, some (0, 0), some (0, 1)] [] (K, S, g5, r) (ab_Qv K S P)) ∧ (wr (g5 174 1081) ≤ wr (g5 174 1090) → P g5 r))) ∧ (wr x2 < wr (g 174 1089) → P g r))))))) : ab_RV m_M_snaps [(2, 161), (0, p1)] K S g r P := by
  show ab_Rn m_M_snaps 0 [some (2, 161), some (0, p1), none, none] [] (K, S, g, r) (ab_Qv K S P)
  refine Rn_pure 3 (i' := 3) (L' := [some (2, 161), some (0, p1), none, none]) (st' := [(2, 161), (2, 161), (2, 161)]) rfl ?_
  refine Rn_getR rfl (⟨rfl, (by omega : (0 : Int) ≤ 161), (by omega : (161 : Int) < K)⟩) (hr 149 _ rfl) (by decide) ?_
  refine Rn_pure 1 (i' := 5) (L' := [some (2, 161), some (0, p1), none, none]) (st' := [(0, 1081), (2, 174), (2, 161), (2, 161)]) rfl ?_
  obtain ⟨hg, h⟩ := h
  refine Rn_iald rfl (⟨rfl, (by omega : (0 : Int) ≤ 174), (by omega : (174 : Int) < K)⟩) hg ?_
  refine Rn_pure 2 (i' := 8) (L' := [some (2, 161), some (0, p1), none, none]) (st' := [(0, g 174 1081 - 1), (2, 161), (2, 161)]) rfl ?_
  refine Rn_callI [(2, 161), (0, g 174 1081 - 1)] [(2, 161)] rfl rfl rfl rfl (ab_rvB_of rfl (⟨rfl, (by omega : (0 : Int) ≤ 161), (by omega : (161 : Int) < K)⟩)) ?_
  refine h.mono (fun x1 g' r' h => ?_)
  obtain ⟨hx, h⟩ := h
  replace hx := hx.symm
  subst hx
  obtain ⟨hx, h⟩ := h
  replace hx := hx.symm
  subst hx
  refine Rn_pure 1 (i' := 10) (L' := [some (2, 161), some (0, p1), none, none]) (st' := [(0, p1), (0, x1), (2, 161)]) rfl ?_
  refine Rn_callI [(2, 161), (0, x1), (0, p1)] [] rfl rfl rfl rfl (ab_rvB_of rfl (⟨rfl, (by omega : (0 : Int) ≤ 161), (by omega : (161 : Int) < K)⟩)) ?_
  refine h.mono (fun x2 g' r' h => ?_)
  obtain ⟨hx, h⟩ := h
  replace hx := hx.symm
  subst hx
  obtain ⟨hx, h⟩ := h
  replace hx := hx.symm
  subst hx
  refine Rn_pure 1 (i' := 12) (L' := [some (2, 161), some (0, p1), none, none]) (st' := [(2, 161), (0, x2)]) rfl ?_
  refine Rn_getR rfl (⟨rfl, (by omega : (0 : Int) ≤ 161), (by omega : (161 : Int) < K)⟩) (hr 149 _ rfl) (by decide) ?_
  refine Rn_pure 1 (i' := 14) (L' := [some (2, 161), some (0, p1), none, none]) (st' := [(0, 1089), (2, 174), (0, x2)]) rfl ?_
  obtain ⟨hg, h⟩ := h
  refine Rn_iald rfl (⟨rfl, (by omega : (0 : Int) ≤ 174), (by omega : (174 : Int) < K)⟩) hg ?_
  refine Rn_icge rfl (fun hc => ?_) (fun hc => ?_)
  · have h := h.1 hc
    refine Rn_pure 1 (i' := 18) (L' := [some (2, 161), some (0, p1), none, none]) (st' := [(2, 161)]) rfl ?_
    refine Rn_getR rfl (⟨rfl, (by omega : (0 : Int) ≤ 161), (by omega : (161 : Int) < K)⟩) (hr 149 _ rfl) (by decide) ?_
    refine Rn_pure 2 (i' := 21) (L' := [some (2, 161), some (0, p1), none, none]) (st' := [(2, 161), (0, 1082), (2, 174)]) rfl ?_
    refine Rn_getR rfl (⟨rfl, (by omega : (0 : Int) ≤ 161), (by omega : (161 : Int) < K)⟩) (hr 149 _ rfl) (by decide) ?_
    refine Rn_pure 1 (i' := 23) (L' := [some (2, 161), some (0, p1), none, none]) (st' := [(0, 1081), (2, 174), (0, 1082), (2, 174)]) rfl ?_
    obtain ⟨hg, h⟩ := h
    refine Rn_iald rfl (⟨rfl, (by omega : (0 : Int) ≤ 174), (by omega : (174 : Int) < K)⟩) hg ?_
    refine Rn_pure 2 (i' := 26) (L' := [some (2, 161), some (0, p1), none, none]) (st' := [(0, p1), (0, 1082 + (g 174 1081)), (2, 174)]) rfl ?_
    obtain ⟨hg, h⟩ := h
    refine Rn_iast rfl (⟨rfl, (by omega : (0 : Int) ≤ 174), (by omega : (174 : Int) < K)⟩) hg (fun g3 he_g3 => ?_)
    have h := h g3 he_g3
    refine Rn_pure 1 (i' := 28) (L' := [some (2, 161), some (0, p1), none, none]) (st' := [(2, 161)]) rfl ?_
    refine Rn_getR rfl (⟨rfl, (by omega : (0 : Int) ≤ 161), (by omega : (161 : Int) < K)⟩) (hr 149 _ rfl) (by decide) ?_
    refine Rn_pure 2 (i' := 31) (L' := [some (2, 161), some (0, p1), none, none]) (st' := [(0, 1081), (2, 174), (0, 1081), (2, 174)]) rfl ?_
    obtain ⟨hg, h⟩ := h
    refine Rn_iald rfl (⟨rfl, (by omega : (0 : Int) ≤ 174), (by omega : (174 : Int) < K)⟩) hg ?_
    refine Rn_pure 2 (i' := 34) (L' := [some (2, 161), some (0, p1), none, none]) (st' := [(0, g3 174 1081 + 1), (0, 1081), (2, 174)]) rfl ?_
    obtain ⟨hg, h⟩ := h
    refine Rn_iast rfl (⟨rfl, (by omega : (0 : Int) ≤ 174), (by omega : (174 : Int) < K)⟩) hg (fun g4 he_g4 => ?_)
    have h := h g4 he_g4
    refine Rn_pure 2 (i' := 37) (L' := [some (2, 161), some (0, p1), none, none]) (st' := [(2, 161), (2, 161)]) rfl ?_
    refine Rn_getI rfl (⟨rfl, (by omega : (0 : Int) ≤ 161), (by omega : (161 : Int) < K)⟩) ?_
    refine Rn_pure 2 (i' := 40) (L' := [some (2, 161), some (0, p1), none, none]) (st' := [(0, g4 161 32 + 1), (2, 161)]) rfl ?_
    refine Rn_putI rfl (⟨rfl, (by omega : (0 : Int) ≤ 161), (by omega : (161 : Int) < K)⟩) (fun g5 he_g5 => ?_)
    have h := h g5 he_g5
    refine Rn_pure 1 (i' := 42) (L' := [some (2, 161), some (0, p1), none, none]) (st' := [(2, 161)]) rfl ?_
    refine Rn_getR rfl (⟨rfl, (by omega : (0 : Int) ≤ 161), (by omega : (161 : Int) < K)⟩) (hr 149 _ rfl) (by decide) ?_
    refine Rn_pure 1 (i' := 44) (L' := [some (2, 161), some (0, p1), none, none]) (st' := [(0, 1081), (2, 174)]) rfl ?_
    obtain ⟨hg, h⟩ := h
    refine Rn_iald rfl (⟨rfl, (by omega : (0 : Int) ≤ 174), (by omega : (174 : Int) < K)⟩) hg ?_
    refine Rn_pure 1 (i' := 46) (L' := [some (2, 161), some (0, p1), none, none]) (st' := [(2, 161), (0, g5 174 1081)]) rfl ?_
    refine Rn_getR rfl (⟨rfl, (by omega : (0 : Int) ≤ 161), (by omega : (161 : Int) < K)⟩) (hr 149 _ rfl) (by decide) ?_
    refine Rn_pure 1 (i' := 48) (L' := [some (2, 161), some (0, p1), none, none]) (st' := [(0, 1090), (2, 174), (0, g5 174 1081)]) rfl ?_
    obtain ⟨hg, h⟩ := h
    refine Rn_iald rfl (⟨rfl, (by omega : (0 : Int) ≤ 174), (by omega : (174 : Int) < K)⟩) hg ?_
    refine Rn_icgt rfl (fun hc => ?_) (fun hc => ?_)
    · have h := h.1 hc
      refine Rn_pure 4 (i' := 55) (L' := [some (2, 161), some (0, p1), some (0, 0), some (0, 1)]) (st' := []) rfl ?_
      refine Rn_weak (L' := [some (2, 161), none, some (0, 0), some (0, 1)]) ⟨rfl, ⟨rfl, ⟨rfl, trivial⟩⟩⟩ ?_
      exact h
    · have h := h.2 hc
      exact Rn_ret0 rfl h
  · have h := h.2 hc
    exact Rn_ret0 rfl h
theorem v_M_snaps_55 {K : Int} {S : Nat} {g r : ab_H} {l2 l3 : Int} (P : ab_H → ab_H → Prop) (hr : SI r) (hK : 185 ≤ K) (h : ((0 : Int) ≤ 1081 ∧ (1081 : Int) < 1607) ∧ ((wr (g 174 1081 - 1) ≤ wr l3 → ab_RV m_M_snapGoes [(2, 161), (0, l2)] K S g r (fun g1 r' => r' = r ∧ (P g1 r))) ∧ (wr l3 < wr (g 174 1081 - 1) → ab_RI m_M_snapAt [(2, 161), (0, l3 - 1)] K S g r (fun x3 g' r' => g' = g ∧ r' = r ∧ (ab_RI m_M_snapAt [(2, 161), (0, l3 + 1)] K S g r (fun x4 g' r' => g' = g ∧ r' = r ∧ (ab_RI m_M_weights [(2, 161), (0, x3), (0, x4)] K S g r (fun x5 g' r' => g' = g ∧ r' = r ∧ (ab_RI m_M_snapAt [(2, 161), (0, l2 - 1)] K S g r (fun x6 g' r' => g' = g ∧ r' = r ∧ (ab_RI m_M_snapAt [(2, 161), (0, l2 + 1)] K S g r (fun x7 g' r' => g' = g ∧ r' = r ∧ (ab_RI m_M_weights [(2, 161), (0, x6), (0, x7)] K S g r (fun x8 g' r' => g' = g ∧ r' = r ∧ (((wr x8 ≤ wr x5 → ab_Rn m_M_snaps 55 [some (2, 161), none, some (0, l2), some (0, l3 + 1)] [] (K, S, g, r) (ab_Qv K S P)) ∧ (wr x5 < wr x8 → ab_Rn m_M_snaps 55 [some (2, 161), none, some (0, l3), some (0, l3 + 1)] [] (K, S, g, r) (ab_Qv K S P)))))))))))))))))) : ab_Rn m_M_snaps 55 [some (2, 161), none, some (0, l2), some (0, l3)] [] (K, S, g, r) (ab_Qv K S P) := by
  refine Rn_pure 2 (i' := 57) (L' := [some (2, 161), none, some (0, l2), some (0, l3)]) (st' := [(2, 161), (0, l3)]) rfl ?_
  refine Rn_getR rfl (⟨rfl, (by omega : (0 : Int) ≤ 161), (by omega : (161 : Int) < K)⟩) (hr 149 _ rfl) (by decide) ?_
  refine Rn_pure 1 (i' := 59) (L' := [some (2, 161), none, some (0, l2), some (0, l3)]) (st' := [(0, 1081), (2, 174), (0, l3)]) rfl ?_
  obtain ⟨hg, h⟩ := h
  refine Rn_iald rfl (⟨rfl, (by omega : (0 : Int) ≤ 174), (by omega : (174 : Int) < K)⟩) hg ?_
  refine Rn_pure 2 (i' := 62) (L' := [some (2, 161), none, some (0, l2), some (0, l3)]) (st' := [(0, g 174 1081 - 1), (0, l3)]) rfl ?_
  refine Rn_icge rfl (fun hc => ?_) (fun hc => ?_)
  · have h := h.1 hc
    refine Rn_pure 2 (i' := 94) (L' := [some (2, 161), none, some (0, l2), some (0, l3)]) (st' := [(0, l2), (2, 161)]) rfl ?_
    refine Rn_callV [(2, 161), (0, l2)] [] rfl rfl rfl rfl (ab_rvB_of rfl (⟨rfl, (by omega : (0 : Int) ≤ 161), (by omega : (161 : Int) < K)⟩)) ?_
    refine h.mono (fun g1 r' h => ?_)
    obtain ⟨hx, h⟩ := h
    replace hx := hx.symm
    subst hx
    exact Rn_ret0 rfl h
  · have h := h.2 hc
    refine Rn_pure 5 (i' := 68) (L' := [some (2, 161), none, some (0, l2), some (0, l3)]) (st' := [(0, l3 - 1), (2, 161), (2, 161)]) rfl ?_
    refine Rn_callI [(2, 161), (0, l3 - 1)] [(2, 161)] rfl rfl rfl rfl (ab_rvB_of rfl (⟨rfl, (by omega : (0 : Int) ≤ 161), (by omega : (161 : Int) < K)⟩)) ?_
    refine h.mono (fun x3 g' r' h => ?_)
    obtain ⟨hx, h⟩ := h
    replace hx := hx.symm
    subst hx
    obtain ⟨hx, h⟩ := h
    replace hx := hx.symm
    subst hx
    refine Rn_pure 4 (i' := 73) (L' := [some (2, 161), none, some (0, l2), some (0, l3)]) (st' := [(0, l3 + 1), (2, 161), (0, x3), (2, 161)]) rfl ?_
    refine Rn_callI [(2, 161), (0, l3 + 1)] [(0, x3), (2, 161)] rfl rfl rfl rfl (ab_rvB_of rfl (⟨rfl, (by omega : (0 : Int) ≤ 161), (by omega : (161 : Int) < K)⟩)) ?_
    refine h.mono (fun x4 g' r' h => ?_)
    obtain ⟨hx, h⟩ := h
    replace hx := hx.symm
    subst hx
    obtain ⟨hx, h⟩ := h
    replace hx := hx.symm
    subst hx
    refine Rn_callI [(2, 161), (0, x3), (0, x4)] [] rfl rfl rfl rfl (ab_rvB_of rfl (⟨rfl, (by omega : (0 : Int) ≤ 161), (by omega : (161 : Int) < K)⟩)) ?_
    refine h.mono (fun x5 g' r' h => ?_)
    obtain ⟨hx, h⟩ := h
    replace hx := hx.symm
    subst hx
    obtain ⟨hx, h⟩ := h
    replace hx := hx.symm
    subst hx
    refine Rn_pure 5 (i' := 80) (L' := [some (2, 161), none, some (0, l2), some (0, l3)]) (st' := [(0, l2 - 1), (2, 161), (2, 161), (0, x5)]) rfl ?_
    refine Rn_callI [(2, 161), (0, l2 - 1)] [(2, 161), (0, x5)] rfl rfl rfl rfl (ab_rvB_of rfl (⟨rfl, (by omega : (0 : Int) ≤ 161), (by omega : (161 : Int) < K)⟩)) ?_
    refine h.mono (fun x6 g' r' h => ?_)
    obtain ⟨hx, h⟩ := h
    replace hx := hx.symm
    subst hx
    obtain ⟨hx, h⟩ := h
    replace hx := hx.symm
    subst hx
    refine Rn_pure 4 (i' := 85) (L' := [some (2, 161), none, some (0, l2), some (0, l3)]) (st' := [(0, l2 + 1), (2, 161), (0, x6), (2, 161), (0, x5)]) rfl ?_
    refine Rn_callI [(2, 161), (0, l2 + 1)] [(0, x6), (2, 161), (0, x5)] rfl rfl rfl rfl (ab_rvB_of rfl (⟨rfl, (by omega : (0 : Int) ≤ 161), (by omega : (161 : Int) < K)⟩)) ?_
    refine h.mono (fun x7 g' r' h => ?_)
    obtain ⟨hx, h⟩ := h
    replace hx := hx.symm
    subst hx
    obtain ⟨hx, h⟩ := h
    replace hx := hx.symm
    subst hx
    refine Rn_callI [(2, 161), (0, x6), (0, x7)] [(0, x5)] rfl rfl rfl rfl (ab_rvB_of rfl (⟨rfl, (by omega : (0 : Int) ≤ 161), (by omega : (161 : Int) < K)⟩)) ?_
    refine h.mono (fun x8 g' r' h => ?_)
    obtain ⟨hx, h⟩ := h
    replace hx := hx.symm
    subst hx
    obtain ⟨hx, h⟩ := h
    replace hx := hx.symm
    subst hx
    refine Rn_icge rfl (fun hc => ?_) (fun hc => ?_)
    · have h := h.1 hc
      refine Rn_pure 2 (i' := 55) (L' := [some (2, 161), none, some (0, l2), some (0, l3 + 1)]) (st' := []) rfl ?_
      exact h
    · have h := h.2 hc
      refine Rn_pure 4 (i' := 55) (L' := [some (2, 161), none, some (0, l3), some (0, l3 + 1)]) (st' := []) rfl ?_
      exact h
-- EventLedgerModel.letsGo (I)V
theorem v_M_letsGo {K : Int} {S : Nat} {g r : ab_H} {p1 : Int} (P : ab_H → ab_H → Prop) (hr : SI r) (hK : 185 ≤ K) (h : ab_Rn m_M_letsGo 0 [some (2, 161), some (0, p1)] [] (K, S, g, r) (ab_Qv K S P)) : ab_RV m_M_letsGo [(2, 161), (0, p1)] K S g r P := by
  show ab_Rn m_M_letsGo 0 [some (2, 161), some (0, p1)] [] (K, S, g, r) (ab_Qv K S P)
  exact h
theorem v_M_letsGo_0 {K : Int} {S : Nat} {g r : ab_H} {l1 : Int} (P : ab_H → ab_H → Prop) (hr : SI r) (hK : 185 ≤ K) (h : ((0 : Int) ≤ 1081 ∧ (1081 : Int) < 1607) ∧ ((wr (g 174 1081) ≤ wr 0 → P g r) ∧ (wr 0 < wr (g 174 1081) → ((0 : Int) ≤ 1081 ∧ (1081 : Int) < 1607) ∧ ab_RI m_M_snapAt [(2, 161), (0, g 174 1081 - 1)] K S g r (fun x1 g' r' => g' = g ∧ r' = r ∧ (((wr x1 ≤ wr l1 → P g r) ∧ (wr l1 < wr x1 → ((0 : Int) ≤ 1081 ∧ (1081 : Int) < 1607) ∧ ((0 : Int) ≤ 1081 ∧ (1081 : Int) < 1607) ∧ ∀ g2, g2 = ab_up g 174 1081 (g 174 1081 - 1) → ab_Rn m_M_letsGo 0 [some (2, 161), some (0, l1)] [] (K, S, g2, r) (ab_Qv K S P)))))))) : ab_Rn m_M_letsGo 0 [some (2, 161), some (0, l1)] [] (K, S, g, r) (ab_Qv K S P) := by
  refine Rn_pure 1 (i' := 1) (L' := [some (2, 161), some (0, l1)]) (st' := [(2, 161)]) rfl ?_
  refine Rn_getR rfl (⟨rfl, (by omega : (0 : Int) ≤ 161), (by omega : (161 : Int) < K)⟩) (hr 149 _ rfl) (by decide) ?_
  refine Rn_pure 1 (i' := 3) (L' := [some (2, 161), some (0, l1)]) (st' := [(0, 1081), (2, 174)]) rfl ?_
  obtain ⟨hg, h⟩ := h
  refine Rn_iald rfl (⟨rfl, (by omega : (0 : Int) ≤ 174), (by omega : (174 : Int) < K)⟩) hg ?_
  refine Rn_ifle rfl (fun hc => ?_) (fun hc => ?_)
  · have h := h.1 hc
    exact Rn_ret0 rfl h
  · have h := h.2 hc
    refine Rn_pure 2 (i' := 7) (L' := [some (2, 161), some (0, l1)]) (st' := [(2, 161), (2, 161)]) rfl ?_
    refine Rn_getR rfl (⟨rfl, (by omega : (0 : Int) ≤ 161), (by omega : (161 : Int) < K)⟩) (hr 149 _ rfl) (by decide) ?_
    refine Rn_pure 1 (i' := 9) (L' := [some (2, 161), some (0, l1)]) (st' := [(0, 1081), (2, 174), (2, 161)]) rfl ?_
    obtain ⟨hg, h⟩ := h
    refine Rn_iald rfl (⟨rfl, (by omega : (0 : Int) ≤ 174), (by omega : (174 : Int) < K)⟩) hg ?_
    refine Rn_pure 2 (i' := 12) (L' := [some (2, 161), some (0, l1)]) (st' := [(0, g 174 1081 - 1), (2, 161)]) rfl ?_
    refine Rn_callI [(2, 161), (0, g 174 1081 - 1)] [] rfl rfl rfl rfl (ab_rvB_of rfl (⟨rfl, (by omega : (0 : Int) ≤ 161), (by omega : (161 : Int) < K)⟩)) ?_
    refine h.mono (fun x1 g' r' h => ?_)
    obtain ⟨hx, h⟩ := h
    replace hx := hx.symm
    subst hx
    obtain ⟨hx, h⟩ := h
    replace hx := hx.symm
    subst hx
    refine Rn_pure 1 (i' := 14) (L' := [some (2, 161), some (0, l1)]) (st' := [(0, l1), (0, x1)]) rfl ?_
    refine Rn_icle rfl (fun hc => ?_) (fun hc => ?_)
    · have h := h.1 hc
      exact Rn_ret0 rfl h
    · have h := h.2 hc
      refine Rn_pure 1 (i' := 16) (L' := [some (2, 161), some (0, l1)]) (st' := [(2, 161)]) rfl ?_
      refine Rn_getR rfl (⟨rfl, (by omega : (0 : Int) ≤ 161), (by omega : (161 : Int) < K)⟩) (hr 149 _ rfl) (by decide) ?_
      refine Rn_pure 2 (i' := 19) (L' := [some (2, 161), some (0, l1)]) (st' := [(0, 1081), (2, 174), (0, 1081), (2, 174)]) rfl ?_
      obtain ⟨hg, h⟩ := h
      refine Rn_iald rfl (⟨rfl, (by omega : (0 : Int) ≤ 174), (by omega : (174 : Int) < K)⟩) hg ?_
      refine Rn_pure 2 (i' := 22) (L' := [some (2, 161), some (0, l1)]) (st' := [(0, g 174 1081 - 1), (0, 1081), (2, 174)]) rfl ?_
      obtain ⟨hg, h⟩ := h
      refine Rn_iast rfl (⟨rfl, (by omega : (0 : Int) ≤ 174), (by omega : (174 : Int) < K)⟩) hg (fun g2 he_g2 => ?_)
      have h := h g2 he_g2
      refine Rn_pure 1 (i' := 0) (L' := [some (2, 161), some (0, l1)]) (st' := []) rfl ?_
      exact h
-- EventLedgerModel.comes (IIIII)V
theorem v_M_comes {K : Int} {S : Nat} {g r : ab_H} {p1 p2 p3 p4 p5 : Int} (P : ab_H → ab_H → Prop) (hr : SI r) (hK : 185 ≤ K) (h : ab_RI m_M_many [(2, 161)] K S g r (fun x1 g' r' => g' = g ∧ r' = r ∧ (((0 : Int) ≤ 9 * x1 + 0 ∧ (9 * x1 + 0 : Int) < 1607) ∧ ∀ g2, g2 = ab_up g 174 (9 * x1 + 0) p1 → ((0 : Int) ≤ 9 * x1 + 1 ∧ (9 * x1 + 1 : Int) < 1607) ∧ ∀ g3, g3 = ab_up g2 174 (9 * x1 + 1) p2 → ((0 : Int) ≤ 9 * x1 + 2 ∧ (9 * x1 + 2 : Int) < 1607) ∧ ∀ g4, g4 = ab_up g3 174 (9 * x1 + 2) p3 → ((0 : Int) ≤ 9 * x1 + 3 ∧ (9 * x1 + 3 : Int) < 1607) ∧ ∀ g5, g5 = ab_up g4 174 (9 * x1 + 3) p4 → ((0 : Int) ≤ 9 * x1 + 4 ∧ (9 * x1 + 4 : Int) < 1607) ∧ ∀ g6, g6 = ab_up g5 174 (9 * x1 + 4) p5 → ((0 : Int) ≤ 9 * x1 + 8 ∧ (9 * x1 + 8 : Int) < 1607) ∧ ∀ g7, g7 = ab_up g6 174 (9 * x1 + 8) 0 → ab_Rn m_M_comes 59 [some (2, 161), some (0, p1), none, some (0, p3), none, none, some (0, x1), some (0, 0)] [] (K, S, g7, r) (ab_Qv K S P)))) : ab_RV m_M_comes [(2, 161), (0, p1), (0, p2), (0, p3), (0, p4), (0, p5)] K S g r P := by
  show ab_Rn m_M_comes 0 [some (2, 161), some (0, p1), some (0, p2), some (0, p3), some (0, p4), some (0, p5), none, none] [] (K, S, g, r) (ab_Qv K S P)
  refine Rn_pure 1 (i' := 1) (L' := [some (2, 161), some (0, p1), some (0, p2), some (0, p3), some (0, p4), some (0, p5), none, none]) (st' := [(2, 161)]) rfl ?_
  refine Rn_callI [(2, 161)] [] rfl rfl rfl rfl (ab_rvB_of rfl (⟨rfl, (by omega : (0 : Int) ≤ 161), (by omega : (161 : Int) < K)⟩)) ?_
  refine h.mono (fun x1 g' r' h => ?_)
  obtain ⟨hx, h⟩ := h
  replace hx := hx.symm
  subst hx
  obtain ⟨hx, h⟩ := h
  replace hx := hx.symm
  subst hx
  refine Rn_pure 2 (i' := 4) (L' := [some (2, 161), some (0, p1), some (0, p2), some (0, p3), some (0, p4), some (0, p5), some (0, x1), none]) (st' := [(2, 161)]) rfl ?_
  refine Rn_getR rfl (⟨rfl, (by omega : (0 : Int) ≤ 161), (by omega : (161 : Int) < K)⟩) (hr 149 _ rfl) (by decide) ?_
  refine Rn_pure 6 (i' := 11) (L' := [some (2, 161), some (0, p1), some (0, p2), some (0, p3), some (0, p4), some (0, p5), some (0, x1), none]) (st' := [(0, p1), (0, 9 * x1 + 0), (2, 174)]) rfl ?_
  obtain ⟨hg, h⟩ := h
  refine Rn_iast rfl (⟨rfl, (by omega : (0 : Int) ≤ 174), (by omega : (174 : Int) < K)⟩) hg (fun g2 he_g2 => ?_)
  have h := h g2 he_g2
  refine Rn_pure 1 (i' := 13) (L' := [some (2, 161), some (0, p1), some (0, p2), some (0, p3), some (0, p4), some (0, p5), some (0, x1), none]) (st' := [(2, 161)]) rfl ?_
  refine Rn_getR rfl (⟨rfl, (by omega : (0 : Int) ≤ 161), (by omega : (161 : Int) < K)⟩) (hr 149 _ rfl) (by decide) ?_
  refine Rn_pure 6 (i' := 20) (L' := [some (2, 161), some (0, p1), some (0, p2), some (0, p3), some (0, p4), some (0, p5), some (0, x1), none]) (st' := [(0, p2), (0, 9 * x1 + 1), (2, 174)]) rfl ?_
  obtain ⟨hg, h⟩ := h
  refine Rn_iast rfl (⟨rfl, (by omega : (0 : Int) ≤ 174), (by omega : (174 : Int) < K)⟩) hg (fun g3 he_g3 => ?_)
  have h := h g3 he_g3
  refine Rn_pure 1 (i' := 22) (L' := [some (2, 161), some (0, p1), some (0, p2), some (0, p3), some (0, p4), some (0, p5), some (0, x1), none]) (st' := [(2, 161)]) rfl ?_
  refine Rn_getR rfl (⟨rfl, (by omega : (0 : Int) ≤ 161), (by omega : (161 : Int) < K)⟩) (hr 149 _ rfl) (by decide) ?_
  refine Rn_pure 6 (i' := 29) (L' := [some (2, 161), some (0, p1), some (0, p2), some (0, p3), some (0, p4), some (0, p5), some (0, x1), none]) (st' := [(0, p3), (0, 9 * x1 + 2), (2, 174)]) rfl ?_
  obtain ⟨hg, h⟩ := h
  refine Rn_iast rfl (⟨rfl, (by omega : (0 : Int) ≤ 174), (by omega : (174 : Int) < K)⟩) hg (fun g4 he_g4 => ?_)
  have h := h g4 he_g4
  refine Rn_pure 1 (i' := 31) (L' := [some (2, 161), some (0, p1), some (0, p2), some (0, p3), some (0, p4), some (0, p5), some (0, x1), none]) (st' := [(2, 161)]) rfl ?_
  refine Rn_getR rfl (⟨rfl, (by omega : (0 : Int) ≤ 161), (by omega : (161 : Int) < K)⟩) (hr 149 _ rfl) (by decide) ?_
  refine Rn_pure 6 (i' := 38) (L' := [some (2, 161), some (0, p1), some (0, p2), some (0, p3), some (0, p4), some (0, p5), some (0, x1), none]) (st' := [(0, p4), (0, 9 * x1 + 3), (2, 174)]) rfl ?_
  obtain ⟨hg, h⟩ := h
  refine Rn_iast rfl (⟨rfl, (by omega : (0 : Int) ≤ 174), (by omega : (174 : Int) < K)⟩) hg (fun g5 he_g5 => ?_)
  have h := h g5 he_g5
  refine Rn_pure 1 (i' := 40) (L' := [some (2, 161), some (0, p1), some (0, p2), some (0, p3), some (0, p4), some (0, p5), some (0, x1), none]) (st' := [(2, 161)]) rfl ?_
  refine Rn_getR rfl (⟨rfl, (by omega : (0 : Int) ≤ 161), (by omega : (161 : Int) < K)⟩) (hr 149 _ rfl) (by decide) ?_
  refine Rn_pure 6 (i' := 47) (L' := [some (2, 161), some (0, p1), some (0, p2), some (0, p3), some (0, p4), some (0, p5), some (0, x1), none]) (st' := [(0, p5), (0, 9 * x1 + 4), (2, 174)]) rfl ?_
  obtain ⟨hg, h⟩ := h
  refine Rn_iast rfl (⟨rfl, (by omega : (0 : Int) ≤ 174), (by omega : (174 : Int) < K)⟩) hg (fun g6 he_g6 => ?_)
  have h := h g6 he_g6
  refine Rn_pure 1 (i' := 49) (L' := [some (2, 161), some (0, p1), some (0, p2), some (0, p3), some (0, p4), some (0, p5), some (0, x1), none]) (st' := [(2, 161)]) rfl ?_
  refine Rn_getR rfl (⟨rfl, (by omega : (0 : Int) ≤ 161), (by omega : (161 : Int) < K)⟩) (hr 149 _ rfl) (by decide) ?_
  refine Rn_pure 6 (i' := 56) (L' := [some (2, 161), some (0, p1), some (0, p2), some (0, p3), some (0, p4), some (0, p5), some (0, x1), none]) (st' := [(0, 0), (0, 9 * x1 + 8), (2, 174)]) rfl ?_
  obtain ⟨hg, h⟩ := h
  refine Rn_iast rfl (⟨rfl, (by omega : (0 : Int) ≤ 174), (by omega : (174 : Int) < K)⟩) hg (fun g7 he_g7 => ?_)
  have h := h g7 he_g7
  refine Rn_pure 2 (i' := 59) (L' := [some (2, 161), some (0, p1), some (0, p2), some (0, p3), some (0, p4), some (0, p5), some (0, x1), some (0, 0)]) (st' := []) rfl ?_
  refine Rn_weak (L' := [some (2, 161), some (0, p1), none, some (0, p3), none, none, some (0, x1), some (0, 0)]) ⟨rfl, ⟨rfl, ⟨rfl, ⟨rfl, ⟨rfl, trivial⟩⟩⟩⟩⟩ ?_
  exact h
theorem v_M_comes_59 {K : Int} {S : Nat} {g r : ab_H} {l1 l3 l6 l7 : Int} (P : ab_H → ab_H → Prop) (hr : SI r) (hK : 185 ≤ K) (h : ((wr 3 ≤ wr l7 → ((¬ wr l1 = wr 7 → ((0 : Int) ≤ 1080 ∧ (1080 : Int) < 1607) ∧ ((0 : Int) ≤ 1080 ∧ (1080 : Int) < 1607) ∧ ∀ g1, g1 = ab_up g 174 1080 (g 174 1080 + 1) → ((0 : Int) ≤ 1080 ∧ (1080 : Int) < 1607) ∧ ab_RV m_M_snaps [(2, 161), (0, g1 174 1080)] K S g1 r (fun g2 r' => r' = r ∧ (P g2 r))) ∧ (wr l1 = wr 7 → ((0 : Int) ≤ 9 * l3 + 8 ∧ (9 * l3 + 8 : Int) < 1607) ∧ ∀ g4, g4 = ab_up g 174 (9 * l3 + 8) (l6 + 1) → ab_RV m_M_letsGo [(2, 161), (0, l3)] K S g4 r (fun g5 r' => r' = r ∧ (((0 : Int) ≤ 1080 ∧ (1080 : Int) < 1607) ∧ ((0 : Int) ≤ 1080 ∧ (1080 : Int) < 1607) ∧ ∀ g7, g7 = ab_up g5 174 1080 (g5 174 1080 + 1) → ((0 : Int) ≤ 1080 ∧ (1080 : Int) < 1607) ∧ ab_RV m_M_snaps [(2, 161), (0, g7 174 1080)] K S g7 r (fun g8 r' => r' = r ∧ (P g8 r))))))) ∧ (wr l7 < wr 3 → ((0 : Int) ≤ 9 * l6 + 5 + l7 ∧ (9 * l6 + 5 + l7 : Int) < 1607) ∧ ∀ g10, g10 = ab_up g 174 (9 * l6 + 5 + l7) 0 → ab_Rn m_M_comes 59 [some (2, 161), some (0, l1), none, some (0, l3), none, none, some (0, l6), some (0, l7 + 1)] [] (K, S, g10, r) (ab_Qv K S P)))) : ab_Rn m_M_comes 59 [some (2, 161), some (0, l1), none, some (0, l3), none, none, some (0, l6), some (0, l7)] [] (K, S, g, r) (ab_Qv K S P) := by
  refine Rn_pure 2 (i' := 61) (L' := [some (2, 161), some (0, l1), none, some (0, l3), none, none, some (0, l6), some (0, l7)]) (st' := [(0, 3), (0, l7)]) rfl ?_
  refine Rn_icge rfl (fun hc => ?_) (fun hc => ?_)
  · have h := h.1 hc
    refine Rn_pure 2 (i' := 77) (L' := [some (2, 161), some (0, l1), none, some (0, l3), none, none, some (0, l6), some (0, l7)]) (st' := [(0, 7), (0, l1)]) rfl ?_
    refine Rn_icne rfl (fun hc => ?_) (fun hc => ?_)
    · have h := h.1 hc
      refine Rn_pure 1 (i' := 93) (L' := [some (2, 161), some (0, l1), none, some (0, l3), none, none, some (0, l6), some (0, l7)]) (st' := [(2, 161)]) rfl ?_
      refine Rn_getR rfl (⟨rfl, (by omega : (0 : Int) ≤ 161), (by omega : (161 : Int) < K)⟩) (hr 149 _ rfl) (by decide) ?_
      refine Rn_pure 2 (i' := 96) (L' := [some (2, 161), some (0, l1), none, some (0, l3), none, none, some (0, l6), some (0, l7)]) (st' := [(0, 1080), (2, 174), (0, 1080), (2, 174)]) rfl ?_
      obtain ⟨hg, h⟩ := h
      refine Rn_iald rfl (⟨rfl, (by omega : (0 : Int) ≤ 174), (by omega : (174 : Int) < K)⟩) hg ?_
      refine Rn_pure 2 (i' := 99) (L' := [some (2, 161), some (0, l1), none, some (0, l3), none, none, some (0, l6), some (0, l7)]) (st' := [(0, g 174 1080 + 1), (0, 1080), (2, 174)]) rfl ?_
      obtain ⟨hg, h⟩ := h
      refine Rn_iast rfl (⟨rfl, (by omega : (0 : Int) ≤ 174), (by omega : (174 : Int) < K)⟩) hg (fun g1 he_g1 => ?_)
      have h := h g1 he_g1
      refine Rn_pure 2 (i' := 102) (L' := [some (2, 161), some (0, l1), none, some (0, l3), none, none, some (0, l6), some (0, l7)]) (st' := [(2, 161), (2, 161)]) rfl ?_
      refine Rn_getR rfl (⟨rfl, (by omega : (0 : Int) ≤ 161), (by omega : (161 : Int) < K)⟩) (hr 149 _ rfl) (by decide) ?_
      refine Rn_pure 1 (i' := 104) (L' := [some (2, 161), some (0, l1), none, some (0, l3), none, none, some (0, l6), some (0, l7)]) (st' := [(0, 1080), (2, 174), (2, 161)]) rfl ?_
      obtain ⟨hg, h⟩ := h
      refine Rn_iald rfl (⟨rfl, (by omega : (0 : Int) ≤ 174), (by omega : (174 : Int) < K)⟩) hg ?_
      refine Rn_callV [(2, 161), (0, g1 174 1080)] [] rfl rfl rfl rfl (ab_rvB_of rfl (⟨rfl, (by omega : (0 : Int) ≤ 161), (by omega : (161 : Int) < K)⟩)) ?_
      refine h.mono (fun g2 r' h => ?_)
      obtain ⟨hx, h⟩ := h
      replace hx := hx.symm
      subst hx
      exact Rn_ret0 rfl h
    · have h := h.2 hc
      refine Rn_pure 1 (i' := 79) (L' := [some (2, 161), some (0, l1), none, some (0, l3), none, none, some (0, l6), some (0, l7)]) (st' := [(2, 161)]) rfl ?_
      refine Rn_getR rfl (⟨rfl, (by omega : (0 : Int) ≤ 161), (by omega : (161 : Int) < K)⟩) (hr 149 _ rfl) (by decide) ?_
      refine Rn_pure 8 (i' := 88) (L' := [some (2, 161), some (0, l1), none, some (0, l3), none, none, some (0, l6), some (0, l7)]) (st' := [(0, l6 + 1), (0, 9 * l3 + 8), (2, 174)]) rfl ?_
      obtain ⟨hg, h⟩ := h
      refine Rn_iast rfl (⟨rfl, (by omega : (0 : Int) ≤ 174), (by omega : (174 : Int) < K)⟩) hg (fun g4 he_g4 => ?_)
      have h := h g4 he_g4
      refine Rn_pure 2 (i' := 91) (L' := [some (2, 161), some (0, l1), none, some (0, l3), none, none, some (0, l6), some (0, l7)]) (st' := [(0, l3), (2, 161)]) rfl ?_
      refine Rn_callV [(2, 161), (0, l3)] [] rfl rfl rfl rfl (ab_rvB_of rfl (⟨rfl, (by omega : (0 : Int) ≤ 161), (by omega : (161 : Int) < K)⟩)) ?_
      refine h.mono (fun g5 r' h => ?_)
      obtain ⟨hx, h⟩ := h
      replace hx := hx.symm
      subst hx
      refine Rn_pure 1 (i' := 93) (L' := [some (2, 161), some (0, l1), none, some (0, l3), none, none, some (0, l6), some (0, l7)]) (st' := [(2, 161)]) rfl ?_
      refine Rn_getR rfl (⟨rfl, (by omega : (0 : Int) ≤ 161), (by omega : (161 : Int) < K)⟩) (hr 149 _ rfl) (by decide) ?_
      refine Rn_pure 2 (i' := 96) (L' := [some (2, 161), some (0, l1), none, some (0, l3), none, none, some (0, l6), some (0, l7)]) (st' := [(0, 1080), (2, 174), (0, 1080), (2, 174)]) rfl ?_
      obtain ⟨hg, h⟩ := h
      refine Rn_iald rfl (⟨rfl, (by omega : (0 : Int) ≤ 174), (by omega : (174 : Int) < K)⟩) hg ?_
      refine Rn_pure 2 (i' := 99) (L' := [some (2, 161), some (0, l1), none, some (0, l3), none, none, some (0, l6), some (0, l7)]) (st' := [(0, g5 174 1080 + 1), (0, 1080), (2, 174)]) rfl ?_
      obtain ⟨hg, h⟩ := h
      refine Rn_iast rfl (⟨rfl, (by omega : (0 : Int) ≤ 174), (by omega : (174 : Int) < K)⟩) hg (fun g7 he_g7 => ?_)
      have h := h g7 he_g7
      refine Rn_pure 2 (i' := 102) (L' := [some (2, 161), some (0, l1), none, some (0, l3), none, none, some (0, l6), some (0, l7)]) (st' := [(2, 161), (2, 161)]) rfl ?_
      refine Rn_getR rfl (⟨rfl, (by omega : (0 : Int) ≤ 161), (by omega : (161 : Int) < K)⟩) (hr 149 _ rfl) (by decide) ?_
      refine Rn_pure 1 (i' := 104) (L' := [some (2, 161), some (0, l1), none, some (0, l3), none, none, some (0, l6), some (0, l7)]) (st' := [(0, 1080), (2, 174), (2, 161)]) rfl ?_
      obtain ⟨hg, h⟩ := h
      refine Rn_iald rfl (⟨rfl, (by omega : (0 : Int) ≤ 174), (by omega : (174 : Int) < K)⟩) hg ?_
      refine Rn_callV [(2, 161), (0, g7 174 1080)] [] rfl rfl rfl rfl (ab_rvB_of rfl (⟨rfl, (by omega : (0 : Int) ≤ 161), (by omega : (161 : Int) < K)⟩)) ?_
      refine h.mono (fun g8 r' h => ?_)
      obtain ⟨hx, h⟩ := h
      replace hx := hx.symm
      subst hx
      exact Rn_ret0 rfl h
  · have h := h.2 hc
    refine Rn_pure 1 (i' := 63) (L' := [some (2, 161), some (0, l1), none, some (0, l3), none, none, some (0, l6), some (0, l7)]) (st' := [(2, 161)]) rfl ?_
    refine Rn_getR rfl (⟨rfl, (by omega : (0 : Int) ≤ 161), (by omega : (161 : Int) < K)⟩) (hr 149 _ rfl) (by decide) ?_
    refine Rn_pure 8 (i' := 72) (L' := [some (2, 161), some (0, l1), none, some (0, l3), none, none, some (0, l6), some (0, l7)]) (st' := [(0, 0), (0, 9 * l6 + 5 + l7), (2, 174)]) rfl ?_
    obtain ⟨hg, h⟩ := h
    refine Rn_iast rfl (⟨rfl, (by omega : (0 : Int) ≤ 174), (by omega : (174 : Int) < K)⟩) hg (fun g10 he_g10 => ?_)
    have h := h g10 he_g10
    refine Rn_pure 2 (i' := 59) (L' := [some (2, 161), some (0, l1), none, some (0, l3), none, none, some (0, l6), some (0, l7 + 1)]) (st' := []) rfl ?_
    exact h
-- EventLedgerModel.breaks (I)Z
theorem v_M_breaks {K : Int} {S : Nat} {g r : ab_H} {p1 : Int} (P : Int → ab_H → ab_H → Prop) (hr : SI r) (hK : 185 ≤ K) (h : ((0 : Int) ≤ 9 * p1 + 0 ∧ (9 * p1 + 0 : Int) < 1607) ∧ ab_Rn m_M_breaks 11 [some (2, 161), some (0, p1), some (0, g 174 (9 * p1 + 0)), some (0, 0), none, none] [] (K, S, g, r) (ab_Qi K S P)) : ab_RI m_M_breaks [(2, 161), (0, p1)] K S g r P := by
  show ab_Rn m_M_breaks 0 [some (2, 161), some (0, p1), none, none, none, none] [] (K, S, g, r) (ab_Qi K S P)
  refine Rn_pure 1 (i' := 1) (L' := [some (2, 161), some (0, p1), none, none, none, none]) (st' := [(2, 161)]) rfl ?_
  refine Rn_getR rfl (⟨rfl, (by omega : (0 : Int) ≤ 161), (by omega : (161 : Int) < K)⟩) (hr 149 _ rfl) (by decide) ?_
  refine Rn_pure 5 (i' := 7) (L' := [some (2, 161), some (0, p1), none, none, none, none]) (st' := [(0, 9 * p1 + 0), (2, 174)]) rfl ?_
  obtain ⟨hg, h⟩ := h
  refine Rn_iald rfl (⟨rfl, (by omega : (0 : Int) ≤ 174), (by omega : (174 : Int) < K)⟩) hg ?_
  refine Rn_pure 3 (i' := 11) (L' := [some (2, 161), some (0, p1), some (0, g 174 (9 * p1 + 0)), some (0, 0), none, none]) (st' := []) rfl ?_
  exact h
theorem v_M_breaks_11 {K : Int} {S : Nat} {g r : ab_H} {l1 l2 l3 : Int} (P : Int → ab_H → ab_H → Prop) (hr : SI r) (hK : 185 ≤ K) (h : ((wr 3 ≤ wr l3 → ((0 : Int) ≤ 9 * l1 + 4 ∧ (9 * l1 + 4 : Int) < 1607) ∧ ab_Rn m_M_breaks 39 [some (2, 161), none, some (0, l2), some (0, g 174 (9 * l1 + 4)), none, none] [] (K, S, g, r) (ab_Qi K S P)) ∧ (wr l3 < wr 3 → ((0 : Int) ≤ 9 * l1 + 5 + l3 ∧ (9 * l1 + 5 + l3 : Int) < 1607) ∧ ((0 : Int) ≤ l3 ∧ (l3 : Int) < 3) ∧ ∀ g1, g1 = ab_up g 178 l3 (g 174 (9 * l1 + 5 + l3)) → ab_Rn m_M_breaks 11 [some (2, 161), some (0, l1), some (0, l2), some (0, l3 + 1), none, none] [] (K, S, g1, r) (ab_Qi K S P)))) : ab_Rn m_M_breaks 11 [some (2, 161), some (0, l1), some (0, l2), some (0, l3), none, none] [] (K, S, g, r) (ab_Qi K S P) := by
  refine Rn_pure 2 (i' := 13) (L' := [some (2, 161), some (0, l1), some (0, l2), some (0, l3), none, none]) (st' := [(0, 3), (0, l3)]) rfl ?_
  refine Rn_icge rfl (fun hc => ?_) (fun hc => ?_)
  · have h := h.1 hc
    refine Rn_pure 1 (i' := 31) (L' := [some (2, 161), some (0, l1), some (0, l2), some (0, l3), none, none]) (st' := [(2, 161)]) rfl ?_
    refine Rn_getR rfl (⟨rfl, (by omega : (0 : Int) ≤ 161), (by omega : (161 : Int) < K)⟩) (hr 149 _ rfl) (by decide) ?_
    refine Rn_pure 5 (i' := 37) (L' := [some (2, 161), some (0, l1), some (0, l2), some (0, l3), none, none]) (st' := [(0, 9 * l1 + 4), (2, 174)]) rfl ?_
    obtain ⟨hg, h⟩ := h
    refine Rn_iald rfl (⟨rfl, (by omega : (0 : Int) ≤ 174), (by omega : (174 : Int) < K)⟩) hg ?_
    refine Rn_pure 1 (i' := 39) (L' := [some (2, 161), some (0, l1), some (0, l2), some (0, g 174 (9 * l1 + 4)), none, none]) (st' := []) rfl ?_
    refine Rn_weak (L' := [some (2, 161), none, some (0, l2), some (0, g 174 (9 * l1 + 4)), none, none]) ⟨rfl, ⟨rfl, ⟨rfl, trivial⟩⟩⟩ ?_
    exact h
  · have h := h.2 hc
    refine Rn_pure 1 (i' := 15) (L' := [some (2, 161), some (0, l1), some (0, l2), some (0, l3), none, none]) (st' := [(2, 161)]) rfl ?_
    refine Rn_getR rfl (⟨rfl, (by omega : (0 : Int) ≤ 161), (by omega : (161 : Int) < K)⟩) (hr 153 _ rfl) (by decide) ?_
    refine Rn_pure 2 (i' := 18) (L' := [some (2, 161), some (0, l1), some (0, l2), some (0, l3), none, none]) (st' := [(2, 161), (0, l3), (2, 178)]) rfl ?_
    refine Rn_getR rfl (⟨rfl, (by omega : (0 : Int) ≤ 161), (by omega : (161 : Int) < K)⟩) (hr 149 _ rfl) (by decide) ?_
    refine Rn_pure 7 (i' := 26) (L' := [some (2, 161), some (0, l1), some (0, l2), some (0, l3), none, none]) (st' := [(0, 9 * l1 + 5 + l3), (2, 174), (0, l3), (2, 178)]) rfl ?_
    obtain ⟨hg, h⟩ := h
    refine Rn_iald rfl (⟨rfl, (by omega : (0 : Int) ≤ 174), (by omega : (174 : Int) < K)⟩) hg ?_
    obtain ⟨hg, h⟩ := h
    refine Rn_iast rfl (⟨rfl, (by omega : (0 : Int) ≤ 178), (by omega : (178 : Int) < K)⟩) hg (fun g1 he_g1 => ?_)
    have h := h g1 he_g1
    refine Rn_pure 2 (i' := 11) (L' := [some (2, 161), some (0, l1), some (0, l2), some (0, l3 + 1), none, none]) (st' := []) rfl ?_
    exact h
theorem v_M_breaks_39 {K : Int} {S : Nat} {g r : ab_H} {l2 l3 : Int} (P : Int → ab_H → ab_H → Prop) (hr : SI r) (hK : 185 ≤ K) (h : ((wr 3 ≤ wr l3 → P 0 g r) ∧ (wr l3 < wr 3 → ((¬ wr l2 = wr (g 161 34) → ((0 : Int) ≤ 2 * l2 + l3 - 1 ∧ (2 * l2 + l3 - 1 : Int) < 28) ∧ ab_Rn m_M_breaks 65 [some (2, 161), none, some (0, l2), some (0, l3), some (0, g 168 (2 * l2 + l3 - 1)), some (0, 0)] [] (K, S, g, r) (ab_Qi K S P)) ∧ (wr l2 = wr (g 161 34) → ((¬ wr l3 = wr (g 161 35) → ((0 : Int) ≤ 2 * l2 + l3 - 1 ∧ (2 * l2 + l3 - 1 : Int) < 28) ∧ ab_Rn m_M_breaks 65 [some (2, 161), none, some (0, l2), some (0, l3), some (0, g 168 (2 * l2 + l3 - 1)), some (0, 0)] [] (K, S, g, r) (ab_Qi K S P)) ∧ (wr l3 = wr (g 161 35) → ab_Rn m_M_breaks 65 [some (2, 161), none, some (0, l2), some (0, l3), some (0, 0), some (0, 0)] [] (K, S, g, r) (ab_Qi K S P)))))))) : ab_Rn m_M_breaks 39 [some (2, 161), none, some (0, l2), some (0, l3), none, none] [] (K, S, g, r) (ab_Qi K S P) := by
  refine Rn_pure 2 (i' := 41) (L' := [some (2, 161), none, some (0, l2), some (0, l3), none, none]) (st' := [(0, 3), (0, l3)]) rfl ?_
  refine Rn_icge rfl (fun hc => ?_) (fun hc => ?_)
  · have h := h.1 hc
    refine Rn_pure 1 (i' := 83) (L' := [some (2, 161), none, some (0, l2), some (0, l3), none, none]) (st' := [(0, 0)]) rfl ?_
    exact Rn_ret2 rfl (by decide) h
  · have h := h.2 hc
    refine Rn_pure 2 (i' := 44) (L' := [some (2, 161), none, some (0, l2), some (0, l3), none, none]) (st' := [(2, 161), (0, l2)]) rfl ?_
    refine Rn_getI rfl (⟨rfl, (by omega : (0 : Int) ≤ 161), (by omega : (161 : Int) < K)⟩) ?_
    refine Rn_icne rfl (fun hc => ?_) (fun hc => ?_)
    · have h := h.1 hc
      refine Rn_pure 1 (i' := 53) (L' := [some (2, 161), none, some (0, l2), some (0, l3), none, none]) (st' := [(2, 161)]) rfl ?_
      refine Rn_getR rfl (⟨rfl, (by omega : (0 : Int) ≤ 161), (by omega : (161 : Int) < K)⟩) (hr 143 _ rfl) (by decide) ?_
      refine Rn_pure 7 (i' := 61) (L' := [some (2, 161), none, some (0, l2), some (0, l3), none, none]) (st' := [(0, 2 * l2 + l3 - 1), (2, 168)]) rfl ?_
      obtain ⟨hg, h⟩ := h
      refine Rn_iald rfl (⟨rfl, (by omega : (0 : Int) ≤ 168), (by omega : (168 : Int) < K)⟩) hg ?_
      refine Rn_pure 3 (i' := 65) (L' := [some (2, 161), none, some (0, l2), some (0, l3), some (0, g 168 (2 * l2 + l3 - 1)), some (0, 0)]) (st' := []) rfl ?_
      exact h
    · have h := h.2 hc
      refine Rn_pure 2 (i' := 48) (L' := [some (2, 161), none, some (0, l2), some (0, l3), none, none]) (st' := [(2, 161), (0, l3)]) rfl ?_
      refine Rn_getI rfl (⟨rfl, (by omega : (0 : Int) ≤ 161), (by omega : (161 : Int) < K)⟩) ?_
      refine Rn_icne rfl (fun hc => ?_) (fun hc => ?_)
      · have h := h.1 hc
        refine Rn_pure 1 (i' := 53) (L' := [some (2, 161), none, some (0, l2), some (0, l3), none, none]) (st' := [(2, 161)]) rfl ?_
        refine Rn_getR rfl (⟨rfl, (by omega : (0 : Int) ≤ 161), (by omega : (161 : Int) < K)⟩) (hr 143 _ rfl) (by decide) ?_
        refine Rn_pure 7 (i' := 61) (L' := [some (2, 161), none, some (0, l2), some (0, l3), none, none]) (st' := [(0, 2 * l2 + l3 - 1), (2, 168)]) rfl ?_
        obtain ⟨hg, h⟩ := h
        refine Rn_iald rfl (⟨rfl, (by omega : (0 : Int) ≤ 168), (by omega : (168 : Int) < K)⟩) hg ?_
        refine Rn_pure 3 (i' := 65) (L' := [some (2, 161), none, some (0, l2), some (0, l3), some (0, g 168 (2 * l2 + l3 - 1)), some (0, 0)]) (st' := []) rfl ?_
        exact h
      · have h := h.2 hc
        refine Rn_pure 5 (i' := 65) (L' := [some (2, 161), none, some (0, l2), some (0, l3), some (0, 0), some (0, 0)]) (st' := []) rfl ?_
        exact h
theorem v_M_breaks_65 {K : Int} {S : Nat} {g r : ab_H} {l2 l3 l4 l5 : Int} (P : Int → ab_H → ab_H → Prop) (hr : SI r) (hK : 185 ≤ K) (h : ((wr l4 ≤ wr l5 → ab_Rn m_M_breaks 39 [some (2, 161), none, some (0, l2), some (0, l3 + 1), none, none] [] (K, S, g, r) (ab_Qi K S P)) ∧ (wr l5 < wr l4 → ab_RI m_M_stepAt [(0, 0), (0, l2), (0, l3), (0, l5)] K S g r (fun x1 g' r' => g' = g ∧ r' = r ∧ (ab_RI m_M_breaksBy [(2, 161), (0, x1)] K S g r (fun x3 g2 r' => r' = r ∧ (((wr x3 = wr 0 → ab_Rn m_M_breaks 65 [some (2, 161), none, some (0, l2), some (0, l3), some (0, l4), some (0, l5 + 1)] [] (K, S, g2, r) (ab_Qi K S P)) ∧ (¬ wr x3 = wr 0 → P 1 g2 r))))))))) : ab_Rn m_M_breaks 65 [some (2, 161), none, some (0, l2), some (0, l3), some (0, l4), some (0, l5)] [] (K, S, g, r) (ab_Qi K S P) := by
  refine Rn_pure 2 (i' := 67) (L' := [some (2, 161), none, some (0, l2), some (0, l3), some (0, l4), some (0, l5)]) (st' := [(0, l4), (0, l5)]) rfl ?_
  refine Rn_icge rfl (fun hc => ?_) (fun hc => ?_)
  · have h := h.1 hc
    refine Rn_pure 2 (i' := 39) (L' := [some (2, 161), none, some (0, l2), some (0, l3 + 1), some (0, l4), some (0, l5)]) (st' := []) rfl ?_
    refine Rn_weak (L' := [some (2, 161), none, some (0, l2), some (0, l3 + 1), none, none]) ⟨rfl, ⟨rfl, ⟨rfl, trivial⟩⟩⟩ ?_
    exact h
  · have h := h.2 hc
    refine Rn_pure 5 (i' := 73) (L' := [some (2, 161), none, some (0, l2), some (0, l3), some (0, l4), some (0, l5)]) (st' := [(0, l5), (0, l3), (0, l2), (0, 0), (2, 161)]) rfl ?_
    refine Rn_callI [(0, 0), (0, l2), (0, l3), (0, l5)] [(2, 161)] rfl rfl rfl rfl (rfl) ?_
    refine h.mono (fun x1 g' r' h => ?_)
    obtain ⟨hx, h⟩ := h
    replace hx := hx.symm
    subst hx
    obtain ⟨hx, h⟩ := h
    replace hx := hx.symm
    subst hx
    refine Rn_callI [(2, 161), (0, x1)] [] rfl rfl rfl rfl (ab_rvB_of rfl (⟨rfl, (by omega : (0 : Int) ≤ 161), (by omega : (161 : Int) < K)⟩)) ?_
    refine h.mono (fun x3 g2 r' h => ?_)
    obtain ⟨hx, h⟩ := h
    replace hx := hx.symm
    subst hx
    refine Rn_ifeq rfl (fun hc => ?_) (fun hc => ?_)
    · have h := h.1 hc
      refine Rn_pure 2 (i' := 65) (L' := [some (2, 161), none, some (0, l2), some (0, l3), some (0, l4), some (0, l5 + 1)]) (st' := []) rfl ?_
      exact h
    · have h := h.2 hc
      refine Rn_pure 1 (i' := 77) (L' := [some (2, 161), none, some (0, l2), some (0, l3), some (0, l4), some (0, l5)]) (st' := [(0, 1)]) rfl ?_
      exact Rn_ret2 rfl (by decide) h
-- EventLedgerModel.breaksBy (I)Z
theorem v_M_breaksBy {K : Int} {S : Nat} {g r : ab_H} {p1 : Int} (P : Int → ab_H → ab_H → Prop) (hr : SI r) (hK : 185 ≤ K) (h : ((0 : Int) ≤ p1 ∧ (p1 : Int) < 112) ∧ ((0 : Int) ≤ p1 ∧ (p1 : Int) < 112) ∧ ((0 : Int) ≤ p1 ∧ (p1 : Int) < 112) ∧ ((wr (g 169 p1 - 8) = 0 → ((0 : Int) ≤ g 170 p1 - 1 ∧ (g 170 p1 - 1 : Int) < 3) ∧ ∀ g1, g1 = ab_up g 178 (g 170 p1 - 1) (g 171 p1) → ab_Rn m_M_breaksBy 53 [some (2, 161), none, none, none] [] (K, S, g1, r) (ab_Qi K S P)) ∧ (wr (g 169 p1 - 8) = 1 → ((0 : Int) ≤ g 170 p1 - 1 ∧ (g 170 p1 - 1 : Int) < 3) ∧ ((0 : Int) ≤ g 170 p1 - 1 ∧ (g 170 p1 - 1 : Int) < 3) ∧ ∀ g2, g2 = ab_up g 178 (g 170 p1 - 1) ((g 178 (g 170 p1 - 1)) * (g 171 p1)) → ab_Rn m_M_breaksBy 53 [some (2, 161), none, none, none] [] (K, S, g2, r) (ab_Qi K S P)) ∧ (wr (g 169 p1 - 8) = 2 → ((0 : Int) ≤ g 170 p1 - 1 ∧ (g 170 p1 - 1 : Int) < 3) ∧ ((0 : Int) ≤ g 170 p1 - 1 ∧ (g 170 p1 - 1 : Int) < 3) ∧ ∀ g3, g3 = ab_up g 178 (g 170 p1 - 1) (g 178 (g 170 p1 - 1) + (g 171 p1)) → ab_Rn m_M_breaksBy 53 [some (2, 161), none, none, none] [] (K, S, g3, r) (ab_Qi K S P)) ∧ (wr (g 169 p1 - 8) < 0 ∨ 3 ≤ wr (g 169 p1 - 8) → ((0 : Int) ≤ g 171 p1 - 1 ∧ (g 171 p1 - 1 : Int) < 3) ∧ ((0 : Int) ≤ g 170 p1 - 1 ∧ (g 170 p1 - 1 : Int) < 3) ∧ ∀ g4, g4 = ab_up g 178 (g 170 p1 - 1) (g 178 (g 171 p1 - 1)) → ab_Rn m_M_breaksBy 53 [some (2, 161), none, none, none] [] (K, S, g4, r) (ab_Qi K S P)))) : ab_RI m_M_breaksBy [(2, 161), (0, p1)] K S g r P := by
  show ab_Rn m_M_breaksBy 0 [some (2, 161), some (0, p1), none, none] [] (K, S, g, r) (ab_Qi K S P)
  refine Rn_pure 1 (i' := 1) (L' := [some (2, 161), some (0, p1), none, none]) (st' := [(2, 161)]) rfl ?_
  refine Rn_getR rfl (⟨rfl, (by omega : (0 : Int) ≤ 161), (by omega : (161 : Int) < K)⟩) (hr 145 _ rfl) (by decide) ?_
  refine Rn_pure 1 (i' := 3) (L' := [some (2, 161), some (0, p1), none, none]) (st' := [(0, p1), (2, 170)]) rfl ?_
  obtain ⟨hg, h⟩ := h
  refine Rn_iald rfl (⟨rfl, (by omega : (0 : Int) ≤ 170), (by omega : (170 : Int) < K)⟩) hg ?_
  refine Rn_pure 4 (i' := 8) (L' := [some (2, 161), some (0, p1), some (0, g 170 p1 - 1), none]) (st' := [(2, 161)]) rfl ?_
  refine Rn_getR rfl (⟨rfl, (by omega : (0 : Int) ≤ 161), (by omega : (161 : Int) < K)⟩) (hr 146 _ rfl) (by decide) ?_
  refine Rn_pure 1 (i' := 10) (L' := [some (2, 161), some (0, p1), some (0, g 170 p1 - 1), none]) (st' := [(0, p1), (2, 171)]) rfl ?_
  obtain ⟨hg, h⟩ := h
  refine Rn_iald rfl (⟨rfl, (by omega : (0 : Int) ≤ 171), (by omega : (171 : Int) < K)⟩) hg ?_
  refine Rn_pure 2 (i' := 13) (L' := [some (2, 161), some (0, p1), some (0, g 170 p1 - 1), some (0, g 171 p1)]) (st' := [(2, 161)]) rfl ?_
  refine Rn_getR rfl (⟨rfl, (by omega : (0 : Int) ≤ 161), (by omega : (161 : Int) < K)⟩) (hr 144 _ rfl) (by decide) ?_
  refine Rn_pure 1 (i' := 15) (L' := [some (2, 161), some (0, p1), some (0, g 170 p1 - 1), some (0, g 171 p1)]) (st' := [(0, p1), (2, 169)]) rfl ?_
  obtain ⟨hg, h⟩ := h
  refine Rn_iald rfl (⟨rfl, (by omega : (0 : Int) ≤ 169), (by omega : (169 : Int) < K)⟩) hg ?_
  refine Rn_pure 2 (i' := 18) (L' := [some (2, 161), some (0, p1), some (0, g 170 p1 - 1), some (0, g 171 p1)]) (st' := [(0, g 169 p1 - 8)]) rfl ?_
  refine Rn_ts rfl ?_
  have ht19 : (wr (g 169 p1 - 8) = 0) → ab_Rn m_M_breaksBy 19 [some (2, 161), some (0, p1), some (0, g 170 p1 - 1), some (0, g 171 p1)] [] (K, S, g, r) (ab_Qi K S P) := by
    intro hc
    have h := h.1 hc
    refine Rn_pure 1 (i' := 20) (L' := [some (2, 161), some (0, p1), some (0, g 170 p1 - 1), some (0, g 171 p1)]) (st' := [(2, 161)]) rfl ?_
    refine Rn_getR rfl (⟨rfl, (by omega : (0 : Int) ≤ 161), (by omega : (161 : Int) < K)⟩) (hr 153 _ rfl) (by decide) ?_
    refine Rn_pure 2 (i' := 23) (L' := [some (2, 161), some (0, p1), some (0, g 170 p1 - 1), some (0, g 171 p1)]) (st' := [(0, g 171 p1), (0, g 170 p1 - 1), (2, 178)]) rfl ?_
    obtain ⟨hg, h⟩ := h
    refine Rn_iast rfl (⟨rfl, (by omega : (0 : Int) ≤ 178), (by omega : (178 : Int) < K)⟩) hg (fun g1 he_g1 => ?_)
    have h := h g1 he_g1
    refine Rn_pure 1 (i' := 53) (L' := [some (2, 161), some (0, p1), some (0, g 170 p1 - 1), some (0, g 171 p1)]) (st' := []) rfl ?_
    refine Rn_weak (L' := [some (2, 161), none, none, none]) ⟨rfl, trivial⟩ ?_
    exact h
  have ht25 : (wr (g 169 p1 - 8) = 1) → ab_Rn m_M_breaksBy 25 [some (2, 161), some (0, p1), some (0, g 170 p1 - 1), some (0, g 171 p1)] [] (K, S, g, r) (ab_Qi K S P) := by
    intro hc
    have h := h.2.1 hc
    refine Rn_pure 1 (i' := 26) (L' := [some (2, 161), some (0, p1), some (0, g 170 p1 - 1), some (0, g 171 p1)]) (st' := [(2, 161)]) rfl ?_
    refine Rn_getR rfl (⟨rfl, (by omega : (0 : Int) ≤ 161), (by omega : (161 : Int) < K)⟩) (hr 153 _ rfl) (by decide) ?_
    refine Rn_pure 2 (i' := 29) (L' := [some (2, 161), some (0, p1), some (0, g 170 p1 - 1), some (0, g 171 p1)]) (st' := [(0, g 170 p1 - 1), (2, 178), (0, g 170 p1 - 1), (2, 178)]) rfl ?_
    obtain ⟨hg, h⟩ := h
    refine Rn_iald rfl (⟨rfl, (by omega : (0 : Int) ≤ 178), (by omega : (178 : Int) < K)⟩) hg ?_
    refine Rn_pure 2 (i' := 32) (L' := [some (2, 161), some (0, p1), some (0, g 170 p1 - 1), some (0, g 171 p1)]) (st' := [(0, (g 178 (g 170 p1 - 1)) * (g 171 p1)), (0, g 170 p1 - 1), (2, 178)]) rfl ?_
    obtain ⟨hg, h⟩ := h
    refine Rn_iast rfl (⟨rfl, (by omega : (0 : Int) ≤ 178), (by omega : (178 : Int) < K)⟩) hg (fun g2 he_g2 => ?_)
    have h := h g2 he_g2
    refine Rn_pure 1 (i' := 53) (L' := [some (2, 161), some (0, p1), some (0, g 170 p1 - 1), some (0, g 171 p1)]) (st' := []) rfl ?_
    refine Rn_weak (L' := [some (2, 161), none, none, none]) ⟨rfl, trivial⟩ ?_
    exact h
  have ht34 : (wr (g 169 p1 - 8) = 2) → ab_Rn m_M_breaksBy 34 [some (2, 161), some (0, p1), some (0, g 170 p1 - 1), some (0, g 171 p1)] [] (K, S, g, r) (ab_Qi K S P) := by
    intro hc
    have h := h.2.2.1 hc
    refine Rn_pure 1 (i' := 35) (L' := [some (2, 161), some (0, p1), some (0, g 170 p1 - 1), some (0, g 171 p1)]) (st' := [(2, 161)]) rfl ?_
    refine Rn_getR rfl (⟨rfl, (by omega : (0 : Int) ≤ 161), (by omega : (161 : Int) < K)⟩) (hr 153 _ rfl) (by decide) ?_
    refine Rn_pure 2 (i' := 38) (L' := [some (2, 161), some (0, p1), some (0, g 170 p1 - 1), some (0, g 171 p1)]) (st' := [(0, g 170 p1 - 1), (2, 178), (0, g 170 p1 - 1), (2, 178)]) rfl ?_
    obtain ⟨hg, h⟩ := h
    refine Rn_iald rfl (⟨rfl, (by omega : (0 : Int) ≤ 178), (by omega : (178 : Int) < K)⟩) hg ?_
    refine Rn_pure 2 (i' := 41) (L' := [some (2, 161), some (0, p1), some (0, g 170 p1 - 1), some (0, g 171 p1)]) (st' := [(0, g 178 (g 170 p1 - 1) + (g 171 p1)), (0, g 170 p1 - 1), (2, 178)]) rfl ?_
    obtain ⟨hg, h⟩ := h
    refine Rn_iast rfl (⟨rfl, (by omega : (0 : Int) ≤ 178), (by omega : (178 : Int) < K)⟩) hg (fun g3 he_g3 => ?_)
    have h := h g3 he_g3
    refine Rn_pure 1 (i' := 53) (L' := [some (2, 161), some (0, p1), some (0, g 170 p1 - 1), some (0, g 171 p1)]) (st' := []) rfl ?_
    refine Rn_weak (L' := [some (2, 161), none, none, none]) ⟨rfl, trivial⟩ ?_
    exact h
  have htd : (wr (g 169 p1 - 8) < 0 ∨ 3 ≤ wr (g 169 p1 - 8)) → ab_Rn m_M_breaksBy 43 [some (2, 161), some (0, p1), some (0, g 170 p1 - 1), some (0, g 171 p1)] [] (K, S, g, r) (ab_Qi K S P) := by
    intro hc
    have h := h.2.2.2 hc
    refine Rn_pure 1 (i' := 44) (L' := [some (2, 161), some (0, p1), some (0, g 170 p1 - 1), some (0, g 171 p1)]) (st' := [(2, 161)]) rfl ?_
    refine Rn_getR rfl (⟨rfl, (by omega : (0 : Int) ≤ 161), (by omega : (161 : Int) < K)⟩) (hr 153 _ rfl) (by decide) ?_
    refine Rn_pure 2 (i' := 47) (L' := [some (2, 161), some (0, p1), some (0, g 170 p1 - 1), some (0, g 171 p1)]) (st' := [(2, 161), (0, g 170 p1 - 1), (2, 178)]) rfl ?_
    refine Rn_getR rfl (⟨rfl, (by omega : (0 : Int) ≤ 161), (by omega : (161 : Int) < K)⟩) (hr 153 _ rfl) (by decide) ?_
    refine Rn_pure 3 (i' := 51) (L' := [some (2, 161), some (0, p1), some (0, g 170 p1 - 1), some (0, g 171 p1)]) (st' := [(0, g 171 p1 - 1), (2, 178), (0, g 170 p1 - 1), (2, 178)]) rfl ?_
    obtain ⟨hg, h⟩ := h
    refine Rn_iald rfl (⟨rfl, (by omega : (0 : Int) ≤ 178), (by omega : (178 : Int) < K)⟩) hg ?_
    obtain ⟨hg, h⟩ := h
    refine Rn_iast rfl (⟨rfl, (by omega : (0 : Int) ≤ 178), (by omega : (178 : Int) < K)⟩) hg (fun g4 he_g4 => ?_)
    have h := h g4 he_g4
    refine Rn_weak (L' := [some (2, 161), none, none, none]) ⟨rfl, trivial⟩ ?_
    exact h
  have hsp : wr (g 169 p1 - 8) < 0 ∨ 3 ≤ wr (g 169 p1 - 8) ∨ wr (g 169 p1 - 8) = 0 ∨ wr (g 169 p1 - 8) = 1 ∨ wr (g 169 p1 - 8) = 2 := by omega
  rcases hsp with hc | hc | hc | hc | hc
  · rw [ab_ts_out (hT := (rfl : ab_nth ab_tsL 3 = some (0, 43, [19, 25, 34]))) rfl (Or.inl hc)]; exact htd (by simp only [hc, true_or, or_true])
  · rw [ab_ts_out (hT := (rfl : ab_nth ab_tsL 3 = some (0, 43, [19, 25, 34]))) rfl (Or.inr hc)]; exact htd (by simp only [hc, true_or, or_true])
  · rw [ab_ts_in (j := 0) (hT := (rfl : ab_nth ab_tsL 3 = some (0, 43, [19, 25, 34]))) (by rw [hc]; rfl) rfl]; exact ht19 (by simp only [hc, true_or, or_true])
  · rw [ab_ts_in (j := 1) (hT := (rfl : ab_nth ab_tsL 3 = some (0, 43, [19, 25, 34]))) (by rw [hc]; rfl) rfl]; exact ht25 (by simp only [hc, true_or, or_true])
  · rw [ab_ts_in (j := 2) (hT := (rfl : ab_nth ab_tsL 3 = some (0, 43, [19, 25, 34]))) (by rw [hc]; rfl) rfl]; exact ht34 (by simp only [hc, true_or, or_true])
theorem v_M_breaksBy_53 {K : Int} {S : Nat} {g r : ab_H} (P : Int → ab_H → ab_H → Prop) (hr : SI r) (hK : 185 ≤ K) (h : ((0 : Int) ≤ 0 ∧ (0 : Int) < 3) ∧ ((wr 1000000 < wr (g 178 0) → ab_Rn m_M_breaksBy 71 [none, none, none, none] [] (K, S, g, r) (ab_Qi K S P)) ∧ (wr (g 178 0) ≤ wr 1000000 → ((0 : Int) ≤ 1 ∧ (1 : Int) < 3) ∧ ((wr 1000000 < wr (g 178 1) → ab_Rn m_M_breaksBy 71 [none, none, none, none] [] (K, S, g, r) (ab_Qi K S P)) ∧ (wr (g 178 1) ≤ wr 1000000 → ((0 : Int) ≤ 2 ∧ (2 : Int) < 3) ∧ ((wr (g 178 2) ≤ wr 1000000 → P 0 g r) ∧ (wr 1000000 < wr (g 178 2) → ab_Rn m_M_breaksBy 71 [none, none, none, none] [] (K, S, g, r) (ab_Qi K S P)))))))) : ab_Rn m_M_breaksBy 53 [some (2, 161), none, none, none] [] (K, S, g, r) (ab_Qi K S P) := by
  refine Rn_pure 1 (i' := 54) (L' := [some (2, 161), none, none, none]) (st' := [(2, 161)]) rfl ?_
  refine Rn_getR rfl (⟨rfl, (by omega : (0 : Int) ≤ 161), (by omega : (161 : Int) < K)⟩) (hr 153 _ rfl) (by decide) ?_
  refine Rn_pure 1 (i' := 56) (L' := [some (2, 161), none, none, none]) (st' := [(0, 0), (2, 178)]) rfl ?_
  obtain ⟨hg, h⟩ := h
  refine Rn_iald rfl (⟨rfl, (by omega : (0 : Int) ≤ 178), (by omega : (178 : Int) < K)⟩) hg ?_
  refine Rn_pure 1 (i' := 58) (L' := [some (2, 161), none, none, none]) (st' := [(0, 1000000), (0, g 178 0)]) rfl ?_
  refine Rn_icgt rfl (fun hc => ?_) (fun hc => ?_)
  · have h := h.1 hc
    refine Rn_weak (L' := [none, none, none, none]) trivial ?_
    exact h
  · have h := h.2 hc
    refine Rn_pure 1 (i' := 60) (L' := [some (2, 161), none, none, none]) (st' := [(2, 161)]) rfl ?_
    refine Rn_getR rfl (⟨rfl, (by omega : (0 : Int) ≤ 161), (by omega : (161 : Int) < K)⟩) (hr 153 _ rfl) (by decide) ?_
    refine Rn_pure 1 (i' := 62) (L' := [some (2, 161), none, none, none]) (st' := [(0, 1), (2, 178)]) rfl ?_
    obtain ⟨hg, h⟩ := h
    refine Rn_iald rfl (⟨rfl, (by omega : (0 : Int) ≤ 178), (by omega : (178 : Int) < K)⟩) hg ?_
    refine Rn_pure 1 (i' := 64) (L' := [some (2, 161), none, none, none]) (st' := [(0, 1000000), (0, g 178 1)]) rfl ?_
    refine Rn_icgt rfl (fun hc => ?_) (fun hc => ?_)
    · have h := h.1 hc
      refine Rn_weak (L' := [none, none, none, none]) trivial ?_
      exact h
    · have h := h.2 hc
      refine Rn_pure 1 (i' := 66) (L' := [some (2, 161), none, none, none]) (st' := [(2, 161)]) rfl ?_
      refine Rn_getR rfl (⟨rfl, (by omega : (0 : Int) ≤ 161), (by omega : (161 : Int) < K)⟩) (hr 153 _ rfl) (by decide) ?_
      refine Rn_pure 1 (i' := 68) (L' := [some (2, 161), none, none, none]) (st' := [(0, 2), (2, 178)]) rfl ?_
      obtain ⟨hg, h⟩ := h
      refine Rn_iald rfl (⟨rfl, (by omega : (0 : Int) ≤ 178), (by omega : (178 : Int) < K)⟩) hg ?_
      refine Rn_pure 1 (i' := 70) (L' := [some (2, 161), none, none, none]) (st' := [(0, 1000000), (0, g 178 2)]) rfl ?_
      refine Rn_icle rfl (fun hc => ?_) (fun hc => ?_)
      · have h := h.1 hc
        refine Rn_pure 1 (i' := 74) (L' := [some (2, 161), none, none, none]) (st' := [(0, 0)]) rfl ?_
        exact Rn_ret2 rfl (by decide) h
      · have h := h.2 hc
        refine Rn_weak (L' := [none, none, none, none]) trivial ?_
        exact h
theorem v_M_breaksBy_71 {K : Int} {S : Nat} {g r : ab_H} (P : Int → ab_H → ab_H → Prop) (hr : SI r) (hK : 185 ≤ K) (h : P 1 g r) : ab_Rn m_M_breaksBy 71 [none, none, none, none] [] (K, S, g, r) (ab_Qi K S P) := by
  refine Rn_pure 2 (i' := 74) (L' := [none, none, none, none]) (st' := [(0, 1)]) rfl ?_
  exact Rn_ret2 rfl (by decide) h
-- EventLedgerModel.causeOf (IIIZ)I
theorem v_M_causeOf {K : Int} {S : Nat} {g r : ab_H} {p1 p2 p3 p4 : Int} (P : Int → ab_H → ab_H → Prop) (hr : SI r) (hK : 185 ≤ K) (h : ((wr p4 = wr 0 → ((¬ wr p1 = wr 0 → ((0 : Int) ≤ p2 ∧ (p2 : Int) < 8) ∧ ((¬ wr (g 182 p2) = wr 0 → ab_Rn m_M_causeOf 19 [some (2, 161), some (0, p1), some (0, p2), some (0, p3), none, none] [] (K, S, g, r) (ab_Qi K S P)) ∧ (wr (g 182 p2) = wr 0 → ab_Rn m_M_causeOf 17 [none, none, none, none, none, none] [] (K, S, g, r) (ab_Qi K S P)))) ∧ (wr p1 = wr 0 → ((0 : Int) ≤ p2 ∧ (p2 : Int) < 8) ∧ ((wr (g 182 p2) = wr 0 → ab_Rn m_M_causeOf 19 [some (2, 161), some (0, p1), some (0, p2), some (0, p3), none, none] [] (K, S, g, r) (ab_Qi K S P)) ∧ (¬ wr (g 182 p2) = wr 0 → ab_Rn m_M_causeOf 17 [none, none, none, none, none, none] [] (K, S, g, r) (ab_Qi K S P)))))) ∧ (¬ wr p4 = wr 0 → P 1 g r))) : ab_RI m_M_causeOf [(2, 161), (0, p1), (0, p2), (0, p3), (0, p4)] K S g r P := by
  show ab_Rn m_M_causeOf 0 [some (2, 161), some (0, p1), some (0, p2), some (0, p3), some (0, p4), none] [] (K, S, g, r) (ab_Qi K S P)
  refine Rn_pure 1 (i' := 1) (L' := [some (2, 161), some (0, p1), some (0, p2), some (0, p3), some (0, p4), none]) (st' := [(0, p4)]) rfl ?_
  refine Rn_ifeq rfl (fun hc => ?_) (fun hc => ?_)
  · have h := h.1 hc
    refine Rn_pure 1 (i' := 5) (L' := [some (2, 161), some (0, p1), some (0, p2), some (0, p3), some (0, p4), none]) (st' := [(0, p1)]) rfl ?_
    refine Rn_ifne rfl (fun hc => ?_) (fun hc => ?_)
    · have h := h.1 hc
      refine Rn_pure 1 (i' := 13) (L' := [some (2, 161), some (0, p1), some (0, p2), some (0, p3), some (0, p4), none]) (st' := [(2, 161)]) rfl ?_
      refine Rn_getR rfl (⟨rfl, (by omega : (0 : Int) ≤ 161), (by omega : (161 : Int) < K)⟩) (hr 157 _ rfl) (by decide) ?_
      refine Rn_pure 1 (i' := 15) (L' := [some (2, 161), some (0, p1), some (0, p2), some (0, p3), some (0, p4), none]) (st' := [(0, p2), (2, 182)]) rfl ?_
      obtain ⟨hg, h⟩ := h
      refine Rn_zald rfl (⟨rfl, (by omega : (0 : Int) ≤ 182), (by omega : (182 : Int) < K)⟩) hg ?_
      refine Rn_ifne rfl (fun hc => ?_) (fun hc => ?_)
      · have h := h.1 hc
        refine Rn_weak (L' := [some (2, 161), some (0, p1), some (0, p2), some (0, p3), none, none]) ⟨rfl, ⟨rfl, ⟨rfl, ⟨rfl, trivial⟩⟩⟩⟩ ?_
        exact h
      · have h := h.2 hc
        refine Rn_weak (L' := [none, none, none, none, none, none]) trivial ?_
        exact h
    · have h := h.2 hc
      refine Rn_pure 1 (i' := 7) (L' := [some (2, 161), some (0, p1), some (0, p2), some (0, p3), some (0, p4), none]) (st' := [(2, 161)]) rfl ?_
      refine Rn_getR rfl (⟨rfl, (by omega : (0 : Int) ≤ 161), (by omega : (161 : Int) < K)⟩) (hr 157 _ rfl) (by decide) ?_
      refine Rn_pure 1 (i' := 9) (L' := [some (2, 161), some (0, p1), some (0, p2), some (0, p3), some (0, p4), none]) (st' := [(0, p2), (2, 182)]) rfl ?_
      obtain ⟨hg, h⟩ := h
      refine Rn_zald rfl (⟨rfl, (by omega : (0 : Int) ≤ 182), (by omega : (182 : Int) < K)⟩) hg ?_
      refine Rn_ifeq rfl (fun hc => ?_) (fun hc => ?_)
      · have h := h.1 hc
        refine Rn_weak (L' := [some (2, 161), some (0, p1), some (0, p2), some (0, p3), none, none]) ⟨rfl, ⟨rfl, ⟨rfl, ⟨rfl, trivial⟩⟩⟩⟩ ?_
        exact h
      · have h := h.2 hc
        refine Rn_pure 1 (i' := 17) (L' := [some (2, 161), some (0, p1), some (0, p2), some (0, p3), some (0, p4), none]) (st' := []) rfl ?_
        refine Rn_weak (L' := [none, none, none, none, none, none]) trivial ?_
        exact h
  · have h := h.2 hc
    refine Rn_pure 1 (i' := 3) (L' := [some (2, 161), some (0, p1), some (0, p2), some (0, p3), some (0, p4), none]) (st' := [(0, 1)]) rfl ?_
    exact Rn_ret1 rfl h
theorem v_M_causeOf_17 {K : Int} {S : Nat} {g r : ab_H} (P : Int → ab_H → ab_H → Prop) (hr : SI r) (hK : 185 ≤ K) (h : P 2 g r) : ab_Rn m_M_causeOf 17 [none, none, none, none, none, none] [] (K, S, g, r) (ab_Qi K S P) := by
  refine Rn_pure 1 (i' := 18) (L' := [none, none, none, none, none, none]) (st' := [(0, 2)]) rfl ?_
  exact Rn_ret1 rfl h
theorem v_M_causeOf_19 {K : Int} {S : Nat} {g r : ab_H} {l1 l2 l3 : Int} (P : Int → ab_H → ab_H → Prop) (hr : SI r) (hK : 185 ≤ K) (h : ((¬ wr l1 = wr 6 → ab_Rn m_M_causeOf 29 [some (2, 161), some (0, l1), some (0, l2), none, none, none] [] (K, S, g, r) (ab_Qi K S P)) ∧ (wr l1 = wr 6 → ((0 : Int) ≤ l3 ∧ (l3 : Int) < 8) ∧ ((¬ wr (g 182 l3) = wr 0 → ab_Rn m_M_causeOf 29 [some (2, 161), some (0, l1), some (0, l2), none, none, none] [] (K, S, g, r) (ab_Qi K S P)) ∧ (wr (g 182 l3) = wr 0 → P 2 g r))))) : ab_Rn m_M_causeOf 19 [some (2, 161), some (0, l1), some (0, l2), some (0, l3), none, none] [] (K, S, g, r) (ab_Qi K S P) := by
  refine Rn_pure 2 (i' := 21) (L' := [some (2, 161), some (0, l1), some (0, l2), some (0, l3), none, none]) (st' := [(0, 6), (0, l1)]) rfl ?_
  refine Rn_icne rfl (fun hc => ?_) (fun hc => ?_)
  · have h := h.1 hc
    refine Rn_weak (L' := [some (2, 161), some (0, l1), some (0, l2), none, none, none]) ⟨rfl, ⟨rfl, ⟨rfl, trivial⟩⟩⟩ ?_
    exact h
  · have h := h.2 hc
    refine Rn_pure 1 (i' := 23) (L' := [some (2, 161), some (0, l1), some (0, l2), some (0, l3), none, none]) (st' := [(2, 161)]) rfl ?_
    refine Rn_getR rfl (⟨rfl, (by omega : (0 : Int) ≤ 161), (by omega : (161 : Int) < K)⟩) (hr 157 _ rfl) (by decide) ?_
    refine Rn_pure 1 (i' := 25) (L' := [some (2, 161), some (0, l1), some (0, l2), some (0, l3), none, none]) (st' := [(0, l3), (2, 182)]) rfl ?_
    obtain ⟨hg, h⟩ := h
    refine Rn_zald rfl (⟨rfl, (by omega : (0 : Int) ≤ 182), (by omega : (182 : Int) < K)⟩) hg ?_
    refine Rn_ifne rfl (fun hc => ?_) (fun hc => ?_)
    · have h := h.1 hc
      refine Rn_weak (L' := [some (2, 161), some (0, l1), some (0, l2), none, none, none]) ⟨rfl, ⟨rfl, ⟨rfl, trivial⟩⟩⟩ ?_
      exact h
    · have h := h.2 hc
      refine Rn_pure 1 (i' := 28) (L' := [some (2, 161), some (0, l1), some (0, l2), some (0, l3), none, none]) (st' := [(0, 2)]) rfl ?_
      exact Rn_ret1 rfl h
theorem v_M_causeOf_29 {K : Int} {S : Nat} {g r : ab_H} {l1 l2 : Int} (P : Int → ab_H → ab_H → Prop) (hr : SI r) (hK : 185 ≤ K) (h : ((wr l1 = 2 ∨ wr l1 = 6 → ((0 : Int) ≤ l2 ∧ (l2 : Int) < 8) ∧ ((0 : Int) ≤ 0 ∧ (0 : Int) < 3) ∧ ((0 : Int) ≤ 1 ∧ (1 : Int) < 3) ∧ ((0 : Int) ≤ l2 ∧ (l2 : Int) < 8) ∧ ((0 : Int) ≤ l2 ∧ (l2 : Int) < 8) ∧ ((wr (-(g 181 l2)) ≤ wr (g 179 l2 - (g 178 0) - (g 178 1) - (g 180 l2)) → ab_Rn m_M_causeOf 111 [none, none, none, none, none, some (0, 0)] [] (K, S, g, r) (ab_Qi K S P)) ∧ (wr (g 179 l2 - (g 178 0) - (g 178 1) - (g 180 l2)) < wr (-(g 181 l2)) → ab_Rn m_M_causeOf 111 [none, none, none, none, none, some (0, 1)] [] (K, S, g, r) (ab_Qi K S P)))) ∧ (wr l1 = 3 → ((0 : Int) ≤ l2 ∧ (l2 : Int) < 8) ∧ ((0 : Int) ≤ 0 ∧ (0 : Int) < 3) ∧ ((0 : Int) ≤ l2 ∧ (l2 : Int) < 8) ∧ ((wr (g 180 l2 + (g 178 0)) ≤ wr (g 179 l2) → ab_Rn m_M_causeOf 111 [none, none, none, none, none, some (0, 0)] [] (K, S, g, r) (ab_Qi K S P)) ∧ (wr (g 179 l2) < wr (g 180 l2 + (g 178 0)) → ab_Rn m_M_causeOf 111 [none, none, none, none, none, some (0, 1)] [] (K, S, g, r) (ab_Qi K S P)))) ∧ (wr l1 = 4 → ((0 : Int) ≤ l2 ∧ (l2 : Int) < 8) ∧ ((0 : Int) ≤ 0 ∧ (0 : Int) < 3) ∧ ((wr (g 178 0) ≤ wr (g 180 l2) → ab_Rn m_M_causeOf 111 [none, none, none, none, none, some (0, 0)] [] (K, S, g, r) (ab_Qi K S P)) ∧ (wr (g 180 l2) < wr (g 178 0) → ab_Rn m_M_causeOf 111 [none, none, none, none, none, some (0, 1)] [] (K, S, g, r) (ab_Qi K S P)))) ∧ (wr l1 = 5 → ((0 : Int) ≤ l2 ∧ (l2 : Int) < 8) ∧ ((¬ wr (g 179 l2) = wr 0 → ab_Rn m_M_causeOf 106 [none, none, none, none, none, none] [] (K, S, g, r) (ab_Qi K S P)) ∧ (wr (g 179 l2) = wr 0 → ((0 : Int) ≤ l2 ∧ (l2 : Int) < 8) ∧ ((wr (g 180 l2) = wr 0 → ab_Rn m_M_causeOf 111 [none, none, none, none, none, some (0, 0)] [] (K, S, g, r) (ab_Qi K S P)) ∧ (¬ wr (g 180 l2) = wr 0 → ab_Rn m_M_causeOf 106 [none, none, none, none, none, none] [] (K, S, g, r) (ab_Qi K S P)))))) ∧ (wr l1 < 2 ∨ 7 ≤ wr l1 → ab_Rn m_M_causeOf 111 [none, none, none, none, none, some (0, 0)] [] (K, S, g, r) (ab_Qi K S P)))) : ab_Rn m_M_causeOf 29 [some (2, 161), some (0, l1), some (0, l2), none, none, none] [] (K, S, g, r) (ab_Qi K S P) := by
  refine Rn_pure 3 (i' := 32) (L' := [some (2, 161), some (0, l1), some (0, l2), none, none, some (0, 0)]) (st' := [(0, l1)]) rfl ?_
  refine Rn_ts rfl ?_
  have ht33 : (wr l1 = 2 ∨ wr l1 = 6) → ab_Rn m_M_causeOf 33 [some (2, 161), some (0, l1), some (0, l2), none, none, some (0, 0)] [] (K, S, g, r) (ab_Qi K S P) := by
    intro hc
    have h := h.1 hc
    refine Rn_pure 1 (i' := 34) (L' := [some (2, 161), some (0, l1), some (0, l2), none, none, some (0, 0)]) (st' := [(2, 161)]) rfl ?_
    refine Rn_getR rfl (⟨rfl, (by omega : (0 : Int) ≤ 161), (by omega : (161 : Int) < K)⟩) (hr 154 _ rfl) (by decide) ?_
    refine Rn_pure 1 (i' := 36) (L' := [some (2, 161), some (0, l1), some (0, l2), none, none, some (0, 0)]) (st' := [(0, l2), (2, 179)]) rfl ?_
    obtain ⟨hg, h⟩ := h
    refine Rn_iald rfl (⟨rfl, (by omega : (0 : Int) ≤ 179), (by omega : (179 : Int) < K)⟩) hg ?_
    refine Rn_pure 1 (i' := 38) (L' := [some (2, 161), some (0, l1), some (0, l2), none, none, some (0, 0)]) (st' := [(2, 161), (0, g 179 l2)]) rfl ?_
    refine Rn_getR rfl (⟨rfl, (by omega : (0 : Int) ≤ 161), (by omega : (161 : Int) < K)⟩) (hr 153 _ rfl) (by decide) ?_
    refine Rn_pure 1 (i' := 40) (L' := [some (2, 161), some (0, l1), some (0, l2), none, none, some (0, 0)]) (st' := [(0, 0), (2, 178), (0, g 179 l2)]) rfl ?_
    obtain ⟨hg, h⟩ := h
    refine Rn_iald rfl (⟨rfl, (by omega : (0 : Int) ≤ 178), (by omega : (178 : Int) < K)⟩) hg ?_
    refine Rn_pure 2 (i' := 43) (L' := [some (2, 161), some (0, l1), some (0, l2), none, none, some (0, 0)]) (st' := [(2, 161), (0, g 179 l2 - (g 178 0))]) rfl ?_
    refine Rn_getR rfl (⟨rfl, (by omega : (0 : Int) ≤ 161), (by omega : (161 : Int) < K)⟩) (hr 153 _ rfl) (by decide) ?_
    refine Rn_pure 1 (i' := 45) (L' := [some (2, 161), some (0, l1), some (0, l2), none, none, some (0, 0)]) (st' := [(0, 1), (2, 178), (0, g 179 l2 - (g 178 0))]) rfl ?_
    obtain ⟨hg, h⟩ := h
    refine Rn_iald rfl (⟨rfl, (by omega : (0 : Int) ≤ 178), (by omega : (178 : Int) < K)⟩) hg ?_
    refine Rn_pure 2 (i' := 48) (L' := [some (2, 161), some (0, l1), some (0, l2), none, none, some (0, 0)]) (st' := [(2, 161), (0, g 179 l2 - (g 178 0) - (g 178 1))]) rfl ?_
    refine Rn_getR rfl (⟨rfl, (by omega : (0 : Int) ≤ 161), (by omega : (161 : Int) < K)⟩) (hr 155 _ rfl) (by decide) ?_
    refine Rn_pure 1 (i' := 50) (L' := [some (2, 161), some (0, l1), some (0, l2), none, none, some (0, 0)]) (st' := [(0, l2), (2, 180), (0, g 179 l2 - (g 178 0) - (g 178 1))]) rfl ?_
    obtain ⟨hg, h⟩ := h
    refine Rn_iald rfl (⟨rfl, (by omega : (0 : Int) ≤ 180), (by omega : (180 : Int) < K)⟩) hg ?_
    refine Rn_pure 2 (i' := 53) (L' := [some (2, 161), some (0, l1), some (0, l2), none, none, some (0, 0)]) (st' := [(2, 161), (0, g 179 l2 - (g 178 0) - (g 178 1) - (g 180 l2))]) rfl ?_
    refine Rn_getR rfl (⟨rfl, (by omega : (0 : Int) ≤ 161), (by omega : (161 : Int) < K)⟩) (hr 156 _ rfl) (by decide) ?_
    refine Rn_pure 1 (i' := 55) (L' := [some (2, 161), some (0, l1), some (0, l2), none, none, some (0, 0)]) (st' := [(0, l2), (2, 181), (0, g 179 l2 - (g 178 0) - (g 178 1) - (g 180 l2))]) rfl ?_
    obtain ⟨hg, h⟩ := h
    refine Rn_iald rfl (⟨rfl, (by omega : (0 : Int) ≤ 181), (by omega : (181 : Int) < K)⟩) hg ?_
    refine Rn_pure 1 (i' := 57) (L' := [some (2, 161), some (0, l1), some (0, l2), none, none, some (0, 0)]) (st' := [(0, -(g 181 l2)), (0, g 179 l2 - (g 178 0) - (g 178 1) - (g 180 l2))]) rfl ?_
    refine Rn_icge rfl (fun hc => ?_) (fun hc => ?_)
    · have h := h.1 hc
      refine Rn_pure 3 (i' := 111) (L' := [some (2, 161), some (0, l1), some (0, l2), none, none, some (0, 0)]) (st' := []) rfl ?_
      refine Rn_weak (L' := [none, none, none, none, none, some (0, 0)]) ⟨rfl, trivial⟩ ?_
      exact h
    · have h := h.2 hc
      refine Rn_pure 4 (i' := 111) (L' := [some (2, 161), some (0, l1), some (0, l2), none, none, some (0, 1)]) (st' := []) rfl ?_
      refine Rn_weak (L' := [none, none, none, none, none, some (0, 1)]) ⟨rfl, trivial⟩ ?_
      exact h
  have ht63 : (wr l1 = 3) → ab_Rn m_M_causeOf 63 [some (2, 161), some (0, l1), some (0, l2), none, none, some (0, 0)] [] (K, S, g, r) (ab_Qi K S P) := by
    intro hc
    have h := h.2.1 hc
    refine Rn_pure 1 (i' := 64) (L' := [some (2, 161), some (0, l1), some (0, l2), none, none, some (0, 0)]) (st' := [(2, 161)]) rfl ?_
    refine Rn_getR rfl (⟨rfl, (by omega : (0 : Int) ≤ 161), (by omega : (161 : Int) < K)⟩) (hr 155 _ rfl) (by decide) ?_
    refine Rn_pure 1 (i' := 66) (L' := [some (2, 161), some (0, l1), some (0, l2), none, none, some (0, 0)]) (st' := [(0, l2), (2, 180)]) rfl ?_
    obtain ⟨hg, h⟩ := h
    refine Rn_iald rfl (⟨rfl, (by omega : (0 : Int) ≤ 180), (by omega : (180 : Int) < K)⟩) hg ?_
    refine Rn_pure 1 (i' := 68) (L' := [some (2, 161), some (0, l1), some (0, l2), none, none, some (0, 0)]) (st' := [(2, 161), (0, g 180 l2)]) rfl ?_
    refine Rn_getR rfl (⟨rfl, (by omega : (0 : Int) ≤ 161), (by omega : (161 : Int) < K)⟩) (hr 153 _ rfl) (by decide) ?_
    refine Rn_pure 1 (i' := 70) (L' := [some (2, 161), some (0, l1), some (0, l2), none, none, some (0, 0)]) (st' := [(0, 0), (2, 178), (0, g 180 l2)]) rfl ?_
    obtain ⟨hg, h⟩ := h
    refine Rn_iald rfl (⟨rfl, (by omega : (0 : Int) ≤ 178), (by omega : (178 : Int) < K)⟩) hg ?_
    refine Rn_pure 2 (i' := 73) (L' := [some (2, 161), some (0, l1), some (0, l2), none, none, some (0, 0)]) (st' := [(2, 161), (0, g 180 l2 + (g 178 0))]) rfl ?_
    refine Rn_getR rfl (⟨rfl, (by omega : (0 : Int) ≤ 161), (by omega : (161 : Int) < K)⟩) (hr 154 _ rfl) (by decide) ?_
    refine Rn_pure 1 (i' := 75) (L' := [some (2, 161), some (0, l1), some (0, l2), none, none, some (0, 0)]) (st' := [(0, l2), (2, 179), (0, g 180 l2 + (g 178 0))]) rfl ?_
    obtain ⟨hg, h⟩ := h
    refine Rn_iald rfl (⟨rfl, (by omega : (0 : Int) ≤ 179), (by omega : (179 : Int) < K)⟩) hg ?_
    refine Rn_icle rfl (fun hc => ?_) (fun hc => ?_)
    · have h := h.1 hc
      refine Rn_pure 3 (i' := 111) (L' := [some (2, 161), some (0, l1), some (0, l2), none, none, some (0, 0)]) (st' := []) rfl ?_
      refine Rn_weak (L' := [none, none, none, none, none, some (0, 0)]) ⟨rfl, trivial⟩ ?_
      exact h
    · have h := h.2 hc
      refine Rn_pure 4 (i' := 111) (L' := [some (2, 161), some (0, l1), some (0, l2), none, none, some (0, 1)]) (st' := []) rfl ?_
      refine Rn_weak (L' := [none, none, none, none, none, some (0, 1)]) ⟨rfl, trivial⟩ ?_
      exact h
  have ht82 : (wr l1 = 4) → ab_Rn m_M_causeOf 82 [some (2, 161), some (0, l1), some (0, l2), none, none, some (0, 0)] [] (K, S, g, r) (ab_Qi K S P) := by
    intro hc
    have h := h.2.2.1 hc
    refine Rn_pure 1 (i' := 83) (L' := [some (2, 161), some (0, l1), some (0, l2), none, none, some (0, 0)]) (st' := [(2, 161)]) rfl ?_
    refine Rn_getR rfl (⟨rfl, (by omega : (0 : Int) ≤ 161), (by omega : (161 : Int) < K)⟩) (hr 155 _ rfl) (by decide) ?_
    refine Rn_pure 1 (i' := 85) (L' := [some (2, 161), some (0, l1), some (0, l2), none, none, some (0, 0)]) (st' := [(0, l2), (2, 180)]) rfl ?_
    obtain ⟨hg, h⟩ := h
    refine Rn_iald rfl (⟨rfl, (by omega : (0 : Int) ≤ 180), (by omega : (180 : Int) < K)⟩) hg ?_
    refine Rn_pure 1 (i' := 87) (L' := [some (2, 161), some (0, l1), some (0, l2), none, none, some (0, 0)]) (st' := [(2, 161), (0, g 180 l2)]) rfl ?_
    refine Rn_getR rfl (⟨rfl, (by omega : (0 : Int) ≤ 161), (by omega : (161 : Int) < K)⟩) (hr 153 _ rfl) (by decide) ?_
    refine Rn_pure 1 (i' := 89) (L' := [some (2, 161), some (0, l1), some (0, l2), none, none, some (0, 0)]) (st' := [(0, 0), (2, 178), (0, g 180 l2)]) rfl ?_
    obtain ⟨hg, h⟩ := h
    refine Rn_iald rfl (⟨rfl, (by omega : (0 : Int) ≤ 178), (by omega : (178 : Int) < K)⟩) hg ?_
    refine Rn_icge rfl (fun hc => ?_) (fun hc => ?_)
    · have h := h.1 hc
      refine Rn_pure 3 (i' := 111) (L' := [some (2, 161), some (0, l1), some (0, l2), none, none, some (0, 0)]) (st' := []) rfl ?_
      refine Rn_weak (L' := [none, none, none, none, none, some (0, 0)]) ⟨rfl, trivial⟩ ?_
      exact h
    · have h := h.2 hc
      refine Rn_pure 4 (i' := 111) (L' := [some (2, 161), some (0, l1), some (0, l2), none, none, some (0, 1)]) (st' := []) rfl ?_
      refine Rn_weak (L' := [none, none, none, none, none, some (0, 1)]) ⟨rfl, trivial⟩ ?_
      exact h
  have ht96 : (wr l1 = 5) → ab_Rn m_M_causeOf 96 [some (2, 161), some (0, l1), some (0, l2), none, none, some (0, 0)] [] (K, S, g, r) (ab_Qi K S P) := by
    intro hc
    have h := h.2.2.2.1 hc
    refine Rn_pure 1 (i' := 97) (L' := [some (2, 161), some (0, l1), some (0, l2), none, none, some (0, 0)]) (st' := [(2, 161)]) rfl ?_
    refine Rn_getR rfl (⟨rfl, (by omega : (0 : Int) ≤ 161), (by omega : (161 : Int) < K)⟩) (hr 154 _ rfl) (by decide) ?_
    refine Rn_pure 1 (i' := 99) (L' := [some (2, 161), some (0, l1), some (0, l2), none, none, some (0, 0)]) (st' := [(0, l2), (2, 179)]) rfl ?_
    obtain ⟨hg, h⟩ := h
    refine Rn_iald rfl (⟨rfl, (by omega : (0 : Int) ≤ 179), (by omega : (179 : Int) < K)⟩) hg ?_
    refine Rn_ifne rfl (fun hc => ?_) (fun hc => ?_)
    · have h := h.1 hc
      refine Rn_weak (L' := [none, none, none, none, none, none]) trivial ?_
      exact h
    · have h := h.2 hc
      refine Rn_pure 1 (i' := 102) (L' := [some (2, 161), some (0, l1), some (0, l2), none, none, some (0, 0)]) (st' := [(2, 161)]) rfl ?_
      refine Rn_getR rfl (⟨rfl, (by omega : (0 : Int) ≤ 161), (by omega : (161 : Int) < K)⟩) (hr 155 _ rfl) (by decide) ?_
      refine Rn_pure 1 (i' := 104) (L' := [some (2, 161), some (0, l1), some (0, l2), none, none, some (0, 0)]) (st' := [(0, l2), (2, 180)]) rfl ?_
      obtain ⟨hg, h⟩ := h
      refine Rn_iald rfl (⟨rfl, (by omega : (0 : Int) ≤ 180), (by omega : (180 : Int) < K)⟩) hg ?_
      refine Rn_ifeq rfl (fun hc => ?_) (fun hc => ?_)
      · have h := h.1 hc
        refine Rn_pure 3 (i' := 111) (L' := [some (2, 161), some (0, l1), some (0, l2), none, none, some (0, 0)]) (st' := []) rfl ?_
        refine Rn_weak (L' := [none, none, none, none, none, some (0, 0)]) ⟨rfl, trivial⟩ ?_
        exact h
      · have h := h.2 hc
        refine Rn_weak (L' := [none, none, none, none, none, none]) trivial ?_
        exact h
  have htd : (wr l1 < 2 ∨ 7 ≤ wr l1) → ab_Rn m_M_causeOf 111 [some (2, 161), some (0, l1), some (0, l2), none, none, some (0, 0)] [] (K, S, g, r) (ab_Qi K S P) := by
    intro hc
    have h := h.2.2.2.2 hc
    refine Rn_weak (L' := [none, none, none, none, none, some (0, 0)]) ⟨rfl, trivial⟩ ?_
    exact h
  have hsp : wr l1 < 2 ∨ 7 ≤ wr l1 ∨ wr l1 = 2 ∨ wr l1 = 3 ∨ wr l1 = 4 ∨ wr l1 = 5 ∨ wr l1 = 6 := by omega
  rcases hsp with hc | hc | hc | hc | hc | hc | hc
  · rw [ab_ts_out (hT := (rfl : ab_nth ab_tsL 4 = some (2, 111, [33, 63, 82, 96, 33]))) rfl (Or.inl hc)]; exact htd (by simp only [hc, true_or, or_true])
  · rw [ab_ts_out (hT := (rfl : ab_nth ab_tsL 4 = some (2, 111, [33, 63, 82, 96, 33]))) rfl (Or.inr hc)]; exact htd (by simp only [hc, true_or, or_true])
  · rw [ab_ts_in (j := 0) (hT := (rfl : ab_nth ab_tsL 4 = some (2, 111, [33, 63, 82, 96, 33]))) (by rw [hc]; rfl) rfl]; exact ht33 (by simp only [hc, true_or, or_true])
  · rw [ab_ts_in (j := 1) (hT := (rfl : ab_nth ab_tsL 4 = some (2, 111, [33, 63, 82, 96, 33]))) (by rw [hc]; rfl) rfl]; exact ht63 (by simp only [hc, true_or, or_true])
  · rw [ab_ts_in (j := 2) (hT := (rfl : ab_nth ab_tsL 4 = some (2, 111, [33, 63, 82, 96, 33]))) (by rw [hc]; rfl) rfl]; exact ht82 (by simp only [hc, true_or, or_true])
  · rw [ab_ts_in (j := 3) (hT := (rfl : ab_nth ab_tsL 4 = some (2, 111, [33, 63, 82, 96, 33]))) (by rw [hc]; rfl) rfl]; exact ht96 (by simp only [hc, true_or, or_true])
  · rw [ab_ts_in (j := 4) (hT := (rfl : ab_nth ab_tsL 4 = some (2, 111, [33, 63, 82, 96, 33]))) (by rw [hc]; rfl) rfl]; exact ht33 (by simp only [hc, true_or, or_true])
theorem v_M_causeOf_106 {K : Int} {S : Nat} {g r : ab_H} (P : Int → ab_H → ab_H → Prop) (hr : SI r) (hK : 185 ≤ K) (h : ab_Rn m_M_causeOf 111 [none, none, none, none, none, some (0, 1)] [] (K, S, g, r) (ab_Qi K S P)) : ab_Rn m_M_causeOf 106 [none, none, none, none, none, none] [] (K, S, g, r) (ab_Qi K S P) := by
  refine Rn_pure 4 (i' := 111) (L' := [none, none, none, none, none, some (0, 1)]) (st' := []) rfl ?_
  exact h
theorem v_M_causeOf_111 {K : Int} {S : Nat} {g r : ab_H} {l5 : Int} (P : Int → ab_H → ab_H → Prop) (hr : SI r) (hK : 185 ≤ K) (h : ((wr l5 = wr 0 → P 0 g r) ∧ (¬ wr l5 = wr 0 → P 3 g r))) : ab_Rn m_M_causeOf 111 [none, none, none, none, none, some (0, l5)] [] (K, S, g, r) (ab_Qi K S P) := by
  refine Rn_pure 1 (i' := 112) (L' := [none, none, none, none, none, some (0, l5)]) (st' := [(0, l5)]) rfl ?_
  refine Rn_ifeq rfl (fun hc => ?_) (fun hc => ?_)
  · have h := h.1 hc
    refine Rn_pure 1 (i' := 116) (L' := [none, none, none, none, none, some (0, l5)]) (st' := [(0, 0)]) rfl ?_
    exact Rn_ret1 rfl h
  · have h := h.2 hc
    refine Rn_pure 2 (i' := 116) (L' := [none, none, none, none, none, some (0, l5)]) (st' := [(0, 3)]) rfl ?_
    exact Rn_ret1 rfl h
-- EventLedgerModel.applies (III)V
theorem v_M_applies {K : Int} {S : Nat} {g r : ab_H} {p1 p2 p3 : Int} (P : ab_H → ab_H → Prop) (hr : SI r) (hK : 185 ≤ K) (h : ((wr p1 = 0 → ((0 : Int) ≤ p2 ∧ (p2 : Int) < 8) ∧ ∀ g1, g1 = ab_up g 182 p2 1 → ((0 : Int) ≤ p2 ∧ (p2 : Int) < 8) ∧ ∀ g2, g2 = ab_up g1 179 p2 0 → ((0 : Int) ≤ p2 ∧ (p2 : Int) < 8) ∧ ∀ g3, g3 = ab_up g2 180 p2 0 → ((0 : Int) ≤ 0 ∧ (0 : Int) < 3) ∧ ((0 : Int) ≤ p2 ∧ (p2 : Int) < 8) ∧ ∀ g4, g4 = ab_up g3 181 p2 (g3 178 0) → P g4 r) ∧ (wr p1 = 1 → ((0 : Int) ≤ p2 ∧ (p2 : Int) < 8) ∧ ((0 : Int) ≤ 0 ∧ (0 : Int) < 3) ∧ ((0 : Int) ≤ 1 ∧ (1 : Int) < 3) ∧ ((0 : Int) ≤ p2 ∧ (p2 : Int) < 8) ∧ ∀ g5, g5 = ab_up g 179 p2 (g 179 p2 + (g 178 0 - (g 178 1))) → P g5 r) ∧ (wr p1 = 2 → ((0 : Int) ≤ p2 ∧ (p2 : Int) < 8) ∧ ((0 : Int) ≤ 0 ∧ (0 : Int) < 3) ∧ ((0 : Int) ≤ 1 ∧ (1 : Int) < 3) ∧ ((0 : Int) ≤ p2 ∧ (p2 : Int) < 8) ∧ ∀ g6, g6 = ab_up g 179 p2 (g 179 p2 - (g 178 0 + (g 178 1))) → P g6 r) ∧ (wr p1 = 3 → ((0 : Int) ≤ p2 ∧ (p2 : Int) < 8) ∧ ((0 : Int) ≤ 0 ∧ (0 : Int) < 3) ∧ ((0 : Int) ≤ p2 ∧ (p2 : Int) < 8) ∧ ∀ g7, g7 = ab_up g 180 p2 (g 180 p2 + (g 178 0)) → P g7 r) ∧ (wr p1 = 4 → ((0 : Int) ≤ p2 ∧ (p2 : Int) < 8) ∧ ((0 : Int) ≤ 0 ∧ (0 : Int) < 3) ∧ ((0 : Int) ≤ p2 ∧ (p2 : Int) < 8) ∧ ∀ g8, g8 = ab_up g 180 p2 (g 180 p2 - (g 178 0)) → P g8 r) ∧ (wr p1 = 5 → ((0 : Int) ≤ p2 ∧ (p2 : Int) < 8) ∧ ∀ g9, g9 = ab_up g 182 p2 0 → P g9 r) ∧ (wr p1 < 0 ∨ 6 ≤ wr p1 → ((0 : Int) ≤ p2 ∧ (p2 : Int) < 8) ∧ ((0 : Int) ≤ 0 ∧ (0 : Int) < 3) ∧ ((0 : Int) ≤ 1 ∧ (1 : Int) < 3) ∧ ((0 : Int) ≤ p2 ∧ (p2 : Int) < 8) ∧ ∀ g10, g10 = ab_up g 179 p2 (g 179 p2 - (g 178 0 + (g 178 1))) → ((0 : Int) ≤ p3 ∧ (p3 : Int) < 8) ∧ ((0 : Int) ≤ 0 ∧ (0 : Int) < 3) ∧ ((0 : Int) ≤ p3 ∧ (p3 : Int) < 8) ∧ ∀ g11, g11 = ab_up g10 179 p3 (g10 179 p3 + (g10 178 0)) → P g11 r))) : ab_RV m_M_applies [(2, 161), (0, p1), (0, p2), (0, p3)] K S g r P := by
  show ab_Rn m_M_applies 0 [some (2, 161), some (0, p1), some (0, p2), some (0, p3)] [] (K, S, g, r) (ab_Qv K S P)
  refine Rn_pure 1 (i' := 1) (L' := [some (2, 161), some (0, p1), some (0, p2), some (0, p3)]) (st' := [(0, p1)]) rfl ?_
  refine Rn_ts rfl ?_
  have ht2 : (wr p1 = 0) → ab_Rn m_M_applies 2 [some (2, 161), some (0, p1), some (0, p2), some (0, p3)] [] (K, S, g, r) (ab_Qv K S P) := by
    intro hc
    have h := h.1 hc
    refine Rn_pure 1 (i' := 3) (L' := [some (2, 161), some (0, p1), some (0, p2), some (0, p3)]) (st' := [(2, 161)]) rfl ?_
    refine Rn_getR rfl (⟨rfl, (by omega : (0 : Int) ≤ 161), (by omega : (161 : Int) < K)⟩) (hr 157 _ rfl) (by decide) ?_
    refine Rn_pure 2 (i' := 6) (L' := [some (2, 161), some (0, p1), some (0, p2), some (0, p3)]) (st' := [(0, 1), (0, p2), (2, 182)]) rfl ?_
    obtain ⟨hg, h⟩ := h
    refine Rn_zast rfl (⟨rfl, (by omega : (0 : Int) ≤ 182), (by omega : (182 : Int) < K)⟩) hg (by decide) (fun g1 he_g1 => ?_)
    have h := h g1 he_g1
    refine Rn_pure 1 (i' := 8) (L' := [some (2, 161), some (0, p1), some (0, p2), some (0, p3)]) (st' := [(2, 161)]) rfl ?_
    refine Rn_getR rfl (⟨rfl, (by omega : (0 : Int) ≤ 161), (by omega : (161 : Int) < K)⟩) (hr 154 _ rfl) (by decide) ?_
    refine Rn_pure 2 (i' := 11) (L' := [some (2, 161), some (0, p1), some (0, p2), some (0, p3)]) (st' := [(0, 0), (0, p2), (2, 179)]) rfl ?_
    obtain ⟨hg, h⟩ := h
    refine Rn_iast rfl (⟨rfl, (by omega : (0 : Int) ≤ 179), (by omega : (179 : Int) < K)⟩) hg (fun g2 he_g2 => ?_)
    have h := h g2 he_g2
    refine Rn_pure 1 (i' := 13) (L' := [some (2, 161), some (0, p1), some (0, p2), some (0, p3)]) (st' := [(2, 161)]) rfl ?_
    refine Rn_getR rfl (⟨rfl, (by omega : (0 : Int) ≤ 161), (by omega : (161 : Int) < K)⟩) (hr 155 _ rfl) (by decide) ?_
    refine Rn_pure 2 (i' := 16) (L' := [some (2, 161), some (0, p1), some (0, p2), some (0, p3)]) (st' := [(0, 0), (0, p2), (2, 180)]) rfl ?_
    obtain ⟨hg, h⟩ := h
    refine Rn_iast rfl (⟨rfl, (by omega : (0 : Int) ≤ 180), (by omega : (180 : Int) < K)⟩) hg (fun g3 he_g3 => ?_)
    have h := h g3 he_g3
    refine Rn_pure 1 (i' := 18) (L' := [some (2, 161), some (0, p1), some (0, p2), some (0, p3)]) (st' := [(2, 161)]) rfl ?_
    refine Rn_getR rfl (⟨rfl, (by omega : (0 : Int) ≤ 161), (by omega : (161 : Int) < K)⟩) (hr 156 _ rfl) (by decide) ?_
    refine Rn_pure 2 (i' := 21) (L' := [some (2, 161), some (0, p1), some (0, p2), some (0, p3)]) (st' := [(2, 161), (0, p2), (2, 181)]) rfl ?_
    refine Rn_getR rfl (⟨rfl, (by omega : (0 : Int) ≤ 161), (by omega : (161 : Int) < K)⟩) (hr 153 _ rfl) (by decide) ?_
    refine Rn_pure 1 (i' := 23) (L' := [some (2, 161), some (0, p1), some (0, p2), some (0, p3)]) (st' := [(0, 0), (2, 178), (0, p2), (2, 181)]) rfl ?_
    obtain ⟨hg, h⟩ := h
    refine Rn_iald rfl (⟨rfl, (by omega : (0 : Int) ≤ 178), (by omega : (178 : Int) < K)⟩) hg ?_
    obtain ⟨hg, h⟩ := h
    refine Rn_iast rfl (⟨rfl, (by omega : (0 : Int) ≤ 181), (by omega : (181 : Int) < K)⟩) hg (fun g4 he_g4 => ?_)
    have h := h g4 he_g4
    refine Rn_pure 1 (i' := 117) (L' := [some (2, 161), some (0, p1), some (0, p2), some (0, p3)]) (st' := []) rfl ?_
    exact Rn_ret0 rfl h
  have ht26 : (wr p1 = 1) → ab_Rn m_M_applies 26 [some (2, 161), some (0, p1), some (0, p2), some (0, p3)] [] (K, S, g, r) (ab_Qv K S P) := by
    intro hc
    have h := h.2.1 hc
    refine Rn_pure 1 (i' := 27) (L' := [some (2, 161), some (0, p1), some (0, p2), some (0, p3)]) (st' := [(2, 161)]) rfl ?_
    refine Rn_getR rfl (⟨rfl, (by omega : (0 : Int) ≤ 161), (by omega : (161 : Int) < K)⟩) (hr 154 _ rfl) (by decide) ?_
    refine Rn_pure 2 (i' := 30) (L' := [some (2, 161), some (0, p1), some (0, p2), some (0, p3)]) (st' := [(0, p2), (2, 179), (0, p2), (2, 179)]) rfl ?_
    obtain ⟨hg, h⟩ := h
    refine Rn_iald rfl (⟨rfl, (by omega : (0 : Int) ≤ 179), (by omega : (179 : Int) < K)⟩) hg ?_
    refine Rn_pure 1 (i' := 32) (L' := [some (2, 161), some (0, p1), some (0, p2), some (0, p3)]) (st' := [(2, 161), (0, g 179 p2), (0, p2), (2, 179)]) rfl ?_
    refine Rn_getR rfl (⟨rfl, (by omega : (0 : Int) ≤ 161), (by omega : (161 : Int) < K)⟩) (hr 153 _ rfl) (by decide) ?_
    refine Rn_pure 1 (i' := 34) (L' := [some (2, 161), some (0, p1), some (0, p2), some (0, p3)]) (st' := [(0, 0), (2, 178), (0, g 179 p2), (0, p2), (2, 179)]) rfl ?_
    obtain ⟨hg, h⟩ := h
    refine Rn_iald rfl (⟨rfl, (by omega : (0 : Int) ≤ 178), (by omega : (178 : Int) < K)⟩) hg ?_
    refine Rn_pure 1 (i' := 36) (L' := [some (2, 161), some (0, p1), some (0, p2), some (0, p3)]) (st' := [(2, 161), (0, g 178 0), (0, g 179 p2), (0, p2), (2, 179)]) rfl ?_
    refine Rn_getR rfl (⟨rfl, (by omega : (0 : Int) ≤ 161), (by omega : (161 : Int) < K)⟩) (hr 153 _ rfl) (by decide) ?_
    refine Rn_pure 1 (i' := 38) (L' := [some (2, 161), some (0, p1), some (0, p2), some (0, p3)]) (st' := [(0, 1), (2, 178), (0, g 178 0), (0, g 179 p2), (0, p2), (2, 179)]) rfl ?_
    obtain ⟨hg, h⟩ := h
    refine Rn_iald rfl (⟨rfl, (by omega : (0 : Int) ≤ 178), (by omega : (178 : Int) < K)⟩) hg ?_
    refine Rn_pure 2 (i' := 41) (L' := [some (2, 161), some (0, p1), some (0, p2), some (0, p3)]) (st' := [(0, g 179 p2 + (g 178 0 - (g 178 1))), (0, p2), (2, 179)]) rfl ?_
    obtain ⟨hg, h⟩ := h
    refine Rn_iast rfl (⟨rfl, (by omega : (0 : Int) ≤ 179), (by omega : (179 : Int) < K)⟩) hg (fun g5 he_g5 => ?_)
    have h := h g5 he_g5
    refine Rn_pure 1 (i' := 117) (L' := [some (2, 161), some (0, p1), some (0, p2), some (0, p3)]) (st' := []) rfl ?_
    exact Rn_ret0 rfl h
  have ht43 : (wr p1 = 2) → ab_Rn m_M_applies 43 [some (2, 161), some (0, p1), some (0, p2), some (0, p3)] [] (K, S, g, r) (ab_Qv K S P) := by
    intro hc
    have h := h.2.2.1 hc
    refine Rn_pure 1 (i' := 44) (L' := [some (2, 161), some (0, p1), some (0, p2), some (0, p3)]) (st' := [(2, 161)]) rfl ?_
    refine Rn_getR rfl (⟨rfl, (by omega : (0 : Int) ≤ 161), (by omega : (161 : Int) < K)⟩) (hr 154 _ rfl) (by decide) ?_
    refine Rn_pure 2 (i' := 47) (L' := [some (2, 161), some (0, p1), some (0, p2), some (0, p3)]) (st' := [(0, p2), (2, 179), (0, p2), (2, 179)]) rfl ?_
    obtain ⟨hg, h⟩ := h
    refine Rn_iald rfl (⟨rfl, (by omega : (0 : Int) ≤ 179), (by omega : (179 : Int) < K)⟩) hg ?_
    refine Rn_pure 1 (i' := 49) (L' := [some (2, 161), some (0, p1), some (0, p2), some (0, p3)]) (st' := [(2, 161), (0, g 179 p2), (0, p2), (2, 179)]) rfl ?_
    refine Rn_getR rfl (⟨rfl, (by omega : (0 : Int) ≤ 161), (by omega : (161 : Int) < K)⟩) (hr 153 _ rfl) (by decide) ?_
    refine Rn_pure 1 (i' := 51) (L' := [some (2, 161), some (0, p1), some (0, p2), some (0, p3)]) (st' := [(0, 0), (2, 178), (0, g 179 p2), (0, p2), (2, 179)]) rfl ?_
    obtain ⟨hg, h⟩ := h
    refine Rn_iald rfl (⟨rfl, (by omega : (0 : Int) ≤ 178), (by omega : (178 : Int) < K)⟩) hg ?_
    refine Rn_pure 1 (i' := 53) (L' := [some (2, 161), some (0, p1), some (0, p2), some (0, p3)]) (st' := [(2, 161), (0, g 178 0), (0, g 179 p2), (0, p2), (2, 179)]) rfl ?_
    refine Rn_getR rfl (⟨rfl, (by omega : (0 : Int) ≤ 161), (by omega : (161 : Int) < K)⟩) (hr 153 _ rfl) (by decide) ?_
    refine Rn_pure 1 (i' := 55) (L' := [some (2, 161), some (0, p1), some (0, p2), some (0, p3)]) (st' := [(0, 1), (2, 178), (0, g 178 0), (0, g 179 p2), (0, p2), (2, 179)]) rfl ?_
    obtain ⟨hg, h⟩ := h
    refine Rn_iald rfl (⟨rfl, (by omega : (0 : Int) ≤ 178), (by omega : (178 : Int) < K)⟩) hg ?_
    refine Rn_pure 2 (i' := 58) (L' := [some (2, 161), some (0, p1), some (0, p2), some (0, p3)]) (st' := [(0, g 179 p2 - (g 178 0 + (g 178 1))), (0, p2), (2, 179)]) rfl ?_
    obtain ⟨hg, h⟩ := h
    refine Rn_iast rfl (⟨rfl, (by omega : (0 : Int) ≤ 179), (by omega : (179 : Int) < K)⟩) hg (fun g6 he_g6 => ?_)
    have h := h g6 he_g6
    refine Rn_pure 1 (i' := 117) (L' := [some (2, 161), some (0, p1), some (0, p2), some (0, p3)]) (st' := []) rfl ?_
    exact Rn_ret0 rfl h
  have ht60 : (wr p1 = 3) → ab_Rn m_M_applies 60 [some (2, 161), some (0, p1), some (0, p2), some (0, p3)] [] (K, S, g, r) (ab_Qv K S P) := by
    intro hc
    have h := h.2.2.2.1 hc
    refine Rn_pure 1 (i' := 61) (L' := [some (2, 161), some (0, p1), some (0, p2), some (0, p3)]) (st' := [(2, 161)]) rfl ?_
    refine Rn_getR rfl (⟨rfl, (by omega : (0 : Int) ≤ 161), (by omega : (161 : Int) < K)⟩) (hr 155 _ rfl) (by decide) ?_
    refine Rn_pure 2 (i' := 64) (L' := [some (2, 161), some (0, p1), some (0, p2), some (0, p3)]) (st' := [(0, p2), (2, 180), (0, p2), (2, 180)]) rfl ?_
    obtain ⟨hg, h⟩ := h
    refine Rn_iald rfl (⟨rfl, (by omega : (0 : Int) ≤ 180), (by omega : (180 : Int) < K)⟩) hg ?_
    refine Rn_pure 1 (i' := 66) (L' := [some (2, 161), some (0, p1), some (0, p2), some (0, p3)]) (st' := [(2, 161), (0, g 180 p2), (0, p2), (2, 180)]) rfl ?_
    refine Rn_getR rfl (⟨rfl, (by omega : (0 : Int) ≤ 161), (by omega : (161 : Int) < K)⟩) (hr 153 _ rfl) (by decide) ?_
    refine Rn_pure 1 (i' := 68) (L' := [some (2, 161), some (0, p1), some (0, p2), some (0, p3)]) (st' := [(0, 0), (2, 178), (0, g 180 p2), (0, p2), (2, 180)]) rfl ?_
    obtain ⟨hg, h⟩ := h
    refine Rn_iald rfl (⟨rfl, (by omega : (0 : Int) ≤ 178), (by omega : (178 : Int) < K)⟩) hg ?_
    refine Rn_pure 1 (i' := 70) (L' := [some (2, 161), some (0, p1), some (0, p2), some (0, p3)]) (st' := [(0, g 180 p2 + (g 178 0)), (0, p2), (2, 180)]) rfl ?_
    obtain ⟨hg, h⟩ := h
    refine Rn_iast rfl (⟨rfl, (by omega : (0 : Int) ≤ 180), (by omega : (180 : Int) < K)⟩) hg (fun g7 he_g7 => ?_)
    have h := h g7 he_g7
    refine Rn_pure 1 (i' := 117) (L' := [some (2, 161), some (0, p1), some (0, p2), some (0, p3)]) (st' := []) rfl ?_
    exact Rn_ret0 rfl h
  have ht72 : (wr p1 = 4) → ab_Rn m_M_applies 72 [some (2, 161), some (0, p1), some (0, p2), some (0, p3)] [] (K, S, g, r) (ab_Qv K S P) := by
    intro hc
    have h := h.2.2.2.2.1 hc
    refine Rn_pure 1 (i' := 73) (L' := [some (2, 161), some (0, p1), some (0, p2), some (0, p3)]) (st' := [(2, 161)]) rfl ?_
    refine Rn_getR rfl (⟨rfl, (by omega : (0 : Int) ≤ 161), (by omega : (161 : Int) < K)⟩) (hr 155 _ rfl) (by decide) ?_
    refine Rn_pure 2 (i' := 76) (L' := [some (2, 161), some (0, p1), some (0, p2), some (0, p3)]) (st' := [(0, p2), (2, 180), (0, p2), (2, 180)]) rfl ?_
    obtain ⟨hg, h⟩ := h
    refine Rn_iald rfl (⟨rfl, (by omega : (0 : Int) ≤ 180), (by omega : (180 : Int) < K)⟩) hg ?_
    refine Rn_pure 1 (i' := 78) (L' := [some (2, 161), some (0, p1), some (0, p2), some (0, p3)]) (st' := [(2, 161), (0, g 180 p2), (0, p2), (2, 180)]) rfl ?_
    refine Rn_getR rfl (⟨rfl, (by omega : (0 : Int) ≤ 161), (by omega : (161 : Int) < K)⟩) (hr 153 _ rfl) (by decide) ?_
    refine Rn_pure 1 (i' := 80) (L' := [some (2, 161), some (0, p1), some (0, p2), some (0, p3)]) (st' := [(0, 0), (2, 178), (0, g 180 p2), (0, p2), (2, 180)]) rfl ?_
    obtain ⟨hg, h⟩ := h
    refine Rn_iald rfl (⟨rfl, (by omega : (0 : Int) ≤ 178), (by omega : (178 : Int) < K)⟩) hg ?_
    refine Rn_pure 1 (i' := 82) (L' := [some (2, 161), some (0, p1), some (0, p2), some (0, p3)]) (st' := [(0, g 180 p2 - (g 178 0)), (0, p2), (2, 180)]) rfl ?_
    obtain ⟨hg, h⟩ := h
    refine Rn_iast rfl (⟨rfl, (by omega : (0 : Int) ≤ 180), (by omega : (180 : Int) < K)⟩) hg (fun g8 he_g8 => ?_)
    have h := h g8 he_g8
    refine Rn_pure 1 (i' := 117) (L' := [some (2, 161), some (0, p1), some (0, p2), some (0, p3)]) (st' := []) rfl ?_
    exact Rn_ret0 rfl h
  have ht84 : (wr p1 = 5) → ab_Rn m_M_applies 84 [some (2, 161), some (0, p1), some (0, p2), some (0, p3)] [] (K, S, g, r) (ab_Qv K S P) := by
    intro hc
    have h := h.2.2.2.2.2.1 hc
    refine Rn_pure 1 (i' := 85) (L' := [some (2, 161), some (0, p1), some (0, p2), some (0, p3)]) (st' := [(2, 161)]) rfl ?_
    refine Rn_getR rfl (⟨rfl, (by omega : (0 : Int) ≤ 161), (by omega : (161 : Int) < K)⟩) (hr 157 _ rfl) (by decide) ?_
    refine Rn_pure 2 (i' := 88) (L' := [some (2, 161), some (0, p1), some (0, p2), some (0, p3)]) (st' := [(0, 0), (0, p2), (2, 182)]) rfl ?_
    obtain ⟨hg, h⟩ := h
    refine Rn_zast rfl (⟨rfl, (by omega : (0 : Int) ≤ 182), (by omega : (182 : Int) < K)⟩) hg (by decide) (fun g9 he_g9 => ?_)
    have h := h g9 he_g9
    refine Rn_pure 1 (i' := 117) (L' := [some (2, 161), some (0, p1), some (0, p2), some (0, p3)]) (st' := []) rfl ?_
    exact Rn_ret0 rfl h
  have htd : (wr p1 < 0 ∨ 6 ≤ wr p1) → ab_Rn m_M_applies 90 [some (2, 161), some (0, p1), some (0, p2), some (0, p3)] [] (K, S, g, r) (ab_Qv K S P) := by
    intro hc
    have h := h.2.2.2.2.2.2 hc
    refine Rn_pure 1 (i' := 91) (L' := [some (2, 161), some (0, p1), some (0, p2), some (0, p3)]) (st' := [(2, 161)]) rfl ?_
    refine Rn_getR rfl (⟨rfl, (by omega : (0 : Int) ≤ 161), (by omega : (161 : Int) < K)⟩) (hr 154 _ rfl) (by decide) ?_
    refine Rn_pure 2 (i' := 94) (L' := [some (2, 161), some (0, p1), some (0, p2), some (0, p3)]) (st' := [(0, p2), (2, 179), (0, p2), (2, 179)]) rfl ?_
    obtain ⟨hg, h⟩ := h
    refine Rn_iald rfl (⟨rfl, (by omega : (0 : Int) ≤ 179), (by omega : (179 : Int) < K)⟩) hg ?_
    refine Rn_pure 1 (i' := 96) (L' := [some (2, 161), some (0, p1), some (0, p2), some (0, p3)]) (st' := [(2, 161), (0, g 179 p2), (0, p2), (2, 179)]) rfl ?_
    refine Rn_getR rfl (⟨rfl, (by omega : (0 : Int) ≤ 161), (by omega : (161 : Int) < K)⟩) (hr 153 _ rfl) (by decide) ?_
    refine Rn_pure 1 (i' := 98) (L' := [some (2, 161), some (0, p1), some (0, p2), some (0, p3)]) (st' := [(0, 0), (2, 178), (0, g 179 p2), (0, p2), (2, 179)]) rfl ?_
    obtain ⟨hg, h⟩ := h
    refine Rn_iald rfl (⟨rfl, (by omega : (0 : Int) ≤ 178), (by omega : (178 : Int) < K)⟩) hg ?_
    refine Rn_pure 1 (i' := 100) (L' := [some (2, 161), some (0, p1), some (0, p2), some (0, p3)]) (st' := [(2, 161), (0, g 178 0), (0, g 179 p2), (0, p2), (2, 179)]) rfl ?_
    refine Rn_getR rfl (⟨rfl, (by omega : (0 : Int) ≤ 161), (by omega : (161 : Int) < K)⟩) (hr 153 _ rfl) (by decide) ?_
    refine Rn_pure 1 (i' := 102) (L' := [some (2, 161), some (0, p1), some (0, p2), some (0, p3)]) (st' := [(0, 1), (2, 178), (0, g 178 0), (0, g 179 p2), (0, p2), (2, 179)]) rfl ?_
    obtain ⟨hg, h⟩ := h
    refine Rn_iald rfl (⟨rfl, (by omega : (0 : Int) ≤ 178), (by omega : (178 : Int) < K)⟩) hg ?_
    refine Rn_pure 2 (i' := 105) (L' := [some (2, 161), some (0, p1), some (0, p2), some (0, p3)]) (st' := [(0, g 179 p2 - (g 178 0 + (g 178 1))), (0, p2), (2, 179)]) rfl ?_
    obtain ⟨hg, h⟩ := h
    refine Rn_iast rfl (⟨rfl, (by omega : (0 : Int) ≤ 179), (by omega : (179 : Int) < K)⟩) hg (fun g10 he_g10 => ?_)
    have h := h g10 he_g10
    refine Rn_pure 1 (i' := 107) (L' := [some (2, 161), some (0, p1), some (0, p2), some (0, p3)]) (st' := [(2, 161)]) rfl ?_
    refine Rn_getR rfl (⟨rfl, (by omega : (0 : Int) ≤ 161), (by omega : (161 : Int) < K)⟩) (hr 154 _ rfl) (by decide) ?_
    refine Rn_pure 2 (i' := 110) (L' := [some (2, 161), some (0, p1), some (0, p2), some (0, p3)]) (st' := [(0, p3), (2, 179), (0, p3), (2, 179)]) rfl ?_
    obtain ⟨hg, h⟩ := h
    refine Rn_iald rfl (⟨rfl, (by omega : (0 : Int) ≤ 179), (by omega : (179 : Int) < K)⟩) hg ?_
    refine Rn_pure 1 (i' := 112) (L' := [some (2, 161), some (0, p1), some (0, p2), some (0, p3)]) (st' := [(2, 161), (0, g10 179 p3), (0, p3), (2, 179)]) rfl ?_
    refine Rn_getR rfl (⟨rfl, (by omega : (0 : Int) ≤ 161), (by omega : (161 : Int) < K)⟩) (hr 153 _ rfl) (by decide) ?_
    refine Rn_pure 1 (i' := 114) (L' := [some (2, 161), some (0, p1), some (0, p2), some (0, p3)]) (st' := [(0, 0), (2, 178), (0, g10 179 p3), (0, p3), (2, 179)]) rfl ?_
    obtain ⟨hg, h⟩ := h
    refine Rn_iald rfl (⟨rfl, (by omega : (0 : Int) ≤ 178), (by omega : (178 : Int) < K)⟩) hg ?_
    refine Rn_pure 1 (i' := 116) (L' := [some (2, 161), some (0, p1), some (0, p2), some (0, p3)]) (st' := [(0, g10 179 p3 + (g10 178 0)), (0, p3), (2, 179)]) rfl ?_
    obtain ⟨hg, h⟩ := h
    refine Rn_iast rfl (⟨rfl, (by omega : (0 : Int) ≤ 179), (by omega : (179 : Int) < K)⟩) hg (fun g11 he_g11 => ?_)
    have h := h g11 he_g11
    exact Rn_ret0 rfl h
  have hsp : wr p1 < 0 ∨ 6 ≤ wr p1 ∨ wr p1 = 0 ∨ wr p1 = 1 ∨ wr p1 = 2 ∨ wr p1 = 3 ∨ wr p1 = 4 ∨ wr p1 = 5 := by omega
  rcases hsp with hc | hc | hc | hc | hc | hc | hc | hc
  · rw [ab_ts_out (hT := (rfl : ab_nth ab_tsL 5 = some (0, 90, [2, 26, 43, 60, 72, 84]))) rfl (Or.inl hc)]; exact htd (by simp only [hc, true_or, or_true])
  · rw [ab_ts_out (hT := (rfl : ab_nth ab_tsL 5 = some (0, 90, [2, 26, 43, 60, 72, 84]))) rfl (Or.inr hc)]; exact htd (by simp only [hc, true_or, or_true])
  · rw [ab_ts_in (j := 0) (hT := (rfl : ab_nth ab_tsL 5 = some (0, 90, [2, 26, 43, 60, 72, 84]))) (by rw [hc]; rfl) rfl]; exact ht2 (by simp only [hc, true_or, or_true])
  · rw [ab_ts_in (j := 1) (hT := (rfl : ab_nth ab_tsL 5 = some (0, 90, [2, 26, 43, 60, 72, 84]))) (by rw [hc]; rfl) rfl]; exact ht26 (by simp only [hc, true_or, or_true])
  · rw [ab_ts_in (j := 2) (hT := (rfl : ab_nth ab_tsL 5 = some (0, 90, [2, 26, 43, 60, 72, 84]))) (by rw [hc]; rfl) rfl]; exact ht43 (by simp only [hc, true_or, or_true])
  · rw [ab_ts_in (j := 3) (hT := (rfl : ab_nth ab_tsL 5 = some (0, 90, [2, 26, 43, 60, 72, 84]))) (by rw [hc]; rfl) rfl]; exact ht60 (by simp only [hc, true_or, or_true])
  · rw [ab_ts_in (j := 4) (hT := (rfl : ab_nth ab_tsL 5 = some (0, 90, [2, 26, 43, 60, 72, 84]))) (by rw [hc]; rfl) rfl]; exact ht72 (by simp only [hc, true_or, or_true])
  · rw [ab_ts_in (j := 5) (hT := (rfl : ab_nth ab_tsL 5 = some (0, 90, [2, 26, 43, 60, 72, 84]))) (by rw [hc]; rfl) rfl]; exact ht84 (by simp only [hc, true_or, or_true])
-- EventLedgerModel.replays (IIII)V
theorem v_M_replays {K : Int} {S : Nat} {g r : ab_H} {p1 p2 p3 p4 : Int} (P : ab_H → ab_H → Prop) (hr : SI r) (hK : 185 ≤ K) (h : ab_Rn m_M_replays 2 [some (2, 161), some (0, p1), some (0, p2), some (0, p3), some (0, p4), some (0, 0), none, none, none] [] (K, S, g, r) (ab_Qv K S P)) : ab_RV m_M_replays [(2, 161), (0, p1), (0, p2), (0, p3), (0, p4)] K S g r P := by
  show ab_Rn m_M_replays 0 [some (2, 161), some (0, p1), some (0, p2), some (0, p3), some (0, p4), none, none, none, none] [] (K, S, g, r) (ab_Qv K S P)
  refine Rn_pure 2 (i' := 2) (L' := [some (2, 161), some (0, p1), some (0, p2), some (0, p3), some (0, p4), some (0, 0), none, none, none]) (st' := []) rfl ?_
  exact h
theorem v_M_replays_2 {K : Int} {S : Nat} {g r : ab_H} {l1 l2 l3 l4 l5 : Int} (P : ab_H → ab_H → Prop) (hr : SI r) (hK : 185 ≤ K) (h : ((wr 8 ≤ wr l5 → ∀ g1, g1 = ab_up g 161 41 (-2) → ∀ g2, g2 = ab_up g1 161 42 0 → ∀ g3, g3 = ab_up g2 161 43 (-2) → ab_Rn m_M_replays 38 [some (2, 161), some (0, l1), some (0, l2), some (0, l3), some (0, l4), some (0, 0), none, none, none] [] (K, S, g3, r) (ab_Qv K S P)) ∧ (wr l5 < wr 8 → ((0 : Int) ≤ l5 ∧ (l5 : Int) < 8) ∧ ∀ g4, g4 = ab_up g 179 l5 0 → ((0 : Int) ≤ l5 ∧ (l5 : Int) < 8) ∧ ∀ g5, g5 = ab_up g4 180 l5 0 → ((0 : Int) ≤ l5 ∧ (l5 : Int) < 8) ∧ ∀ g6, g6 = ab_up g5 181 l5 0 → ((0 : Int) ≤ l5 ∧ (l5 : Int) < 8) ∧ ∀ g7, g7 = ab_up g6 182 l5 0 → ab_Rn m_M_replays 2 [some (2, 161), some (0, l1), some (0, l2), some (0, l3), some (0, l4), some (0, l5 + 1), none, none, none] [] (K, S, g7, r) (ab_Qv K S P)))) : ab_Rn m_M_replays 2 [some (2, 161), some (0, l1), some (0, l2), some (0, l3), some (0, l4), some (0, l5), none, none, none] [] (K, S, g, r) (ab_Qv K S P) := by
  refine Rn_pure 2 (i' := 4) (L' := [some (2, 161), some (0, l1), some (0, l2), some (0, l3), some (0, l4), some (0, l5), none, none, none]) (st' := [(0, 8), (0, l5)]) rfl ?_
  refine Rn_icge rfl (fun hc => ?_) (fun hc => ?_)
  · have h := h.1 hc
    refine Rn_pure 2 (i' := 29) (L' := [some (2, 161), some (0, l1), some (0, l2), some (0, l3), some (0, l4), some (0, l5), none, none, none]) (st' := [(0, (-2)), (2, 161)]) rfl ?_
    refine Rn_putI rfl (⟨rfl, (by omega : (0 : Int) ≤ 161), (by omega : (161 : Int) < K)⟩) (fun g1 he_g1 => ?_)
    have h := h g1 he_g1
    refine Rn_pure 2 (i' := 32) (L' := [some (2, 161), some (0, l1), some (0, l2), some (0, l3), some (0, l4), some (0, l5), none, none, none]) (st' := [(0, 0), (2, 161)]) rfl ?_
    refine Rn_putI rfl (⟨rfl, (by omega : (0 : Int) ≤ 161), (by omega : (161 : Int) < K)⟩) (fun g2 he_g2 => ?_)
    have h := h g2 he_g2
    refine Rn_pure 2 (i' := 35) (L' := [some (2, 161), some (0, l1), some (0, l2), some (0, l3), some (0, l4), some (0, l5), none, none, none]) (st' := [(0, (-2)), (2, 161)]) rfl ?_
    refine Rn_putI rfl (⟨rfl, (by omega : (0 : Int) ≤ 161), (by omega : (161 : Int) < K)⟩) (fun g3 he_g3 => ?_)
    have h := h g3 he_g3
    refine Rn_pure 2 (i' := 38) (L' := [some (2, 161), some (0, l1), some (0, l2), some (0, l3), some (0, l4), some (0, 0), none, none, none]) (st' := []) rfl ?_
    exact h
  · have h := h.2 hc
    refine Rn_pure 1 (i' := 6) (L' := [some (2, 161), some (0, l1), some (0, l2), some (0, l3), some (0, l4), some (0, l5), none, none, none]) (st' := [(2, 161)]) rfl ?_
    refine Rn_getR rfl (⟨rfl, (by omega : (0 : Int) ≤ 161), (by omega : (161 : Int) < K)⟩) (hr 154 _ rfl) (by decide) ?_
    refine Rn_pure 2 (i' := 9) (L' := [some (2, 161), some (0, l1), some (0, l2), some (0, l3), some (0, l4), some (0, l5), none, none, none]) (st' := [(0, 0), (0, l5), (2, 179)]) rfl ?_
    obtain ⟨hg, h⟩ := h
    refine Rn_iast rfl (⟨rfl, (by omega : (0 : Int) ≤ 179), (by omega : (179 : Int) < K)⟩) hg (fun g4 he_g4 => ?_)
    have h := h g4 he_g4
    refine Rn_pure 1 (i' := 11) (L' := [some (2, 161), some (0, l1), some (0, l2), some (0, l3), some (0, l4), some (0, l5), none, none, none]) (st' := [(2, 161)]) rfl ?_
    refine Rn_getR rfl (⟨rfl, (by omega : (0 : Int) ≤ 161), (by omega : (161 : Int) < K)⟩) (hr 155 _ rfl) (by decide) ?_
    refine Rn_pure 2 (i' := 14) (L' := [some (2, 161), some (0, l1), some (0, l2), some (0, l3), some (0, l4), some (0, l5), none, none, none]) (st' := [(0, 0), (0, l5), (2, 180)]) rfl ?_
    obtain ⟨hg, h⟩ := h
    refine Rn_iast rfl (⟨rfl, (by omega : (0 : Int) ≤ 180), (by omega : (180 : Int) < K)⟩) hg (fun g5 he_g5 => ?_)
    have h := h g5 he_g5
    refine Rn_pure 1 (i' := 16) (L' := [some (2, 161), some (0, l1), some (0, l2), some (0, l3), some (0, l4), some (0, l5), none, none, none]) (st' := [(2, 161)]) rfl ?_
    refine Rn_getR rfl (⟨rfl, (by omega : (0 : Int) ≤ 161), (by omega : (161 : Int) < K)⟩) (hr 156 _ rfl) (by decide) ?_
    refine Rn_pure 2 (i' := 19) (L' := [some (2, 161), some (0, l1), some (0, l2), some (0, l3), some (0, l4), some (0, l5), none, none, none]) (st' := [(0, 0), (0, l5), (2, 181)]) rfl ?_
    obtain ⟨hg, h⟩ := h
    refine Rn_iast rfl (⟨rfl, (by omega : (0 : Int) ≤ 181), (by omega : (181 : Int) < K)⟩) hg (fun g6 he_g6 => ?_)
    have h := h g6 he_g6
    refine Rn_pure 1 (i' := 21) (L' := [some (2, 161), some (0, l1), some (0, l2), some (0, l3), some (0, l4), some (0, l5), none, none, none]) (st' := [(2, 161)]) rfl ?_
    refine Rn_getR rfl (⟨rfl, (by omega : (0 : Int) ≤ 161), (by omega : (161 : Int) < K)⟩) (hr 157 _ rfl) (by decide) ?_
    refine Rn_pure 2 (i' := 24) (L' := [some (2, 161), some (0, l1), some (0, l2), some (0, l3), some (0, l4), some (0, l5), none, none, none]) (st' := [(0, 0), (0, l5), (2, 182)]) rfl ?_
    obtain ⟨hg, h⟩ := h
    refine Rn_zast rfl (⟨rfl, (by omega : (0 : Int) ≤ 182), (by omega : (182 : Int) < K)⟩) hg (by decide) (fun g7 he_g7 => ?_)
    have h := h g7 he_g7
    refine Rn_pure 2 (i' := 2) (L' := [some (2, 161), some (0, l1), some (0, l2), some (0, l3), some (0, l4), some (0, l5 + 1), none, none, none]) (st' := []) rfl ?_
    exact h
theorem v_M_replays_38 {K : Int} {S : Nat} {g r : ab_H} {l1 l2 l3 l4 l5 : Int} (P : ab_H → ab_H → Prop) (hr : SI r) (hK : 185 ≤ K) (h : ((wr l1 ≤ wr l5 → P g r) ∧ (wr l5 < wr l1 → ((0 : Int) ≤ l5 ∧ (l5 : Int) < 120) ∧ ∀ g1, g1 = ab_up g 183 l5 0 → ab_RI m_M_isVoid [(2, 161), (0, l5)] K S g1 r (fun x2 g' r' => g' = g1 ∧ r' = r ∧ (((¬ wr x2 = wr 0 → ab_Rn m_M_replays 69 [some (2, 161), some (0, l1), some (0, l2), some (0, l3), some (0, l4), some (0, l5), some (0, 9 * l5), none, none] [] (K, S, g1, r) (ab_Qv K S P)) ∧ (wr x2 = wr 0 → ((wr l5 = wr l2 → ab_Rn m_M_replays 69 [some (2, 161), some (0, l1), some (0, l2), some (0, l3), some (0, l4), some (0, l5), some (0, 9 * l5), none, none] [] (K, S, g1, r) (ab_Qv K S P)) ∧ (¬ wr l5 = wr l2 → ab_RI m_M_isVoided [(2, 161), (0, l5)] K S g1 r (fun x3 g' r' => g' = g1 ∧ r' = r ∧ (((wr x3 = wr 0 → ab_Rn m_M_replays 71 [some (2, 161), some (0, l1), some (0, l2), some (0, l3), some (0, l4), some (0, l5), some (0, 9 * l5), none, none] [] (K, S, g1, r) (ab_Qv K S P)) ∧ (¬ wr x3 = wr 0 → ((0 : Int) ≤ 9 * l5 + 8 ∧ (9 * l5 + 8 : Int) < 1607) ∧ ((wr l3 < wr (g1 174 (9 * l5 + 8)) → ab_Rn m_M_replays 71 [some (2, 161), some (0, l1), some (0, l2), some (0, l3), some (0, l4), some (0, l5), some (0, 9 * l5), none, none] [] (K, S, g1, r) (ab_Qv K S P)) ∧ (wr (g1 174 (9 * l5 + 8)) ≤ wr l3 → ab_Rn m_M_replays 69 [some (2, 161), some (0, l1), some (0, l2), some (0, l3), some (0, l4), some (0, l5), some (0, 9 * l5), none, none] [] (K, S, g1, r) (ab_Qv K S P)))))))))))))))) : ab_Rn m_M_replays 38 [some (2, 161), some (0, l1), some (0, l2), some (0, l3), some (0, l4), some (0, l5), none, none, none] [] (K, S, g, r) (ab_Qv K S P) := by
  refine Rn_pure 2 (i' := 40) (L' := [some (2, 161), some (0, l1), some (0, l2), some (0, l3), some (0, l4), some (0, l5), none, none, none]) (st' := [(0, l1), (0, l5)]) rfl ?_
  refine Rn_icge rfl (fun hc => ?_) (fun hc => ?_)
  · have h := h.1 hc
    exact Rn_ret0 rfl h
  · have h := h.2 hc
    refine Rn_pure 5 (i' := 46) (L' := [some (2, 161), some (0, l1), some (0, l2), some (0, l3), some (0, l4), some (0, l5), some (0, 9 * l5), none, none]) (st' := [(2, 161)]) rfl ?_
    refine Rn_getR rfl (⟨rfl, (by omega : (0 : Int) ≤ 161), (by omega : (161 : Int) < K)⟩) (hr 158 _ rfl) (by decide) ?_
    refine Rn_pure 2 (i' := 49) (L' := [some (2, 161), some (0, l1), some (0, l2), some (0, l3), some (0, l4), some (0, l5), some (0, 9 * l5), none, none]) (st' := [(0, 0), (0, l5), (2, 183)]) rfl ?_
    obtain ⟨hg, h⟩ := h
    refine Rn_iast rfl (⟨rfl, (by omega : (0 : Int) ≤ 183), (by omega : (183 : Int) < K)⟩) hg (fun g1 he_g1 => ?_)
    have h := h g1 he_g1
    refine Rn_pure 2 (i' := 52) (L' := [some (2, 161), some (0, l1), some (0, l2), some (0, l3), some (0, l4), some (0, l5), some (0, 9 * l5), none, none]) (st' := [(0, l5), (2, 161)]) rfl ?_
    refine Rn_callI [(2, 161), (0, l5)] [] rfl rfl rfl rfl (ab_rvB_of rfl (⟨rfl, (by omega : (0 : Int) ≤ 161), (by omega : (161 : Int) < K)⟩)) ?_
    refine h.mono (fun x2 g' r' h => ?_)
    obtain ⟨hx, h⟩ := h
    replace hx := hx.symm
    subst hx
    obtain ⟨hx, h⟩ := h
    replace hx := hx.symm
    subst hx
    refine Rn_ifne rfl (fun hc => ?_) (fun hc => ?_)
    · have h := h.1 hc
      exact h
    · have h := h.2 hc
      refine Rn_pure 2 (i' := 56) (L' := [some (2, 161), some (0, l1), some (0, l2), some (0, l3), some (0, l4), some (0, l5), some (0, 9 * l5), none, none]) (st' := [(0, l2), (0, l5)]) rfl ?_
      refine Rn_iceq rfl (fun hc => ?_) (fun hc => ?_)
      · have h := h.1 hc
        exact h
      · have h := h.2 hc
        refine Rn_pure 2 (i' := 59) (L' := [some (2, 161), some (0, l1), some (0, l2), some (0, l3), some (0, l4), some (0, l5), some (0, 9 * l5), none, none]) (st' := [(0, l5), (2, 161)]) rfl ?_
        refine Rn_callI [(2, 161), (0, l5)] [] rfl rfl rfl rfl (ab_rvB_of rfl (⟨rfl, (by omega : (0 : Int) ≤ 161), (by omega : (161 : Int) < K)⟩)) ?_
        refine h.mono (fun x3 g' r' h => ?_)
        obtain ⟨hx, h⟩ := h
        replace hx := hx.symm
        subst hx
        obtain ⟨hx, h⟩ := h
        replace hx := hx.symm
        subst hx
        refine Rn_ifeq rfl (fun hc => ?_) (fun hc => ?_)
        · have h := h.1 hc
          exact h
        · have h := h.2 hc
          refine Rn_pure 1 (i' := 62) (L' := [some (2, 161), some (0, l1), some (0, l2), some (0, l3), some (0, l4), some (0, l5), some (0, 9 * l5), none, none]) (st' := [(2, 161)]) rfl ?_
          refine Rn_getR rfl (⟨rfl, (by omega : (0 : Int) ≤ 161), (by omega : (161 : Int) < K)⟩) (hr 149 _ rfl) (by decide) ?_
          refine Rn_pure 3 (i' := 66) (L' := [some (2, 161), some (0, l1), some (0, l2), some (0, l3), some (0, l4), some (0, l5), some (0, 9 * l5), none, none]) (st' := [(0, 9 * l5 + 8), (2, 174)]) rfl ?_
          obtain ⟨hg, h⟩ := h
          refine Rn_iald rfl (⟨rfl, (by omega : (0 : Int) ≤ 174), (by omega : (174 : Int) < K)⟩) hg ?_
          refine Rn_pure 1 (i' := 68) (L' := [some (2, 161), some (0, l1), some (0, l2), some (0, l3), some (0, l4), some (0, l5), some (0, 9 * l5), none, none]) (st' := [(0, l3), (0, g1 174 (9 * l5 + 8))]) rfl ?_
          refine Rn_icgt rfl (fun hc => ?_) (fun hc => ?_)
          · have h := h.1 hc
            exact h
          · have h := h.2 hc
            exact h
theorem v_M_replays_69 {K : Int} {S : Nat} {g r : ab_H} {l1 l2 l3 l4 l5 l6 : Int} (P : ab_H → ab_H → Prop) (hr : SI r) (hK : 185 ≤ K) (h : ((¬ wr 1 = wr 0 → ab_Rn m_M_replays 129 [some (2, 161), some (0, l1), some (0, l2), some (0, l3), some (0, l4), some (0, l5), none, none, none] [] (K, S, g, r) (ab_Qv K S P)) ∧ (wr 1 = wr 0 → ab_RI m_M_breaks [(2, 161), (0, l5)] K S g r (fun x2 g1 r' => r' = r ∧ (((0 : Int) ≤ l6 + 0 ∧ (l6 + 0 : Int) < 1607) ∧ ((0 : Int) ≤ l6 + 1 ∧ (l6 + 1 : Int) < 1607) ∧ ((0 : Int) ≤ l6 + 2 ∧ (l6 + 2 : Int) < 1607) ∧ ab_RI m_M_causeOf [(2, 161), (0, g1 174 (l6 + 0)), (0, g1 174 (l6 + 1)), (0, g1 174 (l6 + 2)), (0, x2)] K S g1 r (fun x3 g' r' => g' = g1 ∧ r' = r ∧ (((0 : Int) ≤ l5 ∧ (l5 : Int) < 120) ∧ ∀ g4, g4 = ab_up g1 183 l5 x3 → ((0 : Int) ≤ l5 ∧ (l5 : Int) < 120) ∧ ((¬ wr (g4 183 l5) = wr 0 → ab_Rn m_M_replays 129 [some (2, 161), some (0, l1), some (0, l2), some (0, l3), some (0, l4), some (0, l5), none, none, none] [] (K, S, g4, r) (ab_Qv K S P)) ∧ (wr (g4 183 l5) = wr 0 → ((0 : Int) ≤ l6 + 0 ∧ (l6 + 0 : Int) < 1607) ∧ ((0 : Int) ≤ l6 + 1 ∧ (l6 + 1 : Int) < 1607) ∧ ((0 : Int) ≤ l6 + 2 ∧ (l6 + 2 : Int) < 1607) ∧ ab_RV m_M_applies [(2, 161), (0, g4 174 (l6 + 0)), (0, g4 174 (l6 + 1)), (0, g4 174 (l6 + 2))] K S g4 r (fun g5 r' => r' = r ∧ (ab_Rn m_M_replays 129 [some (2, 161), some (0, l1), some (0, l2), some (0, l3), some (0, l4), some (0, l5), none, none, none] [] (K, S, g5, r) (ab_Qv K S P)))))))))))) : ab_Rn m_M_replays 69 [some (2, 161), some (0, l1), some (0, l2), some (0, l3), some (0, l4), some (0, l5), some (0, l6), none, none] [] (K, S, g, r) (ab_Qv K S P) := by
  refine Rn_pure 4 (i' := 74) (L' := [some (2, 161), some (0, l1), some (0, l2), some (0, l3), some (0, l4), some (0, l5), some (0, l6), some (0, 1), none]) (st' := [(0, 1)]) rfl ?_
  refine Rn_ifne rfl (fun hc => ?_) (fun hc => ?_)
  · have h := h.1 hc
    refine Rn_weak (L' := [some (2, 161), some (0, l1), some (0, l2), some (0, l3), some (0, l4), some (0, l5), none, none, none]) ⟨rfl, ⟨rfl, ⟨rfl, ⟨rfl, ⟨rfl, ⟨rfl, trivial⟩⟩⟩⟩⟩⟩ ?_
    exact h
  · have h := h.2 hc
    refine Rn_pure 2 (i' := 77) (L' := [some (2, 161), some (0, l1), some (0, l2), some (0, l3), some (0, l4), some (0, l5), some (0, l6), some (0, 1), none]) (st' := [(0, l5), (2, 161)]) rfl ?_
    refine Rn_callI [(2, 161), (0, l5)] [] rfl rfl rfl rfl (ab_rvB_of rfl (⟨rfl, (by omega : (0 : Int) ≤ 161), (by omega : (161 : Int) < K)⟩)) ?_
    refine h.mono (fun x2 g1 r' h => ?_)
    obtain ⟨hx, h⟩ := h
    replace hx := hx.symm
    subst hx
    refine Rn_pure 2 (i' := 80) (L' := [some (2, 161), some (0, l1), some (0, l2), some (0, l3), some (0, l4), some (0, l5), some (0, l6), some (0, 1), some (0, x2)]) (st' := [(2, 161)]) rfl ?_
    refine Rn_getR rfl (⟨rfl, (by omega : (0 : Int) ≤ 161), (by omega : (161 : Int) < K)⟩) (hr 158 _ rfl) (by decide) ?_
    refine Rn_pure 3 (i' := 84) (L' := [some (2, 161), some (0, l1), some (0, l2), some (0, l3), some (0, l4), some (0, l5), some (0, l6), some (0, 1), some (0, x2)]) (st' := [(2, 161), (2, 161), (0, l5), (2, 183)]) rfl ?_
    refine Rn_getR rfl (⟨rfl, (by omega : (0 : Int) ≤ 161), (by omega : (161 : Int) < K)⟩) (hr 149 _ rfl) (by decide) ?_
    refine Rn_pure 3 (i' := 88) (L' := [some (2, 161), some (0, l1), some (0, l2), some (0, l3), some (0, l4), some (0, l5), some (0, l6), some (0, 1), some (0, x2)]) (st' := [(0, l6 + 0), (2, 174), (2, 161), (0, l5), (2, 183)]) rfl ?_
    obtain ⟨hg, h⟩ := h
    refine Rn_iald rfl (⟨rfl, (by omega : (0 : Int) ≤ 174), (by omega : (174 : Int) < K)⟩) hg ?_
    refine Rn_pure 1 (i' := 90) (L' := [some (2, 161), some (0, l1), some (0, l2), some (0, l3), some (0, l4), some (0, l5), some (0, l6), some (0, 1), some (0, x2)]) (st' := [(2, 161), (0, g1 174 (l6 + 0)), (2, 161), (0, l5), (2, 183)]) rfl ?_
    refine Rn_getR rfl (⟨rfl, (by omega : (0 : Int) ≤ 161), (by omega : (161 : Int) < K)⟩) (hr 149 _ rfl) (by decide) ?_
    refine Rn_pure 3 (i' := 94) (L' := [some (2, 161), some (0, l1), some (0, l2), some (0, l3), some (0, l4), some (0, l5), some (0, l6), some (0, 1), some (0, x2)]) (st' := [(0, l6 + 1), (2, 174), (0, g1 174 (l6 + 0)), (2, 161), (0, l5), (2, 183)]) rfl ?_
    obtain ⟨hg, h⟩ := h
    refine Rn_iald rfl (⟨rfl, (by omega : (0 : Int) ≤ 174), (by omega : (174 : Int) < K)⟩) hg ?_
    refine Rn_pure 1 (i' := 96) (L' := [some (2, 161), some (0, l1), some (0, l2), some (0, l3), some (0, l4), some (0, l5), some (0, l6), some (0, 1), some (0, x2)]) (st' := [(2, 161), (0, g1 174 (l6 + 1)), (0, g1 174 (l6 + 0)), (2, 161), (0, l5), (2, 183)]) rfl ?_
    refine Rn_getR rfl (⟨rfl, (by omega : (0 : Int) ≤ 161), (by omega : (161 : Int) < K)⟩) (hr 149 _ rfl) (by decide) ?_
    refine Rn_pure 3 (i' := 100) (L' := [some (2, 161), some (0, l1), some (0, l2), some (0, l3), some (0, l4), some (0, l5), some (0, l6), some (0, 1), some (0, x2)]) (st' := [(0, l6 + 2), (2, 174), (0, g1 174 (l6 + 1)), (0, g1 174 (l6 + 0)), (2, 161), (0, l5), (2, 183)]) rfl ?_
    obtain ⟨hg, h⟩ := h
    refine Rn_iald rfl (⟨rfl, (by omega : (0 : Int) ≤ 174), (by omega : (174 : Int) < K)⟩) hg ?_
    refine Rn_pure 1 (i' := 102) (L' := [some (2, 161), some (0, l1), some (0, l2), some (0, l3), some (0, l4), some (0, l5), some (0, l6), some (0, 1), some (0, x2)]) (st' := [(0, x2), (0, g1 174 (l6 + 2)), (0, g1 174 (l6 + 1)), (0, g1 174 (l6 + 0)), (2, 161), (0, l5), (2, 183)]) rfl ?_
    refine Rn_callI [(2, 161), (0, g1 174 (l6 + 0)), (0, g1 174 (l6 + 1)), (0, g1 174 (l6 + 2)), (0, x2)] [(0, l5), (2, 183)] rfl rfl rfl rfl (ab_rvB_of rfl (⟨rfl, (by omega : (0 : Int) ≤ 161), (by omega : (161 : Int) < K)⟩)) ?_
    refine h.mono (fun x3 g' r' h => ?_)
    obtain ⟨hx, h⟩ := h
    replace hx := hx.symm
    subst hx
    obtain ⟨hx, h⟩ := h
    replace hx := hx.symm
    subst hx
    obtain ⟨hg, h⟩ := h
    refine Rn_iast rfl (⟨rfl, (by omega : (0 : Int) ≤ 183), (by omega : (183 : Int) < K)⟩) hg (fun g4 he_g4 => ?_)
    have h := h g4 he_g4
    refine Rn_pure 1 (i' := 105) (L' := [some (2, 161), some (0, l1), some (0, l2), some (0, l3), some (0, l4), some (0, l5), some (0, l6), some (0, 1), some (0, x2)]) (st' := [(2, 161)]) rfl ?_
    refine Rn_getR rfl (⟨rfl, (by omega : (0 : Int) ≤ 161), (by omega : (161 : Int) < K)⟩) (hr 158 _ rfl) (by decide) ?_
    refine Rn_pure 1 (i' := 107) (L' := [some (2, 161), some (0, l1), some (0, l2), some (0, l3), some (0, l4), some (0, l5), some (0, l6), some (0, 1), some (0, x2)]) (st' := [(0, l5), (2, 183)]) rfl ?_
    obtain ⟨hg, h⟩ := h
    refine Rn_iald rfl (⟨rfl, (by omega : (0 : Int) ≤ 183), (by omega : (183 : Int) < K)⟩) hg ?_
    refine Rn_ifne rfl (fun hc => ?_) (fun hc => ?_)
    · have h := h.1 hc
      refine Rn_weak (L' := [some (2, 161), some (0, l1), some (0, l2), some (0, l3), some (0, l4), some (0, l5), none, none, none]) ⟨rfl, ⟨rfl, ⟨rfl, ⟨rfl, ⟨rfl, ⟨rfl, trivial⟩⟩⟩⟩⟩⟩ ?_
      exact h
    · have h := h.2 hc
      refine Rn_pure 2 (i' := 111) (L' := [some (2, 161), some (0, l1), some (0, l2), some (0, l3), some (0, l4), some (0, l5), some (0, l6), some (0, 1), some (0, x2)]) (st' := [(2, 161), (2, 161)]) rfl ?_
      refine Rn_getR rfl (⟨rfl, (by omega : (0 : Int) ≤ 161), (by omega : (161 : Int) < K)⟩) (hr 149 _ rfl) (by decide) ?_
      refine Rn_pure 3 (i' := 115) (L' := [some (2, 161), some (0, l1), some (0, l2), some (0, l3), some (0, l4), some (0, l5), some (0, l6), some (0, 1), some (0, x2)]) (st' := [(0, l6 + 0), (2, 174), (2, 161)]) rfl ?_
      obtain ⟨hg, h⟩ := h
      refine Rn_iald rfl (⟨rfl, (by omega : (0 : Int) ≤ 174), (by omega : (174 : Int) < K)⟩) hg ?_
      refine Rn_pure 1 (i' := 117) (L' := [some (2, 161), some (0, l1), some (0, l2), some (0, l3), some (0, l4), some (0, l5), some (0, l6), some (0, 1), some (0, x2)]) (st' := [(2, 161), (0, g4 174 (l6 + 0)), (2, 161)]) rfl ?_
      refine Rn_getR rfl (⟨rfl, (by omega : (0 : Int) ≤ 161), (by omega : (161 : Int) < K)⟩) (hr 149 _ rfl) (by decide) ?_
      refine Rn_pure 3 (i' := 121) (L' := [some (2, 161), some (0, l1), some (0, l2), some (0, l3), some (0, l4), some (0, l5), some (0, l6), some (0, 1), some (0, x2)]) (st' := [(0, l6 + 1), (2, 174), (0, g4 174 (l6 + 0)), (2, 161)]) rfl ?_
      obtain ⟨hg, h⟩ := h
      refine Rn_iald rfl (⟨rfl, (by omega : (0 : Int) ≤ 174), (by omega : (174 : Int) < K)⟩) hg ?_
      refine Rn_pure 1 (i' := 123) (L' := [some (2, 161), some (0, l1), some (0, l2), some (0, l3), some (0, l4), some (0, l5), some (0, l6), some (0, 1), some (0, x2)]) (st' := [(2, 161), (0, g4 174 (l6 + 1)), (0, g4 174 (l6 + 0)), (2, 161)]) rfl ?_
      refine Rn_getR rfl (⟨rfl, (by omega : (0 : Int) ≤ 161), (by omega : (161 : Int) < K)⟩) (hr 149 _ rfl) (by decide) ?_
      refine Rn_pure 3 (i' := 127) (L' := [some (2, 161), some (0, l1), some (0, l2), some (0, l3), some (0, l4), some (0, l5), some (0, l6), some (0, 1), some (0, x2)]) (st' := [(0, l6 + 2), (2, 174), (0, g4 174 (l6 + 1)), (0, g4 174 (l6 + 0)), (2, 161)]) rfl ?_
      obtain ⟨hg, h⟩ := h
      refine Rn_iald rfl (⟨rfl, (by omega : (0 : Int) ≤ 174), (by omega : (174 : Int) < K)⟩) hg ?_
      refine Rn_callV [(2, 161), (0, g4 174 (l6 + 0)), (0, g4 174 (l6 + 1)), (0, g4 174 (l6 + 2))] [] rfl rfl rfl rfl (ab_rvB_of rfl (⟨rfl, (by omega : (0 : Int) ≤ 161), (by omega : (161 : Int) < K)⟩)) ?_
      refine h.mono (fun g5 r' h => ?_)
      obtain ⟨hx, h⟩ := h
      replace hx := hx.symm
      subst hx
      refine Rn_weak (L' := [some (2, 161), some (0, l1), some (0, l2), some (0, l3), some (0, l4), some (0, l5), none, none, none]) ⟨rfl, ⟨rfl, ⟨rfl, ⟨rfl, ⟨rfl, ⟨rfl, trivial⟩⟩⟩⟩⟩⟩ ?_
      exact h
theorem v_M_replays_71 {K : Int} {S : Nat} {g r : ab_H} {l1 l2 l3 l4 l5 l6 : Int} (P : ab_H → ab_H → Prop) (hr : SI r) (hK : 185 ≤ K) (h : ((¬ wr 0 = wr 0 → ab_Rn m_M_replays 129 [some (2, 161), some (0, l1), some (0, l2), some (0, l3), some (0, l4), some (0, l5), none, none, none] [] (K, S, g, r) (ab_Qv K S P)) ∧ (wr 0 = wr 0 → ab_RI m_M_breaks [(2, 161), (0, l5)] K S g r (fun x2 g1 r' => r' = r ∧ (((0 : Int) ≤ l6 + 0 ∧ (l6 + 0 : Int) < 1607) ∧ ((0 : Int) ≤ l6 + 1 ∧ (l6 + 1 : Int) < 1607) ∧ ((0 : Int) ≤ l6 + 2 ∧ (l6 + 2 : Int) < 1607) ∧ ab_RI m_M_causeOf [(2, 161), (0, g1 174 (l6 + 0)), (0, g1 174 (l6 + 1)), (0, g1 174 (l6 + 2)), (0, x2)] K S g1 r (fun x3 g' r' => g' = g1 ∧ r' = r ∧ (((0 : Int) ≤ l5 ∧ (l5 : Int) < 120) ∧ ∀ g4, g4 = ab_up g1 183 l5 x3 → ((0 : Int) ≤ l5 ∧ (l5 : Int) < 120) ∧ ((¬ wr (g4 183 l5) = wr 0 → ab_Rn m_M_replays 129 [some (2, 161), some (0, l1), some (0, l2), some (0, l3), some (0, l4), some (0, l5), none, none, none] [] (K, S, g4, r) (ab_Qv K S P)) ∧ (wr (g4 183 l5) = wr 0 → ((0 : Int) ≤ l6 + 0 ∧ (l6 + 0 : Int) < 1607) ∧ ((0 : Int) ≤ l6 + 1 ∧ (l6 + 1 : Int) < 1607) ∧ ((0 : Int) ≤ l6 + 2 ∧ (l6 + 2 : Int) < 1607) ∧ ab_RV m_M_applies [(2, 161), (0, g4 174 (l6 + 0)), (0, g4 174 (l6 + 1)), (0, g4 174 (l6 + 2))] K S g4 r (fun g5 r' => r' = r ∧ (ab_Rn m_M_replays 129 [some (2, 161), some (0, l1), some (0, l2), some (0, l3), some (0, l4), some (0, l5), none, none, none] [] (K, S, g5, r) (ab_Qv K S P)))))))))))) : ab_Rn m_M_replays 71 [some (2, 161), some (0, l1), some (0, l2), some (0, l3), some (0, l4), some (0, l5), some (0, l6), none, none] [] (K, S, g, r) (ab_Qv K S P) := by
  refine Rn_pure 3 (i' := 74) (L' := [some (2, 161), some (0, l1), some (0, l2), some (0, l3), some (0, l4), some (0, l5), some (0, l6), some (0, 0), none]) (st' := [(0, 0)]) rfl ?_
  refine Rn_ifne rfl (fun hc => ?_) (fun hc => ?_)
  · have h := h.1 hc
    refine Rn_weak (L' := [some (2, 161), some (0, l1), some (0, l2), some (0, l3), some (0, l4), some (0, l5), none, none, none]) ⟨rfl, ⟨rfl, ⟨rfl, ⟨rfl, ⟨rfl, ⟨rfl, trivial⟩⟩⟩⟩⟩⟩ ?_
    exact h
  · have h := h.2 hc
    refine Rn_pure 2 (i' := 77) (L' := [some (2, 161), some (0, l1), some (0, l2), some (0, l3), some (0, l4), some (0, l5), some (0, l6), some (0, 0), none]) (st' := [(0, l5), (2, 161)]) rfl ?_
    refine Rn_callI [(2, 161), (0, l5)] [] rfl rfl rfl rfl (ab_rvB_of rfl (⟨rfl, (by omega : (0 : Int) ≤ 161), (by omega : (161 : Int) < K)⟩)) ?_
    refine h.mono (fun x2 g1 r' h => ?_)
    obtain ⟨hx, h⟩ := h
    replace hx := hx.symm
    subst hx
    refine Rn_pure 2 (i' := 80) (L' := [some (2, 161), some (0, l1), some (0, l2), some (0, l3), some (0, l4), some (0, l5), some (0, l6), some (0, 0), some (0, x2)]) (st' := [(2, 161)]) rfl ?_
    refine Rn_getR rfl (⟨rfl, (by omega : (0 : Int) ≤ 161), (by omega : (161 : Int) < K)⟩) (hr 158 _ rfl) (by decide) ?_
    refine Rn_pure 3 (i' := 84) (L' := [some (2, 161), some (0, l1), some (0, l2), some (0, l3), some (0, l4), some (0, l5), some (0, l6), some (0, 0), some (0, x2)]) (st' := [(2, 161), (2, 161), (0, l5), (2, 183)]) rfl ?_
    refine Rn_getR rfl (⟨rfl, (by omega : (0 : Int) ≤ 161), (by omega : (161 : Int) < K)⟩) (hr 149 _ rfl) (by decide) ?_
    refine Rn_pure 3 (i' := 88) (L' := [some (2, 161), some (0, l1), some (0, l2), some (0, l3), some (0, l4), some (0, l5), some (0, l6), some (0, 0), some (0, x2)]) (st' := [(0, l6 + 0), (2, 174), (2, 161), (0, l5), (2, 183)]) rfl ?_
    obtain ⟨hg, h⟩ := h
    refine Rn_iald rfl (⟨rfl, (by omega : (0 : Int) ≤ 174), (by omega : (174 : Int) < K)⟩) hg ?_
    refine Rn_pure 1 (i' := 90) (L' := [some (2, 161), some (0, l1), some (0, l2), some (0, l3), some (0, l4), some (0, l5), some (0, l6), some (0, 0), some (0, x2)]) (st' := [(2, 161), (0, g1 174 (l6 + 0)), (2, 161), (0, l5), (2, 183)]) rfl ?_
    refine Rn_getR rfl (⟨rfl, (by omega : (0 : Int) ≤ 161), (by omega : (161 : Int) < K)⟩) (hr 149 _ rfl) (by decide) ?_
    refine Rn_pure 3 (i' := 94) (L' := [some (2, 161), some (0, l1), some (0, l2), some (0, l3), some (0, l4), some (0, l5), some (0, l6), some (0, 0), some (0, x2)]) (st' := [(0, l6 + 1), (2, 174), (0, g1 174 (l6 + 0)), (2, 161), (0, l5), (2, 183)]) rfl ?_
    obtain ⟨hg, h⟩ := h
    refine Rn_iald rfl (⟨rfl, (by omega : (0 : Int) ≤ 174), (by omega : (174 : Int) < K)⟩) hg ?_
    refine Rn_pure 1 (i' := 96) (L' := [some (2, 161), some (0, l1), some (0, l2), some (0, l3), some (0, l4), some (0, l5), some (0, l6), some (0, 0), some (0, x2)]) (st' := [(2, 161), (0, g1 174 (l6 + 1)), (0, g1 174 (l6 + 0)), (2, 161), (0, l5), (2, 183)]) rfl ?_
    refine Rn_getR rfl (⟨rfl, (by omega : (0 : Int) ≤ 161), (by omega : (161 : Int) < K)⟩) (hr 149 _ rfl) (by decide) ?_
    refine Rn_pure 3 (i' := 100) (L' := [some (2, 161), some (0, l1), some (0, l2), some (0, l3), some (0, l4), some (0, l5), some (0, l6), some (0, 0), some (0, x2)]) (st' := [(0, l6 + 2), (2, 174), (0, g1 174 (l6 + 1)), (0, g1 174 (l6 + 0)), (2, 161), (0, l5), (2, 183)]) rfl ?_
    obtain ⟨hg, h⟩ := h
    refine Rn_iald rfl (⟨rfl, (by omega : (0 : Int) ≤ 174), (by omega : (174 : Int) < K)⟩) hg ?_
    refine Rn_pure 1 (i' := 102) (L' := [some (2, 161), some (0, l1), some (0, l2), some (0, l3), some (0, l4), some (0, l5), some (0, l6), some (0, 0), some (0, x2)]) (st' := [(0, x2), (0, g1 174 (l6 + 2)), (0, g1 174 (l6 + 1)), (0, g1 174 (l6 + 0)), (2, 161), (0, l5), (2, 183)]) rfl ?_
    refine Rn_callI [(2, 161), (0, g1 174 (l6 + 0)), (0, g1 174 (l6 + 1)), (0, g1 174 (l6 + 2)), (0, x2)] [(0, l5), (2, 183)] rfl rfl rfl rfl (ab_rvB_of rfl (⟨rfl, (by omega : (0 : Int) ≤ 161), (by omega : (161 : Int) < K)⟩)) ?_
    refine h.mono (fun x3 g' r' h => ?_)
    obtain ⟨hx, h⟩ := h
    replace hx := hx.symm
    subst hx
    obtain ⟨hx, h⟩ := h
    replace hx := hx.symm
    subst hx
    obtain ⟨hg, h⟩ := h
    refine Rn_iast rfl (⟨rfl, (by omega : (0 : Int) ≤ 183), (by omega : (183 : Int) < K)⟩) hg (fun g4 he_g4 => ?_)
    have h := h g4 he_g4
    refine Rn_pure 1 (i' := 105) (L' := [some (2, 161), some (0, l1), some (0, l2), some (0, l3), some (0, l4), some (0, l5), some (0, l6), some (0, 0), some (0, x2)]) (st' := [(2, 161)]) rfl ?_
    refine Rn_getR rfl (⟨rfl, (by omega : (0 : Int) ≤ 161), (by omega : (161 : Int) < K)⟩) (hr 158 _ rfl) (by decide) ?_
    refine Rn_pure 1 (i' := 107) (L' := [some (2, 161), some (0, l1), some (0, l2), some (0, l3), some (0, l4), some (0, l5), some (0, l6), some (0, 0), some (0, x2)]) (st' := [(0, l5), (2, 183)]) rfl ?_
    obtain ⟨hg, h⟩ := h
    refine Rn_iald rfl (⟨rfl, (by omega : (0 : Int) ≤ 183), (by omega : (183 : Int) < K)⟩) hg ?_
    refine Rn_ifne rfl (fun hc => ?_) (fun hc => ?_)
    · have h := h.1 hc
      refine Rn_weak (L' := [some (2, 161), some (0, l1), some (0, l2), some (0, l3), some (0, l4), some (0, l5), none, none, none]) ⟨rfl, ⟨rfl, ⟨rfl, ⟨rfl, ⟨rfl, ⟨rfl, trivial⟩⟩⟩⟩⟩⟩ ?_
      exact h
    · have h := h.2 hc
      refine Rn_pure 2 (i' := 111) (L' := [some (2, 161), some (0, l1), some (0, l2), some (0, l3), some (0, l4), some (0, l5), some (0, l6), some (0, 0), some (0, x2)]) (st' := [(2, 161), (2, 161)]) rfl ?_
      refine Rn_getR rfl (⟨rfl, (by omega : (0 : Int) ≤ 161), (by omega : (161 : Int) < K)⟩) (hr 149 _ rfl) (by decide) ?_
      refine Rn_pure 3 (i' := 115) (L' := [some (2, 161), some (0, l1), some (0, l2), some (0, l3), some (0, l4), some (0, l5), some (0, l6), some (0, 0), some (0, x2)]) (st' := [(0, l6 + 0), (2, 174), (2, 161)]) rfl ?_
      obtain ⟨hg, h⟩ := h
      refine Rn_iald rfl (⟨rfl, (by omega : (0 : Int) ≤ 174), (by omega : (174 : Int) < K)⟩) hg ?_
      refine Rn_pure 1 (i' := 117) (L' := [some (2, 161), some (0, l1), some (0, l2), some (0, l3), some (0, l4), some (0, l5), some (0, l6), some (0, 0), some (0, x2)]) (st' := [(2, 161), (0, g4 174 (l6 + 0)), (2, 161)]) rfl ?_
      refine Rn_getR rfl (⟨rfl, (by omega : (0 : Int) ≤ 161), (by omega : (161 : Int) < K)⟩) (hr 149 _ rfl) (by decide) ?_
      refine Rn_pure 3 (i' := 121) (L' := [some (2, 161), some (0, l1), some (0, l2), some (0, l3), some (0, l4), some (0, l5), some (0, l6), some (0, 0), some (0, x2)]) (st' := [(0, l6 + 1), (2, 174), (0, g4 174 (l6 + 0)), (2, 161)]) rfl ?_
      obtain ⟨hg, h⟩ := h
      refine Rn_iald rfl (⟨rfl, (by omega : (0 : Int) ≤ 174), (by omega : (174 : Int) < K)⟩) hg ?_
      refine Rn_pure 1 (i' := 123) (L' := [some (2, 161), some (0, l1), some (0, l2), some (0, l3), some (0, l4), some (0, l5), some (0, l6), some (0, 0), some (0, x2)]) (st' := [(2, 161), (0, g4 174 (l6 + 1)), (0, g4 174 (l6 + 0)), (2, 161)]) rfl ?_
      refine Rn_getR rfl (⟨rfl, (by omega : (0 : Int) ≤ 161), (by omega : (161 : Int) < K)⟩) (hr 149 _ rfl) (by decide) ?_
      refine Rn_pure 3 (i' := 127) (L' := [some (2, 161), some (0, l1), some (0, l2), some (0, l3), some (0, l4), some (0, l5), some (0, l6), some (0, 0), some (0, x2)]) (st' := [(0, l6 + 2), (2, 174), (0, g4 174 (l6 + 1)), (0, g4 174 (l6 + 0)), (2, 161)]) rfl ?_
      obtain ⟨hg, h⟩ := h
      refine Rn_iald rfl (⟨rfl, (by omega : (0 : Int) ≤ 174), (by omega : (174 : Int) < K)⟩) hg ?_
      refine Rn_callV [(2, 161), (0, g4 174 (l6 + 0)), (0, g4 174 (l6 + 1)), (0, g4 174 (l6 + 2))] [] rfl rfl rfl rfl (ab_rvB_of rfl (⟨rfl, (by omega : (0 : Int) ≤ 161), (by omega : (161 : Int) < K)⟩)) ?_
      refine h.mono (fun g5 r' h => ?_)
      obtain ⟨hx, h⟩ := h
      replace hx := hx.symm
      subst hx
      refine Rn_weak (L' := [some (2, 161), some (0, l1), some (0, l2), some (0, l3), some (0, l4), some (0, l5), none, none, none]) ⟨rfl, ⟨rfl, ⟨rfl, ⟨rfl, ⟨rfl, ⟨rfl, trivial⟩⟩⟩⟩⟩⟩ ?_
      exact h
theorem v_M_replays_129 {K : Int} {S : Nat} {g r : ab_H} {l1 l2 l3 l4 l5 : Int} (P : ab_H → ab_H → Prop) (hr : SI r) (hK : 185 ≤ K) (h : ((¬ wr l4 = wr (-1) → ((0 : Int) ≤ l4 ∧ (l4 : Int) < 8) ∧ ((wr 0 ≤ wr (g 179 l4) → ab_Rn m_M_replays 145 [some (2, 161), some (0, l1), some (0, l2), some (0, l3), some (0, l4), some (0, l5), none, none, none] [] (K, S, g, r) (ab_Qv K S P)) ∧ (wr (g 179 l4) < wr 0 → ((¬ wr (g 161 41) = wr (-2) → ab_Rn m_M_replays 145 [some (2, 161), some (0, l1), some (0, l2), some (0, l3), some (0, l4), some (0, l5), none, none, none] [] (K, S, g, r) (ab_Qv K S P)) ∧ (wr (g 161 41) = wr (-2) → ∀ g1, g1 = ab_up g 161 41 l5 → ab_Rn m_M_replays 145 [some (2, 161), some (0, l1), some (0, l2), some (0, l3), some (0, l4), some (0, l5), none, none, none] [] (K, S, g1, r) (ab_Qv K S P)))))) ∧ (wr l4 = wr (-1) → ab_Rn m_M_replays 161 [some (2, 161), some (0, l1), some (0, l2), some (0, l3), some (0, l4), some (0, l5), none, none, none] [] (K, S, g, r) (ab_Qv K S P)))) : ab_Rn m_M_replays 129 [some (2, 161), some (0, l1), some (0, l2), some (0, l3), some (0, l4), some (0, l5), none, none, none] [] (K, S, g, r) (ab_Qv K S P) := by
  refine Rn_pure 2 (i' := 131) (L' := [some (2, 161), some (0, l1), some (0, l2), some (0, l3), some (0, l4), some (0, l5), none, none, none]) (st' := [(0, (-1)), (0, l4)]) rfl ?_
  refine Rn_icne rfl (fun hc => ?_) (fun hc => ?_)
  · have h := h.1 hc
    refine Rn_pure 1 (i' := 134) (L' := [some (2, 161), some (0, l1), some (0, l2), some (0, l3), some (0, l4), some (0, l5), none, none, none]) (st' := [(2, 161)]) rfl ?_
    refine Rn_getR rfl (⟨rfl, (by omega : (0 : Int) ≤ 161), (by omega : (161 : Int) < K)⟩) (hr 154 _ rfl) (by decide) ?_
    refine Rn_pure 1 (i' := 136) (L' := [some (2, 161), some (0, l1), some (0, l2), some (0, l3), some (0, l4), some (0, l5), none, none, none]) (st' := [(0, l4), (2, 179)]) rfl ?_
    obtain ⟨hg, h⟩ := h
    refine Rn_iald rfl (⟨rfl, (by omega : (0 : Int) ≤ 179), (by omega : (179 : Int) < K)⟩) hg ?_
    refine Rn_ifge rfl (fun hc => ?_) (fun hc => ?_)
    · have h := h.1 hc
      exact h
    · have h := h.2 hc
      refine Rn_pure 1 (i' := 139) (L' := [some (2, 161), some (0, l1), some (0, l2), some (0, l3), some (0, l4), some (0, l5), none, none, none]) (st' := [(2, 161)]) rfl ?_
      refine Rn_getI rfl (⟨rfl, (by omega : (0 : Int) ≤ 161), (by omega : (161 : Int) < K)⟩) ?_
      refine Rn_pure 1 (i' := 141) (L' := [some (2, 161), some (0, l1), some (0, l2), some (0, l3), some (0, l4), some (0, l5), none, none, none]) (st' := [(0, (-2)), (0, g 161 41)]) rfl ?_
      refine Rn_icne rfl (fun hc => ?_) (fun hc => ?_)
      · have h := h.1 hc
        exact h
      · have h := h.2 hc
        refine Rn_pure 2 (i' := 144) (L' := [some (2, 161), some (0, l1), some (0, l2), some (0, l3), some (0, l4), some (0, l5), none, none, none]) (st' := [(0, l5), (2, 161)]) rfl ?_
        refine Rn_putI rfl (⟨rfl, (by omega : (0 : Int) ≤ 161), (by omega : (161 : Int) < K)⟩) (fun g1 he_g1 => ?_)
        have h := h g1 he_g1
        exact h
  · have h := h.2 hc
    refine Rn_pure 1 (i' := 161) (L' := [some (2, 161), some (0, l1), some (0, l2), some (0, l3), some (0, l4), some (0, l5), none, none, none]) (st' := []) rfl ?_
    exact h
theorem v_M_replays_145 {K : Int} {S : Nat} {g r : ab_H} {l1 l2 l3 l4 l5 : Int} (P : ab_H → ab_H → Prop) (hr : SI r) (hK : 185 ≤ K) (h : ((0 : Int) ≤ l4 ∧ (l4 : Int) < 8) ∧ ((wr (g 179 l4) ≤ wr (g 161 42) → ab_Rn m_M_replays 161 [some (2, 161), some (0, l1), some (0, l2), some (0, l3), some (0, l4), some (0, l5), none, none, none] [] (K, S, g, r) (ab_Qv K S P)) ∧ (wr (g 161 42) < wr (g 179 l4) → ((0 : Int) ≤ l4 ∧ (l4 : Int) < 8) ∧ ∀ g1, g1 = ab_up g 161 42 (g 179 l4) → ∀ g2, g2 = ab_up g1 161 43 l5 → ab_Rn m_M_replays 161 [some (2, 161), some (0, l1), some (0, l2), some (0, l3), some (0, l4), some (0, l5), none, none, none] [] (K, S, g2, r) (ab_Qv K S P)))) : ab_Rn m_M_replays 145 [some (2, 161), some (0, l1), some (0, l2), some (0, l3), some (0, l4), some (0, l5), none, none, none] [] (K, S, g, r) (ab_Qv K S P) := by
  refine Rn_pure 1 (i' := 146) (L' := [some (2, 161), some (0, l1), some (0, l2), some (0, l3), some (0, l4), some (0, l5), none, none, none]) (st' := [(2, 161)]) rfl ?_
  refine Rn_getR rfl (⟨rfl, (by omega : (0 : Int) ≤ 161), (by omega : (161 : Int) < K)⟩) (hr 154 _ rfl) (by decide) ?_
  refine Rn_pure 1 (i' := 148) (L' := [some (2, 161), some (0, l1), some (0, l2), some (0, l3), some (0, l4), some (0, l5), none, none, none]) (st' := [(0, l4), (2, 179)]) rfl ?_
  obtain ⟨hg, h⟩ := h
  refine Rn_iald rfl (⟨rfl, (by omega : (0 : Int) ≤ 179), (by omega : (179 : Int) < K)⟩) hg ?_
  refine Rn_pure 1 (i' := 150) (L' := [some (2, 161), some (0, l1), some (0, l2), some (0, l3), some (0, l4), some (0, l5), none, none, none]) (st' := [(2, 161), (0, g 179 l4)]) rfl ?_
  refine Rn_getI rfl (⟨rfl, (by omega : (0 : Int) ≤ 161), (by omega : (161 : Int) < K)⟩) ?_
  refine Rn_icle rfl (fun hc => ?_) (fun hc => ?_)
  · have h := h.1 hc
    exact h
  · have h := h.2 hc
    refine Rn_pure 2 (i' := 154) (L' := [some (2, 161), some (0, l1), some (0, l2), some (0, l3), some (0, l4), some (0, l5), none, none, none]) (st' := [(2, 161), (2, 161)]) rfl ?_
    refine Rn_getR rfl (⟨rfl, (by omega : (0 : Int) ≤ 161), (by omega : (161 : Int) < K)⟩) (hr 154 _ rfl) (by decide) ?_
    refine Rn_pure 1 (i' := 156) (L' := [some (2, 161), some (0, l1), some (0, l2), some (0, l3), some (0, l4), some (0, l5), none, none, none]) (st' := [(0, l4), (2, 179), (2, 161)]) rfl ?_
    obtain ⟨hg, h⟩ := h
    refine Rn_iald rfl (⟨rfl, (by omega : (0 : Int) ≤ 179), (by omega : (179 : Int) < K)⟩) hg ?_
    refine Rn_putI rfl (⟨rfl, (by omega : (0 : Int) ≤ 161), (by omega : (161 : Int) < K)⟩) (fun g1 he_g1 => ?_)
    have h := h g1 he_g1
    refine Rn_pure 2 (i' := 160) (L' := [some (2, 161), some (0, l1), some (0, l2), some (0, l3), some (0, l4), some (0, l5), none, none, none]) (st' := [(0, l5), (2, 161)]) rfl ?_
    refine Rn_putI rfl (⟨rfl, (by omega : (0 : Int) ≤ 161), (by omega : (161 : Int) < K)⟩) (fun g2 he_g2 => ?_)
    have h := h g2 he_g2
    exact h
theorem v_M_replays_161 {K : Int} {S : Nat} {g r : ab_H} {l1 l2 l3 l4 l5 : Int} (P : ab_H → ab_H → Prop) (hr : SI r) (hK : 185 ≤ K) (h : ab_Rn m_M_replays 38 [some (2, 161), some (0, l1), some (0, l2), some (0, l3), some (0, l4), some (0, l5 + 1), none, none, none] [] (K, S, g, r) (ab_Qv K S P)) : ab_Rn m_M_replays 161 [some (2, 161), some (0, l1), some (0, l2), some (0, l3), some (0, l4), some (0, l5), none, none, none] [] (K, S, g, r) (ab_Qv K S P) := by
  refine Rn_pure 2 (i' := 38) (L' := [some (2, 161), some (0, l1), some (0, l2), some (0, l3), some (0, l4), some (0, l5 + 1), none, none, none]) (st' := []) rfl ?_
  exact h
-- EventLedgerModel.replaysAll ()V
theorem v_M_replaysAll {K : Int} {S : Nat} {g r : ab_H} (P : ab_H → ab_H → Prop) (hr : SI r) (hK : 185 ≤ K) (h : ab_RI m_M_many [(2, 161)] K S g r (fun x1 g' r' => g' = g ∧ r' = r ∧ (ab_RV m_M_replays [(2, 161), (0, x1), (0, (-1)), (0, 120), (0, (-1))] K S g r (fun g2 r' => r' = r ∧ (P g2 r))))) : ab_RV m_M_replaysAll [(2, 161)] K S g r P := by
  show ab_Rn m_M_replaysAll 0 [some (2, 161)] [] (K, S, g, r) (ab_Qv K S P)
  refine Rn_pure 2 (i' := 2) (L' := [some (2, 161)]) (st' := [(2, 161), (2, 161)]) rfl ?_
  refine Rn_callI [(2, 161)] [(2, 161)] rfl rfl rfl rfl (ab_rvB_of rfl (⟨rfl, (by omega : (0 : Int) ≤ 161), (by omega : (161 : Int) < K)⟩)) ?_
  refine h.mono (fun x1 g' r' h => ?_)
  obtain ⟨hx, h⟩ := h
  replace hx := hx.symm
  subst hx
  obtain ⟨hx, h⟩ := h
  replace hx := hx.symm
  subst hx
  refine Rn_pure 3 (i' := 6) (L' := [some (2, 161)]) (st' := [(0, (-1)), (0, 120), (0, (-1)), (0, x1), (2, 161)]) rfl ?_
  refine Rn_callV [(2, 161), (0, x1), (0, (-1)), (0, 120), (0, (-1))] [] rfl rfl rfl rfl (ab_rvB_of rfl (⟨rfl, (by omega : (0 : Int) ≤ 161), (by omega : (161 : Int) < K)⟩)) ?_
  refine h.mono (fun g2 r' h => ?_)
  obtain ⟨hx, h⟩ := h
  replace hx := hx.symm
  subst hx
  exact Rn_ret0 rfl h
-- EventLedgerModel.asidesNow ()I
theorem v_M_asidesNow {K : Int} {S : Nat} {g r : ab_H} (P : Int → ab_H → ab_H → Prop) (hr : SI r) (hK : 185 ≤ K) (h : ab_Rn m_M_asidesNow 4 [some (2, 161), some (0, 0), some (0, 0)] [] (K, S, g, r) (ab_Qi K S P)) : ab_RI m_M_asidesNow [(2, 161)] K S g r P := by
  show ab_Rn m_M_asidesNow 0 [some (2, 161), none, none] [] (K, S, g, r) (ab_Qi K S P)
  refine Rn_pure 4 (i' := 4) (L' := [some (2, 161), some (0, 0), some (0, 0)]) (st' := []) rfl ?_
  exact h
theorem v_M_asidesNow_4 {K : Int} {S : Nat} {g r : ab_H} {l1 l2 : Int} (P : Int → ab_H → ab_H → Prop) (hr : SI r) (hK : 185 ≤ K) (h : ab_RI m_M_many [(2, 161)] K S g r (fun x1 g' r' => g' = g ∧ r' = r ∧ (((wr x1 ≤ wr l2 → P l1 g r) ∧ (wr l2 < wr x1 → ((0 : Int) ≤ l2 ∧ (l2 : Int) < 120) ∧ ((wr (g 183 l2) = wr 0 → ab_Rn m_M_asidesNow 4 [some (2, 161), some (0, l1 + 0), some (0, l2 + 1)] [] (K, S, g, r) (ab_Qi K S P)) ∧ (¬ wr (g 183 l2) = wr 0 → ab_Rn m_M_asidesNow 4 [some (2, 161), some (0, l1 + 1), some (0, l2 + 1)] [] (K, S, g, r) (ab_Qi K S P)))))))) : ab_Rn m_M_asidesNow 4 [some (2, 161), some (0, l1), some (0, l2)] [] (K, S, g, r) (ab_Qi K S P) := by
  refine Rn_pure 2 (i' := 6) (L' := [some (2, 161), some (0, l1), some (0, l2)]) (st' := [(2, 161), (0, l2)]) rfl ?_
  refine Rn_callI [(2, 161)] [(0, l2)] rfl rfl rfl rfl (ab_rvB_of rfl (⟨rfl, (by omega : (0 : Int) ≤ 161), (by omega : (161 : Int) < K)⟩)) ?_
  refine h.mono (fun x1 g' r' h => ?_)
  obtain ⟨hx, h⟩ := h
  replace hx := hx.symm
  subst hx
  obtain ⟨hx, h⟩ := h
  replace hx := hx.symm
  subst hx
  refine Rn_icge rfl (fun hc => ?_) (fun hc => ?_)
  · have h := h.1 hc
    refine Rn_pure 1 (i' := 22) (L' := [some (2, 161), some (0, l1), some (0, l2)]) (st' := [(0, l1)]) rfl ?_
    exact Rn_ret1 rfl h
  · have h := h.2 hc
    refine Rn_pure 2 (i' := 10) (L' := [some (2, 161), some (0, l1), some (0, l2)]) (st' := [(2, 161), (0, l1)]) rfl ?_
    refine Rn_getR rfl (⟨rfl, (by omega : (0 : Int) ≤ 161), (by omega : (161 : Int) < K)⟩) (hr 158 _ rfl) (by decide) ?_
    refine Rn_pure 1 (i' := 12) (L' := [some (2, 161), some (0, l1), some (0, l2)]) (st' := [(0, l2), (2, 183), (0, l1)]) rfl ?_
    obtain ⟨hg, h⟩ := h
    refine Rn_iald rfl (⟨rfl, (by omega : (0 : Int) ≤ 183), (by omega : (183 : Int) < K)⟩) hg ?_
    refine Rn_ifeq rfl (fun hc => ?_) (fun hc => ?_)
    · have h := h.1 hc
      refine Rn_pure 5 (i' := 4) (L' := [some (2, 161), some (0, l1 + 0), some (0, l2 + 1)]) (st' := []) rfl ?_
      exact h
    · have h := h.2 hc
      refine Rn_pure 6 (i' := 4) (L' := [some (2, 161), some (0, l1 + 1), some (0, l2 + 1)]) (st' := []) rfl ?_
      exact h
-- EventLedgerModel.isAccount (I)Z
theorem v_M_isAccount {K : Int} {S : Nat} {g r : ab_H} {p1 : Int} (P : Int → ab_H → ab_H → Prop) (hr : SI r) (hK : 185 ≤ K) (h : ((wr p1 < wr 0 → P 0 g r) ∧ (wr 0 ≤ wr p1 → ab_RI m_M_accounts [(2, 161)] K S g r (fun x1 g' r' => g' = g ∧ r' = r ∧ (((wr x1 ≤ wr p1 → P 0 g r) ∧ (wr p1 < wr x1 → P 1 g r))))))) : ab_RI m_M_isAccount [(2, 161), (0, p1)] K S g r P := by
  show ab_Rn m_M_isAccount 0 [some (2, 161), some (0, p1)] [] (K, S, g, r) (ab_Qi K S P)
  refine Rn_pure 1 (i' := 1) (L' := [some (2, 161), some (0, p1)]) (st' := [(0, p1)]) rfl ?_
  refine Rn_iflt rfl (fun hc => ?_) (fun hc => ?_)
  · have h := h.1 hc
    refine Rn_pure 1 (i' := 9) (L' := [some (2, 161), some (0, p1)]) (st' := [(0, 0)]) rfl ?_
    exact Rn_ret2 rfl (by decide) h
  · have h := h.2 hc
    refine Rn_pure 2 (i' := 4) (L' := [some (2, 161), some (0, p1)]) (st' := [(2, 161), (0, p1)]) rfl ?_
    refine Rn_callI [(2, 161)] [(0, p1)] rfl rfl rfl rfl (ab_rvB_of rfl (⟨rfl, (by omega : (0 : Int) ≤ 161), (by omega : (161 : Int) < K)⟩)) ?_
    refine h.mono (fun x1 g' r' h => ?_)
    obtain ⟨hx, h⟩ := h
    replace hx := hx.symm
    subst hx
    obtain ⟨hx, h⟩ := h
    replace hx := hx.symm
    subst hx
    refine Rn_icge rfl (fun hc => ?_) (fun hc => ?_)
    · have h := h.1 hc
      refine Rn_pure 1 (i' := 9) (L' := [some (2, 161), some (0, p1)]) (st' := [(0, 0)]) rfl ?_
      exact Rn_ret2 rfl (by decide) h
    · have h := h.2 hc
      refine Rn_pure 2 (i' := 9) (L' := [some (2, 161), some (0, p1)]) (st' := [(0, 1)]) rfl ?_
      exact Rn_ret2 rfl (by decide) h
-- EventLedgerModel.isTime (I)Z
theorem v_M_isTime {K : Int} {S : Nat} {g r : ab_H} {p0 : Int} (P : Int → ab_H → ab_H → Prop) (hr : SI r) (hK : 185 ≤ K) (h : ((wr p0 < wr 0 → P 0 g r) ∧ (wr 0 ≤ wr p0 → ((wr 9999 < wr p0 → P 0 g r) ∧ (wr p0 ≤ wr 9999 → P 1 g r))))) : ab_RI m_M_isTime [(0, p0)] K S g r P := by
  show ab_Rn m_M_isTime 0 [some (0, p0)] [] (K, S, g, r) (ab_Qi K S P)
  refine Rn_pure 1 (i' := 1) (L' := [some (0, p0)]) (st' := [(0, p0)]) rfl ?_
  refine Rn_iflt rfl (fun hc => ?_) (fun hc => ?_)
  · have h := h.1 hc
    refine Rn_pure 1 (i' := 8) (L' := [some (0, p0)]) (st' := [(0, 0)]) rfl ?_
    exact Rn_ret2 rfl (by decide) h
  · have h := h.2 hc
    refine Rn_pure 2 (i' := 4) (L' := [some (0, p0)]) (st' := [(0, 9999), (0, p0)]) rfl ?_
    refine Rn_icgt rfl (fun hc => ?_) (fun hc => ?_)
    · have h := h.1 hc
      refine Rn_pure 1 (i' := 8) (L' := [some (0, p0)]) (st' := [(0, 0)]) rfl ?_
      exact Rn_ret2 rfl (by decide) h
    · have h := h.2 hc
      refine Rn_pure 2 (i' := 8) (L' := [some (0, p0)]) (st' := [(0, 1)]) rfl ?_
      exact Rn_ret2 rfl (by decide) h
-- EventLedgerModel.has (II)I
theorem v_M_has {K : Int} {S : Nat} {g r : ab_H} {p1 p2 : Int} (P : Int → ab_H → ab_H → Prop) (hr : SI r) (hK : 185 ≤ K) (h : ((wr p2 = 0 → ((0 : Int) ≤ p1 ∧ (p1 : Int) < 8) ∧ P (g 179 p1) g r) ∧ (wr p2 = 1 → ((0 : Int) ≤ p1 ∧ (p1 : Int) < 8) ∧ P (g 180 p1) g r) ∧ (wr p2 = 2 → ((0 : Int) ≤ p1 ∧ (p1 : Int) < 8) ∧ P (g 181 p1) g r) ∧ (wr p2 < 0 ∨ 3 ≤ wr p2 → ((0 : Int) ≤ p1 ∧ (p1 : Int) < 8) ∧ ((wr (g 182 p1) = wr 0 → P 0 g r) ∧ (¬ wr (g 182 p1) = wr 0 → P 1 g r))))) : ab_RI m_M_has [(2, 161), (0, p1), (0, p2)] K S g r P := by
  show ab_Rn m_M_has 0 [some (2, 161), some (0, p1), some (0, p2)] [] (K, S, g, r) (ab_Qi K S P)
  refine Rn_pure 1 (i' := 1) (L' := [some (2, 161), some (0, p1), some (0, p2)]) (st' := [(0, p2)]) rfl ?_
  refine Rn_ts rfl ?_
  have ht2 : (wr p2 = 0) → ab_Rn m_M_has 2 [some (2, 161), some (0, p1), some (0, p2)] [] (K, S, g, r) (ab_Qi K S P) := by
    intro hc
    have h := h.1 hc
    refine Rn_pure 1 (i' := 3) (L' := [some (2, 161), some (0, p1), some (0, p2)]) (st' := [(2, 161)]) rfl ?_
    refine Rn_getR rfl (⟨rfl, (by omega : (0 : Int) ≤ 161), (by omega : (161 : Int) < K)⟩) (hr 154 _ rfl) (by decide) ?_
    refine Rn_pure 1 (i' := 5) (L' := [some (2, 161), some (0, p1), some (0, p2)]) (st' := [(0, p1), (2, 179)]) rfl ?_
    obtain ⟨hg, h⟩ := h
    refine Rn_iald rfl (⟨rfl, (by omega : (0 : Int) ≤ 179), (by omega : (179 : Int) < K)⟩) hg ?_
    exact Rn_ret1 rfl h
  have ht7 : (wr p2 = 1) → ab_Rn m_M_has 7 [some (2, 161), some (0, p1), some (0, p2)] [] (K, S, g, r) (ab_Qi K S P) := by
    intro hc
    have h := h.2.1 hc
    refine Rn_pure 1 (i' := 8) (L' := [some (2, 161), some (0, p1), some (0, p2)]) (st' := [(2, 161)]) rfl ?_
    refine Rn_getR rfl (⟨rfl, (by omega : (0 : Int) ≤ 161), (by omega : (161 : Int) < K)⟩) (hr 155 _ rfl) (by decide) ?_
    refine Rn_pure 1 (i' := 10) (L' := [some (2, 161), some (0, p1), some (0, p2)]) (st' := [(0, p1), (2, 180)]) rfl ?_
    obtain ⟨hg, h⟩ := h
    refine Rn_iald rfl (⟨rfl, (by omega : (0 : Int) ≤ 180), (by omega : (180 : Int) < K)⟩) hg ?_
    exact Rn_ret1 rfl h
  have ht12 : (wr p2 = 2) → ab_Rn m_M_has 12 [some (2, 161), some (0, p1), some (0, p2)] [] (K, S, g, r) (ab_Qi K S P) := by
    intro hc
    have h := h.2.2.1 hc
    refine Rn_pure 1 (i' := 13) (L' := [some (2, 161), some (0, p1), some (0, p2)]) (st' := [(2, 161)]) rfl ?_
    refine Rn_getR rfl (⟨rfl, (by omega : (0 : Int) ≤ 161), (by omega : (161 : Int) < K)⟩) (hr 156 _ rfl) (by decide) ?_
    refine Rn_pure 1 (i' := 15) (L' := [some (2, 161), some (0, p1), some (0, p2)]) (st' := [(0, p1), (2, 181)]) rfl ?_
    obtain ⟨hg, h⟩ := h
    refine Rn_iald rfl (⟨rfl, (by omega : (0 : Int) ≤ 181), (by omega : (181 : Int) < K)⟩) hg ?_
    exact Rn_ret1 rfl h
  have htd : (wr p2 < 0 ∨ 3 ≤ wr p2) → ab_Rn m_M_has 17 [some (2, 161), some (0, p1), some (0, p2)] [] (K, S, g, r) (ab_Qi K S P) := by
    intro hc
    have h := h.2.2.2 hc
    refine Rn_pure 1 (i' := 18) (L' := [some (2, 161), some (0, p1), some (0, p2)]) (st' := [(2, 161)]) rfl ?_
    refine Rn_getR rfl (⟨rfl, (by omega : (0 : Int) ≤ 161), (by omega : (161 : Int) < K)⟩) (hr 157 _ rfl) (by decide) ?_
    refine Rn_pure 1 (i' := 20) (L' := [some (2, 161), some (0, p1), some (0, p2)]) (st' := [(0, p1), (2, 182)]) rfl ?_
    obtain ⟨hg, h⟩ := h
    refine Rn_zald rfl (⟨rfl, (by omega : (0 : Int) ≤ 182), (by omega : (182 : Int) < K)⟩) hg ?_
    refine Rn_ifeq rfl (fun hc => ?_) (fun hc => ?_)
    · have h := h.1 hc
      refine Rn_pure 1 (i' := 25) (L' := [some (2, 161), some (0, p1), some (0, p2)]) (st' := [(0, 0)]) rfl ?_
      exact Rn_ret1 rfl h
    · have h := h.2 hc
      refine Rn_pure 2 (i' := 25) (L' := [some (2, 161), some (0, p1), some (0, p2)]) (st' := [(0, 1)]) rfl ?_
      exact Rn_ret1 rfl h
  have hsp : wr p2 < 0 ∨ 3 ≤ wr p2 ∨ wr p2 = 0 ∨ wr p2 = 1 ∨ wr p2 = 2 := by omega
  rcases hsp with hc | hc | hc | hc | hc
  · rw [ab_ts_out (hT := (rfl : ab_nth ab_tsL 6 = some (0, 17, [2, 7, 12]))) rfl (Or.inl hc)]; exact htd (by simp only [hc, true_or, or_true])
  · rw [ab_ts_out (hT := (rfl : ab_nth ab_tsL 6 = some (0, 17, [2, 7, 12]))) rfl (Or.inr hc)]; exact htd (by simp only [hc, true_or, or_true])
  · rw [ab_ts_in (j := 0) (hT := (rfl : ab_nth ab_tsL 6 = some (0, 17, [2, 7, 12]))) (by rw [hc]; rfl) rfl]; exact ht2 (by simp only [hc, true_or, or_true])
  · rw [ab_ts_in (j := 1) (hT := (rfl : ab_nth ab_tsL 6 = some (0, 17, [2, 7, 12]))) (by rw [hc]; rfl) rfl]; exact ht7 (by simp only [hc, true_or, or_true])
  · rw [ab_ts_in (j := 2) (hT := (rfl : ab_nth ab_tsL 6 = some (0, 17, [2, 7, 12]))) (by rw [hc]; rfl) rfl]; exact ht12 (by simp only [hc, true_or, or_true])
-- EventLedgerModel.placeAt (I)I
theorem v_M_placeAt {K : Int} {S : Nat} {g r : ab_H} {p1 : Int} (P : Int → ab_H → ab_H → Prop) (hr : SI r) (hK : 185 ≤ K) (h : ab_Rn m_M_placeAt 2 [some (2, 161), some (0, p1), some (0, 0)] [] (K, S, g, r) (ab_Qi K S P)) : ab_RI m_M_placeAt [(2, 161), (0, p1)] K S g r P := by
  show ab_Rn m_M_placeAt 0 [some (2, 161), some (0, p1), none] [] (K, S, g, r) (ab_Qi K S P)
  refine Rn_pure 2 (i' := 2) (L' := [some (2, 161), some (0, p1), some (0, 0)]) (st' := []) rfl ?_
  exact h
theorem v_M_placeAt_2 {K : Int} {S : Nat} {g r : ab_H} {l1 l2 : Int} (P : Int → ab_H → ab_H → Prop) (hr : SI r) (hK : 185 ≤ K) (h : ab_RI m_M_many [(2, 161)] K S g r (fun x1 g' r' => g' = g ∧ r' = r ∧ (((wr x1 ≤ wr l2 → P l2 g r) ∧ (wr l2 < wr x1 → ((0 : Int) ≤ 9 * l2 + 3 ∧ (9 * l2 + 3 : Int) < 1607) ∧ ((wr l1 < wr (g 174 (9 * l2 + 3)) → P l2 g r) ∧ (wr (g 174 (9 * l2 + 3)) ≤ wr l1 → ab_Rn m_M_placeAt 2 [some (2, 161), some (0, l1), some (0, l2 + 1)] [] (K, S, g, r) (ab_Qi K S P)))))))) : ab_Rn m_M_placeAt 2 [some (2, 161), some (0, l1), some (0, l2)] [] (K, S, g, r) (ab_Qi K S P) := by
  refine Rn_pure 2 (i' := 4) (L' := [some (2, 161), some (0, l1), some (0, l2)]) (st' := [(2, 161), (0, l2)]) rfl ?_
  refine Rn_callI [(2, 161)] [(0, l2)] rfl rfl rfl rfl (ab_rvB_of rfl (⟨rfl, (by omega : (0 : Int) ≤ 161), (by omega : (161 : Int) < K)⟩)) ?_
  refine h.mono (fun x1 g' r' h => ?_)
  obtain ⟨hx, h⟩ := h
  replace hx := hx.symm
  subst hx
  obtain ⟨hx, h⟩ := h
  replace hx := hx.symm
  subst hx
  refine Rn_icge rfl (fun hc => ?_) (fun hc => ?_)
  · have h := h.1 hc
    refine Rn_pure 1 (i' := 19) (L' := [some (2, 161), some (0, l1), some (0, l2)]) (st' := [(0, l2)]) rfl ?_
    exact Rn_ret1 rfl h
  · have h := h.2 hc
    refine Rn_pure 1 (i' := 7) (L' := [some (2, 161), some (0, l1), some (0, l2)]) (st' := [(2, 161)]) rfl ?_
    refine Rn_getR rfl (⟨rfl, (by omega : (0 : Int) ≤ 161), (by omega : (161 : Int) < K)⟩) (hr 149 _ rfl) (by decide) ?_
    refine Rn_pure 5 (i' := 13) (L' := [some (2, 161), some (0, l1), some (0, l2)]) (st' := [(0, 9 * l2 + 3), (2, 174)]) rfl ?_
    obtain ⟨hg, h⟩ := h
    refine Rn_iald rfl (⟨rfl, (by omega : (0 : Int) ≤ 174), (by omega : (174 : Int) < K)⟩) hg ?_
    refine Rn_pure 1 (i' := 15) (L' := [some (2, 161), some (0, l1), some (0, l2)]) (st' := [(0, l1), (0, g 174 (9 * l2 + 3))]) rfl ?_
    refine Rn_icgt rfl (fun hc => ?_) (fun hc => ?_)
    · have h := h.1 hc
      refine Rn_pure 1 (i' := 19) (L' := [some (2, 161), some (0, l1), some (0, l2)]) (st' := [(0, l2)]) rfl ?_
      exact Rn_ret1 rfl h
    · have h := h.2 hc
      refine Rn_pure 2 (i' := 2) (L' := [some (2, 161), some (0, l1), some (0, l2 + 1)]) (st' := []) rfl ?_
      exact h
-- EventLedgerModel.latestTime ()I
theorem v_M_latestTime {K : Int} {S : Nat} {g r : ab_H} (P : Int → ab_H → ab_H → Prop) (hr : SI r) (hK : 185 ≤ K) (h : ab_RI m_M_many [(2, 161)] K S g r (fun x1 g' r' => g' = g ∧ r' = r ∧ (((¬ wr x1 = wr 0 → ab_RI m_M_many [(2, 161)] K S g r (fun x2 g' r' => g' = g ∧ r' = r ∧ (((0 : Int) ≤ 9 * (x2 - 1) + 3 ∧ (9 * (x2 - 1) + 3 : Int) < 1607) ∧ P (g 174 (9 * (x2 - 1) + 3)) g r))) ∧ (wr x1 = wr 0 → P 0 g r))))) : ab_RI m_M_latestTime [(2, 161)] K S g r P := by
  show ab_Rn m_M_latestTime 0 [some (2, 161)] [] (K, S, g, r) (ab_Qi K S P)
  refine Rn_pure 1 (i' := 1) (L' := [some (2, 161)]) (st' := [(2, 161)]) rfl ?_
  refine Rn_callI [(2, 161)] [] rfl rfl rfl rfl (ab_rvB_of rfl (⟨rfl, (by omega : (0 : Int) ≤ 161), (by omega : (161 : Int) < K)⟩)) ?_
  refine h.mono (fun x1 g' r' h => ?_)
  obtain ⟨hx, h⟩ := h
  replace hx := hx.symm
  subst hx
  obtain ⟨hx, h⟩ := h
  replace hx := hx.symm
  subst hx
  refine Rn_ifne rfl (fun hc => ?_) (fun hc => ?_)
  · have h := h.1 hc
    refine Rn_pure 1 (i' := 6) (L' := [some (2, 161)]) (st' := [(2, 161)]) rfl ?_
    refine Rn_getR rfl (⟨rfl, (by omega : (0 : Int) ≤ 161), (by omega : (161 : Int) < K)⟩) (hr 149 _ rfl) (by decide) ?_
    refine Rn_pure 2 (i' := 9) (L' := [some (2, 161)]) (st' := [(2, 161), (0, 9), (2, 174)]) rfl ?_
    refine Rn_callI [(2, 161)] [(0, 9), (2, 174)] rfl rfl rfl rfl (ab_rvB_of rfl (⟨rfl, (by omega : (0 : Int) ≤ 161), (by omega : (161 : Int) < K)⟩)) ?_
    refine h.mono (fun x2 g' r' h => ?_)
    obtain ⟨hx, h⟩ := h
    replace hx := hx.symm
    subst hx
    obtain ⟨hx, h⟩ := h
    replace hx := hx.symm
    subst hx
    refine Rn_pure 5 (i' := 15) (L' := [some (2, 161)]) (st' := [(0, 9 * (x2 - 1) + 3), (2, 174)]) rfl ?_
    obtain ⟨hg, h⟩ := h
    refine Rn_iald rfl (⟨rfl, (by omega : (0 : Int) ≤ 174), (by omega : (174 : Int) < K)⟩) hg ?_
    exact Rn_ret1 rfl h
  · have h := h.2 hc
    refine Rn_pure 2 (i' := 16) (L' := [some (2, 161)]) (st' := [(0, 0)]) rfl ?_
    exact Rn_ret1 rfl h
-- EventLedgerModel.eventOf (IIIIIII)I
theorem v_M_eventOf {K : Int} {S : Nat} {g r : ab_H} {p1 p2 p3 p4 p5 p6 p7 : Int} (P : Int → ab_H → ab_H → Prop) (hr : SI r) (hK : 185 ≤ K) (h : ((¬ wr p1 = wr 6 → ((wr p1 < wr 0 → ab_Rn m_M_eventOf 25 [none, none, none, none, none, none, none, none, none, none] [] (K, S, g, r) (ab_Qi K S P)) ∧ (wr 0 ≤ wr p1 → ((wr 6 < wr p1 → ab_Rn m_M_eventOf 25 [none, none, none, none, none, none, none, none, none, none] [] (K, S, g, r) (ab_Qi K S P)) ∧ (wr p1 ≤ wr 6 → ab_RI m_M_isAccount [(2, 161), (0, p2)] K S g r (fun x1 g' r' => g' = g ∧ r' = r ∧ (((wr x1 = wr 0 → ab_Rn m_M_eventOf 25 [none, none, none, none, none, none, none, none, none, none] [] (K, S, g, r) (ab_Qi K S P)) ∧ (¬ wr x1 = wr 0 → ((wr 0 = wr 0 → ab_Rn m_M_eventOf 27 [some (2, 161), some (0, p1), some (0, p2), some (0, p3), some (0, p4), some (0, p5), some (0, p6), some (0, p7), some (0, 0), none] [] (K, S, g, r) (ab_Qi K S P)) ∧ (¬ wr 0 = wr 0 → ab_RI m_M_isAccount [(2, 161), (0, p3)] K S g r (fun x2 g' r' => g' = g ∧ r' = r ∧ (((wr x2 = wr 0 → ab_Rn m_M_eventOf 25 [none, none, none, none, none, none, none, none, none, none] [] (K, S, g, r) (ab_Qi K S P)) ∧ (¬ wr x2 = wr 0 → ((¬ wr p3 = wr p2 → ab_Rn m_M_eventOf 27 [some (2, 161), some (0, p1), some (0, p2), some (0, p3), some (0, p4), some (0, p5), some (0, p6), some (0, p7), some (0, 0), none] [] (K, S, g, r) (ab_Qi K S P)) ∧ (wr p3 = wr p2 → ab_Rn m_M_eventOf 25 [none, none, none, none, none, none, none, none, none, none] [] (K, S, g, r) (ab_Qi K S P)))))))))))))))))) ∧ (wr p1 = wr 6 → ((wr p1 < wr 0 → ab_Rn m_M_eventOf 25 [none, none, none, none, none, none, none, none, none, none] [] (K, S, g, r) (ab_Qi K S P)) ∧ (wr 0 ≤ wr p1 → ((wr 6 < wr p1 → ab_Rn m_M_eventOf 25 [none, none, none, none, none, none, none, none, none, none] [] (K, S, g, r) (ab_Qi K S P)) ∧ (wr p1 ≤ wr 6 → ab_RI m_M_isAccount [(2, 161), (0, p2)] K S g r (fun x3 g' r' => g' = g ∧ r' = r ∧ (((wr x3 = wr 0 → ab_Rn m_M_eventOf 25 [none, none, none, none, none, none, none, none, none, none] [] (K, S, g, r) (ab_Qi K S P)) ∧ (¬ wr x3 = wr 0 → ((wr 1 = wr 0 → ab_Rn m_M_eventOf 27 [some (2, 161), some (0, p1), some (0, p2), some (0, p3), some (0, p4), some (0, p5), some (0, p6), some (0, p7), some (0, 1), none] [] (K, S, g, r) (ab_Qi K S P)) ∧ (¬ wr 1 = wr 0 → ab_RI m_M_isAccount [(2, 161), (0, p3)] K S g r (fun x4 g' r' => g' = g ∧ r' = r ∧ (((wr x4 = wr 0 → ab_Rn m_M_eventOf 25 [none, none, none, none, none, none, none, none, none, none] [] (K, S, g, r) (ab_Qi K S P)) ∧ (¬ wr x4 = wr 0 → ((¬ wr p3 = wr p2 → ab_Rn m_M_eventOf 27 [some (2, 161), some (0, p1), some (0, p2), some (0, p3), some (0, p4), some (0, p5), some (0, p6), some (0, p7), some (0, 1), none] [] (K, S, g, r) (ab_Qi K S P)) ∧ (wr p3 = wr p2 → ab_Rn m_M_eventOf 25 [none, none, none, none, none, none, none, none, none, none] [] (K, S, g, r) (ab_Qi K S P)))))))))))))))))))) : ab_RI m_M_eventOf [(2, 161), (0, p1), (0, p2), (0, p3), (0, p4), (0, p5), (0, p6), (0, p7)] K S g r P := by
  show ab_Rn m_M_eventOf 0 [some (2, 161), some (0, p1), some (0, p2), some (0, p3), some (0, p4), some (0, p5), some (0, p6), some (0, p7), none, none] [] (K, S, g, r) (ab_Qi K S P)
  refine Rn_pure 2 (i' := 2) (L' := [some (2, 161), some (0, p1), some (0, p2), some (0, p3), some (0, p4), some (0, p5), some (0, p6), some (0, p7), none, none]) (st' := [(0, 6), (0, p1)]) rfl ?_
  refine Rn_icne rfl (fun hc => ?_) (fun hc => ?_)
  · have h := h.1 hc
    refine Rn_pure 3 (i' := 8) (L' := [some (2, 161), some (0, p1), some (0, p2), some (0, p3), some (0, p4), some (0, p5), some (0, p6), some (0, p7), some (0, 0), none]) (st' := [(0, p1)]) rfl ?_
    refine Rn_iflt rfl (fun hc => ?_) (fun hc => ?_)
    · have h := h.1 hc
      refine Rn_weak (L' := [none, none, none, none, none, none, none, none, none, none]) trivial ?_
      exact h
    · have h := h.2 hc
      refine Rn_pure 2 (i' := 11) (L' := [some (2, 161), some (0, p1), some (0, p2), some (0, p3), some (0, p4), some (0, p5), some (0, p6), some (0, p7), some (0, 0), none]) (st' := [(0, 6), (0, p1)]) rfl ?_
      refine Rn_icgt rfl (fun hc => ?_) (fun hc => ?_)
      · have h := h.1 hc
        refine Rn_weak (L' := [none, none, none, none, none, none, none, none, none, none]) trivial ?_
        exact h
      · have h := h.2 hc
        refine Rn_pure 2 (i' := 14) (L' := [some (2, 161), some (0, p1), some (0, p2), some (0, p3), some (0, p4), some (0, p5), some (0, p6), some (0, p7), some (0, 0), none]) (st' := [(0, p2), (2, 161)]) rfl ?_
        refine Rn_callI [(2, 161), (0, p2)] [] rfl rfl rfl rfl (ab_rvB_of rfl (⟨rfl, (by omega : (0 : Int) ≤ 161), (by omega : (161 : Int) < K)⟩)) ?_
        refine h.mono (fun x1 g' r' h => ?_)
        obtain ⟨hx, h⟩ := h
        replace hx := hx.symm
        subst hx
        obtain ⟨hx, h⟩ := h
        replace hx := hx.symm
        subst hx
        refine Rn_ifeq rfl (fun hc => ?_) (fun hc => ?_)
        · have h := h.1 hc
          refine Rn_weak (L' := [none, none, none, none, none, none, none, none, none, none]) trivial ?_
          exact h
        · have h := h.2 hc
          refine Rn_pure 1 (i' := 17) (L' := [some (2, 161), some (0, p1), some (0, p2), some (0, p3), some (0, p4), some (0, p5), some (0, p6), some (0, p7), some (0, 0), none]) (st' := [(0, 0)]) rfl ?_
          refine Rn_ifeq rfl (fun hc => ?_) (fun hc => ?_)
          · have h := h.1 hc
            exact h
          · have h := h.2 hc
            refine Rn_pure 2 (i' := 20) (L' := [some (2, 161), some (0, p1), some (0, p2), some (0, p3), some (0, p4), some (0, p5), some (0, p6), some (0, p7), some (0, 0), none]) (st' := [(0, p3), (2, 161)]) rfl ?_
            refine Rn_callI [(2, 161), (0, p3)] [] rfl rfl rfl rfl (ab_rvB_of rfl (⟨rfl, (by omega : (0 : Int) ≤ 161), (by omega : (161 : Int) < K)⟩)) ?_
            refine h.mono (fun x2 g' r' h => ?_)
            obtain ⟨hx, h⟩ := h
            replace hx := hx.symm
            subst hx
            obtain ⟨hx, h⟩ := h
            replace hx := hx.symm
            subst hx
            refine Rn_ifeq rfl (fun hc => ?_) (fun hc => ?_)
            · have h := h.1 hc
              refine Rn_weak (L' := [none, none, none, none, none, none, none, none, none, none]) trivial ?_
              exact h
            · have h := h.2 hc
              refine Rn_pure 2 (i' := 24) (L' := [some (2, 161), some (0, p1), some (0, p2), some (0, p3), some (0, p4), some (0, p5), some (0, p6), some (0, p7), some (0, 0), none]) (st' := [(0, p2), (0, p3)]) rfl ?_
              refine Rn_icne rfl (fun hc => ?_) (fun hc => ?_)
              · have h := h.1 hc
                exact h
              · have h := h.2 hc
                refine Rn_weak (L' := [none, none, none, none, none, none, none, none, none, none]) trivial ?_
                exact h
  · have h := h.2 hc
    refine Rn_pure 4 (i' := 8) (L' := [some (2, 161), some (0, p1), some (0, p2), some (0, p3), some (0, p4), some (0, p5), some (0, p6), some (0, p7), some (0, 1), none]) (st' := [(0, p1)]) rfl ?_
    refine Rn_iflt rfl (fun hc => ?_) (fun hc => ?_)
    · have h := h.1 hc
      refine Rn_weak (L' := [none, none, none, none, none, none, none, none, none, none]) trivial ?_
      exact h
    · have h := h.2 hc
      refine Rn_pure 2 (i' := 11) (L' := [some (2, 161), some (0, p1), some (0, p2), some (0, p3), some (0, p4), some (0, p5), some (0, p6), some (0, p7), some (0, 1), none]) (st' := [(0, 6), (0, p1)]) rfl ?_
      refine Rn_icgt rfl (fun hc => ?_) (fun hc => ?_)
      · have h := h.1 hc
        refine Rn_weak (L' := [none, none, none, none, none, none, none, none, none, none]) trivial ?_
        exact h
      · have h := h.2 hc
        refine Rn_pure 2 (i' := 14) (L' := [some (2, 161), some (0, p1), some (0, p2), some (0, p3), some (0, p4), some (0, p5), some (0, p6), some (0, p7), some (0, 1), none]) (st' := [(0, p2), (2, 161)]) rfl ?_
        refine Rn_callI [(2, 161), (0, p2)] [] rfl rfl rfl rfl (ab_rvB_of rfl (⟨rfl, (by omega : (0 : Int) ≤ 161), (by omega : (161 : Int) < K)⟩)) ?_
        refine h.mono (fun x3 g' r' h => ?_)
        obtain ⟨hx, h⟩ := h
        replace hx := hx.symm
        subst hx
        obtain ⟨hx, h⟩ := h
        replace hx := hx.symm
        subst hx
        refine Rn_ifeq rfl (fun hc => ?_) (fun hc => ?_)
        · have h := h.1 hc
          refine Rn_weak (L' := [none, none, none, none, none, none, none, none, none, none]) trivial ?_
          exact h
        · have h := h.2 hc
          refine Rn_pure 1 (i' := 17) (L' := [some (2, 161), some (0, p1), some (0, p2), some (0, p3), some (0, p4), some (0, p5), some (0, p6), some (0, p7), some (0, 1), none]) (st' := [(0, 1)]) rfl ?_
          refine Rn_ifeq rfl (fun hc => ?_) (fun hc => ?_)
          · have h := h.1 hc
            exact h
          · have h := h.2 hc
            refine Rn_pure 2 (i' := 20) (L' := [some (2, 161), some (0, p1), some (0, p2), some (0, p3), some (0, p4), some (0, p5), some (0, p6), some (0, p7), some (0, 1), none]) (st' := [(0, p3), (2, 161)]) rfl ?_
            refine Rn_callI [(2, 161), (0, p3)] [] rfl rfl rfl rfl (ab_rvB_of rfl (⟨rfl, (by omega : (0 : Int) ≤ 161), (by omega : (161 : Int) < K)⟩)) ?_
            refine h.mono (fun x4 g' r' h => ?_)
            obtain ⟨hx, h⟩ := h
            replace hx := hx.symm
            subst hx
            obtain ⟨hx, h⟩ := h
            replace hx := hx.symm
            subst hx
            refine Rn_ifeq rfl (fun hc => ?_) (fun hc => ?_)
            · have h := h.1 hc
              refine Rn_weak (L' := [none, none, none, none, none, none, none, none, none, none]) trivial ?_
              exact h
            · have h := h.2 hc
              refine Rn_pure 2 (i' := 24) (L' := [some (2, 161), some (0, p1), some (0, p2), some (0, p3), some (0, p4), some (0, p5), some (0, p6), some (0, p7), some (0, 1), none]) (st' := [(0, p2), (0, p3)]) rfl ?_
              refine Rn_icne rfl (fun hc => ?_) (fun hc => ?_)
              · have h := h.1 hc
                exact h
              · have h := h.2 hc
                refine Rn_weak (L' := [none, none, none, none, none, none, none, none, none, none]) trivial ?_
                exact h
theorem v_M_eventOf_25 {K : Int} {S : Nat} {g r : ab_H} (P : Int → ab_H → ab_H → Prop) (hr : SI r) (hK : 185 ≤ K) (h : P (-1) g r) : ab_Rn m_M_eventOf 25 [none, none, none, none, none, none, none, none, none, none] [] (K, S, g, r) (ab_Qi K S P) := by
  refine Rn_pure 1 (i' := 26) (L' := [none, none, none, none, none, none, none, none, none, none]) (st' := [(0, (-1))]) rfl ?_
  exact Rn_ret1 rfl h
theorem v_M_eventOf_27 {K : Int} {S : Nat} {g r : ab_H} {l1 l2 l3 l4 l5 l6 l7 l8 : Int} (P : Int → ab_H → ab_H → Prop) (hr : SI r) (hK : 185 ≤ K) (h : ab_RI m_M_isTime [(0, l4)] K S g r (fun x1 g' r' => g' = g ∧ r' = r ∧ (((wr x1 = wr 0 → ab_Rn m_M_eventOf 40 [none, none, none, none, none, none, none, none, none, none] [] (K, S, g, r) (ab_Qi K S P)) ∧ (¬ wr x1 = wr 0 → ((wr l6 < wr 0 → ab_Rn m_M_eventOf 40 [none, none, none, none, none, none, none, none, none, none] [] (K, S, g, r) (ab_Qi K S P)) ∧ (wr 0 ≤ wr l6 → ((wr 99999 < wr l6 → ab_Rn m_M_eventOf 40 [none, none, none, none, none, none, none, none, none, none] [] (K, S, g, r) (ab_Qi K S P)) ∧ (wr l6 ≤ wr 99999 → ((wr l7 < wr 0 → ab_Rn m_M_eventOf 40 [none, none, none, none, none, none, none, none, none, none] [] (K, S, g, r) (ab_Qi K S P)) ∧ (wr 0 ≤ wr l7 → ((wr l7 ≤ wr 99999 → ab_RI m_M_latestTime [(2, 161)] K S g r (fun x2 g' r' => g' = g ∧ r' = r ∧ (((wr x2 ≤ wr l4 → ab_RI m_M_many [(2, 161)] K S g r (fun x3 g' r' => g' = g ∧ r' = r ∧ (((¬ wr x3 = wr 120 → ab_RV m_M_remembers [(2, 161)] K S g r (fun g4 r' => r' = r ∧ (((wr l8 = wr 0 → ab_RV m_M_comes [(2, 161), (0, l1), (0, l2), (0, (-2)), (0, l4), (0, l5)] K S g4 r (fun g6 r' => r' = r ∧ (ab_RI m_M_many [(2, 161)] K S g6 r (fun x8 g' r' => g' = g6 ∧ r' = r ∧ (((0 : Int) ≤ 9 * (x8 - 1) + 5 ∧ (9 * (x8 - 1) + 5 : Int) < 1607) ∧ ∀ g9, g9 = ab_up g6 174 (9 * (x8 - 1) + 5) l6 → ((0 : Int) ≤ 9 * (x8 - 1) + 5 + 1 ∧ (9 * (x8 - 1) + 5 + 1 : Int) < 1607) ∧ ∀ g10, g10 = ab_up g9 174 (9 * (x8 - 1) + 5 + 1) l7 → P (x8 - 1) g10 r))))) ∧ (¬ wr l8 = wr 0 → ab_RV m_M_comes [(2, 161), (0, l1), (0, l2), (0, l3), (0, l4), (0, l5)] K S g4 r (fun g11 r' => r' = r ∧ (ab_RI m_M_many [(2, 161)] K S g11 r (fun x13 g' r' => g' = g11 ∧ r' = r ∧ (((0 : Int) ≤ 9 * (x13 - 1) + 5 ∧ (9 * (x13 - 1) + 5 : Int) < 1607) ∧ ∀ g14, g14 = ab_up g11 174 (9 * (x13 - 1) + 5) l6 → ((0 : Int) ≤ 9 * (x13 - 1) + 5 + 1 ∧ (9 * (x13 - 1) + 5 + 1 : Int) < 1607) ∧ ∀ g15, g15 = ab_up g14 174 (9 * (x13 - 1) + 5 + 1) l7 → P (x13 - 1) g15 r))))))))) ∧ (wr x3 = wr 120 → P (-3) g r))))) ∧ (wr l4 < wr x2 → P (-2) g r))))) ∧ (wr 99999 < wr l7 → ab_Rn m_M_eventOf 40 [none, none, none, none, none, none, none, none, none, none] [] (K, S, g, r) (ab_Qi K S P)))))))))))))) : ab_Rn m_M_eventOf 27 [some (2, 161), some (0, l1), some (0, l2), some (0, l3), some (0, l4), some (0, l5), some (0, l6), some (0, l7), some (0, l8), none] [] (K, S, g, r) (ab_Qi K S P) := by
  refine Rn_pure 1 (i' := 28) (L' := [some (2, 161), some (0, l1), some (0, l2), some (0, l3), some (0, l4), some (0, l5), some (0, l6), some (0, l7), some (0, l8), none]) (st' := [(0, l4)]) rfl ?_
  refine Rn_callI [(0, l4)] [] rfl rfl rfl rfl (rfl) ?_
  refine h.mono (fun x1 g' r' h => ?_)
  obtain ⟨hx, h⟩ := h
  replace hx := hx.symm
  subst hx
  obtain ⟨hx, h⟩ := h
  replace hx := hx.symm
  subst hx
  refine Rn_ifeq rfl (fun hc => ?_) (fun hc => ?_)
  · have h := h.1 hc
    refine Rn_weak (L' := [none, none, none, none, none, none, none, none, none, none]) trivial ?_
    exact h
  · have h := h.2 hc
    refine Rn_pure 1 (i' := 31) (L' := [some (2, 161), some (0, l1), some (0, l2), some (0, l3), some (0, l4), some (0, l5), some (0, l6), some (0, l7), some (0, l8), none]) (st' := [(0, l6)]) rfl ?_
    refine Rn_iflt rfl (fun hc => ?_) (fun hc => ?_)
    · have h := h.1 hc
      refine Rn_weak (L' := [none, none, none, none, none, none, none, none, none, none]) trivial ?_
      exact h
    · have h := h.2 hc
      refine Rn_pure 2 (i' := 34) (L' := [some (2, 161), some (0, l1), some (0, l2), some (0, l3), some (0, l4), some (0, l5), some (0, l6), some (0, l7), some (0, l8), none]) (st' := [(0, 99999), (0, l6)]) rfl ?_
      refine Rn_icgt rfl (fun hc => ?_) (fun hc => ?_)
      · have h := h.1 hc
        refine Rn_weak (L' := [none, none, none, none, none, none, none, none, none, none]) trivial ?_
        exact h
      · have h := h.2 hc
        refine Rn_pure 1 (i' := 36) (L' := [some (2, 161), some (0, l1), some (0, l2), some (0, l3), some (0, l4), some (0, l5), some (0, l6), some (0, l7), some (0, l8), none]) (st' := [(0, l7)]) rfl ?_
        refine Rn_iflt rfl (fun hc => ?_) (fun hc => ?_)
        · have h := h.1 hc
          refine Rn_weak (L' := [none, none, none, none, none, none, none, none, none, none]) trivial ?_
          exact h
        · have h := h.2 hc
          refine Rn_pure 2 (i' := 39) (L' := [some (2, 161), some (0, l1), some (0, l2), some (0, l3), some (0, l4), some (0, l5), some (0, l6), some (0, l7), some (0, l8), none]) (st' := [(0, 99999), (0, l7)]) rfl ?_
          refine Rn_icle rfl (fun hc => ?_) (fun hc => ?_)
          · have h := h.1 hc
            refine Rn_pure 2 (i' := 44) (L' := [some (2, 161), some (0, l1), some (0, l2), some (0, l3), some (0, l4), some (0, l5), some (0, l6), some (0, l7), some (0, l8), none]) (st' := [(2, 161), (0, l4)]) rfl ?_
            refine Rn_callI [(2, 161)] [(0, l4)] rfl rfl rfl rfl (ab_rvB_of rfl (⟨rfl, (by omega : (0 : Int) ≤ 161), (by omega : (161 : Int) < K)⟩)) ?_
            refine h.mono (fun x2 g' r' h => ?_)
            obtain ⟨hx, h⟩ := h
            replace hx := hx.symm
            subst hx
            obtain ⟨hx, h⟩ := h
            replace hx := hx.symm
            subst hx
            refine Rn_icge rfl (fun hc => ?_) (fun hc => ?_)
            · have h := h.1 hc
              refine Rn_pure 1 (i' := 49) (L' := [some (2, 161), some (0, l1), some (0, l2), some (0, l3), some (0, l4), some (0, l5), some (0, l6), some (0, l7), some (0, l8), none]) (st' := [(2, 161)]) rfl ?_
              refine Rn_callI [(2, 161)] [] rfl rfl rfl rfl (ab_rvB_of rfl (⟨rfl, (by omega : (0 : Int) ≤ 161), (by omega : (161 : Int) < K)⟩)) ?_
              refine h.mono (fun x3 g' r' h => ?_)
              obtain ⟨hx, h⟩ := h
              replace hx := hx.symm
              subst hx
              obtain ⟨hx, h⟩ := h
              replace hx := hx.symm
              subst hx
              refine Rn_pure 1 (i' := 51) (L' := [some (2, 161), some (0, l1), some (0, l2), some (0, l3), some (0, l4), some (0, l5), some (0, l6), some (0, l7), some (0, l8), none]) (st' := [(0, 120), (0, x3)]) rfl ?_
              refine Rn_icne rfl (fun hc => ?_) (fun hc => ?_)
              · have h := h.1 hc
                refine Rn_pure 1 (i' := 55) (L' := [some (2, 161), some (0, l1), some (0, l2), some (0, l3), some (0, l4), some (0, l5), some (0, l6), some (0, l7), some (0, l8), none]) (st' := [(2, 161)]) rfl ?_
                refine Rn_callV [(2, 161)] [] rfl rfl rfl rfl (ab_rvB_of rfl (⟨rfl, (by omega : (0 : Int) ≤ 161), (by omega : (161 : Int) < K)⟩)) ?_
                refine h.mono (fun g4 r' h => ?_)
                obtain ⟨hx, h⟩ := h
                replace hx := hx.symm
                subst hx
                refine Rn_pure 4 (i' := 60) (L' := [some (2, 161), some (0, l1), some (0, l2), some (0, l3), some (0, l4), some (0, l5), some (0, l6), some (0, l7), some (0, l8), none]) (st' := [(0, l8), (0, l2), (0, l1), (2, 161)]) rfl ?_
                refine Rn_ifeq rfl (fun hc => ?_) (fun hc => ?_)
                · have h := h.1 hc
                  refine Rn_pure 3 (i' := 66) (L' := [some (2, 161), some (0, l1), some (0, l2), some (0, l3), some (0, l4), some (0, l5), some (0, l6), some (0, l7), some (0, l8), none]) (st' := [(0, l5), (0, l4), (0, (-2)), (0, l2), (0, l1), (2, 161)]) rfl ?_
                  refine Rn_callV [(2, 161), (0, l1), (0, l2), (0, (-2)), (0, l4), (0, l5)] [] rfl rfl rfl rfl (ab_rvB_of rfl (⟨rfl, (by omega : (0 : Int) ≤ 161), (by omega : (161 : Int) < K)⟩)) ?_
                  refine h.mono (fun g6 r' h => ?_)
                  obtain ⟨hx, h⟩ := h
                  replace hx := hx.symm
                  subst hx
                  refine Rn_pure 1 (i' := 68) (L' := [some (2, 161), some (0, l1), some (0, l2), some (0, l3), some (0, l4), some (0, l5), some (0, l6), some (0, l7), some (0, l8), none]) (st' := [(2, 161)]) rfl ?_
                  refine Rn_callI [(2, 161)] [] rfl rfl rfl rfl (ab_rvB_of rfl (⟨rfl, (by omega : (0 : Int) ≤ 161), (by omega : (161 : Int) < K)⟩)) ?_
                  refine h.mono (fun x8 g' r' h => ?_)
                  obtain ⟨hx, h⟩ := h
                  replace hx := hx.symm
                  subst hx
                  obtain ⟨hx, h⟩ := h
                  replace hx := hx.symm
                  subst hx
                  refine Rn_pure 4 (i' := 73) (L' := [some (2, 161), some (0, l1), some (0, l2), some (0, l3), some (0, l4), some (0, l5), some (0, l6), some (0, l7), some (0, l8), some (0, x8 - 1)]) (st' := [(2, 161)]) rfl ?_
                  refine Rn_getR rfl (⟨rfl, (by omega : (0 : Int) ≤ 161), (by omega : (161 : Int) < K)⟩) (hr 149 _ rfl) (by decide) ?_
                  refine Rn_pure 6 (i' := 80) (L' := [some (2, 161), some (0, l1), some (0, l2), some (0, l3), some (0, l4), some (0, l5), some (0, l6), some (0, l7), some (0, l8), some (0, x8 - 1)]) (st' := [(0, l6), (0, 9 * (x8 - 1) + 5), (2, 174)]) rfl ?_
                  obtain ⟨hg, h⟩ := h
                  refine Rn_iast rfl (⟨rfl, (by omega : (0 : Int) ≤ 174), (by omega : (174 : Int) < K)⟩) hg (fun g9 he_g9 => ?_)
                  have h := h g9 he_g9
                  refine Rn_pure 1 (i' := 82) (L' := [some (2, 161), some (0, l1), some (0, l2), some (0, l3), some (0, l4), some (0, l5), some (0, l6), some (0, l7), some (0, l8), some (0, x8 - 1)]) (st' := [(2, 161)]) rfl ?_
                  refine Rn_getR rfl (⟨rfl, (by omega : (0 : Int) ≤ 161), (by omega : (161 : Int) < K)⟩) (hr 149 _ rfl) (by decide) ?_
                  refine Rn_pure 8 (i' := 91) (L' := [some (2, 161), some (0, l1), some (0, l2), some (0, l3), some (0, l4), some (0, l5), some (0, l6), some (0, l7), some (0, l8), some (0, x8 - 1)]) (st' := [(0, l7), (0, 9 * (x8 - 1) + 5 + 1), (2, 174)]) rfl ?_
                  obtain ⟨hg, h⟩ := h
                  refine Rn_iast rfl (⟨rfl, (by omega : (0 : Int) ≤ 174), (by omega : (174 : Int) < K)⟩) hg (fun g10 he_g10 => ?_)
                  have h := h g10 he_g10
                  refine Rn_pure 1 (i' := 93) (L' := [some (2, 161), some (0, l1), some (0, l2), some (0, l3), some (0, l4), some (0, l5), some (0, l6), some (0, l7), some (0, l8), some (0, x8 - 1)]) (st' := [(0, x8 - 1)]) rfl ?_
                  exact Rn_ret1 rfl h
                · have h := h.2 hc
                  refine Rn_pure 4 (i' := 66) (L' := [some (2, 161), some (0, l1), some (0, l2), some (0, l3), some (0, l4), some (0, l5), some (0, l6), some (0, l7), some (0, l8), none]) (st' := [(0, l5), (0, l4), (0, l3), (0, l2), (0, l1), (2, 161)]) rfl ?_
                  refine Rn_callV [(2, 161), (0, l1), (0, l2), (0, l3), (0, l4), (0, l5)] [] rfl rfl rfl rfl (ab_rvB_of rfl (⟨rfl, (by omega : (0 : Int) ≤ 161), (by omega : (161 : Int) < K)⟩)) ?_
                  refine h.mono (fun g11 r' h => ?_)
                  obtain ⟨hx, h⟩ := h
                  replace hx := hx.symm
                  subst hx
                  refine Rn_pure 1 (i' := 68) (L' := [some (2, 161), some (0, l1), some (0, l2), some (0, l3), some (0, l4), some (0, l5), some (0, l6), some (0, l7), some (0, l8), none]) (st' := [(2, 161)]) rfl ?_
                  refine Rn_callI [(2, 161)] [] rfl rfl rfl rfl (ab_rvB_of rfl (⟨rfl, (by omega : (0 : Int) ≤ 161), (by omega : (161 : Int) < K)⟩)) ?_
                  refine h.mono (fun x13 g' r' h => ?_)
                  obtain ⟨hx, h⟩ := h
                  replace hx := hx.symm
                  subst hx
                  obtain ⟨hx, h⟩ := h
                  replace hx := hx.symm
                  subst hx
                  refine Rn_pure 4 (i' := 73) (L' := [some (2, 161), some (0, l1), some (0, l2), some (0, l3), some (0, l4), some (0, l5), some (0, l6), some (0, l7), some (0, l8), some (0, x13 - 1)]) (st' := [(2, 161)]) rfl ?_
                  refine Rn_getR rfl (⟨rfl, (by omega : (0 : Int) ≤ 161), (by omega : (161 : Int) < K)⟩) (hr 149 _ rfl) (by decide) ?_
                  refine Rn_pure 6 (i' := 80) (L' := [some (2, 161), some (0, l1), some (0, l2), some (0, l3), some (0, l4), some (0, l5), some (0, l6), some (0, l7), some (0, l8), some (0, x13 - 1)]) (st' := [(0, l6), (0, 9 * (x13 - 1) + 5), (2, 174)]) rfl ?_
                  obtain ⟨hg, h⟩ := h
                  refine Rn_iast rfl (⟨rfl, (by omega : (0 : Int) ≤ 174), (by omega : (174 : Int) < K)⟩) hg (fun g14 he_g14 => ?_)
                  have h := h g14 he_g14
                  refine Rn_pure 1 (i' := 82) (L' := [some (2, 161), some (0, l1), some (0, l2), some (0, l3), some (0, l4), some (0, l5), some (0, l6), some (0, l7), some (0, l8), some (0, x13 - 1)]) (st' := [(2, 161)]) rfl ?_
                  refine Rn_getR rfl (⟨rfl, (by omega : (0 : Int) ≤ 161), (by omega : (161 : Int) < K)⟩) (hr 149 _ rfl) (by decide) ?_
                  refine Rn_pure 8 (i' := 91) (L' := [some (2, 161), some (0, l1), some (0, l2), some (0, l3), some (0, l4), some (0, l5), some (0, l6), some (0, l7), some (0, l8), some (0, x13 - 1)]) (st' := [(0, l7), (0, 9 * (x13 - 1) + 5 + 1), (2, 174)]) rfl ?_
                  obtain ⟨hg, h⟩ := h
                  refine Rn_iast rfl (⟨rfl, (by omega : (0 : Int) ≤ 174), (by omega : (174 : Int) < K)⟩) hg (fun g15 he_g15 => ?_)
                  have h := h g15 he_g15
                  refine Rn_pure 1 (i' := 93) (L' := [some (2, 161), some (0, l1), some (0, l2), some (0, l3), some (0, l4), some (0, l5), some (0, l6), some (0, l7), some (0, l8), some (0, x13 - 1)]) (st' := [(0, x13 - 1)]) rfl ?_
                  exact Rn_ret1 rfl h
              · have h := h.2 hc
                refine Rn_pure 1 (i' := 53) (L' := [some (2, 161), some (0, l1), some (0, l2), some (0, l3), some (0, l4), some (0, l5), some (0, l6), some (0, l7), some (0, l8), none]) (st' := [(0, (-3))]) rfl ?_
                exact Rn_ret1 rfl h
            · have h := h.2 hc
              refine Rn_pure 1 (i' := 47) (L' := [some (2, 161), some (0, l1), some (0, l2), some (0, l3), some (0, l4), some (0, l5), some (0, l6), some (0, l7), some (0, l8), none]) (st' := [(0, (-2))]) rfl ?_
              exact Rn_ret1 rfl h
          · have h := h.2 hc
            refine Rn_weak (L' := [none, none, none, none, none, none, none, none, none, none]) trivial ?_
            exact h
theorem v_M_eventOf_40 {K : Int} {S : Nat} {g r : ab_H} (P : Int → ab_H → ab_H → Prop) (hr : SI r) (hK : 185 ≤ K) (h : P (-1) g r) : ab_Rn m_M_eventOf 40 [none, none, none, none, none, none, none, none, none, none] [] (K, S, g, r) (ab_Qi K S P) := by
  refine Rn_pure 1 (i' := 41) (L' := [none, none, none, none, none, none, none, none, none, none]) (st' := [(0, (-1))]) rfl ?_
  exact Rn_ret1 rfl h
-- EventLedgerModel.event (IIIIII)I
theorem v_M_event {K : Int} {S : Nat} {g r : ab_H} {p1 p2 p3 p4 p5 p6 : Int} (P : Int → ab_H → ab_H → Prop) (hr : SI r) (hK : 185 ≤ K) (h : ∀ g1, g1 = ab_up g 161 0 0 → ab_RI m_M_eventOf [(2, 161), (0, p1), (0, p2), (0, p3), (0, p4), (0, 3), (0, p5), (0, p6)] K S g1 r (fun x3 g2 r' => r' = r ∧ (P x3 g2 r))) : ab_RI m_M_event [(2, 161), (0, p1), (0, p2), (0, p3), (0, p4), (0, p5), (0, p6)] K S g r P := by
  show ab_Rn m_M_event 0 [some (2, 161), some (0, p1), some (0, p2), some (0, p3), some (0, p4), some (0, p5), some (0, p6)] [] (K, S, g, r) (ab_Qi K S P)
  refine Rn_pure 2 (i' := 2) (L' := [some (2, 161), some (0, p1), some (0, p2), some (0, p3), some (0, p4), some (0, p5), some (0, p6)]) (st' := [(0, 0), (2, 161)]) rfl ?_
  refine Rn_putI rfl (⟨rfl, (by omega : (0 : Int) ≤ 161), (by omega : (161 : Int) < K)⟩) (fun g1 he_g1 => ?_)
  have h := h g1 he_g1
  refine Rn_pure 8 (i' := 11) (L' := [some (2, 161), some (0, p1), some (0, p2), some (0, p3), some (0, p4), some (0, p5), some (0, p6)]) (st' := [(0, p6), (0, p5), (0, 3), (0, p4), (0, p3), (0, p2), (0, p1), (2, 161)]) rfl ?_
  refine Rn_callI [(2, 161), (0, p1), (0, p2), (0, p3), (0, p4), (0, 3), (0, p5), (0, p6)] [] rfl rfl rfl rfl (ab_rvB_of rfl (⟨rfl, (by omega : (0 : Int) ≤ 161), (by omega : (161 : Int) < K)⟩)) ?_
  refine h.mono (fun x3 g2 r' h => ?_)
  obtain ⟨hx, h⟩ := h
  replace hx := hx.symm
  subst hx
  exact Rn_ret1 rfl h
-- EventLedgerModel.old (IIIII)I
theorem v_M_old {K : Int} {S : Nat} {g r : ab_H} {p1 p2 p3 p4 p5 : Int} (P : Int → ab_H → ab_H → Prop) (hr : SI r) (hK : 185 ≤ K) (h : ∀ g1, g1 = ab_up g 161 0 0 → ab_RI m_M_eventOf [(2, 161), (0, p1), (0, p2), (0, p3), (0, p4), (0, 1), (0, p5), (0, 0)] K S g1 r (fun x3 g2 r' => r' = r ∧ (P x3 g2 r))) : ab_RI m_M_old [(2, 161), (0, p1), (0, p2), (0, p3), (0, p4), (0, p5)] K S g r P := by
  show ab_Rn m_M_old 0 [some (2, 161), some (0, p1), some (0, p2), some (0, p3), some (0, p4), some (0, p5)] [] (K, S, g, r) (ab_Qi K S P)
  refine Rn_pure 2 (i' := 2) (L' := [some (2, 161), some (0, p1), some (0, p2), some (0, p3), some (0, p4), some (0, p5)]) (st' := [(0, 0), (2, 161)]) rfl ?_
  refine Rn_putI rfl (⟨rfl, (by omega : (0 : Int) ≤ 161), (by omega : (161 : Int) < K)⟩) (fun g1 he_g1 => ?_)
  have h := h g1 he_g1
  refine Rn_pure 8 (i' := 11) (L' := [some (2, 161), some (0, p1), some (0, p2), some (0, p3), some (0, p4), some (0, p5)]) (st' := [(0, 0), (0, p5), (0, 1), (0, p4), (0, p3), (0, p2), (0, p1), (2, 161)]) rfl ?_
  refine Rn_callI [(2, 161), (0, p1), (0, p2), (0, p3), (0, p4), (0, 1), (0, p5), (0, 0)] [] rfl rfl rfl rfl (ab_rvB_of rfl (⟨rfl, (by omega : (0 : Int) ≤ 161), (by omega : (161 : Int) < K)⟩)) ?_
  refine h.mono (fun x3 g2 r' h => ?_)
  obtain ⟨hx, h⟩ := h
  replace hx := hx.symm
  subst hx
  exact Rn_ret1 rfl h
-- EventLedgerModel.isEvent (I)Z
theorem v_M_isEvent {K : Int} {S : Nat} {g r : ab_H} {p1 : Int} (P : Int → ab_H → ab_H → Prop) (hr : SI r) (hK : 185 ≤ K) (h : ((wr p1 < wr 0 → P 0 g r) ∧ (wr 0 ≤ wr p1 → ab_RI m_M_many [(2, 161)] K S g r (fun x1 g' r' => g' = g ∧ r' = r ∧ (((wr x1 ≤ wr p1 → P 0 g r) ∧ (wr p1 < wr x1 → P 1 g r))))))) : ab_RI m_M_isEvent [(2, 161), (0, p1)] K S g r P := by
  show ab_Rn m_M_isEvent 0 [some (2, 161), some (0, p1)] [] (K, S, g, r) (ab_Qi K S P)
  refine Rn_pure 1 (i' := 1) (L' := [some (2, 161), some (0, p1)]) (st' := [(0, p1)]) rfl ?_
  refine Rn_iflt rfl (fun hc => ?_) (fun hc => ?_)
  · have h := h.1 hc
    refine Rn_pure 1 (i' := 9) (L' := [some (2, 161), some (0, p1)]) (st' := [(0, 0)]) rfl ?_
    exact Rn_ret2 rfl (by decide) h
  · have h := h.2 hc
    refine Rn_pure 2 (i' := 4) (L' := [some (2, 161), some (0, p1)]) (st' := [(2, 161), (0, p1)]) rfl ?_
    refine Rn_callI [(2, 161)] [(0, p1)] rfl rfl rfl rfl (ab_rvB_of rfl (⟨rfl, (by omega : (0 : Int) ≤ 161), (by omega : (161 : Int) < K)⟩)) ?_
    refine h.mono (fun x1 g' r' h => ?_)
    obtain ⟨hx, h⟩ := h
    replace hx := hx.symm
    subst hx
    obtain ⟨hx, h⟩ := h
    replace hx := hx.symm
    subst hx
    refine Rn_icge rfl (fun hc => ?_) (fun hc => ?_)
    · have h := h.1 hc
      refine Rn_pure 1 (i' := 9) (L' := [some (2, 161), some (0, p1)]) (st' := [(0, 0)]) rfl ?_
      exact Rn_ret2 rfl (by decide) h
    · have h := h.2 hc
      refine Rn_pure 2 (i' := 9) (L' := [some (2, 161), some (0, p1)]) (st' := [(0, 1)]) rfl ?_
      exact Rn_ret2 rfl (by decide) h
-- EventLedgerModel.revoke (II)I
theorem v_M_revoke {K : Int} {S : Nat} {g r : ab_H} {p1 p2 : Int} (P : Int → ab_H → ab_H → Prop) (hr : SI r) (hK : 185 ≤ K) (h : ∀ g1, g1 = ab_up g 161 0 0 → ab_RI m_M_isEvent [(2, 161), (0, p1)] K S g1 r (fun x2 g' r' => g' = g1 ∧ r' = r ∧ (((wr x2 = wr 0 → P (-1) g1 r) ∧ (¬ wr x2 = wr 0 → ab_RI m_M_isTime [(0, p2)] K S g1 r (fun x3 g' r' => g' = g1 ∧ r' = r ∧ (((wr x3 = wr 0 → P (-1) g1 r) ∧ (¬ wr x3 = wr 0 → ab_RI m_M_isVoid [(2, 161), (0, p1)] K S g1 r (fun x4 g' r' => g' = g1 ∧ r' = r ∧ (((¬ wr x4 = wr 0 → P (-1) g1 r) ∧ (wr x4 = wr 0 → ab_RI m_M_isVoided [(2, 161), (0, p1)] K S g1 r (fun x5 g' r' => g' = g1 ∧ r' = r ∧ (((wr x5 = wr 0 → ab_RI m_M_latestTime [(2, 161)] K S g1 r (fun x6 g' r' => g' = g1 ∧ r' = r ∧ (((wr x6 ≤ wr p2 → ab_RI m_M_many [(2, 161)] K S g1 r (fun x7 g' r' => g' = g1 ∧ r' = r ∧ (((¬ wr x7 = wr 120 → ab_RV m_M_remembers [(2, 161)] K S g1 r (fun g8 r' => r' = r ∧ (ab_RV m_M_comes [(2, 161), (0, 7), (0, (-2)), (0, p1), (0, p2), (0, 0)] K S g8 r (fun g10 r' => r' = r ∧ (ab_RI m_M_many [(2, 161)] K S g10 r (fun x12 g' r' => g' = g10 ∧ r' = r ∧ (P (x12 - 1) g10 r))))))) ∧ (wr x7 = wr 120 → P (-3) g1 r))))) ∧ (wr p2 < wr x6 → P (-2) g1 r))))) ∧ (¬ wr x5 = wr 0 → P (-1) g1 r))))))))))))))))) : ab_RI m_M_revoke [(2, 161), (0, p1), (0, p2)] K S g r P := by
  show ab_Rn m_M_revoke 0 [some (2, 161), some (0, p1), some (0, p2)] [] (K, S, g, r) (ab_Qi K S P)
  refine Rn_pure 2 (i' := 2) (L' := [some (2, 161), some (0, p1), some (0, p2)]) (st' := [(0, 0), (2, 161)]) rfl ?_
  refine Rn_putI rfl (⟨rfl, (by omega : (0 : Int) ≤ 161), (by omega : (161 : Int) < K)⟩) (fun g1 he_g1 => ?_)
  have h := h g1 he_g1
  refine Rn_pure 2 (i' := 5) (L' := [some (2, 161), some (0, p1), some (0, p2)]) (st' := [(0, p1), (2, 161)]) rfl ?_
  refine Rn_callI [(2, 161), (0, p1)] [] rfl rfl rfl rfl (ab_rvB_of rfl (⟨rfl, (by omega : (0 : Int) ≤ 161), (by omega : (161 : Int) < K)⟩)) ?_
  refine h.mono (fun x2 g' r' h => ?_)
  obtain ⟨hx, h⟩ := h
  replace hx := hx.symm
  subst hx
  obtain ⟨hx, h⟩ := h
  replace hx := hx.symm
  subst hx
  refine Rn_ifeq rfl (fun hc => ?_) (fun hc => ?_)
  · have h := h.1 hc
    refine Rn_pure 1 (i' := 19) (L' := [some (2, 161), some (0, p1), some (0, p2)]) (st' := [(0, (-1))]) rfl ?_
    exact Rn_ret1 rfl h
  · have h := h.2 hc
    refine Rn_pure 1 (i' := 8) (L' := [some (2, 161), some (0, p1), some (0, p2)]) (st' := [(0, p2)]) rfl ?_
    refine Rn_callI [(0, p2)] [] rfl rfl rfl rfl (rfl) ?_
    refine h.mono (fun x3 g' r' h => ?_)
    obtain ⟨hx, h⟩ := h
    replace hx := hx.symm
    subst hx
    obtain ⟨hx, h⟩ := h
    replace hx := hx.symm
    subst hx
    refine Rn_ifeq rfl (fun hc => ?_) (fun hc => ?_)
    · have h := h.1 hc
      refine Rn_pure 1 (i' := 19) (L' := [some (2, 161), some (0, p1), some (0, p2)]) (st' := [(0, (-1))]) rfl ?_
      exact Rn_ret1 rfl h
    · have h := h.2 hc
      refine Rn_pure 2 (i' := 12) (L' := [some (2, 161), some (0, p1), some (0, p2)]) (st' := [(0, p1), (2, 161)]) rfl ?_
      refine Rn_callI [(2, 161), (0, p1)] [] rfl rfl rfl rfl (ab_rvB_of rfl (⟨rfl, (by omega : (0 : Int) ≤ 161), (by omega : (161 : Int) < K)⟩)) ?_
      refine h.mono (fun x4 g' r' h => ?_)
      obtain ⟨hx, h⟩ := h
      replace hx := hx.symm
      subst hx
      obtain ⟨hx, h⟩ := h
      replace hx := hx.symm
      subst hx
      refine Rn_ifne rfl (fun hc => ?_) (fun hc => ?_)
      · have h := h.1 hc
        refine Rn_pure 1 (i' := 19) (L' := [some (2, 161), some (0, p1), some (0, p2)]) (st' := [(0, (-1))]) rfl ?_
        exact Rn_ret1 rfl h
      · have h := h.2 hc
        refine Rn_pure 2 (i' := 16) (L' := [some (2, 161), some (0, p1), some (0, p2)]) (st' := [(0, p1), (2, 161)]) rfl ?_
        refine Rn_callI [(2, 161), (0, p1)] [] rfl rfl rfl rfl (ab_rvB_of rfl (⟨rfl, (by omega : (0 : Int) ≤ 161), (by omega : (161 : Int) < K)⟩)) ?_
        refine h.mono (fun x5 g' r' h => ?_)
        obtain ⟨hx, h⟩ := h
        replace hx := hx.symm
        subst hx
        obtain ⟨hx, h⟩ := h
        replace hx := hx.symm
        subst hx
        refine Rn_ifeq rfl (fun hc => ?_) (fun hc => ?_)
        · have h := h.1 hc
          refine Rn_pure 2 (i' := 22) (L' := [some (2, 161), some (0, p1), some (0, p2)]) (st' := [(2, 161), (0, p2)]) rfl ?_
          refine Rn_callI [(2, 161)] [(0, p2)] rfl rfl rfl rfl (ab_rvB_of rfl (⟨rfl, (by omega : (0 : Int) ≤ 161), (by omega : (161 : Int) < K)⟩)) ?_
          refine h.mono (fun x6 g' r' h => ?_)
          obtain ⟨hx, h⟩ := h
          replace hx := hx.symm
          subst hx
          obtain ⟨hx, h⟩ := h
          replace hx := hx.symm
          subst hx
          refine Rn_icge rfl (fun hc => ?_) (fun hc => ?_)
          · have h := h.1 hc
            refine Rn_pure 1 (i' := 27) (L' := [some (2, 161), some (0, p1), some (0, p2)]) (st' := [(2, 161)]) rfl ?_
            refine Rn_callI [(2, 161)] [] rfl rfl rfl rfl (ab_rvB_of rfl (⟨rfl, (by omega : (0 : Int) ≤ 161), (by omega : (161 : Int) < K)⟩)) ?_
            refine h.mono (fun x7 g' r' h => ?_)
            obtain ⟨hx, h⟩ := h
            replace hx := hx.symm
            subst hx
            obtain ⟨hx, h⟩ := h
            replace hx := hx.symm
            subst hx
            refine Rn_pure 1 (i' := 29) (L' := [some (2, 161), some (0, p1), some (0, p2)]) (st' := [(0, 120), (0, x7)]) rfl ?_
            refine Rn_icne rfl (fun hc => ?_) (fun hc => ?_)
            · have h := h.1 hc
              refine Rn_pure 1 (i' := 33) (L' := [some (2, 161), some (0, p1), some (0, p2)]) (st' := [(2, 161)]) rfl ?_
              refine Rn_callV [(2, 161)] [] rfl rfl rfl rfl (ab_rvB_of rfl (⟨rfl, (by omega : (0 : Int) ≤ 161), (by omega : (161 : Int) < K)⟩)) ?_
              refine h.mono (fun g8 r' h => ?_)
              obtain ⟨hx, h⟩ := h
              replace hx := hx.symm
              subst hx
              refine Rn_pure 6 (i' := 40) (L' := [some (2, 161), some (0, p1), some (0, p2)]) (st' := [(0, 0), (0, p2), (0, p1), (0, (-2)), (0, 7), (2, 161)]) rfl ?_
              refine Rn_callV [(2, 161), (0, 7), (0, (-2)), (0, p1), (0, p2), (0, 0)] [] rfl rfl rfl rfl (ab_rvB_of rfl (⟨rfl, (by omega : (0 : Int) ≤ 161), (by omega : (161 : Int) < K)⟩)) ?_
              refine h.mono (fun g10 r' h => ?_)
              obtain ⟨hx, h⟩ := h
              replace hx := hx.symm
              subst hx
              refine Rn_pure 1 (i' := 42) (L' := [some (2, 161), some (0, p1), some (0, p2)]) (st' := [(2, 161)]) rfl ?_
              refine Rn_callI [(2, 161)] [] rfl rfl rfl rfl (ab_rvB_of rfl (⟨rfl, (by omega : (0 : Int) ≤ 161), (by omega : (161 : Int) < K)⟩)) ?_
              refine h.mono (fun x12 g' r' h => ?_)
              obtain ⟨hx, h⟩ := h
              replace hx := hx.symm
              subst hx
              obtain ⟨hx, h⟩ := h
              replace hx := hx.symm
              subst hx
              refine Rn_pure 2 (i' := 45) (L' := [some (2, 161), some (0, p1), some (0, p2)]) (st' := [(0, x12 - 1)]) rfl ?_
              exact Rn_ret1 rfl h
            · have h := h.2 hc
              refine Rn_pure 1 (i' := 31) (L' := [some (2, 161), some (0, p1), some (0, p2)]) (st' := [(0, (-3))]) rfl ?_
              exact Rn_ret1 rfl h
          · have h := h.2 hc
            refine Rn_pure 1 (i' := 25) (L' := [some (2, 161), some (0, p1), some (0, p2)]) (st' := [(0, (-2))]) rfl ?_
            exact Rn_ret1 rfl h
        · have h := h.2 hc
          refine Rn_pure 1 (i' := 19) (L' := [some (2, 161), some (0, p1), some (0, p2)]) (st' := [(0, (-1))]) rfl ?_
          exact Rn_ret1 rfl h
-- EventLedgerModel.of (II)I
theorem v_M_of {K : Int} {S : Nat} {g r : ab_H} {p1 p2 : Int} (P : Int → ab_H → ab_H → Prop) (hr : SI r) (hK : 185 ≤ K) (h : ∀ g1, g1 = ab_up g 161 0 0 → ab_RI m_M_isEvent [(2, 161), (0, p1)] K S g1 r (fun x2 g' r' => g' = g1 ∧ r' = r ∧ (((¬ wr x2 = wr 0 → ((wr p2 = 0 → ((0 : Int) ≤ 9 * p1 + 0 ∧ (9 * p1 + 0 : Int) < 1607) ∧ P (g1 174 (9 * p1 + 0)) g1 r) ∧ (wr p2 = 1 → ((0 : Int) ≤ 9 * p1 + 1 ∧ (9 * p1 + 1 : Int) < 1607) ∧ P (g1 174 (9 * p1 + 1)) g1 r) ∧ (wr p2 = 2 → ((0 : Int) ≤ 9 * p1 + 2 ∧ (9 * p1 + 2 : Int) < 1607) ∧ P (g1 174 (9 * p1 + 2)) g1 r) ∧ (wr p2 = 3 → ((0 : Int) ≤ 9 * p1 + 3 ∧ (9 * p1 + 3 : Int) < 1607) ∧ P (g1 174 (9 * p1 + 3)) g1 r) ∧ (wr p2 = 4 → ((0 : Int) ≤ 9 * p1 + 4 ∧ (9 * p1 + 4 : Int) < 1607) ∧ P (g1 174 (9 * p1 + 4)) g1 r) ∧ (wr p2 = 5 → ab_RV m_M_replaysAll [(2, 161)] K S g1 r (fun g3 r' => r' = r ∧ (((0 : Int) ≤ p1 ∧ (p1 : Int) < 120) ∧ P (g3 183 p1) g3 r))) ∧ (wr p2 = 6 → ab_RI m_M_isVoided [(2, 161), (0, p1)] K S g1 r (fun x5 g' r' => g' = g1 ∧ r' = r ∧ (((wr x5 = wr 0 → P 0 g1 r) ∧ (¬ wr x5 = wr 0 → P 1 g1 r))))) ∧ (wr p2 = 7 → ab_RI m_M_weightOf [(2, 161), (0, p1)] K S g1 r (fun x6 g' r' => g' = g1 ∧ r' = r ∧ (P x6 g1 r))) ∧ (wr p2 < 0 ∨ 8 ≤ wr p2 → ∀ g7, g7 = ab_up g1 161 0 2 → P 0 g7 r))) ∧ (wr x2 = wr 0 → ∀ g8, g8 = ab_up g1 161 0 1 → P 0 g8 r))))) : ab_RI m_M_of [(2, 161), (0, p1), (0, p2)] K S g r P := by
  show ab_Rn m_M_of 0 [some (2, 161), some (0, p1), some (0, p2), none] [] (K, S, g, r) (ab_Qi K S P)
  refine Rn_pure 2 (i' := 2) (L' := [some (2, 161), some (0, p1), some (0, p2), none]) (st' := [(0, 0), (2, 161)]) rfl ?_
  refine Rn_putI rfl (⟨rfl, (by omega : (0 : Int) ≤ 161), (by omega : (161 : Int) < K)⟩) (fun g1 he_g1 => ?_)
  have h := h g1 he_g1
  refine Rn_pure 2 (i' := 5) (L' := [some (2, 161), some (0, p1), some (0, p2), none]) (st' := [(0, p1), (2, 161)]) rfl ?_
  refine Rn_callI [(2, 161), (0, p1)] [] rfl rfl rfl rfl (ab_rvB_of rfl (⟨rfl, (by omega : (0 : Int) ≤ 161), (by omega : (161 : Int) < K)⟩)) ?_
  refine h.mono (fun x2 g' r' h => ?_)
  obtain ⟨hx, h⟩ := h
  replace hx := hx.symm
  subst hx
  obtain ⟨hx, h⟩ := h
  replace hx := hx.symm
  subst hx
  refine Rn_ifne rfl (fun hc => ?_) (fun hc => ?_)
  · have h := h.1 hc
    refine Rn_pure 5 (i' := 17) (L' := [some (2, 161), some (0, p1), some (0, p2), some (0, 9 * p1)]) (st' := [(0, p2)]) rfl ?_
    refine Rn_ts rfl ?_
    have ht18 : (wr p2 = 0) → ab_Rn m_M_of 18 [some (2, 161), some (0, p1), some (0, p2), some (0, 9 * p1)] [] (K, S, g1, r) (ab_Qi K S P) := by
      intro hc
      have h := h.1 hc
      refine Rn_pure 1 (i' := 19) (L' := [some (2, 161), some (0, p1), some (0, p2), some (0, 9 * p1)]) (st' := [(2, 161)]) rfl ?_
      refine Rn_getR rfl (⟨rfl, (by omega : (0 : Int) ≤ 161), (by omega : (161 : Int) < K)⟩) (hr 149 _ rfl) (by decide) ?_
      refine Rn_pure 3 (i' := 23) (L' := [some (2, 161), some (0, p1), some (0, p2), some (0, 9 * p1)]) (st' := [(0, 9 * p1 + 0), (2, 174)]) rfl ?_
      obtain ⟨hg, h⟩ := h
      refine Rn_iald rfl (⟨rfl, (by omega : (0 : Int) ≤ 174), (by omega : (174 : Int) < K)⟩) hg ?_
      exact Rn_ret1 rfl h
    have ht25 : (wr p2 = 1) → ab_Rn m_M_of 25 [some (2, 161), some (0, p1), some (0, p2), some (0, 9 * p1)] [] (K, S, g1, r) (ab_Qi K S P) := by
      intro hc
      have h := h.2.1 hc
      refine Rn_pure 1 (i' := 26) (L' := [some (2, 161), some (0, p1), some (0, p2), some (0, 9 * p1)]) (st' := [(2, 161)]) rfl ?_
      refine Rn_getR rfl (⟨rfl, (by omega : (0 : Int) ≤ 161), (by omega : (161 : Int) < K)⟩) (hr 149 _ rfl) (by decide) ?_
      refine Rn_pure 3 (i' := 30) (L' := [some (2, 161), some (0, p1), some (0, p2), some (0, 9 * p1)]) (st' := [(0, 9 * p1 + 1), (2, 174)]) rfl ?_
      obtain ⟨hg, h⟩ := h
      refine Rn_iald rfl (⟨rfl, (by omega : (0 : Int) ≤ 174), (by omega : (174 : Int) < K)⟩) hg ?_
      exact Rn_ret1 rfl h
    have ht32 : (wr p2 = 2) → ab_Rn m_M_of 32 [some (2, 161), some (0, p1), some (0, p2), some (0, 9 * p1)] [] (K, S, g1, r) (ab_Qi K S P) := by
      intro hc
      have h := h.2.2.1 hc
      refine Rn_pure 1 (i' := 33) (L' := [some (2, 161), some (0, p1), some (0, p2), some (0, 9 * p1)]) (st' := [(2, 161)]) rfl ?_
      refine Rn_getR rfl (⟨rfl, (by omega : (0 : Int) ≤ 161), (by omega : (161 : Int) < K)⟩) (hr 149 _ rfl) (by decide) ?_
      refine Rn_pure 3 (i' := 37) (L' := [some (2, 161), some (0, p1), some (0, p2), some (0, 9 * p1)]) (st' := [(0, 9 * p1 + 2), (2, 174)]) rfl ?_
      obtain ⟨hg, h⟩ := h
      refine Rn_iald rfl (⟨rfl, (by omega : (0 : Int) ≤ 174), (by omega : (174 : Int) < K)⟩) hg ?_
      exact Rn_ret1 rfl h
    have ht39 : (wr p2 = 3) → ab_Rn m_M_of 39 [some (2, 161), some (0, p1), some (0, p2), some (0, 9 * p1)] [] (K, S, g1, r) (ab_Qi K S P) := by
      intro hc
      have h := h.2.2.2.1 hc
      refine Rn_pure 1 (i' := 40) (L' := [some (2, 161), some (0, p1), some (0, p2), some (0, 9 * p1)]) (st' := [(2, 161)]) rfl ?_
      refine Rn_getR rfl (⟨rfl, (by omega : (0 : Int) ≤ 161), (by omega : (161 : Int) < K)⟩) (hr 149 _ rfl) (by decide) ?_
      refine Rn_pure 3 (i' := 44) (L' := [some (2, 161), some (0, p1), some (0, p2), some (0, 9 * p1)]) (st' := [(0, 9 * p1 + 3), (2, 174)]) rfl ?_
      obtain ⟨hg, h⟩ := h
      refine Rn_iald rfl (⟨rfl, (by omega : (0 : Int) ≤ 174), (by omega : (174 : Int) < K)⟩) hg ?_
      exact Rn_ret1 rfl h
    have ht46 : (wr p2 = 4) → ab_Rn m_M_of 46 [some (2, 161), some (0, p1), some (0, p2), some (0, 9 * p1)] [] (K, S, g1, r) (ab_Qi K S P) := by
      intro hc
      have h := h.2.2.2.2.1 hc
      refine Rn_pure 1 (i' := 47) (L' := [some (2, 161), some (0, p1), some (0, p2), some (0, 9 * p1)]) (st' := [(2, 161)]) rfl ?_
      refine Rn_getR rfl (⟨rfl, (by omega : (0 : Int) ≤ 161), (by omega : (161 : Int) < K)⟩) (hr 149 _ rfl) (by decide) ?_
      refine Rn_pure 3 (i' := 51) (L' := [some (2, 161), some (0, p1), some (0, p2), some (0, 9 * p1)]) (st' := [(0, 9 * p1 + 4), (2, 174)]) rfl ?_
      obtain ⟨hg, h⟩ := h
      refine Rn_iald rfl (⟨rfl, (by omega : (0 : Int) ≤ 174), (by omega : (174 : Int) < K)⟩) hg ?_
      exact Rn_ret1 rfl h
    have ht53 : (wr p2 = 5) → ab_Rn m_M_of 53 [some (2, 161), some (0, p1), some (0, p2), some (0, 9 * p1)] [] (K, S, g1, r) (ab_Qi K S P) := by
      intro hc
      have h := h.2.2.2.2.2.1 hc
      refine Rn_pure 1 (i' := 54) (L' := [some (2, 161), some (0, p1), some (0, p2), some (0, 9 * p1)]) (st' := [(2, 161)]) rfl ?_
      refine Rn_callV [(2, 161)] [] rfl rfl rfl rfl (ab_rvB_of rfl (⟨rfl, (by omega : (0 : Int) ≤ 161), (by omega : (161 : Int) < K)⟩)) ?_
      refine h.mono (fun g3 r' h => ?_)
      obtain ⟨hx, h⟩ := h
      replace hx := hx.symm
      subst hx
      refine Rn_pure 1 (i' := 56) (L' := [some (2, 161), some (0, p1), some (0, p2), some (0, 9 * p1)]) (st' := [(2, 161)]) rfl ?_
      refine Rn_getR rfl (⟨rfl, (by omega : (0 : Int) ≤ 161), (by omega : (161 : Int) < K)⟩) (hr 158 _ rfl) (by decide) ?_
      refine Rn_pure 1 (i' := 58) (L' := [some (2, 161), some (0, p1), some (0, p2), some (0, 9 * p1)]) (st' := [(0, p1), (2, 183)]) rfl ?_
      obtain ⟨hg, h⟩ := h
      refine Rn_iald rfl (⟨rfl, (by omega : (0 : Int) ≤ 183), (by omega : (183 : Int) < K)⟩) hg ?_
      exact Rn_ret1 rfl h
    have ht60 : (wr p2 = 6) → ab_Rn m_M_of 60 [some (2, 161), some (0, p1), some (0, p2), some (0, 9 * p1)] [] (K, S, g1, r) (ab_Qi K S P) := by
      intro hc
      have h := h.2.2.2.2.2.2.1 hc
      refine Rn_pure 2 (i' := 62) (L' := [some (2, 161), some (0, p1), some (0, p2), some (0, 9 * p1)]) (st' := [(0, p1), (2, 161)]) rfl ?_
      refine Rn_callI [(2, 161), (0, p1)] [] rfl rfl rfl rfl (ab_rvB_of rfl (⟨rfl, (by omega : (0 : Int) ≤ 161), (by omega : (161 : Int) < K)⟩)) ?_
      refine h.mono (fun x5 g' r' h => ?_)
      obtain ⟨hx, h⟩ := h
      replace hx := hx.symm
      subst hx
      obtain ⟨hx, h⟩ := h
      replace hx := hx.symm
      subst hx
      refine Rn_ifeq rfl (fun hc => ?_) (fun hc => ?_)
      · have h := h.1 hc
        refine Rn_pure 1 (i' := 67) (L' := [some (2, 161), some (0, p1), some (0, p2), some (0, 9 * p1)]) (st' := [(0, 0)]) rfl ?_
        exact Rn_ret1 rfl h
      · have h := h.2 hc
        refine Rn_pure 2 (i' := 67) (L' := [some (2, 161), some (0, p1), some (0, p2), some (0, 9 * p1)]) (st' := [(0, 1)]) rfl ?_
        exact Rn_ret1 rfl h
    have ht68 : (wr p2 = 7) → ab_Rn m_M_of 68 [some (2, 161), some (0, p1), some (0, p2), some (0, 9 * p1)] [] (K, S, g1, r) (ab_Qi K S P) := by
      intro hc
      have h := h.2.2.2.2.2.2.2.1 hc
      refine Rn_pure 2 (i' := 70) (L' := [some (2, 161), some (0, p1), some (0, p2), some (0, 9 * p1)]) (st' := [(0, p1), (2, 161)]) rfl ?_
      refine Rn_callI [(2, 161), (0, p1)] [] rfl rfl rfl rfl (ab_rvB_of rfl (⟨rfl, (by omega : (0 : Int) ≤ 161), (by omega : (161 : Int) < K)⟩)) ?_
      refine h.mono (fun x6 g' r' h => ?_)
      obtain ⟨hx, h⟩ := h
      replace hx := hx.symm
      subst hx
      obtain ⟨hx, h⟩ := h
      replace hx := hx.symm
      subst hx
      exact Rn_ret1 rfl h
    have htd : (wr p2 < 0 ∨ 8 ≤ wr p2) → ab_Rn m_M_of 72 [some (2, 161), some (0, p1), some (0, p2), some (0, 9 * p1)] [] (K, S, g1, r) (ab_Qi K S P) := by
      intro hc
      have h := h.2.2.2.2.2.2.2.2 hc
      refine Rn_pure 2 (i' := 74) (L' := [some (2, 161), some (0, p1), some (0, p2), some (0, 9 * p1)]) (st' := [(0, 2), (2, 161)]) rfl ?_
      refine Rn_putI rfl (⟨rfl, (by omega : (0 : Int) ≤ 161), (by omega : (161 : Int) < K)⟩) (fun g7 he_g7 => ?_)
      have h := h g7 he_g7
      refine Rn_pure 1 (i' := 76) (L' := [some (2, 161), some (0, p1), some (0, p2), some (0, 9 * p1)]) (st' := [(0, 0)]) rfl ?_
      exact Rn_ret1 rfl h
    have hsp : wr p2 < 0 ∨ 8 ≤ wr p2 ∨ wr p2 = 0 ∨ wr p2 = 1 ∨ wr p2 = 2 ∨ wr p2 = 3 ∨ wr p2 = 4 ∨ wr p2 = 5 ∨ wr p2 = 6 ∨ wr p2 = 7 := by omega
    rcases hsp with hc | hc | hc | hc | hc | hc | hc | hc | hc | hc
    · rw [ab_ts_out (hT := (rfl : ab_nth ab_tsL 7 = some (0, 72, [18, 25, 32, 39, 46, 53, 60, 68]))) rfl (Or.inl hc)]; exact htd (by simp only [hc, true_or, or_true])
    · rw [ab_ts_out (hT := (rfl : ab_nth ab_tsL 7 = some (0, 72, [18, 25, 32, 39, 46, 53, 60, 68]))) rfl (Or.inr hc)]; exact htd (by simp only [hc, true_or, or_true])
    · rw [ab_ts_in (j := 0) (hT := (rfl : ab_nth ab_tsL 7 = some (0, 72, [18, 25, 32, 39, 46, 53, 60, 68]))) (by rw [hc]; rfl) rfl]; exact ht18 (by simp only [hc, true_or, or_true])
    · rw [ab_ts_in (j := 1) (hT := (rfl : ab_nth ab_tsL 7 = some (0, 72, [18, 25, 32, 39, 46, 53, 60, 68]))) (by rw [hc]; rfl) rfl]; exact ht25 (by simp only [hc, true_or, or_true])
    · rw [ab_ts_in (j := 2) (hT := (rfl : ab_nth ab_tsL 7 = some (0, 72, [18, 25, 32, 39, 46, 53, 60, 68]))) (by rw [hc]; rfl) rfl]; exact ht32 (by simp only [hc, true_or, or_true])
    · rw [ab_ts_in (j := 3) (hT := (rfl : ab_nth ab_tsL 7 = some (0, 72, [18, 25, 32, 39, 46, 53, 60, 68]))) (by rw [hc]; rfl) rfl]; exact ht39 (by simp only [hc, true_or, or_true])
    · rw [ab_ts_in (j := 4) (hT := (rfl : ab_nth ab_tsL 7 = some (0, 72, [18, 25, 32, 39, 46, 53, 60, 68]))) (by rw [hc]; rfl) rfl]; exact ht46 (by simp only [hc, true_or, or_true])
    · rw [ab_ts_in (j := 5) (hT := (rfl : ab_nth ab_tsL 7 = some (0, 72, [18, 25, 32, 39, 46, 53, 60, 68]))) (by rw [hc]; rfl) rfl]; exact ht53 (by simp only [hc, true_or, or_true])
    · rw [ab_ts_in (j := 6) (hT := (rfl : ab_nth ab_tsL 7 = some (0, 72, [18, 25, 32, 39, 46, 53, 60, 68]))) (by rw [hc]; rfl) rfl]; exact ht60 (by simp only [hc, true_or, or_true])
    · rw [ab_ts_in (j := 7) (hT := (rfl : ab_nth ab_tsL 7 = some (0, 72, [18, 25, 32, 39, 46, 53, 60, 68]))) (by rw [hc]; rfl) rfl]; exact ht68 (by simp only [hc, true_or, or_true])
  · have h := h.2 hc
    refine Rn_pure 2 (i' := 9) (L' := [some (2, 161), some (0, p1), some (0, p2), none]) (st' := [(0, 1), (2, 161)]) rfl ?_
    refine Rn_putI rfl (⟨rfl, (by omega : (0 : Int) ≤ 161), (by omega : (161 : Int) < K)⟩) (fun g8 he_g8 => ?_)
    have h := h g8 he_g8
    refine Rn_pure 1 (i' := 11) (L' := [some (2, 161), some (0, p1), some (0, p2), none]) (st' := [(0, 0)]) rfl ?_
    exact Rn_ret1 rfl h
-- EventLedgerModel.field (IIZ)I
theorem v_M_field {K : Int} {S : Nat} {g r : ab_H} {p1 p2 p3 : Int} (P : Int → ab_H → ab_H → Prop) (hr : SI r) (hK : 185 ≤ K) (h : ∀ g1, g1 = ab_up g 161 0 0 → ab_RI m_M_isEvent [(2, 161), (0, p1)] K S g1 r (fun x2 g' r' => g' = g1 ∧ r' = r ∧ (((wr x2 = wr 0 → P (-1) g1 r) ∧ (¬ wr x2 = wr 0 → ((wr p2 < wr 1 → P (-1) g1 r) ∧ (wr 1 ≤ wr p2 → ((wr 3 < wr p2 → P (-1) g1 r) ∧ (wr p2 ≤ wr 3 → ab_RI m_M_isVoid [(2, 161), (0, p1)] K S g1 r (fun x3 g' r' => g' = g1 ∧ r' = r ∧ (((wr x3 = wr 0 → ((¬ wr p3 = wr 0 → ab_RI m_M_breaks [(2, 161), (0, p1)] K S g1 r (fun x5 g4 r' => r' = r ∧ (((0 : Int) ≤ p2 - 1 ∧ (p2 - 1 : Int) < 3) ∧ P (g4 178 (p2 - 1)) g4 r))) ∧ (wr p3 = wr 0 → ((0 : Int) ≤ 9 * p1 + 5 + p2 - 1 ∧ (9 * p1 + 5 + p2 - 1 : Int) < 1607) ∧ P (g1 174 (9 * p1 + 5 + p2 - 1)) g1 r))) ∧ (¬ wr x3 = wr 0 → P (-1) g1 r))))))))))))) : ab_RI m_M_field [(2, 161), (0, p1), (0, p2), (0, p3)] K S g r P := by
  show ab_Rn m_M_field 0 [some (2, 161), some (0, p1), some (0, p2), some (0, p3)] [] (K, S, g, r) (ab_Qi K S P)
  refine Rn_pure 2 (i' := 2) (L' := [some (2, 161), some (0, p1), some (0, p2), some (0, p3)]) (st' := [(0, 0), (2, 161)]) rfl ?_
  refine Rn_putI rfl (⟨rfl, (by omega : (0 : Int) ≤ 161), (by omega : (161 : Int) < K)⟩) (fun g1 he_g1 => ?_)
  have h := h g1 he_g1
  refine Rn_pure 2 (i' := 5) (L' := [some (2, 161), some (0, p1), some (0, p2), some (0, p3)]) (st' := [(0, p1), (2, 161)]) rfl ?_
  refine Rn_callI [(2, 161), (0, p1)] [] rfl rfl rfl rfl (ab_rvB_of rfl (⟨rfl, (by omega : (0 : Int) ≤ 161), (by omega : (161 : Int) < K)⟩)) ?_
  refine h.mono (fun x2 g' r' h => ?_)
  obtain ⟨hx, h⟩ := h
  replace hx := hx.symm
  subst hx
  obtain ⟨hx, h⟩ := h
  replace hx := hx.symm
  subst hx
  refine Rn_ifeq rfl (fun hc => ?_) (fun hc => ?_)
  · have h := h.1 hc
    refine Rn_pure 1 (i' := 18) (L' := [some (2, 161), some (0, p1), some (0, p2), some (0, p3)]) (st' := [(0, (-1))]) rfl ?_
    exact Rn_ret1 rfl h
  · have h := h.2 hc
    refine Rn_pure 2 (i' := 9) (L' := [some (2, 161), some (0, p1), some (0, p2), some (0, p3)]) (st' := [(0, 1), (0, p2)]) rfl ?_
    refine Rn_iclt rfl (fun hc => ?_) (fun hc => ?_)
    · have h := h.1 hc
      refine Rn_pure 1 (i' := 18) (L' := [some (2, 161), some (0, p1), some (0, p2), some (0, p3)]) (st' := [(0, (-1))]) rfl ?_
      exact Rn_ret1 rfl h
    · have h := h.2 hc
      refine Rn_pure 2 (i' := 12) (L' := [some (2, 161), some (0, p1), some (0, p2), some (0, p3)]) (st' := [(0, 3), (0, p2)]) rfl ?_
      refine Rn_icgt rfl (fun hc => ?_) (fun hc => ?_)
      · have h := h.1 hc
        refine Rn_pure 1 (i' := 18) (L' := [some (2, 161), some (0, p1), some (0, p2), some (0, p3)]) (st' := [(0, (-1))]) rfl ?_
        exact Rn_ret1 rfl h
      · have h := h.2 hc
        refine Rn_pure 2 (i' := 15) (L' := [some (2, 161), some (0, p1), some (0, p2), some (0, p3)]) (st' := [(0, p1), (2, 161)]) rfl ?_
        refine Rn_callI [(2, 161), (0, p1)] [] rfl rfl rfl rfl (ab_rvB_of rfl (⟨rfl, (by omega : (0 : Int) ≤ 161), (by omega : (161 : Int) < K)⟩)) ?_
        refine h.mono (fun x3 g' r' h => ?_)
        obtain ⟨hx, h⟩ := h
        replace hx := hx.symm
        subst hx
        obtain ⟨hx, h⟩ := h
        replace hx := hx.symm
        subst hx
        refine Rn_ifeq rfl (fun hc => ?_) (fun hc => ?_)
        · have h := h.1 hc
          refine Rn_pure 1 (i' := 20) (L' := [some (2, 161), some (0, p1), some (0, p2), some (0, p3)]) (st' := [(0, p3)]) rfl ?_
          refine Rn_ifne rfl (fun hc => ?_) (fun hc => ?_)
          · have h := h.1 hc
            refine Rn_pure 2 (i' := 36) (L' := [some (2, 161), some (0, p1), some (0, p2), some (0, p3)]) (st' := [(0, p1), (2, 161)]) rfl ?_
            refine Rn_callI [(2, 161), (0, p1)] [] rfl rfl rfl rfl (ab_rvB_of rfl (⟨rfl, (by omega : (0 : Int) ≤ 161), (by omega : (161 : Int) < K)⟩)) ?_
            refine h.mono (fun x5 g4 r' h => ?_)
            obtain ⟨hx, h⟩ := h
            replace hx := hx.symm
            subst hx
            refine Rn_pure 2 (i' := 39) (L' := [some (2, 161), some (0, p1), some (0, p2), some (0, p3)]) (st' := [(2, 161)]) rfl ?_
            refine Rn_getR rfl (⟨rfl, (by omega : (0 : Int) ≤ 161), (by omega : (161 : Int) < K)⟩) (hr 153 _ rfl) (by decide) ?_
            refine Rn_pure 3 (i' := 43) (L' := [some (2, 161), some (0, p1), some (0, p2), some (0, p3)]) (st' := [(0, p2 - 1), (2, 178)]) rfl ?_
            obtain ⟨hg, h⟩ := h
            refine Rn_iald rfl (⟨rfl, (by omega : (0 : Int) ≤ 178), (by omega : (178 : Int) < K)⟩) hg ?_
            exact Rn_ret1 rfl h
          · have h := h.2 hc
            refine Rn_pure 1 (i' := 22) (L' := [some (2, 161), some (0, p1), some (0, p2), some (0, p3)]) (st' := [(2, 161)]) rfl ?_
            refine Rn_getR rfl (⟨rfl, (by omega : (0 : Int) ≤ 161), (by omega : (161 : Int) < K)⟩) (hr 149 _ rfl) (by decide) ?_
            refine Rn_pure 9 (i' := 32) (L' := [some (2, 161), some (0, p1), some (0, p2), some (0, p3)]) (st' := [(0, 9 * p1 + 5 + p2 - 1), (2, 174)]) rfl ?_
            obtain ⟨hg, h⟩ := h
            refine Rn_iald rfl (⟨rfl, (by omega : (0 : Int) ≤ 174), (by omega : (174 : Int) < K)⟩) hg ?_
            exact Rn_ret1 rfl h
        · have h := h.2 hc
          refine Rn_pure 1 (i' := 18) (L' := [some (2, 161), some (0, p1), some (0, p2), some (0, p3)]) (st' := [(0, (-1))]) rfl ?_
          exact Rn_ret1 rfl h
-- EventLedgerModel.isWhat (I)Z
theorem v_M_isWhat {K : Int} {S : Nat} {g r : ab_H} {p0 : Int} (P : Int → ab_H → ab_H → Prop) (hr : SI r) (hK : 185 ≤ K) (h : ((wr p0 < wr 0 → P 0 g r) ∧ (wr 0 ≤ wr p0 → ((wr 3 < wr p0 → P 0 g r) ∧ (wr p0 ≤ wr 3 → P 1 g r))))) : ab_RI m_M_isWhat [(0, p0)] K S g r P := by
  show ab_Rn m_M_isWhat 0 [some (0, p0)] [] (K, S, g, r) (ab_Qi K S P)
  refine Rn_pure 1 (i' := 1) (L' := [some (0, p0)]) (st' := [(0, p0)]) rfl ?_
  refine Rn_iflt rfl (fun hc => ?_) (fun hc => ?_)
  · have h := h.1 hc
    refine Rn_pure 1 (i' := 8) (L' := [some (0, p0)]) (st' := [(0, 0)]) rfl ?_
    exact Rn_ret2 rfl (by decide) h
  · have h := h.2 hc
    refine Rn_pure 2 (i' := 4) (L' := [some (0, p0)]) (st' := [(0, 3), (0, p0)]) rfl ?_
    refine Rn_icgt rfl (fun hc => ?_) (fun hc => ?_)
    · have h := h.1 hc
      refine Rn_pure 1 (i' := 8) (L' := [some (0, p0)]) (st' := [(0, 0)]) rfl ?_
      exact Rn_ret2 rfl (by decide) h
    · have h := h.2 hc
      refine Rn_pure 2 (i' := 8) (L' := [some (0, p0)]) (st' := [(0, 1)]) rfl ?_
      exact Rn_ret2 rfl (by decide) h
-- EventLedgerModel.account (II)I
theorem v_M_account {K : Int} {S : Nat} {g r : ab_H} {p1 p2 : Int} (P : Int → ab_H → ab_H → Prop) (hr : SI r) (hK : 185 ≤ K) (h : ∀ g1, g1 = ab_up g 161 0 0 → ab_RI m_M_isAccount [(2, 161), (0, p1)] K S g1 r (fun x2 g' r' => g' = g1 ∧ r' = r ∧ (((wr x2 = wr 0 → P (-2147483648) g1 r) ∧ (¬ wr x2 = wr 0 → ab_RI m_M_isWhat [(0, p2)] K S g1 r (fun x3 g' r' => g' = g1 ∧ r' = r ∧ (((¬ wr x3 = wr 0 → ab_RV m_M_replaysAll [(2, 161)] K S g1 r (fun g4 r' => r' = r ∧ (ab_RI m_M_has [(2, 161), (0, p1), (0, p2)] K S g4 r (fun x6 g' r' => g' = g4 ∧ r' = r ∧ (P x6 g4 r))))) ∧ (wr x3 = wr 0 → P (-2147483648) g1 r))))))))) : ab_RI m_M_account [(2, 161), (0, p1), (0, p2)] K S g r P := by
  show ab_Rn m_M_account 0 [some (2, 161), some (0, p1), some (0, p2)] [] (K, S, g, r) (ab_Qi K S P)
  refine Rn_pure 2 (i' := 2) (L' := [some (2, 161), some (0, p1), some (0, p2)]) (st' := [(0, 0), (2, 161)]) rfl ?_
  refine Rn_putI rfl (⟨rfl, (by omega : (0 : Int) ≤ 161), (by omega : (161 : Int) < K)⟩) (fun g1 he_g1 => ?_)
  have h := h g1 he_g1
  refine Rn_pure 2 (i' := 5) (L' := [some (2, 161), some (0, p1), some (0, p2)]) (st' := [(0, p1), (2, 161)]) rfl ?_
  refine Rn_callI [(2, 161), (0, p1)] [] rfl rfl rfl rfl (ab_rvB_of rfl (⟨rfl, (by omega : (0 : Int) ≤ 161), (by omega : (161 : Int) < K)⟩)) ?_
  refine h.mono (fun x2 g' r' h => ?_)
  obtain ⟨hx, h⟩ := h
  replace hx := hx.symm
  subst hx
  obtain ⟨hx, h⟩ := h
  replace hx := hx.symm
  subst hx
  refine Rn_ifeq rfl (fun hc => ?_) (fun hc => ?_)
  · have h := h.1 hc
    refine Rn_pure 1 (i' := 11) (L' := [some (2, 161), some (0, p1), some (0, p2)]) (st' := [(0, (-2147483648))]) rfl ?_
    exact Rn_ret1 rfl h
  · have h := h.2 hc
    refine Rn_pure 1 (i' := 8) (L' := [some (2, 161), some (0, p1), some (0, p2)]) (st' := [(0, p2)]) rfl ?_
    refine Rn_callI [(0, p2)] [] rfl rfl rfl rfl (rfl) ?_
    refine h.mono (fun x3 g' r' h => ?_)
    obtain ⟨hx, h⟩ := h
    replace hx := hx.symm
    subst hx
    obtain ⟨hx, h⟩ := h
    replace hx := hx.symm
    subst hx
    refine Rn_ifne rfl (fun hc => ?_) (fun hc => ?_)
    · have h := h.1 hc
      refine Rn_pure 1 (i' := 13) (L' := [some (2, 161), some (0, p1), some (0, p2)]) (st' := [(2, 161)]) rfl ?_
      refine Rn_callV [(2, 161)] [] rfl rfl rfl rfl (ab_rvB_of rfl (⟨rfl, (by omega : (0 : Int) ≤ 161), (by omega : (161 : Int) < K)⟩)) ?_
      refine h.mono (fun g4 r' h => ?_)
      obtain ⟨hx, h⟩ := h
      replace hx := hx.symm
      subst hx
      refine Rn_pure 3 (i' := 17) (L' := [some (2, 161), some (0, p1), some (0, p2)]) (st' := [(0, p2), (0, p1), (2, 161)]) rfl ?_
      refine Rn_callI [(2, 161), (0, p1), (0, p2)] [] rfl rfl rfl rfl (ab_rvB_of rfl (⟨rfl, (by omega : (0 : Int) ≤ 161), (by omega : (161 : Int) < K)⟩)) ?_
      refine h.mono (fun x6 g' r' h => ?_)
      obtain ⟨hx, h⟩ := h
      replace hx := hx.symm
      subst hx
      obtain ⟨hx, h⟩ := h
      replace hx := hx.symm
      subst hx
      exact Rn_ret1 rfl h
    · have h := h.2 hc
      refine Rn_pure 1 (i' := 11) (L' := [some (2, 161), some (0, p1), some (0, p2)]) (st' := [(0, (-2147483648))]) rfl ?_
      exact Rn_ret1 rfl h
-- EventLedgerModel.at (III)I
theorem v_M_at {K : Int} {S : Nat} {g r : ab_H} {p1 p2 p3 : Int} (P : Int → ab_H → ab_H → Prop) (hr : SI r) (hK : 185 ≤ K) (h : ∀ g1, g1 = ab_up g 161 0 0 → ab_RI m_M_isTime [(0, p1)] K S g1 r (fun x2 g' r' => g' = g1 ∧ r' = r ∧ (((wr x2 = wr 0 → P (-2147483648) g1 r) ∧ (¬ wr x2 = wr 0 → ab_RI m_M_isAccount [(2, 161), (0, p2)] K S g1 r (fun x3 g' r' => g' = g1 ∧ r' = r ∧ (((wr x3 = wr 0 → P (-2147483648) g1 r) ∧ (¬ wr x3 = wr 0 → ab_RI m_M_isWhat [(0, p3)] K S g1 r (fun x4 g' r' => g' = g1 ∧ r' = r ∧ (((¬ wr x4 = wr 0 → ab_RI m_M_placeAt [(2, 161), (0, p1)] K S g1 r (fun x5 g' r' => g' = g1 ∧ r' = r ∧ (ab_RV m_M_replays [(2, 161), (0, x5), (0, (-1)), (0, 120), (0, (-1))] K S g1 r (fun g6 r' => r' = r ∧ (ab_RI m_M_has [(2, 161), (0, p2), (0, p3)] K S g6 r (fun x8 g' r' => g' = g6 ∧ r' = r ∧ (P x8 g6 r))))))) ∧ (wr x4 = wr 0 → P (-2147483648) g1 r))))))))))))) : ab_RI m_M_at [(2, 161), (0, p1), (0, p2), (0, p3)] K S g r P := by
  show ab_Rn m_M_at 0 [some (2, 161), some (0, p1), some (0, p2), some (0, p3)] [] (K, S, g, r) (ab_Qi K S P)
  refine Rn_pure 2 (i' := 2) (L' := [some (2, 161), some (0, p1), some (0, p2), some (0, p3)]) (st' := [(0, 0), (2, 161)]) rfl ?_
  refine Rn_putI rfl (⟨rfl, (by omega : (0 : Int) ≤ 161), (by omega : (161 : Int) < K)⟩) (fun g1 he_g1 => ?_)
  have h := h g1 he_g1
  refine Rn_pure 1 (i' := 4) (L' := [some (2, 161), some (0, p1), some (0, p2), some (0, p3)]) (st' := [(0, p1)]) rfl ?_
  refine Rn_callI [(0, p1)] [] rfl rfl rfl rfl (rfl) ?_
  refine h.mono (fun x2 g' r' h => ?_)
  obtain ⟨hx, h⟩ := h
  replace hx := hx.symm
  subst hx
  obtain ⟨hx, h⟩ := h
  replace hx := hx.symm
  subst hx
  refine Rn_ifeq rfl (fun hc => ?_) (fun hc => ?_)
  · have h := h.1 hc
    refine Rn_pure 1 (i' := 14) (L' := [some (2, 161), some (0, p1), some (0, p2), some (0, p3)]) (st' := [(0, (-2147483648))]) rfl ?_
    exact Rn_ret1 rfl h
  · have h := h.2 hc
    refine Rn_pure 2 (i' := 8) (L' := [some (2, 161), some (0, p1), some (0, p2), some (0, p3)]) (st' := [(0, p2), (2, 161)]) rfl ?_
    refine Rn_callI [(2, 161), (0, p2)] [] rfl rfl rfl rfl (ab_rvB_of rfl (⟨rfl, (by omega : (0 : Int) ≤ 161), (by omega : (161 : Int) < K)⟩)) ?_
    refine h.mono (fun x3 g' r' h => ?_)
    obtain ⟨hx, h⟩ := h
    replace hx := hx.symm
    subst hx
    obtain ⟨hx, h⟩ := h
    replace hx := hx.symm
    subst hx
    refine Rn_ifeq rfl (fun hc => ?_) (fun hc => ?_)
    · have h := h.1 hc
      refine Rn_pure 1 (i' := 14) (L' := [some (2, 161), some (0, p1), some (0, p2), some (0, p3)]) (st' := [(0, (-2147483648))]) rfl ?_
      exact Rn_ret1 rfl h
    · have h := h.2 hc
      refine Rn_pure 1 (i' := 11) (L' := [some (2, 161), some (0, p1), some (0, p2), some (0, p3)]) (st' := [(0, p3)]) rfl ?_
      refine Rn_callI [(0, p3)] [] rfl rfl rfl rfl (rfl) ?_
      refine h.mono (fun x4 g' r' h => ?_)
      obtain ⟨hx, h⟩ := h
      replace hx := hx.symm
      subst hx
      obtain ⟨hx, h⟩ := h
      replace hx := hx.symm
      subst hx
      refine Rn_ifne rfl (fun hc => ?_) (fun hc => ?_)
      · have h := h.1 hc
        refine Rn_pure 3 (i' := 18) (L' := [some (2, 161), some (0, p1), some (0, p2), some (0, p3)]) (st' := [(0, p1), (2, 161), (2, 161)]) rfl ?_
        refine Rn_callI [(2, 161), (0, p1)] [(2, 161)] rfl rfl rfl rfl (ab_rvB_of rfl (⟨rfl, (by omega : (0 : Int) ≤ 161), (by omega : (161 : Int) < K)⟩)) ?_
        refine h.mono (fun x5 g' r' h => ?_)
        obtain ⟨hx, h⟩ := h
        replace hx := hx.symm
        subst hx
        obtain ⟨hx, h⟩ := h
        replace hx := hx.symm
        subst hx
        refine Rn_pure 3 (i' := 22) (L' := [some (2, 161), some (0, p1), some (0, p2), some (0, p3)]) (st' := [(0, (-1)), (0, 120), (0, (-1)), (0, x5), (2, 161)]) rfl ?_
        refine Rn_callV [(2, 161), (0, x5), (0, (-1)), (0, 120), (0, (-1))] [] rfl rfl rfl rfl (ab_rvB_of rfl (⟨rfl, (by omega : (0 : Int) ≤ 161), (by omega : (161 : Int) < K)⟩)) ?_
        refine h.mono (fun g6 r' h => ?_)
        obtain ⟨hx, h⟩ := h
        replace hx := hx.symm
        subst hx
        refine Rn_pure 3 (i' := 26) (L' := [some (2, 161), some (0, p1), some (0, p2), some (0, p3)]) (st' := [(0, p3), (0, p2), (2, 161)]) rfl ?_
        refine Rn_callI [(2, 161), (0, p2), (0, p3)] [] rfl rfl rfl rfl (ab_rvB_of rfl (⟨rfl, (by omega : (0 : Int) ≤ 161), (by omega : (161 : Int) < K)⟩)) ?_
        refine h.mono (fun x8 g' r' h => ?_)
        obtain ⟨hx, h⟩ := h
        replace hx := hx.symm
        subst hx
        obtain ⟨hx, h⟩ := h
        replace hx := hx.symm
        subst hx
        exact Rn_ret1 rfl h
      · have h := h.2 hc
        refine Rn_pure 1 (i' := 14) (L' := [some (2, 161), some (0, p1), some (0, p2), some (0, p3)]) (st' := [(0, (-2147483648))]) rfl ?_
        exact Rn_ret1 rfl h
-- EventLedgerModel.known (III)I
theorem v_M_known {K : Int} {S : Nat} {g r : ab_H} {p1 p2 p3 : Int} (P : Int → ab_H → ab_H → Prop) (hr : SI r) (hK : 185 ≤ K) (h : ∀ g1, g1 = ab_up g 161 0 0 → ab_RI m_M_isTime [(0, p1)] K S g1 r (fun x2 g' r' => g' = g1 ∧ r' = r ∧ (((wr x2 = wr 0 → P (-2147483648) g1 r) ∧ (¬ wr x2 = wr 0 → ab_RI m_M_isAccount [(2, 161), (0, p2)] K S g1 r (fun x3 g' r' => g' = g1 ∧ r' = r ∧ (((wr x3 = wr 0 → P (-2147483648) g1 r) ∧ (¬ wr x3 = wr 0 → ab_RI m_M_isWhat [(0, p3)] K S g1 r (fun x4 g' r' => g' = g1 ∧ r' = r ∧ (((¬ wr x4 = wr 0 → ab_RI m_M_placeAt [(2, 161), (0, p1)] K S g1 r (fun x5 g' r' => g' = g1 ∧ r' = r ∧ (ab_RV m_M_replays [(2, 161), (0, x5), (0, (-1)), (0, x5), (0, (-1))] K S g1 r (fun g6 r' => r' = r ∧ (ab_RI m_M_has [(2, 161), (0, p2), (0, p3)] K S g6 r (fun x8 g' r' => g' = g6 ∧ r' = r ∧ (P x8 g6 r))))))) ∧ (wr x4 = wr 0 → P (-2147483648) g1 r))))))))))))) : ab_RI m_M_known [(2, 161), (0, p1), (0, p2), (0, p3)] K S g r P := by
  show ab_Rn m_M_known 0 [some (2, 161), some (0, p1), some (0, p2), some (0, p3), none] [] (K, S, g, r) (ab_Qi K S P)
  refine Rn_pure 2 (i' := 2) (L' := [some (2, 161), some (0, p1), some (0, p2), some (0, p3), none]) (st' := [(0, 0), (2, 161)]) rfl ?_
  refine Rn_putI rfl (⟨rfl, (by omega : (0 : Int) ≤ 161), (by omega : (161 : Int) < K)⟩) (fun g1 he_g1 => ?_)
  have h := h g1 he_g1
  refine Rn_pure 1 (i' := 4) (L' := [some (2, 161), some (0, p1), some (0, p2), some (0, p3), none]) (st' := [(0, p1)]) rfl ?_
  refine Rn_callI [(0, p1)] [] rfl rfl rfl rfl (rfl) ?_
  refine h.mono (fun x2 g' r' h => ?_)
  obtain ⟨hx, h⟩ := h
  replace hx := hx.symm
  subst hx
  obtain ⟨hx, h⟩ := h
  replace hx := hx.symm
  subst hx
  refine Rn_ifeq rfl (fun hc => ?_) (fun hc => ?_)
  · have h := h.1 hc
    refine Rn_pure 1 (i' := 14) (L' := [some (2, 161), some (0, p1), some (0, p2), some (0, p3), none]) (st' := [(0, (-2147483648))]) rfl ?_
    exact Rn_ret1 rfl h
  · have h := h.2 hc
    refine Rn_pure 2 (i' := 8) (L' := [some (2, 161), some (0, p1), some (0, p2), some (0, p3), none]) (st' := [(0, p2), (2, 161)]) rfl ?_
    refine Rn_callI [(2, 161), (0, p2)] [] rfl rfl rfl rfl (ab_rvB_of rfl (⟨rfl, (by omega : (0 : Int) ≤ 161), (by omega : (161 : Int) < K)⟩)) ?_
    refine h.mono (fun x3 g' r' h => ?_)
    obtain ⟨hx, h⟩ := h
    replace hx := hx.symm
    subst hx
    obtain ⟨hx, h⟩ := h
    replace hx := hx.symm
    subst hx
    refine Rn_ifeq rfl (fun hc => ?_) (fun hc => ?_)
    · have h := h.1 hc
      refine Rn_pure 1 (i' := 14) (L' := [some (2, 161), some (0, p1), some (0, p2), some (0, p3), none]) (st' := [(0, (-2147483648))]) rfl ?_
      exact Rn_ret1 rfl h
    · have h := h.2 hc
      refine Rn_pure 1 (i' := 11) (L' := [some (2, 161), some (0, p1), some (0, p2), some (0, p3), none]) (st' := [(0, p3)]) rfl ?_
      refine Rn_callI [(0, p3)] [] rfl rfl rfl rfl (rfl) ?_
      refine h.mono (fun x4 g' r' h => ?_)
      obtain ⟨hx, h⟩ := h
      replace hx := hx.symm
      subst hx
      obtain ⟨hx, h⟩ := h
      replace hx := hx.symm
      subst hx
      refine Rn_ifne rfl (fun hc => ?_) (fun hc => ?_)
      · have h := h.1 hc
        refine Rn_pure 2 (i' := 17) (L' := [some (2, 161), some (0, p1), some (0, p2), some (0, p3), none]) (st' := [(0, p1), (2, 161)]) rfl ?_
        refine Rn_callI [(2, 161), (0, p1)] [] rfl rfl rfl rfl (ab_rvB_of rfl (⟨rfl, (by omega : (0 : Int) ≤ 161), (by omega : (161 : Int) < K)⟩)) ?_
        refine h.mono (fun x5 g' r' h => ?_)
        obtain ⟨hx, h⟩ := h
        replace hx := hx.symm
        subst hx
        obtain ⟨hx, h⟩ := h
        replace hx := hx.symm
        subst hx
        refine Rn_pure 6 (i' := 24) (L' := [some (2, 161), some (0, p1), some (0, p2), some (0, p3), some (0, x5)]) (st' := [(0, (-1)), (0, x5), (0, (-1)), (0, x5), (2, 161)]) rfl ?_
        refine Rn_callV [(2, 161), (0, x5), (0, (-1)), (0, x5), (0, (-1))] [] rfl rfl rfl rfl (ab_rvB_of rfl (⟨rfl, (by omega : (0 : Int) ≤ 161), (by omega : (161 : Int) < K)⟩)) ?_
        refine h.mono (fun g6 r' h => ?_)
        obtain ⟨hx, h⟩ := h
        replace hx := hx.symm
        subst hx
        refine Rn_pure 3 (i' := 28) (L' := [some (2, 161), some (0, p1), some (0, p2), some (0, p3), some (0, x5)]) (st' := [(0, p3), (0, p2), (2, 161)]) rfl ?_
        refine Rn_callI [(2, 161), (0, p2), (0, p3)] [] rfl rfl rfl rfl (ab_rvB_of rfl (⟨rfl, (by omega : (0 : Int) ≤ 161), (by omega : (161 : Int) < K)⟩)) ?_
        refine h.mono (fun x8 g' r' h => ?_)
        obtain ⟨hx, h⟩ := h
        replace hx := hx.symm
        subst hx
        obtain ⟨hx, h⟩ := h
        replace hx := hx.symm
        subst hx
        exact Rn_ret1 rfl h
      · have h := h.2 hc
        refine Rn_pure 1 (i' := 14) (L' := [some (2, 161), some (0, p1), some (0, p2), some (0, p3), none]) (st' := [(0, (-2147483648))]) rfl ?_
        exact Rn_ret1 rfl h
-- EventLedgerModel.costOf (I)I
theorem v_M_costOf {K : Int} {S : Nat} {g r : ab_H} {p1 : Int} (P : Int → ab_H → ab_H → Prop) (hr : SI r) (hK : 185 ≤ K) (h : ab_Rn m_M_costOf 4 [some (2, 161), some (0, p1), some (0, 0), some (0, 0)] [] (K, S, g, r) (ab_Qi K S P)) : ab_RI m_M_costOf [(2, 161), (0, p1)] K S g r P := by
  show ab_Rn m_M_costOf 0 [some (2, 161), some (0, p1), none, none] [] (K, S, g, r) (ab_Qi K S P)
  refine Rn_pure 4 (i' := 4) (L' := [some (2, 161), some (0, p1), some (0, 0), some (0, 0)]) (st' := []) rfl ?_
  exact h
theorem v_M_costOf_4 {K : Int} {S : Nat} {g r : ab_H} {l1 l2 l3 : Int} (P : Int → ab_H → ab_H → Prop) (hr : SI r) (hK : 185 ≤ K) (h : ((0 : Int) ≤ 1081 ∧ (1081 : Int) < 1607) ∧ ((wr (g 174 1081) ≤ wr l3 → ab_RI m_M_weights [(2, 161), (0, l2), (0, l1)] K S g r (fun x1 g' r' => g' = g ∧ r' = r ∧ (P x1 g r))) ∧ (wr l3 < wr (g 174 1081) → ab_RI m_M_snapAt [(2, 161), (0, l3)] K S g r (fun x2 g' r' => g' = g ∧ r' = r ∧ (((wr l1 < wr x2 → ab_Rn m_M_costOf 4 [some (2, 161), some (0, l1), some (0, l2), some (0, l3 + 1)] [] (K, S, g, r) (ab_Qi K S P)) ∧ (wr x2 ≤ wr l1 → ab_RI m_M_snapAt [(2, 161), (0, l3)] K S g r (fun x3 g' r' => g' = g ∧ r' = r ∧ (ab_Rn m_M_costOf 4 [some (2, 161), some (0, l1), some (0, x3), some (0, l3 + 1)] [] (K, S, g, r) (ab_Qi K S P)))))))))) : ab_Rn m_M_costOf 4 [some (2, 161), some (0, l1), some (0, l2), some (0, l3)] [] (K, S, g, r) (ab_Qi K S P) := by
  refine Rn_pure 2 (i' := 6) (L' := [some (2, 161), some (0, l1), some (0, l2), some (0, l3)]) (st' := [(2, 161), (0, l3)]) rfl ?_
  refine Rn_getR rfl (⟨rfl, (by omega : (0 : Int) ≤ 161), (by omega : (161 : Int) < K)⟩) (hr 149 _ rfl) (by decide) ?_
  refine Rn_pure 1 (i' := 8) (L' := [some (2, 161), some (0, l1), some (0, l2), some (0, l3)]) (st' := [(0, 1081), (2, 174), (0, l3)]) rfl ?_
  obtain ⟨hg, h⟩ := h
  refine Rn_iald rfl (⟨rfl, (by omega : (0 : Int) ≤ 174), (by omega : (174 : Int) < K)⟩) hg ?_
  refine Rn_icge rfl (fun hc => ?_) (fun hc => ?_)
  · have h := h.1 hc
    refine Rn_pure 3 (i' := 26) (L' := [some (2, 161), some (0, l1), some (0, l2), some (0, l3)]) (st' := [(0, l1), (0, l2), (2, 161)]) rfl ?_
    refine Rn_callI [(2, 161), (0, l2), (0, l1)] [] rfl rfl rfl rfl (ab_rvB_of rfl (⟨rfl, (by omega : (0 : Int) ≤ 161), (by omega : (161 : Int) < K)⟩)) ?_
    refine h.mono (fun x1 g' r' h => ?_)
    obtain ⟨hx, h⟩ := h
    replace hx := hx.symm
    subst hx
    obtain ⟨hx, h⟩ := h
    replace hx := hx.symm
    subst hx
    exact Rn_ret1 rfl h
  · have h := h.2 hc
    refine Rn_pure 2 (i' := 12) (L' := [some (2, 161), some (0, l1), some (0, l2), some (0, l3)]) (st' := [(0, l3), (2, 161)]) rfl ?_
    refine Rn_callI [(2, 161), (0, l3)] [] rfl rfl rfl rfl (ab_rvB_of rfl (⟨rfl, (by omega : (0 : Int) ≤ 161), (by omega : (161 : Int) < K)⟩)) ?_
    refine h.mono (fun x2 g' r' h => ?_)
    obtain ⟨hx, h⟩ := h
    replace hx := hx.symm
    subst hx
    obtain ⟨hx, h⟩ := h
    replace hx := hx.symm
    subst hx
    refine Rn_pure 1 (i' := 14) (L' := [some (2, 161), some (0, l1), some (0, l2), some (0, l3)]) (st' := [(0, l1), (0, x2)]) rfl ?_
    refine Rn_icgt rfl (fun hc => ?_) (fun hc => ?_)
    · have h := h.1 hc
      refine Rn_pure 4 (i' := 4) (L' := [some (2, 161), some (0, l1), some (0, l2), some (0, l3 + 1)]) (st' := []) rfl ?_
      exact h
    · have h := h.2 hc
      refine Rn_pure 2 (i' := 17) (L' := [some (2, 161), some (0, l1), some (0, l2), some (0, l3)]) (st' := [(0, l3), (2, 161)]) rfl ?_
      refine Rn_callI [(2, 161), (0, l3)] [] rfl rfl rfl rfl (ab_rvB_of rfl (⟨rfl, (by omega : (0 : Int) ≤ 161), (by omega : (161 : Int) < K)⟩)) ?_
      refine h.mono (fun x3 g' r' h => ?_)
      obtain ⟨hx, h⟩ := h
      replace hx := hx.symm
      subst hx
      obtain ⟨hx, h⟩ := h
      replace hx := hx.symm
      subst hx
      refine Rn_pure 4 (i' := 4) (L' := [some (2, 161), some (0, l1), some (0, x3), some (0, l3 + 1)]) (st' := []) rfl ?_
      exact h
-- EventLedgerModel.cost (I)I
theorem v_M_cost {K : Int} {S : Nat} {g r : ab_H} {p1 : Int} (P : Int → ab_H → ab_H → Prop) (hr : SI r) (hK : 185 ≤ K) (h : ∀ g1, g1 = ab_up g 161 0 0 → ((wr p1 < wr 0 → P (-1) g1 r) ∧ (wr 0 ≤ wr p1 → ab_RI m_M_many [(2, 161)] K S g1 r (fun x2 g' r' => g' = g1 ∧ r' = r ∧ (((wr x2 < wr p1 → P (-1) g1 r) ∧ (wr p1 ≤ wr x2 → ab_RI m_M_costOf [(2, 161), (0, p1)] K S g1 r (fun x3 g' r' => g' = g1 ∧ r' = r ∧ (P x3 g1 r))))))))) : ab_RI m_M_cost [(2, 161), (0, p1)] K S g r P := by
  show ab_Rn m_M_cost 0 [some (2, 161), some (0, p1)] [] (K, S, g, r) (ab_Qi K S P)
  refine Rn_pure 2 (i' := 2) (L' := [some (2, 161), some (0, p1)]) (st' := [(0, 0), (2, 161)]) rfl ?_
  refine Rn_putI rfl (⟨rfl, (by omega : (0 : Int) ≤ 161), (by omega : (161 : Int) < K)⟩) (fun g1 he_g1 => ?_)
  have h := h g1 he_g1
  refine Rn_pure 1 (i' := 4) (L' := [some (2, 161), some (0, p1)]) (st' := [(0, p1)]) rfl ?_
  refine Rn_iflt rfl (fun hc => ?_) (fun hc => ?_)
  · have h := h.1 hc
    refine Rn_pure 1 (i' := 14) (L' := [some (2, 161), some (0, p1)]) (st' := [(0, (-1))]) rfl ?_
    exact Rn_ret1 rfl h
  · have h := h.2 hc
    refine Rn_pure 2 (i' := 7) (L' := [some (2, 161), some (0, p1)]) (st' := [(2, 161), (0, p1)]) rfl ?_
    refine Rn_callI [(2, 161)] [(0, p1)] rfl rfl rfl rfl (ab_rvB_of rfl (⟨rfl, (by omega : (0 : Int) ≤ 161), (by omega : (161 : Int) < K)⟩)) ?_
    refine h.mono (fun x2 g' r' h => ?_)
    obtain ⟨hx, h⟩ := h
    replace hx := hx.symm
    subst hx
    obtain ⟨hx, h⟩ := h
    replace hx := hx.symm
    subst hx
    refine Rn_icgt rfl (fun hc => ?_) (fun hc => ?_)
    · have h := h.1 hc
      refine Rn_pure 1 (i' := 14) (L' := [some (2, 161), some (0, p1)]) (st' := [(0, (-1))]) rfl ?_
      exact Rn_ret1 rfl h
    · have h := h.2 hc
      refine Rn_pure 2 (i' := 11) (L' := [some (2, 161), some (0, p1)]) (st' := [(0, p1), (2, 161)]) rfl ?_
      refine Rn_callI [(2, 161), (0, p1)] [] rfl rfl rfl rfl (ab_rvB_of rfl (⟨rfl, (by omega : (0 : Int) ≤ 161), (by omega : (161 : Int) < K)⟩)) ?_
      refine h.mono (fun x3 g' r' h => ?_)
      obtain ⟨hx, h⟩ := h
      replace hx := hx.symm
      subst hx
      obtain ⟨hx, h⟩ := h
      replace hx := hx.symm
      subst hx
      refine Rn_pure 1 (i' := 14) (L' := [some (2, 161), some (0, p1)]) (st' := [(0, x3)]) rfl ?_
      exact Rn_ret1 rfl h
-- EventLedgerModel.costAt (I)I
theorem v_M_costAt {K : Int} {S : Nat} {g r : ab_H} {p1 : Int} (P : Int → ab_H → ab_H → Prop) (hr : SI r) (hK : 185 ≤ K) (h : ∀ g1, g1 = ab_up g 161 0 0 → ab_RI m_M_isTime [(0, p1)] K S g1 r (fun x2 g' r' => g' = g1 ∧ r' = r ∧ (((wr x2 = wr 0 → P (-1) g1 r) ∧ (¬ wr x2 = wr 0 → ab_RI m_M_placeAt [(2, 161), (0, p1)] K S g1 r (fun x3 g' r' => g' = g1 ∧ r' = r ∧ (ab_RI m_M_costOf [(2, 161), (0, x3)] K S g1 r (fun x4 g' r' => g' = g1 ∧ r' = r ∧ (P x4 g1 r))))))))) : ab_RI m_M_costAt [(2, 161), (0, p1)] K S g r P := by
  show ab_Rn m_M_costAt 0 [some (2, 161), some (0, p1)] [] (K, S, g, r) (ab_Qi K S P)
  refine Rn_pure 2 (i' := 2) (L' := [some (2, 161), some (0, p1)]) (st' := [(0, 0), (2, 161)]) rfl ?_
  refine Rn_putI rfl (⟨rfl, (by omega : (0 : Int) ≤ 161), (by omega : (161 : Int) < K)⟩) (fun g1 he_g1 => ?_)
  have h := h g1 he_g1
  refine Rn_pure 1 (i' := 4) (L' := [some (2, 161), some (0, p1)]) (st' := [(0, p1)]) rfl ?_
  refine Rn_callI [(0, p1)] [] rfl rfl rfl rfl (rfl) ?_
  refine h.mono (fun x2 g' r' h => ?_)
  obtain ⟨hx, h⟩ := h
  replace hx := hx.symm
  subst hx
  obtain ⟨hx, h⟩ := h
  replace hx := hx.symm
  subst hx
  refine Rn_ifeq rfl (fun hc => ?_) (fun hc => ?_)
  · have h := h.1 hc
    refine Rn_pure 1 (i' := 13) (L' := [some (2, 161), some (0, p1)]) (st' := [(0, (-1))]) rfl ?_
    exact Rn_ret1 rfl h
  · have h := h.2 hc
    refine Rn_pure 3 (i' := 9) (L' := [some (2, 161), some (0, p1)]) (st' := [(0, p1), (2, 161), (2, 161)]) rfl ?_
    refine Rn_callI [(2, 161), (0, p1)] [(2, 161)] rfl rfl rfl rfl (ab_rvB_of rfl (⟨rfl, (by omega : (0 : Int) ≤ 161), (by omega : (161 : Int) < K)⟩)) ?_
    refine h.mono (fun x3 g' r' h => ?_)
    obtain ⟨hx, h⟩ := h
    replace hx := hx.symm
    subst hx
    obtain ⟨hx, h⟩ := h
    replace hx := hx.symm
    subst hx
    refine Rn_callI [(2, 161), (0, x3)] [] rfl rfl rfl rfl (ab_rvB_of rfl (⟨rfl, (by omega : (0 : Int) ≤ 161), (by omega : (161 : Int) < K)⟩)) ?_
    refine h.mono (fun x4 g' r' h => ?_)
    obtain ⟨hx, h⟩ := h
    replace hx := hx.symm
    subst hx
    obtain ⟨hx, h⟩ := h
    replace hx := hx.symm
    subst hx
    refine Rn_pure 1 (i' := 13) (L' := [some (2, 161), some (0, p1)]) (st' := [(0, x4)]) rfl ?_
    exact Rn_ret1 rfl h
-- EventLedgerModel.snapshot (I)I
theorem v_M_snapshot {K : Int} {S : Nat} {g r : ab_H} {p1 : Int} (P : Int → ab_H → ab_H → Prop) (hr : SI r) (hK : 185 ≤ K) (h : ∀ g1, g1 = ab_up g 161 0 0 → ((wr 0 ≤ wr p1 → ((0 : Int) ≤ 1081 ∧ (1081 : Int) < 1607) ∧ ((wr (g1 174 1081) ≤ wr p1 → P (-2) g1 r) ∧ (wr p1 < wr (g1 174 1081) → ab_RI m_M_snapAt [(2, 161), (0, p1)] K S g1 r (fun x2 g' r' => g' = g1 ∧ r' = r ∧ (P x2 g1 r))))) ∧ (wr p1 < wr 0 → P (-1) g1 r))) : ab_RI m_M_snapshot [(2, 161), (0, p1)] K S g r P := by
  show ab_Rn m_M_snapshot 0 [some (2, 161), some (0, p1)] [] (K, S, g, r) (ab_Qi K S P)
  refine Rn_pure 2 (i' := 2) (L' := [some (2, 161), some (0, p1)]) (st' := [(0, 0), (2, 161)]) rfl ?_
  refine Rn_putI rfl (⟨rfl, (by omega : (0 : Int) ≤ 161), (by omega : (161 : Int) < K)⟩) (fun g1 he_g1 => ?_)
  have h := h g1 he_g1
  refine Rn_pure 1 (i' := 4) (L' := [some (2, 161), some (0, p1)]) (st' := [(0, p1)]) rfl ?_
  refine Rn_ifge rfl (fun hc => ?_) (fun hc => ?_)
  · have h := h.1 hc
    refine Rn_pure 2 (i' := 9) (L' := [some (2, 161), some (0, p1)]) (st' := [(2, 161), (0, p1)]) rfl ?_
    refine Rn_getR rfl (⟨rfl, (by omega : (0 : Int) ≤ 161), (by omega : (161 : Int) < K)⟩) (hr 149 _ rfl) (by decide) ?_
    refine Rn_pure 1 (i' := 11) (L' := [some (2, 161), some (0, p1)]) (st' := [(0, 1081), (2, 174), (0, p1)]) rfl ?_
    obtain ⟨hg, h⟩ := h
    refine Rn_iald rfl (⟨rfl, (by omega : (0 : Int) ≤ 174), (by omega : (174 : Int) < K)⟩) hg ?_
    refine Rn_icge rfl (fun hc => ?_) (fun hc => ?_)
    · have h := h.1 hc
      refine Rn_pure 1 (i' := 18) (L' := [some (2, 161), some (0, p1)]) (st' := [(0, (-2))]) rfl ?_
      exact Rn_ret1 rfl h
    · have h := h.2 hc
      refine Rn_pure 2 (i' := 15) (L' := [some (2, 161), some (0, p1)]) (st' := [(0, p1), (2, 161)]) rfl ?_
      refine Rn_callI [(2, 161), (0, p1)] [] rfl rfl rfl rfl (ab_rvB_of rfl (⟨rfl, (by omega : (0 : Int) ≤ 161), (by omega : (161 : Int) < K)⟩)) ?_
      refine h.mono (fun x2 g' r' h => ?_)
      obtain ⟨hx, h⟩ := h
      replace hx := hx.symm
      subst hx
      obtain ⟨hx, h⟩ := h
      replace hx := hx.symm
      subst hx
      refine Rn_pure 1 (i' := 18) (L' := [some (2, 161), some (0, p1)]) (st' := [(0, x2)]) rfl ?_
      exact Rn_ret1 rfl h
  · have h := h.2 hc
    refine Rn_pure 2 (i' := 18) (L' := [some (2, 161), some (0, p1)]) (st' := [(0, (-1))]) rfl ?_
    exact Rn_ret1 rfl h
-- EventLedgerModel.inSnapshot (III)I
theorem v_M_inSnapshot {K : Int} {S : Nat} {g r : ab_H} {p1 p2 p3 : Int} (P : Int → ab_H → ab_H → Prop) (hr : SI r) (hK : 185 ≤ K) (h : ∀ g1, g1 = ab_up g 161 0 0 → ((wr p1 < wr 0 → P (-2147483648) g1 r) ∧ (wr 0 ≤ wr p1 → ((0 : Int) ≤ 1081 ∧ (1081 : Int) < 1607) ∧ ((wr (g1 174 1081) ≤ wr p1 → P (-2147483648) g1 r) ∧ (wr p1 < wr (g1 174 1081) → ab_RI m_M_isAccount [(2, 161), (0, p2)] K S g1 r (fun x2 g' r' => g' = g1 ∧ r' = r ∧ (((wr x2 = wr 0 → P (-2147483648) g1 r) ∧ (¬ wr x2 = wr 0 → ab_RI m_M_isWhat [(0, p3)] K S g1 r (fun x3 g' r' => g' = g1 ∧ r' = r ∧ (((¬ wr x3 = wr 0 → ab_RI m_M_snapAt [(2, 161), (0, p1)] K S g1 r (fun x4 g' r' => g' = g1 ∧ r' = r ∧ (ab_RV m_M_replays [(2, 161), (0, x4), (0, (-1)), (0, 120), (0, (-1))] K S g1 r (fun g5 r' => r' = r ∧ (ab_RI m_M_has [(2, 161), (0, p2), (0, p3)] K S g5 r (fun x7 g' r' => g' = g5 ∧ r' = r ∧ (P x7 g5 r))))))) ∧ (wr x3 = wr 0 → P (-2147483648) g1 r))))))))))))) : ab_RI m_M_inSnapshot [(2, 161), (0, p1), (0, p2), (0, p3)] K S g r P := by
  show ab_Rn m_M_inSnapshot 0 [some (2, 161), some (0, p1), some (0, p2), some (0, p3)] [] (K, S, g, r) (ab_Qi K S P)
  refine Rn_pure 2 (i' := 2) (L' := [some (2, 161), some (0, p1), some (0, p2), some (0, p3)]) (st' := [(0, 0), (2, 161)]) rfl ?_
  refine Rn_putI rfl (⟨rfl, (by omega : (0 : Int) ≤ 161), (by omega : (161 : Int) < K)⟩) (fun g1 he_g1 => ?_)
  have h := h g1 he_g1
  refine Rn_pure 1 (i' := 4) (L' := [some (2, 161), some (0, p1), some (0, p2), some (0, p3)]) (st' := [(0, p1)]) rfl ?_
  refine Rn_iflt rfl (fun hc => ?_) (fun hc => ?_)
  · have h := h.1 hc
    refine Rn_pure 1 (i' := 19) (L' := [some (2, 161), some (0, p1), some (0, p2), some (0, p3)]) (st' := [(0, (-2147483648))]) rfl ?_
    exact Rn_ret1 rfl h
  · have h := h.2 hc
    refine Rn_pure 2 (i' := 7) (L' := [some (2, 161), some (0, p1), some (0, p2), some (0, p3)]) (st' := [(2, 161), (0, p1)]) rfl ?_
    refine Rn_getR rfl (⟨rfl, (by omega : (0 : Int) ≤ 161), (by omega : (161 : Int) < K)⟩) (hr 149 _ rfl) (by decide) ?_
    refine Rn_pure 1 (i' := 9) (L' := [some (2, 161), some (0, p1), some (0, p2), some (0, p3)]) (st' := [(0, 1081), (2, 174), (0, p1)]) rfl ?_
    obtain ⟨hg, h⟩ := h
    refine Rn_iald rfl (⟨rfl, (by omega : (0 : Int) ≤ 174), (by omega : (174 : Int) < K)⟩) hg ?_
    refine Rn_icge rfl (fun hc => ?_) (fun hc => ?_)
    · have h := h.1 hc
      refine Rn_pure 1 (i' := 19) (L' := [some (2, 161), some (0, p1), some (0, p2), some (0, p3)]) (st' := [(0, (-2147483648))]) rfl ?_
      exact Rn_ret1 rfl h
    · have h := h.2 hc
      refine Rn_pure 2 (i' := 13) (L' := [some (2, 161), some (0, p1), some (0, p2), some (0, p3)]) (st' := [(0, p2), (2, 161)]) rfl ?_
      refine Rn_callI [(2, 161), (0, p2)] [] rfl rfl rfl rfl (ab_rvB_of rfl (⟨rfl, (by omega : (0 : Int) ≤ 161), (by omega : (161 : Int) < K)⟩)) ?_
      refine h.mono (fun x2 g' r' h => ?_)
      obtain ⟨hx, h⟩ := h
      replace hx := hx.symm
      subst hx
      obtain ⟨hx, h⟩ := h
      replace hx := hx.symm
      subst hx
      refine Rn_ifeq rfl (fun hc => ?_) (fun hc => ?_)
      · have h := h.1 hc
        refine Rn_pure 1 (i' := 19) (L' := [some (2, 161), some (0, p1), some (0, p2), some (0, p3)]) (st' := [(0, (-2147483648))]) rfl ?_
        exact Rn_ret1 rfl h
      · have h := h.2 hc
        refine Rn_pure 1 (i' := 16) (L' := [some (2, 161), some (0, p1), some (0, p2), some (0, p3)]) (st' := [(0, p3)]) rfl ?_
        refine Rn_callI [(0, p3)] [] rfl rfl rfl rfl (rfl) ?_
        refine h.mono (fun x3 g' r' h => ?_)
        obtain ⟨hx, h⟩ := h
        replace hx := hx.symm
        subst hx
        obtain ⟨hx, h⟩ := h
        replace hx := hx.symm
        subst hx
        refine Rn_ifne rfl (fun hc => ?_) (fun hc => ?_)
        · have h := h.1 hc
          refine Rn_pure 3 (i' := 23) (L' := [some (2, 161), some (0, p1), some (0, p2), some (0, p3)]) (st' := [(0, p1), (2, 161), (2, 161)]) rfl ?_
          refine Rn_callI [(2, 161), (0, p1)] [(2, 161)] rfl rfl rfl rfl (ab_rvB_of rfl (⟨rfl, (by omega : (0 : Int) ≤ 161), (by omega : (161 : Int) < K)⟩)) ?_
          refine h.mono (fun x4 g' r' h => ?_)
          obtain ⟨hx, h⟩ := h
          replace hx := hx.symm
          subst hx
          obtain ⟨hx, h⟩ := h
          replace hx := hx.symm
          subst hx
          refine Rn_pure 3 (i' := 27) (L' := [some (2, 161), some (0, p1), some (0, p2), some (0, p3)]) (st' := [(0, (-1)), (0, 120), (0, (-1)), (0, x4), (2, 161)]) rfl ?_
          refine Rn_callV [(2, 161), (0, x4), (0, (-1)), (0, 120), (0, (-1))] [] rfl rfl rfl rfl (ab_rvB_of rfl (⟨rfl, (by omega : (0 : Int) ≤ 161), (by omega : (161 : Int) < K)⟩)) ?_
          refine h.mono (fun g5 r' h => ?_)
          obtain ⟨hx, h⟩ := h
          replace hx := hx.symm
          subst hx
          refine Rn_pure 3 (i' := 31) (L' := [some (2, 161), some (0, p1), some (0, p2), some (0, p3)]) (st' := [(0, p3), (0, p2), (2, 161)]) rfl ?_
          refine Rn_callI [(2, 161), (0, p2), (0, p3)] [] rfl rfl rfl rfl (ab_rvB_of rfl (⟨rfl, (by omega : (0 : Int) ≤ 161), (by omega : (161 : Int) < K)⟩)) ?_
          refine h.mono (fun x7 g' r' h => ?_)
          obtain ⟨hx, h⟩ := h
          replace hx := hx.symm
          subst hx
          obtain ⟨hx, h⟩ := h
          replace hx := hx.symm
          subst hx
          exact Rn_ret1 rfl h
        · have h := h.2 hc
          refine Rn_pure 1 (i' := 19) (L' := [some (2, 161), some (0, p1), some (0, p2), some (0, p3)]) (st' := [(0, (-2147483648))]) rfl ?_
          exact Rn_ret1 rfl h
-- EventLedgerModel.costsWith (I)I
theorem v_M_costsWith {K : Int} {S : Nat} {g r : ab_H} {p1 : Int} (P : Int → ab_H → ab_H → Prop) (hr : SI r) (hK : 185 ≤ K) (h : ab_Rn m_M_costsWith 4 [some (2, 161), some (0, p1), some (0, 0), some (0, 0), none, none] [] (K, S, g, r) (ab_Qi K S P)) : ab_RI m_M_costsWith [(2, 161), (0, p1)] K S g r P := by
  show ab_Rn m_M_costsWith 0 [some (2, 161), some (0, p1), none, none, none, none] [] (K, S, g, r) (ab_Qi K S P)
  refine Rn_pure 4 (i' := 4) (L' := [some (2, 161), some (0, p1), some (0, 0), some (0, 0), none, none]) (st' := []) rfl ?_
  exact h
theorem v_M_costsWith_4 {K : Int} {S : Nat} {g r : ab_H} {l1 l2 l3 : Int} (P : Int → ab_H → ab_H → Prop) (hr : SI r) (hK : 185 ≤ K) (h : ab_RI m_M_many [(2, 161)] K S g r (fun x1 g' r' => g' = g ∧ r' = r ∧ (((wr x1 < wr l3 → P l2 g r) ∧ (wr l3 ≤ wr x1 → ab_RI m_M_costOf [(2, 161), (0, l3)] K S g r (fun x2 g' r' => g' = g ∧ r' = r ∧ (((wr l3 < wr l1 → ((wr x2 ≤ wr x2 → ab_Rn m_M_costsWith 4 [some (2, 161), some (0, l1), some (0, l2 + x2), some (0, l3 + 1), none, none] [] (K, S, g, r) (ab_Qi K S P)) ∧ (wr x2 < wr x2 → ab_Rn m_M_costsWith 4 [some (2, 161), some (0, l1), some (0, l2 + x2), some (0, l3 + 1), none, none] [] (K, S, g, r) (ab_Qi K S P)))) ∧ (wr l1 ≤ wr l3 → ab_RI m_M_weights [(2, 161), (0, l1), (0, l3)] K S g r (fun x3 g' r' => g' = g ∧ r' = r ∧ (((wr x2 ≤ wr x3 → ab_Rn m_M_costsWith 4 [some (2, 161), some (0, l1), some (0, l2 + x2), some (0, l3 + 1), none, none] [] (K, S, g, r) (ab_Qi K S P)) ∧ (wr x3 < wr x2 → ab_Rn m_M_costsWith 4 [some (2, 161), some (0, l1), some (0, l2 + x3), some (0, l3 + 1), none, none] [] (K, S, g, r) (ab_Qi K S P)))))))))))))) : ab_Rn m_M_costsWith 4 [some (2, 161), some (0, l1), some (0, l2), some (0, l3), none, none] [] (K, S, g, r) (ab_Qi K S P) := by
  refine Rn_pure 2 (i' := 6) (L' := [some (2, 161), some (0, l1), some (0, l2), some (0, l3), none, none]) (st' := [(2, 161), (0, l3)]) rfl ?_
  refine Rn_callI [(2, 161)] [(0, l3)] rfl rfl rfl rfl (ab_rvB_of rfl (⟨rfl, (by omega : (0 : Int) ≤ 161), (by omega : (161 : Int) < K)⟩)) ?_
  refine h.mono (fun x1 g' r' h => ?_)
  obtain ⟨hx, h⟩ := h
  replace hx := hx.symm
  subst hx
  obtain ⟨hx, h⟩ := h
  replace hx := hx.symm
  subst hx
  refine Rn_icgt rfl (fun hc => ?_) (fun hc => ?_)
  · have h := h.1 hc
    refine Rn_pure 1 (i' := 34) (L' := [some (2, 161), some (0, l1), some (0, l2), some (0, l3), none, none]) (st' := [(0, l2)]) rfl ?_
    exact Rn_ret1 rfl h
  · have h := h.2 hc
    refine Rn_pure 2 (i' := 10) (L' := [some (2, 161), some (0, l1), some (0, l2), some (0, l3), none, none]) (st' := [(0, l3), (2, 161)]) rfl ?_
    refine Rn_callI [(2, 161), (0, l3)] [] rfl rfl rfl rfl (ab_rvB_of rfl (⟨rfl, (by omega : (0 : Int) ≤ 161), (by omega : (161 : Int) < K)⟩)) ?_
    refine h.mono (fun x2 g' r' h => ?_)
    obtain ⟨hx, h⟩ := h
    replace hx := hx.symm
    subst hx
    obtain ⟨hx, h⟩ := h
    replace hx := hx.symm
    subst hx
    refine Rn_pure 3 (i' := 14) (L' := [some (2, 161), some (0, l1), some (0, l2), some (0, l3), some (0, x2), none]) (st' := [(0, l3), (0, l1)]) rfl ?_
    refine Rn_icgt rfl (fun hc => ?_) (fun hc => ?_)
    · have h := h.1 hc
      refine Rn_pure 5 (i' := 25) (L' := [some (2, 161), some (0, l1), some (0, l2), some (0, l3), some (0, x2), some (0, x2)]) (st' := [(0, x2), (0, x2), (0, l2)]) rfl ?_
      refine Rn_icge rfl (fun hc => ?_) (fun hc => ?_)
      · have h := h.1 hc
        refine Rn_pure 5 (i' := 4) (L' := [some (2, 161), some (0, l1), some (0, l2 + x2), some (0, l3 + 1), some (0, x2), some (0, x2)]) (st' := []) rfl ?_
        refine Rn_weak (L' := [some (2, 161), some (0, l1), some (0, l2 + x2), some (0, l3 + 1), none, none]) ⟨rfl, ⟨rfl, ⟨rfl, ⟨rfl, trivial⟩⟩⟩⟩ ?_
        exact h
      · have h := h.2 hc
        refine Rn_pure 6 (i' := 4) (L' := [some (2, 161), some (0, l1), some (0, l2 + x2), some (0, l3 + 1), some (0, x2), some (0, x2)]) (st' := []) rfl ?_
        refine Rn_weak (L' := [some (2, 161), some (0, l1), some (0, l2 + x2), some (0, l3 + 1), none, none]) ⟨rfl, ⟨rfl, ⟨rfl, ⟨rfl, trivial⟩⟩⟩⟩ ?_
        exact h
    · have h := h.2 hc
      refine Rn_pure 3 (i' := 18) (L' := [some (2, 161), some (0, l1), some (0, l2), some (0, l3), some (0, x2), none]) (st' := [(0, l3), (0, l1), (2, 161)]) rfl ?_
      refine Rn_callI [(2, 161), (0, l1), (0, l3)] [] rfl rfl rfl rfl (ab_rvB_of rfl (⟨rfl, (by omega : (0 : Int) ≤ 161), (by omega : (161 : Int) < K)⟩)) ?_
      refine h.mono (fun x3 g' r' h => ?_)
      obtain ⟨hx, h⟩ := h
      replace hx := hx.symm
      subst hx
      obtain ⟨hx, h⟩ := h
      replace hx := hx.symm
      subst hx
      refine Rn_pure 5 (i' := 25) (L' := [some (2, 161), some (0, l1), some (0, l2), some (0, l3), some (0, x2), some (0, x3)]) (st' := [(0, x2), (0, x3), (0, l2)]) rfl ?_
      refine Rn_icge rfl (fun hc => ?_) (fun hc => ?_)
      · have h := h.1 hc
        refine Rn_pure 5 (i' := 4) (L' := [some (2, 161), some (0, l1), some (0, l2 + x2), some (0, l3 + 1), some (0, x2), some (0, x3)]) (st' := []) rfl ?_
        refine Rn_weak (L' := [some (2, 161), some (0, l1), some (0, l2 + x2), some (0, l3 + 1), none, none]) ⟨rfl, ⟨rfl, ⟨rfl, ⟨rfl, trivial⟩⟩⟩⟩ ?_
        exact h
      · have h := h.2 hc
        refine Rn_pure 6 (i' := 4) (L' := [some (2, 161), some (0, l1), some (0, l2 + x3), some (0, l3 + 1), some (0, x2), some (0, x3)]) (st' := []) rfl ?_
        refine Rn_weak (L' := [some (2, 161), some (0, l1), some (0, l2 + x3), some (0, l3 + 1), none, none]) ⟨rfl, ⟨rfl, ⟨rfl, ⟨rfl, trivial⟩⟩⟩⟩ ?_
        exact h
-- EventLedgerModel.bestPlace (I)I
theorem v_M_bestPlace {K : Int} {S : Nat} {g r : ab_H} {p1 : Int} (P : Int → ab_H → ab_H → Prop) (hr : SI r) (hK : 185 ≤ K) (h : ∀ g1, g1 = ab_up g 161 0 0 → ((wr p1 < wr 0 → P (-1) g1 r) ∧ (wr 0 ≤ wr p1 → ((wr p1 ≤ wr 1 → ab_RI m_M_costsWith [(2, 161), (0, 0)] K S g1 r (fun x2 g' r' => g' = g1 ∧ r' = r ∧ (ab_Rn m_M_bestPlace 18 [some (2, 161), some (0, p1), some (0, 0), some (0, x2), some (0, 1), none] [] (K, S, g1, r) (ab_Qi K S P)))) ∧ (wr 1 < wr p1 → P (-1) g1 r))))) : ab_RI m_M_bestPlace [(2, 161), (0, p1)] K S g r P := by
  show ab_Rn m_M_bestPlace 0 [some (2, 161), some (0, p1), none, none, none, none] [] (K, S, g, r) (ab_Qi K S P)
  refine Rn_pure 2 (i' := 2) (L' := [some (2, 161), some (0, p1), none, none, none, none]) (st' := [(0, 0), (2, 161)]) rfl ?_
  refine Rn_putI rfl (⟨rfl, (by omega : (0 : Int) ≤ 161), (by omega : (161 : Int) < K)⟩) (fun g1 he_g1 => ?_)
  have h := h g1 he_g1
  refine Rn_pure 1 (i' := 4) (L' := [some (2, 161), some (0, p1), none, none, none, none]) (st' := [(0, p1)]) rfl ?_
  refine Rn_iflt rfl (fun hc => ?_) (fun hc => ?_)
  · have h := h.1 hc
    refine Rn_pure 1 (i' := 9) (L' := [some (2, 161), some (0, p1), none, none, none, none]) (st' := [(0, (-1))]) rfl ?_
    exact Rn_ret1 rfl h
  · have h := h.2 hc
    refine Rn_pure 2 (i' := 7) (L' := [some (2, 161), some (0, p1), none, none, none, none]) (st' := [(0, 1), (0, p1)]) rfl ?_
    refine Rn_icle rfl (fun hc => ?_) (fun hc => ?_)
    · have h := h.1 hc
      refine Rn_pure 4 (i' := 14) (L' := [some (2, 161), some (0, p1), some (0, 0), none, none, none]) (st' := [(0, 0), (2, 161)]) rfl ?_
      refine Rn_callI [(2, 161), (0, 0)] [] rfl rfl rfl rfl (ab_rvB_of rfl (⟨rfl, (by omega : (0 : Int) ≤ 161), (by omega : (161 : Int) < K)⟩)) ?_
      refine h.mono (fun x2 g' r' h => ?_)
      obtain ⟨hx, h⟩ := h
      replace hx := hx.symm
      subst hx
      obtain ⟨hx, h⟩ := h
      replace hx := hx.symm
      subst hx
      refine Rn_pure 3 (i' := 18) (L' := [some (2, 161), some (0, p1), some (0, 0), some (0, x2), some (0, 1), none]) (st' := []) rfl ?_
      exact h
    · have h := h.2 hc
      refine Rn_pure 1 (i' := 9) (L' := [some (2, 161), some (0, p1), none, none, none, none]) (st' := [(0, (-1))]) rfl ?_
      exact Rn_ret1 rfl h
theorem v_M_bestPlace_18 {K : Int} {S : Nat} {g r : ab_H} {l1 l2 l3 l4 : Int} (P : Int → ab_H → ab_H → Prop) (hr : SI r) (hK : 185 ≤ K) (h : ab_RI m_M_many [(2, 161)] K S g r (fun x1 g' r' => g' = g ∧ r' = r ∧ (((wr x1 < wr l4 → ((¬ wr l1 = wr 0 → P l3 g r) ∧ (wr l1 = wr 0 → P l2 g r))) ∧ (wr l4 ≤ wr x1 → ab_RI m_M_costsWith [(2, 161), (0, l4)] K S g r (fun x2 g' r' => g' = g ∧ r' = r ∧ (((wr x2 < wr l3 → ab_Rn m_M_bestPlace 18 [some (2, 161), some (0, l1), some (0, l4), some (0, x2), some (0, l4 + 1), none] [] (K, S, g, r) (ab_Qi K S P)) ∧ (wr l3 ≤ wr x2 → ab_Rn m_M_bestPlace 18 [some (2, 161), some (0, l1), some (0, l2), some (0, l3), some (0, l4 + 1), none] [] (K, S, g, r) (ab_Qi K S P)))))))))) : ab_Rn m_M_bestPlace 18 [some (2, 161), some (0, l1), some (0, l2), some (0, l3), some (0, l4), none] [] (K, S, g, r) (ab_Qi K S P) := by
  refine Rn_pure 2 (i' := 20) (L' := [some (2, 161), some (0, l1), some (0, l2), some (0, l3), some (0, l4), none]) (st' := [(2, 161), (0, l4)]) rfl ?_
  refine Rn_callI [(2, 161)] [(0, l4)] rfl rfl rfl rfl (ab_rvB_of rfl (⟨rfl, (by omega : (0 : Int) ≤ 161), (by omega : (161 : Int) < K)⟩)) ?_
  refine h.mono (fun x1 g' r' h => ?_)
  obtain ⟨hx, h⟩ := h
  replace hx := hx.symm
  subst hx
  obtain ⟨hx, h⟩ := h
  replace hx := hx.symm
  subst hx
  refine Rn_icgt rfl (fun hc => ?_) (fun hc => ?_)
  · have h := h.1 hc
    refine Rn_pure 1 (i' := 37) (L' := [some (2, 161), some (0, l1), some (0, l2), some (0, l3), some (0, l4), none]) (st' := [(0, l1)]) rfl ?_
    refine Rn_ifne rfl (fun hc => ?_) (fun hc => ?_)
    · have h := h.1 hc
      refine Rn_pure 1 (i' := 41) (L' := [some (2, 161), some (0, l1), some (0, l2), some (0, l3), some (0, l4), none]) (st' := [(0, l3)]) rfl ?_
      exact Rn_ret1 rfl h
    · have h := h.2 hc
      refine Rn_pure 2 (i' := 41) (L' := [some (2, 161), some (0, l1), some (0, l2), some (0, l3), some (0, l4), none]) (st' := [(0, l2)]) rfl ?_
      exact Rn_ret1 rfl h
  · have h := h.2 hc
    refine Rn_pure 2 (i' := 24) (L' := [some (2, 161), some (0, l1), some (0, l2), some (0, l3), some (0, l4), none]) (st' := [(0, l4), (2, 161)]) rfl ?_
    refine Rn_callI [(2, 161), (0, l4)] [] rfl rfl rfl rfl (ab_rvB_of rfl (⟨rfl, (by omega : (0 : Int) ≤ 161), (by omega : (161 : Int) < K)⟩)) ?_
    refine h.mono (fun x2 g' r' h => ?_)
    obtain ⟨hx, h⟩ := h
    replace hx := hx.symm
    subst hx
    obtain ⟨hx, h⟩ := h
    replace hx := hx.symm
    subst hx
    refine Rn_pure 3 (i' := 28) (L' := [some (2, 161), some (0, l1), some (0, l2), some (0, l3), some (0, l4), some (0, x2)]) (st' := [(0, l3), (0, x2)]) rfl ?_
    refine Rn_iclt rfl (fun hc => ?_) (fun hc => ?_)
    · have h := h.1 hc
      refine Rn_pure 6 (i' := 18) (L' := [some (2, 161), some (0, l1), some (0, l4), some (0, x2), some (0, l4 + 1), some (0, x2)]) (st' := []) rfl ?_
      refine Rn_weak (L' := [some (2, 161), some (0, l1), some (0, l4), some (0, x2), some (0, l4 + 1), none]) ⟨rfl, ⟨rfl, ⟨rfl, ⟨rfl, ⟨rfl, trivial⟩⟩⟩⟩⟩ ?_
      exact h
    · have h := h.2 hc
      refine Rn_pure 3 (i' := 18) (L' := [some (2, 161), some (0, l1), some (0, l2), some (0, l3), some (0, l4 + 1), some (0, x2)]) (st' := []) rfl ?_
      refine Rn_weak (L' := [some (2, 161), some (0, l1), some (0, l2), some (0, l3), some (0, l4 + 1), none]) ⟨rfl, ⟨rfl, ⟨rfl, ⟨rfl, ⟨rfl, trivial⟩⟩⟩⟩⟩ ?_
      exact h
-- EventLedgerModel.resnap (II)I
theorem v_M_resnap {K : Int} {S : Nat} {g r : ab_H} {p1 p2 : Int} (P : Int → ab_H → ab_H → Prop) (hr : SI r) (hK : 185 ≤ K) (h : ∀ g1, g1 = ab_up g 161 0 0 → ((wr p1 < wr 1 → P (-1) g1 r) ∧ (wr 1 ≤ wr p1 → ((wr 999 < wr p1 → P (-1) g1 r) ∧ (wr p1 ≤ wr 999 → ((wr p2 < wr 0 → P (-1) g1 r) ∧ (wr 0 ≤ wr p2 → ((wr p2 ≤ wr 6 → ab_RV m_M_remembers [(2, 161)] K S g1 r (fun g2 r' => r' = r ∧ (((0 : Int) ≤ 1089 ∧ (1089 : Int) < 1607) ∧ ∀ g4, g4 = ab_up g2 174 1089 p1 → ((0 : Int) ≤ 1090 ∧ (1090 : Int) < 1607) ∧ ∀ g5, g5 = ab_up g4 174 1090 p2 → ((0 : Int) ≤ 1081 ∧ (1081 : Int) < 1607) ∧ ∀ g6, g6 = ab_up g5 174 1081 0 → ab_Rn m_M_resnap 35 [some (2, 161), none, none, some (0, 0)] [] (K, S, g6, r) (ab_Qi K S P)))) ∧ (wr 6 < wr p2 → P (-1) g1 r))))))))) : ab_RI m_M_resnap [(2, 161), (0, p1), (0, p2)] K S g r P := by
  show ab_Rn m_M_resnap 0 [some (2, 161), some (0, p1), some (0, p2), none] [] (K, S, g, r) (ab_Qi K S P)
  refine Rn_pure 2 (i' := 2) (L' := [some (2, 161), some (0, p1), some (0, p2), none]) (st' := [(0, 0), (2, 161)]) rfl ?_
  refine Rn_putI rfl (⟨rfl, (by omega : (0 : Int) ≤ 161), (by omega : (161 : Int) < K)⟩) (fun g1 he_g1 => ?_)
  have h := h g1 he_g1
  refine Rn_pure 2 (i' := 5) (L' := [some (2, 161), some (0, p1), some (0, p2), none]) (st' := [(0, 1), (0, p1)]) rfl ?_
  refine Rn_iclt rfl (fun hc => ?_) (fun hc => ?_)
  · have h := h.1 hc
    refine Rn_pure 1 (i' := 15) (L' := [some (2, 161), some (0, p1), some (0, p2), none]) (st' := [(0, (-1))]) rfl ?_
    exact Rn_ret1 rfl h
  · have h := h.2 hc
    refine Rn_pure 2 (i' := 8) (L' := [some (2, 161), some (0, p1), some (0, p2), none]) (st' := [(0, 999), (0, p1)]) rfl ?_
    refine Rn_icgt rfl (fun hc => ?_) (fun hc => ?_)
    · have h := h.1 hc
      refine Rn_pure 1 (i' := 15) (L' := [some (2, 161), some (0, p1), some (0, p2), none]) (st' := [(0, (-1))]) rfl ?_
      exact Rn_ret1 rfl h
    · have h := h.2 hc
      refine Rn_pure 1 (i' := 10) (L' := [some (2, 161), some (0, p1), some (0, p2), none]) (st' := [(0, p2)]) rfl ?_
      refine Rn_iflt rfl (fun hc => ?_) (fun hc => ?_)
      · have h := h.1 hc
        refine Rn_pure 1 (i' := 15) (L' := [some (2, 161), some (0, p1), some (0, p2), none]) (st' := [(0, (-1))]) rfl ?_
        exact Rn_ret1 rfl h
      · have h := h.2 hc
        refine Rn_pure 2 (i' := 13) (L' := [some (2, 161), some (0, p1), some (0, p2), none]) (st' := [(0, 6), (0, p2)]) rfl ?_
        refine Rn_icle rfl (fun hc => ?_) (fun hc => ?_)
        · have h := h.1 hc
          refine Rn_pure 1 (i' := 17) (L' := [some (2, 161), some (0, p1), some (0, p2), none]) (st' := [(2, 161)]) rfl ?_
          refine Rn_callV [(2, 161)] [] rfl rfl rfl rfl (ab_rvB_of rfl (⟨rfl, (by omega : (0 : Int) ≤ 161), (by omega : (161 : Int) < K)⟩)) ?_
          refine h.mono (fun g2 r' h => ?_)
          obtain ⟨hx, h⟩ := h
          replace hx := hx.symm
          subst hx
          refine Rn_pure 1 (i' := 19) (L' := [some (2, 161), some (0, p1), some (0, p2), none]) (st' := [(2, 161)]) rfl ?_
          refine Rn_getR rfl (⟨rfl, (by omega : (0 : Int) ≤ 161), (by omega : (161 : Int) < K)⟩) (hr 149 _ rfl) (by decide) ?_
          refine Rn_pure 2 (i' := 22) (L' := [some (2, 161), some (0, p1), some (0, p2), none]) (st' := [(0, p1), (0, 1089), (2, 174)]) rfl ?_
          obtain ⟨hg, h⟩ := h
          refine Rn_iast rfl (⟨rfl, (by omega : (0 : Int) ≤ 174), (by omega : (174 : Int) < K)⟩) hg (fun g4 he_g4 => ?_)
          have h := h g4 he_g4
          refine Rn_pure 1 (i' := 24) (L' := [some (2, 161), some (0, p1), some (0, p2), none]) (st' := [(2, 161)]) rfl ?_
          refine Rn_getR rfl (⟨rfl, (by omega : (0 : Int) ≤ 161), (by omega : (161 : Int) < K)⟩) (hr 149 _ rfl) (by decide) ?_
          refine Rn_pure 2 (i' := 27) (L' := [some (2, 161), some (0, p1), some (0, p2), none]) (st' := [(0, p2), (0, 1090), (2, 174)]) rfl ?_
          obtain ⟨hg, h⟩ := h
          refine Rn_iast rfl (⟨rfl, (by omega : (0 : Int) ≤ 174), (by omega : (174 : Int) < K)⟩) hg (fun g5 he_g5 => ?_)
          have h := h g5 he_g5
          refine Rn_pure 1 (i' := 29) (L' := [some (2, 161), some (0, p1), some (0, p2), none]) (st' := [(2, 161)]) rfl ?_
          refine Rn_getR rfl (⟨rfl, (by omega : (0 : Int) ≤ 161), (by omega : (161 : Int) < K)⟩) (hr 149 _ rfl) (by decide) ?_
          refine Rn_pure 2 (i' := 32) (L' := [some (2, 161), some (0, p1), some (0, p2), none]) (st' := [(0, 0), (0, 1081), (2, 174)]) rfl ?_
          obtain ⟨hg, h⟩ := h
          refine Rn_iast rfl (⟨rfl, (by omega : (0 : Int) ≤ 174), (by omega : (174 : Int) < K)⟩) hg (fun g6 he_g6 => ?_)
          have h := h g6 he_g6
          refine Rn_pure 2 (i' := 35) (L' := [some (2, 161), some (0, p1), some (0, p2), some (0, 0)]) (st' := []) rfl ?_
          refine Rn_weak (L' := [some (2, 161), none, none, some (0, 0)]) ⟨rfl, ⟨rfl, trivial⟩⟩ ?_
          exact h
        · have h := h.2 hc
          refine Rn_pure 1 (i' := 15) (L' := [some (2, 161), some (0, p1), some (0, p2), none]) (st' := [(0, (-1))]) rfl ?_
          exact Rn_ret1 rfl h
theorem v_M_resnap_35 {K : Int} {S : Nat} {g r : ab_H} {l3 : Int} (P : Int → ab_H → ab_H → Prop) (hr : SI r) (hK : 185 ≤ K) (h : ab_RI m_M_many [(2, 161)] K S g r (fun x1 g' r' => g' = g ∧ r' = r ∧ (((wr x1 ≤ wr l3 → ((0 : Int) ≤ 1081 ∧ (1081 : Int) < 1607) ∧ P (g 174 1081) g r) ∧ (wr l3 < wr x1 → ab_RI m_M_isVoid [(2, 161), (0, l3)] K S g r (fun x2 g' r' => g' = g ∧ r' = r ∧ (((wr x2 = wr 0 → ab_RV m_M_snaps [(2, 161), (0, l3 + 1)] K S g r (fun g3 r' => r' = r ∧ (ab_Rn m_M_resnap 35 [some (2, 161), none, none, some (0, l3 + 1)] [] (K, S, g3, r) (ab_Qi K S P)))) ∧ (¬ wr x2 = wr 0 → ((0 : Int) ≤ 9 * l3 + 2 ∧ (9 * l3 + 2 : Int) < 1607) ∧ ab_RV m_M_letsGo [(2, 161), (0, g 174 (9 * l3 + 2))] K S g r (fun g5 r' => r' = r ∧ (ab_RV m_M_snaps [(2, 161), (0, l3 + 1)] K S g5 r (fun g7 r' => r' = r ∧ (ab_Rn m_M_resnap 35 [some (2, 161), none, none, some (0, l3 + 1)] [] (K, S, g7, r) (ab_Qi K S P)))))))))))))) : ab_Rn m_M_resnap 35 [some (2, 161), none, none, some (0, l3)] [] (K, S, g, r) (ab_Qi K S P) := by
  refine Rn_pure 2 (i' := 37) (L' := [some (2, 161), none, none, some (0, l3)]) (st' := [(2, 161), (0, l3)]) rfl ?_
  refine Rn_callI [(2, 161)] [(0, l3)] rfl rfl rfl rfl (ab_rvB_of rfl (⟨rfl, (by omega : (0 : Int) ≤ 161), (by omega : (161 : Int) < K)⟩)) ?_
  refine h.mono (fun x1 g' r' h => ?_)
  obtain ⟨hx, h⟩ := h
  replace hx := hx.symm
  subst hx
  obtain ⟨hx, h⟩ := h
  replace hx := hx.symm
  subst hx
  refine Rn_icge rfl (fun hc => ?_) (fun hc => ?_)
  · have h := h.1 hc
    refine Rn_pure 1 (i' := 61) (L' := [some (2, 161), none, none, some (0, l3)]) (st' := [(2, 161)]) rfl ?_
    refine Rn_getR rfl (⟨rfl, (by omega : (0 : Int) ≤ 161), (by omega : (161 : Int) < K)⟩) (hr 149 _ rfl) (by decide) ?_
    refine Rn_pure 1 (i' := 63) (L' := [some (2, 161), none, none, some (0, l3)]) (st' := [(0, 1081), (2, 174)]) rfl ?_
    obtain ⟨hg, h⟩ := h
    refine Rn_iald rfl (⟨rfl, (by omega : (0 : Int) ≤ 174), (by omega : (174 : Int) < K)⟩) hg ?_
    exact Rn_ret1 rfl h
  · have h := h.2 hc
    refine Rn_pure 2 (i' := 41) (L' := [some (2, 161), none, none, some (0, l3)]) (st' := [(0, l3), (2, 161)]) rfl ?_
    refine Rn_callI [(2, 161), (0, l3)] [] rfl rfl rfl rfl (ab_rvB_of rfl (⟨rfl, (by omega : (0 : Int) ≤ 161), (by omega : (161 : Int) < K)⟩)) ?_
    refine h.mono (fun x2 g' r' h => ?_)
    obtain ⟨hx, h⟩ := h
    replace hx := hx.symm
    subst hx
    obtain ⟨hx, h⟩ := h
    replace hx := hx.symm
    subst hx
    refine Rn_ifeq rfl (fun hc => ?_) (fun hc => ?_)
    · have h := h.1 hc
      refine Rn_pure 4 (i' := 57) (L' := [some (2, 161), none, none, some (0, l3)]) (st' := [(0, l3 + 1), (2, 161)]) rfl ?_
      refine Rn_callV [(2, 161), (0, l3 + 1)] [] rfl rfl rfl rfl (ab_rvB_of rfl (⟨rfl, (by omega : (0 : Int) ≤ 161), (by omega : (161 : Int) < K)⟩)) ?_
      refine h.mono (fun g3 r' h => ?_)
      obtain ⟨hx, h⟩ := h
      replace hx := hx.symm
      subst hx
      refine Rn_pure 2 (i' := 35) (L' := [some (2, 161), none, none, some (0, l3 + 1)]) (st' := []) rfl ?_
      exact h
    · have h := h.2 hc
      refine Rn_pure 2 (i' := 45) (L' := [some (2, 161), none, none, some (0, l3)]) (st' := [(2, 161), (2, 161)]) rfl ?_
      refine Rn_getR rfl (⟨rfl, (by omega : (0 : Int) ≤ 161), (by omega : (161 : Int) < K)⟩) (hr 149 _ rfl) (by decide) ?_
      refine Rn_pure 5 (i' := 51) (L' := [some (2, 161), none, none, some (0, l3)]) (st' := [(0, 9 * l3 + 2), (2, 174), (2, 161)]) rfl ?_
      obtain ⟨hg, h⟩ := h
      refine Rn_iald rfl (⟨rfl, (by omega : (0 : Int) ≤ 174), (by omega : (174 : Int) < K)⟩) hg ?_
      refine Rn_callV [(2, 161), (0, g 174 (9 * l3 + 2))] [] rfl rfl rfl rfl (ab_rvB_of rfl (⟨rfl, (by omega : (0 : Int) ≤ 161), (by omega : (161 : Int) < K)⟩)) ?_
      refine h.mono (fun g5 r' h => ?_)
      obtain ⟨hx, h⟩ := h
      replace hx := hx.symm
      subst hx
      refine Rn_pure 4 (i' := 57) (L' := [some (2, 161), none, none, some (0, l3)]) (st' := [(0, l3 + 1), (2, 161)]) rfl ?_
      refine Rn_callV [(2, 161), (0, l3 + 1)] [] rfl rfl rfl rfl (ab_rvB_of rfl (⟨rfl, (by omega : (0 : Int) ≤ 161), (by omega : (161 : Int) < K)⟩)) ?_
      refine h.mono (fun g7 r' h => ?_)
      obtain ⟨hx, h⟩ := h
      replace hx := hx.symm
      subst hx
      refine Rn_pure 2 (i' := 35) (L' := [some (2, 161), none, none, some (0, l3 + 1)]) (st' := []) rfl ?_
      exact h
-- EventLedgerModel.aside (I)I
theorem v_M_aside {K : Int} {S : Nat} {g r : ab_H} {p1 : Int} (P : Int → ab_H → ab_H → Prop) (hr : SI r) (hK : 185 ≤ K) (h : ∀ g1, g1 = ab_up g 161 0 0 → ((wr 0 ≤ wr p1 → ab_RV m_M_replaysAll [(2, 161)] K S g1 r (fun g2 r' => r' = r ∧ (ab_Rn m_M_aside 13 [some (2, 161), none, some (0, p1), some (0, 0)] [] (K, S, g2, r) (ab_Qi K S P)))) ∧ (wr p1 < wr 0 → P (-1) g1 r))) : ab_RI m_M_aside [(2, 161), (0, p1)] K S g r P := by
  show ab_Rn m_M_aside 0 [some (2, 161), some (0, p1), none, none] [] (K, S, g, r) (ab_Qi K S P)
  refine Rn_pure 2 (i' := 2) (L' := [some (2, 161), some (0, p1), none, none]) (st' := [(0, 0), (2, 161)]) rfl ?_
  refine Rn_putI rfl (⟨rfl, (by omega : (0 : Int) ≤ 161), (by omega : (161 : Int) < K)⟩) (fun g1 he_g1 => ?_)
  have h := h g1 he_g1
  refine Rn_pure 1 (i' := 4) (L' := [some (2, 161), some (0, p1), none, none]) (st' := [(0, p1)]) rfl ?_
  refine Rn_ifge rfl (fun hc => ?_) (fun hc => ?_)
  · have h := h.1 hc
    refine Rn_pure 1 (i' := 8) (L' := [some (2, 161), some (0, p1), none, none]) (st' := [(2, 161)]) rfl ?_
    refine Rn_callV [(2, 161)] [] rfl rfl rfl rfl (ab_rvB_of rfl (⟨rfl, (by omega : (0 : Int) ≤ 161), (by omega : (161 : Int) < K)⟩)) ?_
    refine h.mono (fun g2 r' h => ?_)
    obtain ⟨hx, h⟩ := h
    replace hx := hx.symm
    subst hx
    refine Rn_pure 4 (i' := 13) (L' := [some (2, 161), some (0, p1), some (0, p1), some (0, 0)]) (st' := []) rfl ?_
    refine Rn_weak (L' := [some (2, 161), none, some (0, p1), some (0, 0)]) ⟨rfl, ⟨rfl, ⟨rfl, trivial⟩⟩⟩ ?_
    exact h
  · have h := h.2 hc
    refine Rn_pure 1 (i' := 6) (L' := [some (2, 161), some (0, p1), none, none]) (st' := [(0, (-1))]) rfl ?_
    exact Rn_ret1 rfl h
theorem v_M_aside_13 {K : Int} {S : Nat} {g r : ab_H} {l2 l3 : Int} (P : Int → ab_H → ab_H → Prop) (hr : SI r) (hK : 185 ≤ K) (h : ab_RI m_M_many [(2, 161)] K S g r (fun x1 g' r' => g' = g ∧ r' = r ∧ (((wr x1 ≤ wr l3 → P (-2) g r) ∧ (wr l3 < wr x1 → ((0 : Int) ≤ l3 ∧ (l3 : Int) < 120) ∧ ((¬ wr (g 183 l3) = wr 0 → ((¬ wr l2 = wr 0 → ab_Rn m_M_aside 13 [some (2, 161), none, some (0, l2 + (-1)), some (0, l3 + 1)] [] (K, S, g, r) (ab_Qi K S P)) ∧ (wr l2 = wr 0 → P l3 g r))) ∧ (wr (g 183 l3) = wr 0 → ab_Rn m_M_aside 13 [some (2, 161), none, some (0, l2), some (0, l3 + 1)] [] (K, S, g, r) (ab_Qi K S P)))))))) : ab_Rn m_M_aside 13 [some (2, 161), none, some (0, l2), some (0, l3)] [] (K, S, g, r) (ab_Qi K S P) := by
  refine Rn_pure 2 (i' := 15) (L' := [some (2, 161), none, some (0, l2), some (0, l3)]) (st' := [(2, 161), (0, l3)]) rfl ?_
  refine Rn_callI [(2, 161)] [(0, l3)] rfl rfl rfl rfl (ab_rvB_of rfl (⟨rfl, (by omega : (0 : Int) ≤ 161), (by omega : (161 : Int) < K)⟩)) ?_
  refine h.mono (fun x1 g' r' h => ?_)
  obtain ⟨hx, h⟩ := h
  replace hx := hx.symm
  subst hx
  obtain ⟨hx, h⟩ := h
  replace hx := hx.symm
  subst hx
  refine Rn_icge rfl (fun hc => ?_) (fun hc => ?_)
  · have h := h.1 hc
    refine Rn_pure 1 (i' := 31) (L' := [some (2, 161), none, some (0, l2), some (0, l3)]) (st' := [(0, (-2))]) rfl ?_
    exact Rn_ret1 rfl h
  · have h := h.2 hc
    refine Rn_pure 1 (i' := 18) (L' := [some (2, 161), none, some (0, l2), some (0, l3)]) (st' := [(2, 161)]) rfl ?_
    refine Rn_getR rfl (⟨rfl, (by omega : (0 : Int) ≤ 161), (by omega : (161 : Int) < K)⟩) (hr 158 _ rfl) (by decide) ?_
    refine Rn_pure 1 (i' := 20) (L' := [some (2, 161), none, some (0, l2), some (0, l3)]) (st' := [(0, l3), (2, 183)]) rfl ?_
    obtain ⟨hg, h⟩ := h
    refine Rn_iald rfl (⟨rfl, (by omega : (0 : Int) ≤ 183), (by omega : (183 : Int) < K)⟩) hg ?_
    refine Rn_ifne rfl (fun hc => ?_) (fun hc => ?_)
    · have h := h.1 hc
      refine Rn_pure 1 (i' := 24) (L' := [some (2, 161), none, some (0, l2), some (0, l3)]) (st' := [(0, l2)]) rfl ?_
      refine Rn_ifne rfl (fun hc => ?_) (fun hc => ?_)
      · have h := h.1 hc
        refine Rn_pure 3 (i' := 13) (L' := [some (2, 161), none, some (0, l2 + (-1)), some (0, l3 + 1)]) (st' := []) rfl ?_
        exact h
      · have h := h.2 hc
        refine Rn_pure 1 (i' := 26) (L' := [some (2, 161), none, some (0, l2), some (0, l3)]) (st' := [(0, l3)]) rfl ?_
        exact Rn_ret1 rfl h
    · have h := h.2 hc
      refine Rn_pure 3 (i' := 13) (L' := [some (2, 161), none, some (0, l2), some (0, l3 + 1)]) (st' := []) rfl ?_
      exact h
-- EventLedgerModel.blame (I)I
theorem v_M_blame {K : Int} {S : Nat} {g r : ab_H} {p1 : Int} (P : Int → ab_H → ab_H → Prop) (hr : SI r) (hK : 185 ≤ K) (h : ∀ g1, g1 = ab_up g 161 0 0 → ab_RI m_M_isEvent [(2, 161), (0, p1)] K S g1 r (fun x2 g' r' => g' = g1 ∧ r' = r ∧ (((¬ wr x2 = wr 0 → ab_RV m_M_replaysAll [(2, 161)] K S g1 r (fun g3 r' => r' = r ∧ (((0 : Int) ≤ p1 ∧ (p1 : Int) < 120) ∧ ((¬ wr (g3 183 p1) = wr 0 → ab_Rn m_M_blame 20 [some (2, 161), some (0, p1), some (0, 0)] [] (K, S, g3, r) (ab_Qi K S P)) ∧ (wr (g3 183 p1) = wr 0 → P (-1) g3 r))))) ∧ (wr x2 = wr 0 → P (-1) g1 r))))) : ab_RI m_M_blame [(2, 161), (0, p1)] K S g r P := by
  show ab_Rn m_M_blame 0 [some (2, 161), some (0, p1), none] [] (K, S, g, r) (ab_Qi K S P)
  refine Rn_pure 2 (i' := 2) (L' := [some (2, 161), some (0, p1), none]) (st' := [(0, 0), (2, 161)]) rfl ?_
  refine Rn_putI rfl (⟨rfl, (by omega : (0 : Int) ≤ 161), (by omega : (161 : Int) < K)⟩) (fun g1 he_g1 => ?_)
  have h := h g1 he_g1
  refine Rn_pure 2 (i' := 5) (L' := [some (2, 161), some (0, p1), none]) (st' := [(0, p1), (2, 161)]) rfl ?_
  refine Rn_callI [(2, 161), (0, p1)] [] rfl rfl rfl rfl (ab_rvB_of rfl (⟨rfl, (by omega : (0 : Int) ≤ 161), (by omega : (161 : Int) < K)⟩)) ?_
  refine h.mono (fun x2 g' r' h => ?_)
  obtain ⟨hx, h⟩ := h
  replace hx := hx.symm
  subst hx
  obtain ⟨hx, h⟩ := h
  replace hx := hx.symm
  subst hx
  refine Rn_ifne rfl (fun hc => ?_) (fun hc => ?_)
  · have h := h.1 hc
    refine Rn_pure 1 (i' := 10) (L' := [some (2, 161), some (0, p1), none]) (st' := [(2, 161)]) rfl ?_
    refine Rn_callV [(2, 161)] [] rfl rfl rfl rfl (ab_rvB_of rfl (⟨rfl, (by omega : (0 : Int) ≤ 161), (by omega : (161 : Int) < K)⟩)) ?_
    refine h.mono (fun g3 r' h => ?_)
    obtain ⟨hx, h⟩ := h
    replace hx := hx.symm
    subst hx
    refine Rn_pure 1 (i' := 12) (L' := [some (2, 161), some (0, p1), none]) (st' := [(2, 161)]) rfl ?_
    refine Rn_getR rfl (⟨rfl, (by omega : (0 : Int) ≤ 161), (by omega : (161 : Int) < K)⟩) (hr 158 _ rfl) (by decide) ?_
    refine Rn_pure 1 (i' := 14) (L' := [some (2, 161), some (0, p1), none]) (st' := [(0, p1), (2, 183)]) rfl ?_
    obtain ⟨hg, h⟩ := h
    refine Rn_iald rfl (⟨rfl, (by omega : (0 : Int) ≤ 183), (by omega : (183 : Int) < K)⟩) hg ?_
    refine Rn_ifne rfl (fun hc => ?_) (fun hc => ?_)
    · have h := h.1 hc
      refine Rn_pure 2 (i' := 20) (L' := [some (2, 161), some (0, p1), some (0, 0)]) (st' := []) rfl ?_
      exact h
    · have h := h.2 hc
      refine Rn_pure 1 (i' := 17) (L' := [some (2, 161), some (0, p1), none]) (st' := [(0, (-1))]) rfl ?_
      exact Rn_ret1 rfl h
  · have h := h.2 hc
    refine Rn_pure 1 (i' := 8) (L' := [some (2, 161), some (0, p1), none]) (st' := [(0, (-1))]) rfl ?_
    exact Rn_ret1 rfl h
theorem v_M_blame_20 {K : Int} {S : Nat} {g r : ab_H} {l1 l2 : Int} (P : Int → ab_H → ab_H → Prop) (hr : SI r) (hK : 185 ≤ K) (h : ((wr l1 ≤ wr l2 → P (-2) g r) ∧ (wr l2 < wr l1 → ab_RI m_M_isVoid [(2, 161), (0, l2)] K S g r (fun x1 g' r' => g' = g ∧ r' = r ∧ (((¬ wr x1 = wr 0 → ab_Rn m_M_blame 20 [some (2, 161), some (0, l1), some (0, l2 + 1)] [] (K, S, g, r) (ab_Qi K S P)) ∧ (wr x1 = wr 0 → ab_RI m_M_isVoided [(2, 161), (0, l2)] K S g r (fun x2 g' r' => g' = g ∧ r' = r ∧ (((wr x2 = wr 0 → ab_RV m_M_replays [(2, 161), (0, l1 + 1), (0, l2), (0, 120), (0, (-1))] K S g r (fun g3 r' => r' = r ∧ (((0 : Int) ≤ l1 ∧ (l1 : Int) < 120) ∧ ((¬ wr (g3 183 l1) = wr 0 → ab_Rn m_M_blame 20 [some (2, 161), some (0, l1), some (0, l2 + 1)] [] (K, S, g3, r) (ab_Qi K S P)) ∧ (wr (g3 183 l1) = wr 0 → P l2 g3 r))))) ∧ (¬ wr x2 = wr 0 → ab_Rn m_M_blame 20 [some (2, 161), some (0, l1), some (0, l2 + 1)] [] (K, S, g, r) (ab_Qi K S P)))))))))))) : ab_Rn m_M_blame 20 [some (2, 161), some (0, l1), some (0, l2)] [] (K, S, g, r) (ab_Qi K S P) := by
  refine Rn_pure 2 (i' := 22) (L' := [some (2, 161), some (0, l1), some (0, l2)]) (st' := [(0, l1), (0, l2)]) rfl ?_
  refine Rn_icge rfl (fun hc => ?_) (fun hc => ?_)
  · have h := h.1 hc
    refine Rn_pure 1 (i' := 50) (L' := [some (2, 161), some (0, l1), some (0, l2)]) (st' := [(0, (-2))]) rfl ?_
    exact Rn_ret1 rfl h
  · have h := h.2 hc
    refine Rn_pure 2 (i' := 25) (L' := [some (2, 161), some (0, l1), some (0, l2)]) (st' := [(0, l2), (2, 161)]) rfl ?_
    refine Rn_callI [(2, 161), (0, l2)] [] rfl rfl rfl rfl (ab_rvB_of rfl (⟨rfl, (by omega : (0 : Int) ≤ 161), (by omega : (161 : Int) < K)⟩)) ?_
    refine h.mono (fun x1 g' r' h => ?_)
    obtain ⟨hx, h⟩ := h
    replace hx := hx.symm
    subst hx
    obtain ⟨hx, h⟩ := h
    replace hx := hx.symm
    subst hx
    refine Rn_ifne rfl (fun hc => ?_) (fun hc => ?_)
    · have h := h.1 hc
      refine Rn_pure 2 (i' := 20) (L' := [some (2, 161), some (0, l1), some (0, l2 + 1)]) (st' := []) rfl ?_
      exact h
    · have h := h.2 hc
      refine Rn_pure 2 (i' := 29) (L' := [some (2, 161), some (0, l1), some (0, l2)]) (st' := [(0, l2), (2, 161)]) rfl ?_
      refine Rn_callI [(2, 161), (0, l2)] [] rfl rfl rfl rfl (ab_rvB_of rfl (⟨rfl, (by omega : (0 : Int) ≤ 161), (by omega : (161 : Int) < K)⟩)) ?_
      refine h.mono (fun x2 g' r' h => ?_)
      obtain ⟨hx, h⟩ := h
      replace hx := hx.symm
      subst hx
      obtain ⟨hx, h⟩ := h
      replace hx := hx.symm
      subst hx
      refine Rn_ifeq rfl (fun hc => ?_) (fun hc => ?_)
      · have h := h.1 hc
        refine Rn_pure 7 (i' := 39) (L' := [some (2, 161), some (0, l1), some (0, l2)]) (st' := [(0, (-1)), (0, 120), (0, l2), (0, l1 + 1), (2, 161)]) rfl ?_
        refine Rn_callV [(2, 161), (0, l1 + 1), (0, l2), (0, 120), (0, (-1))] [] rfl rfl rfl rfl (ab_rvB_of rfl (⟨rfl, (by omega : (0 : Int) ≤ 161), (by omega : (161 : Int) < K)⟩)) ?_
        refine h.mono (fun g3 r' h => ?_)
        obtain ⟨hx, h⟩ := h
        replace hx := hx.symm
        subst hx
        refine Rn_pure 1 (i' := 41) (L' := [some (2, 161), some (0, l1), some (0, l2)]) (st' := [(2, 161)]) rfl ?_
        refine Rn_getR rfl (⟨rfl, (by omega : (0 : Int) ≤ 161), (by omega : (161 : Int) < K)⟩) (hr 158 _ rfl) (by decide) ?_
        refine Rn_pure 1 (i' := 43) (L' := [some (2, 161), some (0, l1), some (0, l2)]) (st' := [(0, l1), (2, 183)]) rfl ?_
        obtain ⟨hg, h⟩ := h
        refine Rn_iald rfl (⟨rfl, (by omega : (0 : Int) ≤ 183), (by omega : (183 : Int) < K)⟩) hg ?_
        refine Rn_ifne rfl (fun hc => ?_) (fun hc => ?_)
        · have h := h.1 hc
          refine Rn_pure 2 (i' := 20) (L' := [some (2, 161), some (0, l1), some (0, l2 + 1)]) (st' := []) rfl ?_
          exact h
        · have h := h.2 hc
          refine Rn_pure 1 (i' := 46) (L' := [some (2, 161), some (0, l1), some (0, l2)]) (st' := [(0, l2)]) rfl ?_
          exact Rn_ret1 rfl h
      · have h := h.2 hc
        refine Rn_pure 3 (i' := 20) (L' := [some (2, 161), some (0, l1), some (0, l2 + 1)]) (st' := []) rfl ?_
        exact h
-- EventLedgerModel.without (II)I
theorem v_M_without {K : Int} {S : Nat} {g r : ab_H} {p1 p2 : Int} (P : Int → ab_H → ab_H → Prop) (hr : SI r) (hK : 185 ≤ K) (h : ∀ g1, g1 = ab_up g 161 0 0 → ab_RI m_M_isEvent [(2, 161), (0, p1)] K S g1 r (fun x2 g' r' => g' = g1 ∧ r' = r ∧ (((wr x2 = wr 0 → P (-2147483648) g1 r) ∧ (¬ wr x2 = wr 0 → ab_RI m_M_isVoid [(2, 161), (0, p1)] K S g1 r (fun x3 g' r' => g' = g1 ∧ r' = r ∧ (((¬ wr x3 = wr 0 → P (-2147483648) g1 r) ∧ (wr x3 = wr 0 → ab_RI m_M_isAccount [(2, 161), (0, p2)] K S g1 r (fun x4 g' r' => g' = g1 ∧ r' = r ∧ (((¬ wr x4 = wr 0 → ab_RI m_M_many [(2, 161)] K S g1 r (fun x5 g' r' => g' = g1 ∧ r' = r ∧ (ab_RV m_M_replays [(2, 161), (0, x5), (0, p1), (0, 120), (0, (-1))] K S g1 r (fun g6 r' => r' = r ∧ (((0 : Int) ≤ p2 ∧ (p2 : Int) < 8) ∧ P (g6 179 p2) g6 r))))) ∧ (wr x4 = wr 0 → P (-2147483648) g1 r))))))))))))) : ab_RI m_M_without [(2, 161), (0, p1), (0, p2)] K S g r P := by
  show ab_Rn m_M_without 0 [some (2, 161), some (0, p1), some (0, p2)] [] (K, S, g, r) (ab_Qi K S P)
  refine Rn_pure 2 (i' := 2) (L' := [some (2, 161), some (0, p1), some (0, p2)]) (st' := [(0, 0), (2, 161)]) rfl ?_
  refine Rn_putI rfl (⟨rfl, (by omega : (0 : Int) ≤ 161), (by omega : (161 : Int) < K)⟩) (fun g1 he_g1 => ?_)
  have h := h g1 he_g1
  refine Rn_pure 2 (i' := 5) (L' := [some (2, 161), some (0, p1), some (0, p2)]) (st' := [(0, p1), (2, 161)]) rfl ?_
  refine Rn_callI [(2, 161), (0, p1)] [] rfl rfl rfl rfl (ab_rvB_of rfl (⟨rfl, (by omega : (0 : Int) ≤ 161), (by omega : (161 : Int) < K)⟩)) ?_
  refine h.mono (fun x2 g' r' h => ?_)
  obtain ⟨hx, h⟩ := h
  replace hx := hx.symm
  subst hx
  obtain ⟨hx, h⟩ := h
  replace hx := hx.symm
  subst hx
  refine Rn_ifeq rfl (fun hc => ?_) (fun hc => ?_)
  · have h := h.1 hc
    refine Rn_pure 1 (i' := 16) (L' := [some (2, 161), some (0, p1), some (0, p2)]) (st' := [(0, (-2147483648))]) rfl ?_
    exact Rn_ret1 rfl h
  · have h := h.2 hc
    refine Rn_pure 2 (i' := 9) (L' := [some (2, 161), some (0, p1), some (0, p2)]) (st' := [(0, p1), (2, 161)]) rfl ?_
    refine Rn_callI [(2, 161), (0, p1)] [] rfl rfl rfl rfl (ab_rvB_of rfl (⟨rfl, (by omega : (0 : Int) ≤ 161), (by omega : (161 : Int) < K)⟩)) ?_
    refine h.mono (fun x3 g' r' h => ?_)
    obtain ⟨hx, h⟩ := h
    replace hx := hx.symm
    subst hx
    obtain ⟨hx, h⟩ := h
    replace hx := hx.symm
    subst hx
    refine Rn_ifne rfl (fun hc => ?_) (fun hc => ?_)
    · have h := h.1 hc
      refine Rn_pure 1 (i' := 16) (L' := [some (2, 161), some (0, p1), some (0, p2)]) (st' := [(0, (-2147483648))]) rfl ?_
      exact Rn_ret1 rfl h
    · have h := h.2 hc
      refine Rn_pure 2 (i' := 13) (L' := [some (2, 161), some (0, p1), some (0, p2)]) (st' := [(0, p2), (2, 161)]) rfl ?_
      refine Rn_callI [(2, 161), (0, p2)] [] rfl rfl rfl rfl (ab_rvB_of rfl (⟨rfl, (by omega : (0 : Int) ≤ 161), (by omega : (161 : Int) < K)⟩)) ?_
      refine h.mono (fun x4 g' r' h => ?_)
      obtain ⟨hx, h⟩ := h
      replace hx := hx.symm
      subst hx
      obtain ⟨hx, h⟩ := h
      replace hx := hx.symm
      subst hx
      refine Rn_ifne rfl (fun hc => ?_) (fun hc => ?_)
      · have h := h.1 hc
        refine Rn_pure 2 (i' := 19) (L' := [some (2, 161), some (0, p1), some (0, p2)]) (st' := [(2, 161), (2, 161)]) rfl ?_
        refine Rn_callI [(2, 161)] [(2, 161)] rfl rfl rfl rfl (ab_rvB_of rfl (⟨rfl, (by omega : (0 : Int) ≤ 161), (by omega : (161 : Int) < K)⟩)) ?_
        refine h.mono (fun x5 g' r' h => ?_)
        obtain ⟨hx, h⟩ := h
        replace hx := hx.symm
        subst hx
        obtain ⟨hx, h⟩ := h
        replace hx := hx.symm
        subst hx
        refine Rn_pure 3 (i' := 23) (L' := [some (2, 161), some (0, p1), some (0, p2)]) (st' := [(0, (-1)), (0, 120), (0, p1), (0, x5), (2, 161)]) rfl ?_
        refine Rn_callV [(2, 161), (0, x5), (0, p1), (0, 120), (0, (-1))] [] rfl rfl rfl rfl (ab_rvB_of rfl (⟨rfl, (by omega : (0 : Int) ≤ 161), (by omega : (161 : Int) < K)⟩)) ?_
        refine h.mono (fun g6 r' h => ?_)
        obtain ⟨hx, h⟩ := h
        replace hx := hx.symm
        subst hx
        refine Rn_pure 1 (i' := 25) (L' := [some (2, 161), some (0, p1), some (0, p2)]) (st' := [(2, 161)]) rfl ?_
        refine Rn_getR rfl (⟨rfl, (by omega : (0 : Int) ≤ 161), (by omega : (161 : Int) < K)⟩) (hr 154 _ rfl) (by decide) ?_
        refine Rn_pure 1 (i' := 27) (L' := [some (2, 161), some (0, p1), some (0, p2)]) (st' := [(0, p2), (2, 179)]) rfl ?_
        obtain ⟨hg, h⟩ := h
        refine Rn_iald rfl (⟨rfl, (by omega : (0 : Int) ≤ 179), (by omega : (179 : Int) < K)⟩) hg ?_
        exact Rn_ret1 rfl h
      · have h := h.2 hc
        refine Rn_pure 1 (i' := 16) (L' := [some (2, 161), some (0, p1), some (0, p2)]) (st' := [(0, (-2147483648))]) rfl ?_
        exact Rn_ret1 rfl h
-- EventLedgerModel.touches (I)I
theorem v_M_touches {K : Int} {S : Nat} {g r : ab_H} {p1 : Int} (P : Int → ab_H → ab_H → Prop) (hr : SI r) (hK : 185 ≤ K) (h : ∀ g1, g1 = ab_up g 161 0 0 → ab_RI m_M_isEvent [(2, 161), (0, p1)] K S g1 r (fun x2 g' r' => g' = g1 ∧ r' = r ∧ (((wr x2 = wr 0 → P (-1) g1 r) ∧ (¬ wr x2 = wr 0 → ab_RI m_M_isVoid [(2, 161), (0, p1)] K S g1 r (fun x3 g' r' => g' = g1 ∧ r' = r ∧ (((wr x3 = wr 0 → ab_RV m_M_replaysAll [(2, 161)] K S g1 r (fun g4 r' => r' = r ∧ (ab_Rn m_M_touches 17 [some (2, 161), some (0, p1), some (0, 0), none] [] (K, S, g4, r) (ab_Qi K S P)))) ∧ (¬ wr x3 = wr 0 → P (-1) g1 r))))))))) : ab_RI m_M_touches [(2, 161), (0, p1)] K S g r P := by
  show ab_Rn m_M_touches 0 [some (2, 161), some (0, p1), none, none] [] (K, S, g, r) (ab_Qi K S P)
  refine Rn_pure 2 (i' := 2) (L' := [some (2, 161), some (0, p1), none, none]) (st' := [(0, 0), (2, 161)]) rfl ?_
  refine Rn_putI rfl (⟨rfl, (by omega : (0 : Int) ≤ 161), (by omega : (161 : Int) < K)⟩) (fun g1 he_g1 => ?_)
  have h := h g1 he_g1
  refine Rn_pure 2 (i' := 5) (L' := [some (2, 161), some (0, p1), none, none]) (st' := [(0, p1), (2, 161)]) rfl ?_
  refine Rn_callI [(2, 161), (0, p1)] [] rfl rfl rfl rfl (ab_rvB_of rfl (⟨rfl, (by omega : (0 : Int) ≤ 161), (by omega : (161 : Int) < K)⟩)) ?_
  refine h.mono (fun x2 g' r' h => ?_)
  obtain ⟨hx, h⟩ := h
  replace hx := hx.symm
  subst hx
  obtain ⟨hx, h⟩ := h
  replace hx := hx.symm
  subst hx
  refine Rn_ifeq rfl (fun hc => ?_) (fun hc => ?_)
  · have h := h.1 hc
    refine Rn_pure 1 (i' := 12) (L' := [some (2, 161), some (0, p1), none, none]) (st' := [(0, (-1))]) rfl ?_
    exact Rn_ret1 rfl h
  · have h := h.2 hc
    refine Rn_pure 2 (i' := 9) (L' := [some (2, 161), some (0, p1), none, none]) (st' := [(0, p1), (2, 161)]) rfl ?_
    refine Rn_callI [(2, 161), (0, p1)] [] rfl rfl rfl rfl (ab_rvB_of rfl (⟨rfl, (by omega : (0 : Int) ≤ 161), (by omega : (161 : Int) < K)⟩)) ?_
    refine h.mono (fun x3 g' r' h => ?_)
    obtain ⟨hx, h⟩ := h
    replace hx := hx.symm
    subst hx
    obtain ⟨hx, h⟩ := h
    replace hx := hx.symm
    subst hx
    refine Rn_ifeq rfl (fun hc => ?_) (fun hc => ?_)
    · have h := h.1 hc
      refine Rn_pure 1 (i' := 14) (L' := [some (2, 161), some (0, p1), none, none]) (st' := [(2, 161)]) rfl ?_
      refine Rn_callV [(2, 161)] [] rfl rfl rfl rfl (ab_rvB_of rfl (⟨rfl, (by omega : (0 : Int) ≤ 161), (by omega : (161 : Int) < K)⟩)) ?_
      refine h.mono (fun g4 r' h => ?_)
      obtain ⟨hx, h⟩ := h
      replace hx := hx.symm
      subst hx
      refine Rn_pure 2 (i' := 17) (L' := [some (2, 161), some (0, p1), some (0, 0), none]) (st' := []) rfl ?_
      exact h
    · have h := h.2 hc
      refine Rn_pure 1 (i' := 12) (L' := [some (2, 161), some (0, p1), none, none]) (st' := [(0, (-1))]) rfl ?_
      exact Rn_ret1 rfl h
theorem v_M_touches_17 {K : Int} {S : Nat} {g r : ab_H} {l1 l2 : Int} (P : Int → ab_H → ab_H → Prop) (hr : SI r) (hK : 185 ≤ K) (h : ab_RI m_M_many [(2, 161)] K S g r (fun x1 g' r' => g' = g ∧ r' = r ∧ (((wr x1 ≤ wr l2 → ab_RI m_M_many [(2, 161)] K S g r (fun x2 g' r' => g' = g ∧ r' = r ∧ (ab_RV m_M_replays [(2, 161), (0, x2), (0, l1), (0, 120), (0, (-1))] K S g r (fun g3 r' => r' = r ∧ (ab_Rn m_M_touches 42 [some (2, 161), some (0, l1), some (0, 0), some (0, 0)] [] (K, S, g3, r) (ab_Qi K S P)))))) ∧ (wr l2 < wr x1 → ((0 : Int) ≤ l2 ∧ (l2 : Int) < 120) ∧ ((0 : Int) ≤ l2 ∧ (l2 : Int) < 120) ∧ ∀ g5, g5 = ab_up g 184 l2 (g 183 l2) → ab_Rn m_M_touches 17 [some (2, 161), some (0, l1), some (0, l2 + 1), none] [] (K, S, g5, r) (ab_Qi K S P)))))) : ab_Rn m_M_touches 17 [some (2, 161), some (0, l1), some (0, l2), none] [] (K, S, g, r) (ab_Qi K S P) := by
  refine Rn_pure 2 (i' := 19) (L' := [some (2, 161), some (0, l1), some (0, l2), none]) (st' := [(2, 161), (0, l2)]) rfl ?_
  refine Rn_callI [(2, 161)] [(0, l2)] rfl rfl rfl rfl (ab_rvB_of rfl (⟨rfl, (by omega : (0 : Int) ≤ 161), (by omega : (161 : Int) < K)⟩)) ?_
  refine h.mono (fun x1 g' r' h => ?_)
  obtain ⟨hx, h⟩ := h
  replace hx := hx.symm
  subst hx
  obtain ⟨hx, h⟩ := h
  replace hx := hx.symm
  subst hx
  refine Rn_icge rfl (fun hc => ?_) (fun hc => ?_)
  · have h := h.1 hc
    refine Rn_pure 2 (i' := 33) (L' := [some (2, 161), some (0, l1), some (0, l2), none]) (st' := [(2, 161), (2, 161)]) rfl ?_
    refine Rn_callI [(2, 161)] [(2, 161)] rfl rfl rfl rfl (ab_rvB_of rfl (⟨rfl, (by omega : (0 : Int) ≤ 161), (by omega : (161 : Int) < K)⟩)) ?_
    refine h.mono (fun x2 g' r' h => ?_)
    obtain ⟨hx, h⟩ := h
    replace hx := hx.symm
    subst hx
    obtain ⟨hx, h⟩ := h
    replace hx := hx.symm
    subst hx
    refine Rn_pure 3 (i' := 37) (L' := [some (2, 161), some (0, l1), some (0, l2), none]) (st' := [(0, (-1)), (0, 120), (0, l1), (0, x2), (2, 161)]) rfl ?_
    refine Rn_callV [(2, 161), (0, x2), (0, l1), (0, 120), (0, (-1))] [] rfl rfl rfl rfl (ab_rvB_of rfl (⟨rfl, (by omega : (0 : Int) ≤ 161), (by omega : (161 : Int) < K)⟩)) ?_
    refine h.mono (fun g3 r' h => ?_)
    obtain ⟨hx, h⟩ := h
    replace hx := hx.symm
    subst hx
    refine Rn_pure 4 (i' := 42) (L' := [some (2, 161), some (0, l1), some (0, 0), some (0, 0)]) (st' := []) rfl ?_
    exact h
  · have h := h.2 hc
    refine Rn_pure 1 (i' := 22) (L' := [some (2, 161), some (0, l1), some (0, l2), none]) (st' := [(2, 161)]) rfl ?_
    refine Rn_getR rfl (⟨rfl, (by omega : (0 : Int) ≤ 161), (by omega : (161 : Int) < K)⟩) (hr 159 _ rfl) (by decide) ?_
    refine Rn_pure 2 (i' := 25) (L' := [some (2, 161), some (0, l1), some (0, l2), none]) (st' := [(2, 161), (0, l2), (2, 184)]) rfl ?_
    refine Rn_getR rfl (⟨rfl, (by omega : (0 : Int) ≤ 161), (by omega : (161 : Int) < K)⟩) (hr 158 _ rfl) (by decide) ?_
    refine Rn_pure 1 (i' := 27) (L' := [some (2, 161), some (0, l1), some (0, l2), none]) (st' := [(0, l2), (2, 183), (0, l2), (2, 184)]) rfl ?_
    obtain ⟨hg, h⟩ := h
    refine Rn_iald rfl (⟨rfl, (by omega : (0 : Int) ≤ 183), (by omega : (183 : Int) < K)⟩) hg ?_
    obtain ⟨hg, h⟩ := h
    refine Rn_iast rfl (⟨rfl, (by omega : (0 : Int) ≤ 184), (by omega : (184 : Int) < K)⟩) hg (fun g5 he_g5 => ?_)
    have h := h g5 he_g5
    refine Rn_pure 2 (i' := 17) (L' := [some (2, 161), some (0, l1), some (0, l2 + 1), none]) (st' := []) rfl ?_
    exact h
theorem v_M_touches_42 {K : Int} {S : Nat} {g r : ab_H} {l1 l2 l3 : Int} (P : Int → ab_H → ab_H → Prop) (hr : SI r) (hK : 185 ≤ K) (h : ab_RI m_M_many [(2, 161)] K S g r (fun x1 g' r' => g' = g ∧ r' = r ∧ (((wr x1 ≤ wr l3 → P l2 g r) ∧ (wr l3 < wr x1 → ((wr l3 = wr l1 → ab_Rn m_M_touches 42 [some (2, 161), some (0, l1), some (0, l2 + 0), some (0, l3 + 1)] [] (K, S, g, r) (ab_Qi K S P)) ∧ (¬ wr l3 = wr l1 → ((0 : Int) ≤ l3 ∧ (l3 : Int) < 120) ∧ ((0 : Int) ≤ l3 ∧ (l3 : Int) < 120) ∧ ((wr (g 184 l3) = wr (g 183 l3) → ab_Rn m_M_touches 42 [some (2, 161), some (0, l1), some (0, l2 + 0), some (0, l3 + 1)] [] (K, S, g, r) (ab_Qi K S P)) ∧ (¬ wr (g 184 l3) = wr (g 183 l3) → ab_Rn m_M_touches 42 [some (2, 161), some (0, l1), some (0, l2 + 1), some (0, l3 + 1)] [] (K, S, g, r) (ab_Qi K S P)))))))))) : ab_Rn m_M_touches 42 [some (2, 161), some (0, l1), some (0, l2), some (0, l3)] [] (K, S, g, r) (ab_Qi K S P) := by
  refine Rn_pure 2 (i' := 44) (L' := [some (2, 161), some (0, l1), some (0, l2), some (0, l3)]) (st' := [(2, 161), (0, l3)]) rfl ?_
  refine Rn_callI [(2, 161)] [(0, l3)] rfl rfl rfl rfl (ab_rvB_of rfl (⟨rfl, (by omega : (0 : Int) ≤ 161), (by omega : (161 : Int) < K)⟩)) ?_
  refine h.mono (fun x1 g' r' h => ?_)
  obtain ⟨hx, h⟩ := h
  replace hx := hx.symm
  subst hx
  obtain ⟨hx, h⟩ := h
  replace hx := hx.symm
  subst hx
  refine Rn_icge rfl (fun hc => ?_) (fun hc => ?_)
  · have h := h.1 hc
    refine Rn_pure 1 (i' := 67) (L' := [some (2, 161), some (0, l1), some (0, l2), some (0, l3)]) (st' := [(0, l2)]) rfl ?_
    exact Rn_ret1 rfl h
  · have h := h.2 hc
    refine Rn_pure 3 (i' := 49) (L' := [some (2, 161), some (0, l1), some (0, l2), some (0, l3)]) (st' := [(0, l1), (0, l3), (0, l2)]) rfl ?_
    refine Rn_iceq rfl (fun hc => ?_) (fun hc => ?_)
    · have h := h.1 hc
      refine Rn_pure 5 (i' := 42) (L' := [some (2, 161), some (0, l1), some (0, l2 + 0), some (0, l3 + 1)]) (st' := []) rfl ?_
      exact h
    · have h := h.2 hc
      refine Rn_pure 1 (i' := 51) (L' := [some (2, 161), some (0, l1), some (0, l2), some (0, l3)]) (st' := [(2, 161), (0, l2)]) rfl ?_
      refine Rn_getR rfl (⟨rfl, (by omega : (0 : Int) ≤ 161), (by omega : (161 : Int) < K)⟩) (hr 159 _ rfl) (by decide) ?_
      refine Rn_pure 1 (i' := 53) (L' := [some (2, 161), some (0, l1), some (0, l2), some (0, l3)]) (st' := [(0, l3), (2, 184), (0, l2)]) rfl ?_
      obtain ⟨hg, h⟩ := h
      refine Rn_iald rfl (⟨rfl, (by omega : (0 : Int) ≤ 184), (by omega : (184 : Int) < K)⟩) hg ?_
      refine Rn_pure 1 (i' := 55) (L' := [some (2, 161), some (0, l1), some (0, l2), some (0, l3)]) (st' := [(2, 161), (0, g 184 l3), (0, l2)]) rfl ?_
      refine Rn_getR rfl (⟨rfl, (by omega : (0 : Int) ≤ 161), (by omega : (161 : Int) < K)⟩) (hr 158 _ rfl) (by decide) ?_
      refine Rn_pure 1 (i' := 57) (L' := [some (2, 161), some (0, l1), some (0, l2), some (0, l3)]) (st' := [(0, l3), (2, 183), (0, g 184 l3), (0, l2)]) rfl ?_
      obtain ⟨hg, h⟩ := h
      refine Rn_iald rfl (⟨rfl, (by omega : (0 : Int) ≤ 183), (by omega : (183 : Int) < K)⟩) hg ?_
      refine Rn_iceq rfl (fun hc => ?_) (fun hc => ?_)
      · have h := h.1 hc
        refine Rn_pure 5 (i' := 42) (L' := [some (2, 161), some (0, l1), some (0, l2 + 0), some (0, l3 + 1)]) (st' := []) rfl ?_
        exact h
      · have h := h.2 hc
        refine Rn_pure 6 (i' := 42) (L' := [some (2, 161), some (0, l1), some (0, l2 + 1), some (0, l3 + 1)]) (st' := []) rfl ?_
        exact h
-- EventLedgerModel.firstBelow (I)I
theorem v_M_firstBelow {K : Int} {S : Nat} {g r : ab_H} {p1 : Int} (P : Int → ab_H → ab_H → Prop) (hr : SI r) (hK : 185 ≤ K) (h : ∀ g1, g1 = ab_up g 161 0 0 → ab_RI m_M_isAccount [(2, 161), (0, p1)] K S g1 r (fun x2 g' r' => g' = g1 ∧ r' = r ∧ (((¬ wr x2 = wr 0 → ab_RI m_M_many [(2, 161)] K S g1 r (fun x3 g' r' => g' = g1 ∧ r' = r ∧ (ab_RV m_M_replays [(2, 161), (0, x3), (0, (-1)), (0, 120), (0, p1)] K S g1 r (fun g4 r' => r' = r ∧ (P (g4 161 41) g4 r))))) ∧ (wr x2 = wr 0 → P (-1) g1 r))))) : ab_RI m_M_firstBelow [(2, 161), (0, p1)] K S g r P := by
  show ab_Rn m_M_firstBelow 0 [some (2, 161), some (0, p1)] [] (K, S, g, r) (ab_Qi K S P)
  refine Rn_pure 2 (i' := 2) (L' := [some (2, 161), some (0, p1)]) (st' := [(0, 0), (2, 161)]) rfl ?_
  refine Rn_putI rfl (⟨rfl, (by omega : (0 : Int) ≤ 161), (by omega : (161 : Int) < K)⟩) (fun g1 he_g1 => ?_)
  have h := h g1 he_g1
  refine Rn_pure 2 (i' := 5) (L' := [some (2, 161), some (0, p1)]) (st' := [(0, p1), (2, 161)]) rfl ?_
  refine Rn_callI [(2, 161), (0, p1)] [] rfl rfl rfl rfl (ab_rvB_of rfl (⟨rfl, (by omega : (0 : Int) ≤ 161), (by omega : (161 : Int) < K)⟩)) ?_
  refine h.mono (fun x2 g' r' h => ?_)
  obtain ⟨hx, h⟩ := h
  replace hx := hx.symm
  subst hx
  obtain ⟨hx, h⟩ := h
  replace hx := hx.symm
  subst hx
  refine Rn_ifne rfl (fun hc => ?_) (fun hc => ?_)
  · have h := h.1 hc
    refine Rn_pure 2 (i' := 11) (L' := [some (2, 161), some (0, p1)]) (st' := [(2, 161), (2, 161)]) rfl ?_
    refine Rn_callI [(2, 161)] [(2, 161)] rfl rfl rfl rfl (ab_rvB_of rfl (⟨rfl, (by omega : (0 : Int) ≤ 161), (by omega : (161 : Int) < K)⟩)) ?_
    refine h.mono (fun x3 g' r' h => ?_)
    obtain ⟨hx, h⟩ := h
    replace hx := hx.symm
    subst hx
    obtain ⟨hx, h⟩ := h
    replace hx := hx.symm
    subst hx
    refine Rn_pure 3 (i' := 15) (L' := [some (2, 161), some (0, p1)]) (st' := [(0, p1), (0, 120), (0, (-1)), (0, x3), (2, 161)]) rfl ?_
    refine Rn_callV [(2, 161), (0, x3), (0, (-1)), (0, 120), (0, p1)] [] rfl rfl rfl rfl (ab_rvB_of rfl (⟨rfl, (by omega : (0 : Int) ≤ 161), (by omega : (161 : Int) < K)⟩)) ?_
    refine h.mono (fun g4 r' h => ?_)
    obtain ⟨hx, h⟩ := h
    replace hx := hx.symm
    subst hx
    refine Rn_pure 1 (i' := 17) (L' := [some (2, 161), some (0, p1)]) (st' := [(2, 161)]) rfl ?_
    refine Rn_getI rfl (⟨rfl, (by omega : (0 : Int) ≤ 161), (by omega : (161 : Int) < K)⟩) ?_
    exact Rn_ret1 rfl h
  · have h := h.2 hc
    refine Rn_pure 1 (i' := 8) (L' := [some (2, 161), some (0, p1)]) (st' := [(0, (-1))]) rfl ?_
    exact Rn_ret1 rfl h
-- EventLedgerModel.peak (II)I
theorem v_M_peak {K : Int} {S : Nat} {g r : ab_H} {p1 p2 : Int} (P : Int → ab_H → ab_H → Prop) (hr : SI r) (hK : 185 ≤ K) (h : ∀ g1, g1 = ab_up g 161 0 0 → ab_RI m_M_isAccount [(2, 161), (0, p1)] K S g1 r (fun x2 g' r' => g' = g1 ∧ r' = r ∧ (((wr x2 = wr 0 → P (-2147483648) g1 r) ∧ (¬ wr x2 = wr 0 → ((wr p2 < wr 0 → P (-2147483648) g1 r) ∧ (wr 0 ≤ wr p2 → ((wr p2 ≤ wr 1 → ab_RI m_M_many [(2, 161)] K S g1 r (fun x3 g' r' => g' = g1 ∧ r' = r ∧ (ab_RV m_M_replays [(2, 161), (0, x3), (0, (-1)), (0, 120), (0, p1)] K S g1 r (fun g4 r' => r' = r ∧ (((¬ wr p2 = wr 0 → P (g4 161 43) g4 r) ∧ (wr p2 = wr 0 → P (g4 161 42) g4 r))))))) ∧ (wr 1 < wr p2 → P (-2147483648) g1 r))))))))) : ab_RI m_M_peak [(2, 161), (0, p1), (0, p2)] K S g r P := by
  show ab_Rn m_M_peak 0 [some (2, 161), some (0, p1), some (0, p2)] [] (K, S, g, r) (ab_Qi K S P)
  refine Rn_pure 2 (i' := 2) (L' := [some (2, 161), some (0, p1), some (0, p2)]) (st' := [(0, 0), (2, 161)]) rfl ?_
  refine Rn_putI rfl (⟨rfl, (by omega : (0 : Int) ≤ 161), (by omega : (161 : Int) < K)⟩) (fun g1 he_g1 => ?_)
  have h := h g1 he_g1
  refine Rn_pure 2 (i' := 5) (L' := [some (2, 161), some (0, p1), some (0, p2)]) (st' := [(0, p1), (2, 161)]) rfl ?_
  refine Rn_callI [(2, 161), (0, p1)] [] rfl rfl rfl rfl (ab_rvB_of rfl (⟨rfl, (by omega : (0 : Int) ≤ 161), (by omega : (161 : Int) < K)⟩)) ?_
  refine h.mono (fun x2 g' r' h => ?_)
  obtain ⟨hx, h⟩ := h
  replace hx := hx.symm
  subst hx
  obtain ⟨hx, h⟩ := h
  replace hx := hx.symm
  subst hx
  refine Rn_ifeq rfl (fun hc => ?_) (fun hc => ?_)
  · have h := h.1 hc
    refine Rn_pure 1 (i' := 13) (L' := [some (2, 161), some (0, p1), some (0, p2)]) (st' := [(0, (-2147483648))]) rfl ?_
    exact Rn_ret1 rfl h
  · have h := h.2 hc
    refine Rn_pure 1 (i' := 8) (L' := [some (2, 161), some (0, p1), some (0, p2)]) (st' := [(0, p2)]) rfl ?_
    refine Rn_iflt rfl (fun hc => ?_) (fun hc => ?_)
    · have h := h.1 hc
      refine Rn_pure 1 (i' := 13) (L' := [some (2, 161), some (0, p1), some (0, p2)]) (st' := [(0, (-2147483648))]) rfl ?_
      exact Rn_ret1 rfl h
    · have h := h.2 hc
      refine Rn_pure 2 (i' := 11) (L' := [some (2, 161), some (0, p1), some (0, p2)]) (st' := [(0, 1), (0, p2)]) rfl ?_
      refine Rn_icle rfl (fun hc => ?_) (fun hc => ?_)
      · have h := h.1 hc
        refine Rn_pure 2 (i' := 16) (L' := [some (2, 161), some (0, p1), some (0, p2)]) (st' := [(2, 161), (2, 161)]) rfl ?_
        refine Rn_callI [(2, 161)] [(2, 161)] rfl rfl rfl rfl (ab_rvB_of rfl (⟨rfl, (by omega : (0 : Int) ≤ 161), (by omega : (161 : Int) < K)⟩)) ?_
        refine h.mono (fun x3 g' r' h => ?_)
        obtain ⟨hx, h⟩ := h
        replace hx := hx.symm
        subst hx
        obtain ⟨hx, h⟩ := h
        replace hx := hx.symm
        subst hx
        refine Rn_pure 3 (i' := 20) (L' := [some (2, 161), some (0, p1), some (0, p2)]) (st' := [(0, p1), (0, 120), (0, (-1)), (0, x3), (2, 161)]) rfl ?_
        refine Rn_callV [(2, 161), (0, x3), (0, (-1)), (0, 120), (0, p1)] [] rfl rfl rfl rfl (ab_rvB_of rfl (⟨rfl, (by omega : (0 : Int) ≤ 161), (by omega : (161 : Int) < K)⟩)) ?_
        refine h.mono (fun g4 r' h => ?_)
        obtain ⟨hx, h⟩ := h
        replace hx := hx.symm
        subst hx
        refine Rn_pure 1 (i' := 22) (L' := [some (2, 161), some (0, p1), some (0, p2)]) (st' := [(0, p2)]) rfl ?_
        refine Rn_ifne rfl (fun hc => ?_) (fun hc => ?_)
        · have h := h.1 hc
          refine Rn_pure 1 (i' := 27) (L' := [some (2, 161), some (0, p1), some (0, p2)]) (st' := [(2, 161)]) rfl ?_
          refine Rn_getI rfl (⟨rfl, (by omega : (0 : Int) ≤ 161), (by omega : (161 : Int) < K)⟩) ?_
          exact Rn_ret1 rfl h
        · have h := h.2 hc
          refine Rn_pure 1 (i' := 24) (L' := [some (2, 161), some (0, p1), some (0, p2)]) (st' := [(2, 161)]) rfl ?_
          refine Rn_getI rfl (⟨rfl, (by omega : (0 : Int) ≤ 161), (by omega : (161 : Int) < K)⟩) ?_
          refine Rn_pure 1 (i' := 28) (L' := [some (2, 161), some (0, p1), some (0, p2)]) (st' := [(0, g4 161 42)]) rfl ?_
          exact Rn_ret1 rfl h
      · have h := h.2 hc
        refine Rn_pure 1 (i' := 13) (L' := [some (2, 161), some (0, p1), some (0, p2)]) (st' := [(0, (-2147483648))]) rfl ?_
        exact Rn_ret1 rfl h
-- EventLedgerModel.ifPlain (II)I
theorem v_M_ifPlain {K : Int} {S : Nat} {g r : ab_H} {p1 p2 : Int} (P : Int → ab_H → ab_H → Prop) (hr : SI r) (hK : 185 ≤ K) (h : ∀ g1, g1 = ab_up g 161 0 0 → ((wr p1 < wr 0 → P (-1) g1 r) ∧ (wr 0 ≤ wr p1 → ((wr 6 < wr p1 → P (-1) g1 r) ∧ (wr p1 ≤ wr 6 → ((wr p2 < wr 1 → P (-1) g1 r) ∧ (wr 1 ≤ wr p2 → ((wr p2 ≤ wr 2 → ∀ g2, g2 = ab_up g1 161 34 p1 → ∀ g3, g3 = ab_up g2 161 35 p2 → ab_RV m_M_replaysAll [(2, 161)] K S g3 r (fun g4 r' => r' = r ∧ (∀ g6, g6 = ab_up g4 161 34 (-1) → ab_RI m_M_asidesNow [(2, 161)] K S g6 r (fun x7 g' r' => g' = g6 ∧ r' = r ∧ (P x7 g6 r))))) ∧ (wr 2 < wr p2 → P (-1) g1 r))))))))) : ab_RI m_M_ifPlain [(2, 161), (0, p1), (0, p2)] K S g r P := by
  show ab_Rn m_M_ifPlain 0 [some (2, 161), some (0, p1), some (0, p2)] [] (K, S, g, r) (ab_Qi K S P)
  refine Rn_pure 2 (i' := 2) (L' := [some (2, 161), some (0, p1), some (0, p2)]) (st' := [(0, 0), (2, 161)]) rfl ?_
  refine Rn_putI rfl (⟨rfl, (by omega : (0 : Int) ≤ 161), (by omega : (161 : Int) < K)⟩) (fun g1 he_g1 => ?_)
  have h := h g1 he_g1
  refine Rn_pure 1 (i' := 4) (L' := [some (2, 161), some (0, p1), some (0, p2)]) (st' := [(0, p1)]) rfl ?_
  refine Rn_iflt rfl (fun hc => ?_) (fun hc => ?_)
  · have h := h.1 hc
    refine Rn_pure 1 (i' := 15) (L' := [some (2, 161), some (0, p1), some (0, p2)]) (st' := [(0, (-1))]) rfl ?_
    exact Rn_ret1 rfl h
  · have h := h.2 hc
    refine Rn_pure 2 (i' := 7) (L' := [some (2, 161), some (0, p1), some (0, p2)]) (st' := [(0, 6), (0, p1)]) rfl ?_
    refine Rn_icgt rfl (fun hc => ?_) (fun hc => ?_)
    · have h := h.1 hc
      refine Rn_pure 1 (i' := 15) (L' := [some (2, 161), some (0, p1), some (0, p2)]) (st' := [(0, (-1))]) rfl ?_
      exact Rn_ret1 rfl h
    · have h := h.2 hc
      refine Rn_pure 2 (i' := 10) (L' := [some (2, 161), some (0, p1), some (0, p2)]) (st' := [(0, 1), (0, p2)]) rfl ?_
      refine Rn_iclt rfl (fun hc => ?_) (fun hc => ?_)
      · have h := h.1 hc
        refine Rn_pure 1 (i' := 15) (L' := [some (2, 161), some (0, p1), some (0, p2)]) (st' := [(0, (-1))]) rfl ?_
        exact Rn_ret1 rfl h
      · have h := h.2 hc
        refine Rn_pure 2 (i' := 13) (L' := [some (2, 161), some (0, p1), some (0, p2)]) (st' := [(0, 2), (0, p2)]) rfl ?_
        refine Rn_icle rfl (fun hc => ?_) (fun hc => ?_)
        · have h := h.1 hc
          refine Rn_pure 2 (i' := 18) (L' := [some (2, 161), some (0, p1), some (0, p2)]) (st' := [(0, p1), (2, 161)]) rfl ?_
          refine Rn_putI rfl (⟨rfl, (by omega : (0 : Int) ≤ 161), (by omega : (161 : Int) < K)⟩) (fun g2 he_g2 => ?_)
          have h := h g2 he_g2
          refine Rn_pure 2 (i' := 21) (L' := [some (2, 161), some (0, p1), some (0, p2)]) (st' := [(0, p2), (2, 161)]) rfl ?_
          refine Rn_putI rfl (⟨rfl, (by omega : (0 : Int) ≤ 161), (by omega : (161 : Int) < K)⟩) (fun g3 he_g3 => ?_)
          have h := h g3 he_g3
          refine Rn_pure 1 (i' := 23) (L' := [some (2, 161), some (0, p1), some (0, p2)]) (st' := [(2, 161)]) rfl ?_
          refine Rn_callV [(2, 161)] [] rfl rfl rfl rfl (ab_rvB_of rfl (⟨rfl, (by omega : (0 : Int) ≤ 161), (by omega : (161 : Int) < K)⟩)) ?_
          refine h.mono (fun g4 r' h => ?_)
          obtain ⟨hx, h⟩ := h
          replace hx := hx.symm
          subst hx
          refine Rn_pure 2 (i' := 26) (L' := [some (2, 161), some (0, p1), some (0, p2)]) (st' := [(0, (-1)), (2, 161)]) rfl ?_
          refine Rn_putI rfl (⟨rfl, (by omega : (0 : Int) ≤ 161), (by omega : (161 : Int) < K)⟩) (fun g6 he_g6 => ?_)
          have h := h g6 he_g6
          refine Rn_pure 1 (i' := 28) (L' := [some (2, 161), some (0, p1), some (0, p2)]) (st' := [(2, 161)]) rfl ?_
          refine Rn_callI [(2, 161)] [] rfl rfl rfl rfl (ab_rvB_of rfl (⟨rfl, (by omega : (0 : Int) ≤ 161), (by omega : (161 : Int) < K)⟩)) ?_
          refine h.mono (fun x7 g' r' h => ?_)
          obtain ⟨hx, h⟩ := h
          replace hx := hx.symm
          subst hx
          obtain ⟨hx, h⟩ := h
          replace hx := hx.symm
          subst hx
          exact Rn_ret1 rfl h
        · have h := h.2 hc
          refine Rn_pure 1 (i' := 15) (L' := [some (2, 161), some (0, p1), some (0, p2)]) (st' := [(0, (-1))]) rfl ?_
          exact Rn_ret1 rfl h
-- EventLedgerModel.isTally (I)Z
theorem v_M_isTally {K : Int} {S : Nat} {g r : ab_H} {p1 : Int} (P : Int → ab_H → ab_H → Prop) (hr : SI r) (hK : 185 ≤ K) (h : ((wr p1 < wr 0 → P 0 g r) ∧ (wr 0 ≤ wr p1 → ab_RI m_M_tallies [(2, 161)] K S g r (fun x1 g' r' => g' = g ∧ r' = r ∧ (((wr x1 ≤ wr p1 → P 0 g r) ∧ (wr p1 < wr x1 → P 1 g r))))))) : ab_RI m_M_isTally [(2, 161), (0, p1)] K S g r P := by
  show ab_Rn m_M_isTally 0 [some (2, 161), some (0, p1)] [] (K, S, g, r) (ab_Qi K S P)
  refine Rn_pure 1 (i' := 1) (L' := [some (2, 161), some (0, p1)]) (st' := [(0, p1)]) rfl ?_
  refine Rn_iflt rfl (fun hc => ?_) (fun hc => ?_)
  · have h := h.1 hc
    refine Rn_pure 1 (i' := 9) (L' := [some (2, 161), some (0, p1)]) (st' := [(0, 0)]) rfl ?_
    exact Rn_ret2 rfl (by decide) h
  · have h := h.2 hc
    refine Rn_pure 2 (i' := 4) (L' := [some (2, 161), some (0, p1)]) (st' := [(2, 161), (0, p1)]) rfl ?_
    refine Rn_callI [(2, 161)] [(0, p1)] rfl rfl rfl rfl (ab_rvB_of rfl (⟨rfl, (by omega : (0 : Int) ≤ 161), (by omega : (161 : Int) < K)⟩)) ?_
    refine h.mono (fun x1 g' r' h => ?_)
    obtain ⟨hx, h⟩ := h
    replace hx := hx.symm
    subst hx
    obtain ⟨hx, h⟩ := h
    replace hx := hx.symm
    subst hx
    refine Rn_icge rfl (fun hc => ?_) (fun hc => ?_)
    · have h := h.1 hc
      refine Rn_pure 1 (i' := 9) (L' := [some (2, 161), some (0, p1)]) (st' := [(0, 0)]) rfl ?_
      exact Rn_ret2 rfl (by decide) h
    · have h := h.2 hc
      refine Rn_pure 2 (i' := 9) (L' := [some (2, 161), some (0, p1)]) (st' := [(0, 1)]) rfl ?_
      exact Rn_ret2 rfl (by decide) h
-- EventLedgerModel.tallyAt (I)I
theorem v_M_tallyAt {K : Int} {S : Nat} {g r : ab_H} {p0 : Int} (P : Int → ab_H → ab_H → Prop) (hr : SI r) (hK : 185 ≤ K) (h : P (1091 + (129 * p0)) g r) : ab_RI m_M_tallyAt [(0, p0)] K S g r P := by
  show ab_Rn m_M_tallyAt 0 [some (0, p0)] [] (K, S, g, r) (ab_Qi K S P)
  refine Rn_pure 5 (i' := 5) (L' := [some (0, p0)]) (st' := [(0, 1091 + (129 * p0))]) rfl ?_
  exact Rn_ret1 rfl h
-- EventLedgerModel.counts (II)I
theorem v_M_counts {K : Int} {S : Nat} {g r : ab_H} {p1 p2 : Int} (P : Int → ab_H → ab_H → Prop) (hr : SI r) (hK : 185 ≤ K) (h : ab_RI m_M_isVoid [(2, 161), (0, p2)] K S g r (fun x1 g' r' => g' = g ∧ r' = r ∧ (((¬ wr x1 = wr 0 → P 0 g r) ∧ (wr x1 = wr 0 → ab_RI m_M_isVoided [(2, 161), (0, p2)] K S g r (fun x2 g' r' => g' = g ∧ r' = r ∧ (((¬ wr x2 = wr 0 → P 0 g r) ∧ (wr x2 = wr 0 → ((0 : Int) ≤ 9 * p2 + 0 ∧ (9 * p2 + 0 : Int) < 1607) ∧ ((0 : Int) ≤ p1 ∧ (p1 : Int) < 8) ∧ ((¬ wr (g 174 (9 * p2 + 0)) = wr (g 166 p1) → P 0 g r) ∧ (wr (g 174 (9 * p2 + 0)) = wr (g 166 p1) → ((0 : Int) ≤ p2 ∧ (p2 : Int) < 120) ∧ ((wr (g 183 p2) = wr 0 → ab_RI m_M_breaks [(2, 161), (0, p2)] K S g r (fun x4 g3 r' => r' = r ∧ (((0 : Int) ≤ p1 ∧ (p1 : Int) < 8) ∧ ((0 : Int) ≤ g3 167 p1 - 1 ∧ (g3 167 p1 - 1 : Int) < 3) ∧ P (g3 178 (g3 167 p1 - 1) + 1) g3 r))) ∧ (¬ wr (g 183 p2) = wr 0 → P 0 g r))))))))))))) : ab_RI m_M_counts [(2, 161), (0, p1), (0, p2)] K S g r P := by
  show ab_Rn m_M_counts 0 [some (2, 161), some (0, p1), some (0, p2)] [] (K, S, g, r) (ab_Qi K S P)
  refine Rn_pure 2 (i' := 2) (L' := [some (2, 161), some (0, p1), some (0, p2)]) (st' := [(0, p2), (2, 161)]) rfl ?_
  refine Rn_callI [(2, 161), (0, p2)] [] rfl rfl rfl rfl (ab_rvB_of rfl (⟨rfl, (by omega : (0 : Int) ≤ 161), (by omega : (161 : Int) < K)⟩)) ?_
  refine h.mono (fun x1 g' r' h => ?_)
  obtain ⟨hx, h⟩ := h
  replace hx := hx.symm
  subst hx
  obtain ⟨hx, h⟩ := h
  replace hx := hx.symm
  subst hx
  refine Rn_ifne rfl (fun hc => ?_) (fun hc => ?_)
  · have h := h.1 hc
    refine Rn_pure 1 (i' := 27) (L' := [some (2, 161), some (0, p1), some (0, p2)]) (st' := [(0, 0)]) rfl ?_
    exact Rn_ret1 rfl h
  · have h := h.2 hc
    refine Rn_pure 2 (i' := 6) (L' := [some (2, 161), some (0, p1), some (0, p2)]) (st' := [(0, p2), (2, 161)]) rfl ?_
    refine Rn_callI [(2, 161), (0, p2)] [] rfl rfl rfl rfl (ab_rvB_of rfl (⟨rfl, (by omega : (0 : Int) ≤ 161), (by omega : (161 : Int) < K)⟩)) ?_
    refine h.mono (fun x2 g' r' h => ?_)
    obtain ⟨hx, h⟩ := h
    replace hx := hx.symm
    subst hx
    obtain ⟨hx, h⟩ := h
    replace hx := hx.symm
    subst hx
    refine Rn_ifne rfl (fun hc => ?_) (fun hc => ?_)
    · have h := h.1 hc
      refine Rn_pure 1 (i' := 27) (L' := [some (2, 161), some (0, p1), some (0, p2)]) (st' := [(0, 0)]) rfl ?_
      exact Rn_ret1 rfl h
    · have h := h.2 hc
      refine Rn_pure 1 (i' := 9) (L' := [some (2, 161), some (0, p1), some (0, p2)]) (st' := [(2, 161)]) rfl ?_
      refine Rn_getR rfl (⟨rfl, (by omega : (0 : Int) ≤ 161), (by omega : (161 : Int) < K)⟩) (hr 149 _ rfl) (by decide) ?_
      refine Rn_pure 5 (i' := 15) (L' := [some (2, 161), some (0, p1), some (0, p2)]) (st' := [(0, 9 * p2 + 0), (2, 174)]) rfl ?_
      obtain ⟨hg, h⟩ := h
      refine Rn_iald rfl (⟨rfl, (by omega : (0 : Int) ≤ 174), (by omega : (174 : Int) < K)⟩) hg ?_
      refine Rn_pure 1 (i' := 17) (L' := [some (2, 161), some (0, p1), some (0, p2)]) (st' := [(2, 161), (0, g 174 (9 * p2 + 0))]) rfl ?_
      refine Rn_getR rfl (⟨rfl, (by omega : (0 : Int) ≤ 161), (by omega : (161 : Int) < K)⟩) (hr 141 _ rfl) (by decide) ?_
      refine Rn_pure 1 (i' := 19) (L' := [some (2, 161), some (0, p1), some (0, p2)]) (st' := [(0, p1), (2, 166), (0, g 174 (9 * p2 + 0))]) rfl ?_
      obtain ⟨hg, h⟩ := h
      refine Rn_iald rfl (⟨rfl, (by omega : (0 : Int) ≤ 166), (by omega : (166 : Int) < K)⟩) hg ?_
      refine Rn_icne rfl (fun hc => ?_) (fun hc => ?_)
      · have h := h.1 hc
        refine Rn_pure 1 (i' := 27) (L' := [some (2, 161), some (0, p1), some (0, p2)]) (st' := [(0, 0)]) rfl ?_
        exact Rn_ret1 rfl h
      · have h := h.2 hc
        refine Rn_pure 1 (i' := 22) (L' := [some (2, 161), some (0, p1), some (0, p2)]) (st' := [(2, 161)]) rfl ?_
        refine Rn_getR rfl (⟨rfl, (by omega : (0 : Int) ≤ 161), (by omega : (161 : Int) < K)⟩) (hr 158 _ rfl) (by decide) ?_
        refine Rn_pure 1 (i' := 24) (L' := [some (2, 161), some (0, p1), some (0, p2)]) (st' := [(0, p2), (2, 183)]) rfl ?_
        obtain ⟨hg, h⟩ := h
        refine Rn_iald rfl (⟨rfl, (by omega : (0 : Int) ≤ 183), (by omega : (183 : Int) < K)⟩) hg ?_
        refine Rn_ifeq rfl (fun hc => ?_) (fun hc => ?_)
        · have h := h.1 hc
          refine Rn_pure 2 (i' := 30) (L' := [some (2, 161), some (0, p1), some (0, p2)]) (st' := [(0, p2), (2, 161)]) rfl ?_
          refine Rn_callI [(2, 161), (0, p2)] [] rfl rfl rfl rfl (ab_rvB_of rfl (⟨rfl, (by omega : (0 : Int) ≤ 161), (by omega : (161 : Int) < K)⟩)) ?_
          refine h.mono (fun x4 g3 r' h => ?_)
          obtain ⟨hx, h⟩ := h
          replace hx := hx.symm
          subst hx
          refine Rn_pure 2 (i' := 33) (L' := [some (2, 161), some (0, p1), some (0, p2)]) (st' := [(2, 161)]) rfl ?_
          refine Rn_getR rfl (⟨rfl, (by omega : (0 : Int) ≤ 161), (by omega : (161 : Int) < K)⟩) (hr 153 _ rfl) (by decide) ?_
          refine Rn_pure 1 (i' := 35) (L' := [some (2, 161), some (0, p1), some (0, p2)]) (st' := [(2, 161), (2, 178)]) rfl ?_
          refine Rn_getR rfl (⟨rfl, (by omega : (0 : Int) ≤ 161), (by omega : (161 : Int) < K)⟩) (hr 142 _ rfl) (by decide) ?_
          refine Rn_pure 1 (i' := 37) (L' := [some (2, 161), some (0, p1), some (0, p2)]) (st' := [(0, p1), (2, 167), (2, 178)]) rfl ?_
          obtain ⟨hg, h⟩ := h
          refine Rn_iald rfl (⟨rfl, (by omega : (0 : Int) ≤ 167), (by omega : (167 : Int) < K)⟩) hg ?_
          refine Rn_pure 2 (i' := 40) (L' := [some (2, 161), some (0, p1), some (0, p2)]) (st' := [(0, g3 167 p1 - 1), (2, 178)]) rfl ?_
          obtain ⟨hg, h⟩ := h
          refine Rn_iald rfl (⟨rfl, (by omega : (0 : Int) ≤ 178), (by omega : (178 : Int) < K)⟩) hg ?_
          refine Rn_pure 2 (i' := 43) (L' := [some (2, 161), some (0, p1), some (0, p2)]) (st' := [(0, g3 178 (g3 167 p1 - 1) + 1)]) rfl ?_
          exact Rn_ret1 rfl h
        · have h := h.2 hc
          refine Rn_pure 1 (i' := 27) (L' := [some (2, 161), some (0, p1), some (0, p2)]) (st' := [(0, 0)]) rfl ?_
          exact Rn_ret1 rfl h
-- EventLedgerModel.sees (II)V
theorem v_M_sees {K : Int} {S : Nat} {g r : ab_H} {p1 p2 : Int} (P : ab_H → ab_H → Prop) (hr : SI r) (hK : 185 ≤ K) (h : ab_RI m_M_tallyAt [(0, p1)] K S g r (fun x1 g' r' => g' = g ∧ r' = r ∧ (ab_RI m_M_isVoid [(2, 161), (0, p2)] K S g r (fun x2 g' r' => g' = g ∧ r' = r ∧ (((¬ wr x2 = wr 0 → ((0 : Int) ≤ 9 * p2 + 2 ∧ (9 * p2 + 2 : Int) < 1607) ∧ ((0 : Int) ≤ x1 + 9 + (g 174 (9 * p2 + 2)) ∧ (x1 + 9 + (g 174 (9 * p2 + 2)) : Int) < 1607) ∧ ((¬ wr (g 174 (x1 + 9 + (g 174 (9 * p2 + 2)))) = wr 0 → ((0 : Int) ≤ 9 * (g 174 (9 * p2 + 2)) + 1 ∧ (9 * (g 174 (9 * p2 + 2)) + 1 : Int) < 1607) ∧ ((0 : Int) ≤ x1 + 1 + (g 174 (9 * (g 174 (9 * p2 + 2)) + 1)) ∧ (x1 + 1 + (g 174 (9 * (g 174 (9 * p2 + 2)) + 1)) : Int) < 1607) ∧ ((0 : Int) ≤ x1 + 9 + (g 174 (9 * p2 + 2)) ∧ (x1 + 9 + (g 174 (9 * p2 + 2)) : Int) < 1607) ∧ ((0 : Int) ≤ x1 + 1 + (g 174 (9 * (g 174 (9 * p2 + 2)) + 1)) ∧ (x1 + 1 + (g 174 (9 * (g 174 (9 * p2 + 2)) + 1)) : Int) < 1607) ∧ ∀ g3, g3 = ab_up g 174 (x1 + 1 + (g 174 (9 * (g 174 (9 * p2 + 2)) + 1))) (g 174 (x1 + 1 + (g 174 (9 * (g 174 (9 * p2 + 2)) + 1))) - (g 174 (x1 + 9 + (g 174 (9 * p2 + 2))) - 1)) → ((0 : Int) ≤ x1 + 9 + (g 174 (9 * p2 + 2)) ∧ (x1 + 9 + (g 174 (9 * p2 + 2)) : Int) < 1607) ∧ ∀ g4, g4 = ab_up g3 174 (x1 + 9 + (g 174 (9 * p2 + 2))) 0 → P g4 r) ∧ (wr (g 174 (x1 + 9 + (g 174 (9 * p2 + 2)))) = wr 0 → P g r))) ∧ (wr x2 = wr 0 → ab_RI m_M_counts [(2, 161), (0, p1), (0, p2)] K S g r (fun x6 g5 r' => r' = r ∧ (((0 : Int) ≤ x1 + 9 + p2 ∧ (x1 + 9 + p2 : Int) < 1607) ∧ ∀ g7, g7 = ab_up g5 174 (x1 + 9 + p2) x6 → ((wr x6 ≤ wr 0 → P g7 r) ∧ (wr 0 < wr x6 → ((0 : Int) ≤ 9 * p2 + 1 ∧ (9 * p2 + 1 : Int) < 1607) ∧ ((0 : Int) ≤ x1 + 1 + (g7 174 (9 * p2 + 1)) ∧ (x1 + 1 + (g7 174 (9 * p2 + 1)) : Int) < 1607) ∧ ((0 : Int) ≤ x1 + 1 + (g7 174 (9 * p2 + 1)) ∧ (x1 + 1 + (g7 174 (9 * p2 + 1)) : Int) < 1607) ∧ ∀ g8, g8 = ab_up g7 174 (x1 + 1 + (g7 174 (9 * p2 + 1))) (g7 174 (x1 + 1 + (g7 174 (9 * p2 + 1))) + (x6 - 1)) → P g8 r))))))))))) : ab_RV m_M_sees [(2, 161), (0, p1), (0, p2)] K S g r P := by
  show ab_Rn m_M_sees 0 [some (2, 161), some (0, p1), some (0, p2), none, none] [] (K, S, g, r) (ab_Qv K S P)
  refine Rn_pure 1 (i' := 1) (L' := [some (2, 161), some (0, p1), some (0, p2), none, none]) (st' := [(0, p1)]) rfl ?_
  refine Rn_callI [(0, p1)] [] rfl rfl rfl rfl (rfl) ?_
  refine h.mono (fun x1 g' r' h => ?_)
  obtain ⟨hx, h⟩ := h
  replace hx := hx.symm
  subst hx
  obtain ⟨hx, h⟩ := h
  replace hx := hx.symm
  subst hx
  refine Rn_pure 3 (i' := 5) (L' := [some (2, 161), some (0, p1), some (0, p2), some (0, x1), none]) (st' := [(0, p2), (2, 161)]) rfl ?_
  refine Rn_callI [(2, 161), (0, p2)] [] rfl rfl rfl rfl (ab_rvB_of rfl (⟨rfl, (by omega : (0 : Int) ≤ 161), (by omega : (161 : Int) < K)⟩)) ?_
  refine h.mono (fun x2 g' r' h => ?_)
  obtain ⟨hx, h⟩ := h
  replace hx := hx.symm
  subst hx
  obtain ⟨hx, h⟩ := h
  replace hx := hx.symm
  subst hx
  refine Rn_ifne rfl (fun hc => ?_) (fun hc => ?_)
  · have h := h.1 hc
    refine Rn_pure 1 (i' := 46) (L' := [some (2, 161), some (0, p1), some (0, p2), some (0, x1), none]) (st' := [(2, 161)]) rfl ?_
    refine Rn_getR rfl (⟨rfl, (by omega : (0 : Int) ≤ 161), (by omega : (161 : Int) < K)⟩) (hr 149 _ rfl) (by decide) ?_
    refine Rn_pure 5 (i' := 52) (L' := [some (2, 161), some (0, p1), some (0, p2), some (0, x1), none]) (st' := [(0, 9 * p2 + 2), (2, 174)]) rfl ?_
    obtain ⟨hg, h⟩ := h
    refine Rn_iald rfl (⟨rfl, (by omega : (0 : Int) ≤ 174), (by omega : (174 : Int) < K)⟩) hg ?_
    refine Rn_pure 2 (i' := 55) (L' := [some (2, 161), some (0, p1), some (0, p2), some (0, x1), some (0, g 174 (9 * p2 + 2))]) (st' := [(2, 161)]) rfl ?_
    refine Rn_getR rfl (⟨rfl, (by omega : (0 : Int) ≤ 161), (by omega : (161 : Int) < K)⟩) (hr 149 _ rfl) (by decide) ?_
    refine Rn_pure 5 (i' := 61) (L' := [some (2, 161), some (0, p1), some (0, p2), some (0, x1), some (0, g 174 (9 * p2 + 2))]) (st' := [(0, x1 + 9 + (g 174 (9 * p2 + 2))), (2, 174)]) rfl ?_
    obtain ⟨hg, h⟩ := h
    refine Rn_iald rfl (⟨rfl, (by omega : (0 : Int) ≤ 174), (by omega : (174 : Int) < K)⟩) hg ?_
    refine Rn_ifne rfl (fun hc => ?_) (fun hc => ?_)
    · have h := h.1 hc
      refine Rn_pure 1 (i' := 65) (L' := [some (2, 161), some (0, p1), some (0, p2), some (0, x1), some (0, g 174 (9 * p2 + 2))]) (st' := [(2, 161)]) rfl ?_
      refine Rn_getR rfl (⟨rfl, (by omega : (0 : Int) ≤ 161), (by omega : (161 : Int) < K)⟩) (hr 149 _ rfl) (by decide) ?_
      refine Rn_pure 4 (i' := 70) (L' := [some (2, 161), some (0, p1), some (0, p2), some (0, x1), some (0, g 174 (9 * p2 + 2))]) (st' := [(2, 161), (0, x1 + 1), (2, 174)]) rfl ?_
      refine Rn_getR rfl (⟨rfl, (by omega : (0 : Int) ≤ 161), (by omega : (161 : Int) < K)⟩) (hr 149 _ rfl) (by decide) ?_
      refine Rn_pure 5 (i' := 76) (L' := [some (2, 161), some (0, p1), some (0, p2), some (0, x1), some (0, g 174 (9 * p2 + 2))]) (st' := [(0, 9 * (g 174 (9 * p2 + 2)) + 1), (2, 174), (0, x1 + 1), (2, 174)]) rfl ?_
      obtain ⟨hg, h⟩ := h
      refine Rn_iald rfl (⟨rfl, (by omega : (0 : Int) ≤ 174), (by omega : (174 : Int) < K)⟩) hg ?_
      refine Rn_pure 2 (i' := 79) (L' := [some (2, 161), some (0, p1), some (0, p2), some (0, x1), some (0, g 174 (9 * p2 + 2))]) (st' := [(0, x1 + 1 + (g 174 (9 * (g 174 (9 * p2 + 2)) + 1))), (2, 174), (0, x1 + 1 + (g 174 (9 * (g 174 (9 * p2 + 2)) + 1))), (2, 174)]) rfl ?_
      obtain ⟨hg, h⟩ := h
      refine Rn_iald rfl (⟨rfl, (by omega : (0 : Int) ≤ 174), (by omega : (174 : Int) < K)⟩) hg ?_
      refine Rn_pure 1 (i' := 81) (L' := [some (2, 161), some (0, p1), some (0, p2), some (0, x1), some (0, g 174 (9 * p2 + 2))]) (st' := [(2, 161), (0, g 174 (x1 + 1 + (g 174 (9 * (g 174 (9 * p2 + 2)) + 1)))), (0, x1 + 1 + (g 174 (9 * (g 174 (9 * p2 + 2)) + 1))), (2, 174)]) rfl ?_
      refine Rn_getR rfl (⟨rfl, (by omega : (0 : Int) ≤ 161), (by omega : (161 : Int) < K)⟩) (hr 149 _ rfl) (by decide) ?_
      refine Rn_pure 5 (i' := 87) (L' := [some (2, 161), some (0, p1), some (0, p2), some (0, x1), some (0, g 174 (9 * p2 + 2))]) (st' := [(0, x1 + 9 + (g 174 (9 * p2 + 2))), (2, 174), (0, g 174 (x1 + 1 + (g 174 (9 * (g 174 (9 * p2 + 2)) + 1)))), (0, x1 + 1 + (g 174 (9 * (g 174 (9 * p2 + 2)) + 1))), (2, 174)]) rfl ?_
      obtain ⟨hg, h⟩ := h
      refine Rn_iald rfl (⟨rfl, (by omega : (0 : Int) ≤ 174), (by omega : (174 : Int) < K)⟩) hg ?_
      refine Rn_pure 3 (i' := 91) (L' := [some (2, 161), some (0, p1), some (0, p2), some (0, x1), some (0, g 174 (9 * p2 + 2))]) (st' := [(0, g 174 (x1 + 1 + (g 174 (9 * (g 174 (9 * p2 + 2)) + 1))) - (g 174 (x1 + 9 + (g 174 (9 * p2 + 2))) - 1)), (0, x1 + 1 + (g 174 (9 * (g 174 (9 * p2 + 2)) + 1))), (2, 174)]) rfl ?_
      obtain ⟨hg, h⟩ := h
      refine Rn_iast rfl (⟨rfl, (by omega : (0 : Int) ≤ 174), (by omega : (174 : Int) < K)⟩) hg (fun g3 he_g3 => ?_)
      have h := h g3 he_g3
      refine Rn_pure 1 (i' := 93) (L' := [some (2, 161), some (0, p1), some (0, p2), some (0, x1), some (0, g 174 (9 * p2 + 2))]) (st' := [(2, 161)]) rfl ?_
      refine Rn_getR rfl (⟨rfl, (by omega : (0 : Int) ≤ 161), (by omega : (161 : Int) < K)⟩) (hr 149 _ rfl) (by decide) ?_
      refine Rn_pure 6 (i' := 100) (L' := [some (2, 161), some (0, p1), some (0, p2), some (0, x1), some (0, g 174 (9 * p2 + 2))]) (st' := [(0, 0), (0, x1 + 9 + (g 174 (9 * p2 + 2))), (2, 174)]) rfl ?_
      obtain ⟨hg, h⟩ := h
      refine Rn_iast rfl (⟨rfl, (by omega : (0 : Int) ≤ 174), (by omega : (174 : Int) < K)⟩) hg (fun g4 he_g4 => ?_)
      have h := h g4 he_g4
      exact Rn_ret0 rfl h
    · have h := h.2 hc
      exact Rn_ret0 rfl h
  · have h := h.2 hc
    refine Rn_pure 3 (i' := 10) (L' := [some (2, 161), some (0, p1), some (0, p2), some (0, x1), none]) (st' := [(0, p2), (0, p1), (2, 161)]) rfl ?_
    refine Rn_callI [(2, 161), (0, p1), (0, p2)] [] rfl rfl rfl rfl (ab_rvB_of rfl (⟨rfl, (by omega : (0 : Int) ≤ 161), (by omega : (161 : Int) < K)⟩)) ?_
    refine h.mono (fun x6 g5 r' h => ?_)
    obtain ⟨hx, h⟩ := h
    replace hx := hx.symm
    subst hx
    refine Rn_pure 2 (i' := 13) (L' := [some (2, 161), some (0, p1), some (0, p2), some (0, x1), some (0, x6)]) (st' := [(2, 161)]) rfl ?_
    refine Rn_getR rfl (⟨rfl, (by omega : (0 : Int) ≤ 161), (by omega : (161 : Int) < K)⟩) (hr 149 _ rfl) (by decide) ?_
    refine Rn_pure 6 (i' := 20) (L' := [some (2, 161), some (0, p1), some (0, p2), some (0, x1), some (0, x6)]) (st' := [(0, x6), (0, x1 + 9 + p2), (2, 174)]) rfl ?_
    obtain ⟨hg, h⟩ := h
    refine Rn_iast rfl (⟨rfl, (by omega : (0 : Int) ≤ 174), (by omega : (174 : Int) < K)⟩) hg (fun g7 he_g7 => ?_)
    have h := h g7 he_g7
    refine Rn_pure 1 (i' := 22) (L' := [some (2, 161), some (0, p1), some (0, p2), some (0, x1), some (0, x6)]) (st' := [(0, x6)]) rfl ?_
    refine Rn_ifle rfl (fun hc => ?_) (fun hc => ?_)
    · have h := h.1 hc
      exact Rn_ret0 rfl h
    · have h := h.2 hc
      refine Rn_pure 1 (i' := 24) (L' := [some (2, 161), some (0, p1), some (0, p2), some (0, x1), some (0, x6)]) (st' := [(2, 161)]) rfl ?_
      refine Rn_getR rfl (⟨rfl, (by omega : (0 : Int) ≤ 161), (by omega : (161 : Int) < K)⟩) (hr 149 _ rfl) (by decide) ?_
      refine Rn_pure 4 (i' := 29) (L' := [some (2, 161), some (0, p1), some (0, p2), some (0, x1), some (0, x6)]) (st' := [(2, 161), (0, x1 + 1), (2, 174)]) rfl ?_
      refine Rn_getR rfl (⟨rfl, (by omega : (0 : Int) ≤ 161), (by omega : (161 : Int) < K)⟩) (hr 149 _ rfl) (by decide) ?_
      refine Rn_pure 5 (i' := 35) (L' := [some (2, 161), some (0, p1), some (0, p2), some (0, x1), some (0, x6)]) (st' := [(0, 9 * p2 + 1), (2, 174), (0, x1 + 1), (2, 174)]) rfl ?_
      obtain ⟨hg, h⟩ := h
      refine Rn_iald rfl (⟨rfl, (by omega : (0 : Int) ≤ 174), (by omega : (174 : Int) < K)⟩) hg ?_
      refine Rn_pure 2 (i' := 38) (L' := [some (2, 161), some (0, p1), some (0, p2), some (0, x1), some (0, x6)]) (st' := [(0, x1 + 1 + (g7 174 (9 * p2 + 1))), (2, 174), (0, x1 + 1 + (g7 174 (9 * p2 + 1))), (2, 174)]) rfl ?_
      obtain ⟨hg, h⟩ := h
      refine Rn_iald rfl (⟨rfl, (by omega : (0 : Int) ≤ 174), (by omega : (174 : Int) < K)⟩) hg ?_
      refine Rn_pure 4 (i' := 43) (L' := [some (2, 161), some (0, p1), some (0, p2), some (0, x1), some (0, x6)]) (st' := [(0, g7 174 (x1 + 1 + (g7 174 (9 * p2 + 1))) + (x6 - 1)), (0, x1 + 1 + (g7 174 (9 * p2 + 1))), (2, 174)]) rfl ?_
      obtain ⟨hg, h⟩ := h
      refine Rn_iast rfl (⟨rfl, (by omega : (0 : Int) ≤ 174), (by omega : (174 : Int) < K)⟩) hg (fun g8 he_g8 => ?_)
      have h := h g8 he_g8
      exact Rn_ret0 rfl h
-- EventLedgerModel.see (II)I
theorem v_M_see {K : Int} {S : Nat} {g r : ab_H} {p1 p2 : Int} (P : Int → ab_H → ab_H → Prop) (hr : SI r) (hK : 185 ≤ K) (h : ∀ g1, g1 = ab_up g 161 0 0 → ab_RI m_M_isTally [(2, 161), (0, p1)] K S g1 r (fun x2 g' r' => g' = g1 ∧ r' = r ∧ (((wr x2 = wr 0 → P (-1) g1 r) ∧ (¬ wr x2 = wr 0 → ((wr p2 < wr 1 → P (-1) g1 r) ∧ (wr 1 ≤ wr p2 → ((wr p2 ≤ wr 120 → ab_RI m_M_tallyAt [(0, p1)] K S g1 r (fun x3 g' r' => g' = g1 ∧ r' = r ∧ (((0 : Int) ≤ x3 + 0 ∧ (x3 + 0 : Int) < 1607) ∧ ab_RI m_M_many [(2, 161)] K S g1 r (fun x4 g' r' => g' = g1 ∧ r' = r ∧ (((¬ wr (g1 174 (x3 + 0)) = wr x4 → ab_RV m_M_remembers [(2, 161)] K S g1 r (fun g5 r' => r' = r ∧ (ab_RV m_M_replaysAll [(2, 161)] K S g5 r (fun g7 r' => r' = r ∧ (ab_Rn m_M_see 35 [some (2, 161), some (0, p1), some (0, p2), some (0, x3), some (0, 0)] [] (K, S, g7, r) (ab_Qi K S P)))))) ∧ (wr (g1 174 (x3 + 0)) = wr x4 → P (-2) g1 r))))))) ∧ (wr 120 < wr p2 → P (-1) g1 r))))))))) : ab_RI m_M_see [(2, 161), (0, p1), (0, p2)] K S g r P := by
  show ab_Rn m_M_see 0 [some (2, 161), some (0, p1), some (0, p2), none, none] [] (K, S, g, r) (ab_Qi K S P)
  refine Rn_pure 2 (i' := 2) (L' := [some (2, 161), some (0, p1), some (0, p2), none, none]) (st' := [(0, 0), (2, 161)]) rfl ?_
  refine Rn_putI rfl (⟨rfl, (by omega : (0 : Int) ≤ 161), (by omega : (161 : Int) < K)⟩) (fun g1 he_g1 => ?_)
  have h := h g1 he_g1
  refine Rn_pure 2 (i' := 5) (L' := [some (2, 161), some (0, p1), some (0, p2), none, none]) (st' := [(0, p1), (2, 161)]) rfl ?_
  refine Rn_callI [(2, 161), (0, p1)] [] rfl rfl rfl rfl (ab_rvB_of rfl (⟨rfl, (by omega : (0 : Int) ≤ 161), (by omega : (161 : Int) < K)⟩)) ?_
  refine h.mono (fun x2 g' r' h => ?_)
  obtain ⟨hx, h⟩ := h
  replace hx := hx.symm
  subst hx
  obtain ⟨hx, h⟩ := h
  replace hx := hx.symm
  subst hx
  refine Rn_ifeq rfl (fun hc => ?_) (fun hc => ?_)
  · have h := h.1 hc
    refine Rn_pure 1 (i' := 14) (L' := [some (2, 161), some (0, p1), some (0, p2), none, none]) (st' := [(0, (-1))]) rfl ?_
    exact Rn_ret1 rfl h
  · have h := h.2 hc
    refine Rn_pure 2 (i' := 9) (L' := [some (2, 161), some (0, p1), some (0, p2), none, none]) (st' := [(0, 1), (0, p2)]) rfl ?_
    refine Rn_iclt rfl (fun hc => ?_) (fun hc => ?_)
    · have h := h.1 hc
      refine Rn_pure 1 (i' := 14) (L' := [some (2, 161), some (0, p1), some (0, p2), none, none]) (st' := [(0, (-1))]) rfl ?_
      exact Rn_ret1 rfl h
    · have h := h.2 hc
      refine Rn_pure 2 (i' := 12) (L' := [some (2, 161), some (0, p1), some (0, p2), none, none]) (st' := [(0, 120), (0, p2)]) rfl ?_
      refine Rn_icle rfl (fun hc => ?_) (fun hc => ?_)
      · have h := h.1 hc
        refine Rn_pure 1 (i' := 16) (L' := [some (2, 161), some (0, p1), some (0, p2), none, none]) (st' := [(0, p1)]) rfl ?_
        refine Rn_callI [(0, p1)] [] rfl rfl rfl rfl (rfl) ?_
        refine h.mono (fun x3 g' r' h => ?_)
        obtain ⟨hx, h⟩ := h
        replace hx := hx.symm
        subst hx
        obtain ⟨hx, h⟩ := h
        replace hx := hx.symm
        subst hx
        refine Rn_pure 2 (i' := 19) (L' := [some (2, 161), some (0, p1), some (0, p2), some (0, x3), none]) (st' := [(2, 161)]) rfl ?_
        refine Rn_getR rfl (⟨rfl, (by omega : (0 : Int) ≤ 161), (by omega : (161 : Int) < K)⟩) (hr 149 _ rfl) (by decide) ?_
        refine Rn_pure 3 (i' := 23) (L' := [some (2, 161), some (0, p1), some (0, p2), some (0, x3), none]) (st' := [(0, x3 + 0), (2, 174)]) rfl ?_
        obtain ⟨hg, h⟩ := h
        refine Rn_iald rfl (⟨rfl, (by omega : (0 : Int) ≤ 174), (by omega : (174 : Int) < K)⟩) hg ?_
        refine Rn_pure 1 (i' := 25) (L' := [some (2, 161), some (0, p1), some (0, p2), some (0, x3), none]) (st' := [(2, 161), (0, g1 174 (x3 + 0))]) rfl ?_
        refine Rn_callI [(2, 161)] [(0, g1 174 (x3 + 0))] rfl rfl rfl rfl (ab_rvB_of rfl (⟨rfl, (by omega : (0 : Int) ≤ 161), (by omega : (161 : Int) < K)⟩)) ?_
        refine h.mono (fun x4 g' r' h => ?_)
        obtain ⟨hx, h⟩ := h
        replace hx := hx.symm
        subst hx
        obtain ⟨hx, h⟩ := h
        replace hx := hx.symm
        subst hx
        refine Rn_icne rfl (fun hc => ?_) (fun hc => ?_)
        · have h := h.1 hc
          refine Rn_pure 1 (i' := 30) (L' := [some (2, 161), some (0, p1), some (0, p2), some (0, x3), none]) (st' := [(2, 161)]) rfl ?_
          refine Rn_callV [(2, 161)] [] rfl rfl rfl rfl (ab_rvB_of rfl (⟨rfl, (by omega : (0 : Int) ≤ 161), (by omega : (161 : Int) < K)⟩)) ?_
          refine h.mono (fun g5 r' h => ?_)
          obtain ⟨hx, h⟩ := h
          replace hx := hx.symm
          subst hx
          refine Rn_pure 1 (i' := 32) (L' := [some (2, 161), some (0, p1), some (0, p2), some (0, x3), none]) (st' := [(2, 161)]) rfl ?_
          refine Rn_callV [(2, 161)] [] rfl rfl rfl rfl (ab_rvB_of rfl (⟨rfl, (by omega : (0 : Int) ≤ 161), (by omega : (161 : Int) < K)⟩)) ?_
          refine h.mono (fun g7 r' h => ?_)
          obtain ⟨hx, h⟩ := h
          replace hx := hx.symm
          subst hx
          refine Rn_pure 2 (i' := 35) (L' := [some (2, 161), some (0, p1), some (0, p2), some (0, x3), some (0, 0)]) (st' := []) rfl ?_
          exact h
        · have h := h.2 hc
          refine Rn_pure 1 (i' := 28) (L' := [some (2, 161), some (0, p1), some (0, p2), some (0, x3), none]) (st' := [(0, (-2))]) rfl ?_
          exact Rn_ret1 rfl h
      · have h := h.2 hc
        refine Rn_pure 1 (i' := 14) (L' := [some (2, 161), some (0, p1), some (0, p2), none, none]) (st' := [(0, (-1))]) rfl ?_
        exact Rn_ret1 rfl h
theorem v_M_see_35 {K : Int} {S : Nat} {g r : ab_H} {l1 l2 l3 l4 : Int} (P : Int → ab_H → ab_H → Prop) (hr : SI r) (hK : 185 ≤ K) (h : ((wr l2 ≤ wr l4 → P l4 g r) ∧ (wr l4 < wr l2 → ((0 : Int) ≤ l3 + 0 ∧ (l3 + 0 : Int) < 1607) ∧ ab_RI m_M_many [(2, 161)] K S g r (fun x1 g' r' => g' = g ∧ r' = r ∧ (((wr x1 ≤ wr (g 174 (l3 + 0)) → P l4 g r) ∧ (wr (g 174 (l3 + 0)) < wr x1 → ((0 : Int) ≤ l3 + 0 ∧ (l3 + 0 : Int) < 1607) ∧ ab_RV m_M_sees [(2, 161), (0, l1), (0, g 174 (l3 + 0))] K S g r (fun g2 r' => r' = r ∧ (((0 : Int) ≤ l3 + 0 ∧ (l3 + 0 : Int) < 1607) ∧ ((0 : Int) ≤ l3 + 0 ∧ (l3 + 0 : Int) < 1607) ∧ ∀ g4, g4 = ab_up g2 174 (l3 + 0) (g2 174 (l3 + 0) + 1) → ab_Rn m_M_see 35 [some (2, 161), some (0, l1), some (0, l2), some (0, l3), some (0, l4 + 1)] [] (K, S, g4, r) (ab_Qi K S P)))))))))) : ab_Rn m_M_see 35 [some (2, 161), some (0, l1), some (0, l2), some (0, l3), some (0, l4)] [] (K, S, g, r) (ab_Qi K S P) := by
  refine Rn_pure 2 (i' := 37) (L' := [some (2, 161), some (0, l1), some (0, l2), some (0, l3), some (0, l4)]) (st' := [(0, l2), (0, l4)]) rfl ?_
  refine Rn_icge rfl (fun hc => ?_) (fun hc => ?_)
  · have h := h.1 hc
    refine Rn_pure 1 (i' := 69) (L' := [some (2, 161), some (0, l1), some (0, l2), some (0, l3), some (0, l4)]) (st' := [(0, l4)]) rfl ?_
    exact Rn_ret1 rfl h
  · have h := h.2 hc
    refine Rn_pure 1 (i' := 39) (L' := [some (2, 161), some (0, l1), some (0, l2), some (0, l3), some (0, l4)]) (st' := [(2, 161)]) rfl ?_
    refine Rn_getR rfl (⟨rfl, (by omega : (0 : Int) ≤ 161), (by omega : (161 : Int) < K)⟩) (hr 149 _ rfl) (by decide) ?_
    refine Rn_pure 3 (i' := 43) (L' := [some (2, 161), some (0, l1), some (0, l2), some (0, l3), some (0, l4)]) (st' := [(0, l3 + 0), (2, 174)]) rfl ?_
    obtain ⟨hg, h⟩ := h
    refine Rn_iald rfl (⟨rfl, (by omega : (0 : Int) ≤ 174), (by omega : (174 : Int) < K)⟩) hg ?_
    refine Rn_pure 1 (i' := 45) (L' := [some (2, 161), some (0, l1), some (0, l2), some (0, l3), some (0, l4)]) (st' := [(2, 161), (0, g 174 (l3 + 0))]) rfl ?_
    refine Rn_callI [(2, 161)] [(0, g 174 (l3 + 0))] rfl rfl rfl rfl (ab_rvB_of rfl (⟨rfl, (by omega : (0 : Int) ≤ 161), (by omega : (161 : Int) < K)⟩)) ?_
    refine h.mono (fun x1 g' r' h => ?_)
    obtain ⟨hx, h⟩ := h
    replace hx := hx.symm
    subst hx
    obtain ⟨hx, h⟩ := h
    replace hx := hx.symm
    subst hx
    refine Rn_icge rfl (fun hc => ?_) (fun hc => ?_)
    · have h := h.1 hc
      refine Rn_pure 1 (i' := 69) (L' := [some (2, 161), some (0, l1), some (0, l2), some (0, l3), some (0, l4)]) (st' := [(0, l4)]) rfl ?_
      exact Rn_ret1 rfl h
    · have h := h.2 hc
      refine Rn_pure 3 (i' := 50) (L' := [some (2, 161), some (0, l1), some (0, l2), some (0, l3), some (0, l4)]) (st' := [(2, 161), (0, l1), (2, 161)]) rfl ?_
      refine Rn_getR rfl (⟨rfl, (by omega : (0 : Int) ≤ 161), (by omega : (161 : Int) < K)⟩) (hr 149 _ rfl) (by decide) ?_
      refine Rn_pure 3 (i' := 54) (L' := [some (2, 161), some (0, l1), some (0, l2), some (0, l3), some (0, l4)]) (st' := [(0, l3 + 0), (2, 174), (0, l1), (2, 161)]) rfl ?_
      obtain ⟨hg, h⟩ := h
      refine Rn_iald rfl (⟨rfl, (by omega : (0 : Int) ≤ 174), (by omega : (174 : Int) < K)⟩) hg ?_
      refine Rn_callV [(2, 161), (0, l1), (0, g 174 (l3 + 0))] [] rfl rfl rfl rfl (ab_rvB_of rfl (⟨rfl, (by omega : (0 : Int) ≤ 161), (by omega : (161 : Int) < K)⟩)) ?_
      refine h.mono (fun g2 r' h => ?_)
      obtain ⟨hx, h⟩ := h
      replace hx := hx.symm
      subst hx
      refine Rn_pure 1 (i' := 57) (L' := [some (2, 161), some (0, l1), some (0, l2), some (0, l3), some (0, l4)]) (st' := [(2, 161)]) rfl ?_
      refine Rn_getR rfl (⟨rfl, (by omega : (0 : Int) ≤ 161), (by omega : (161 : Int) < K)⟩) (hr 149 _ rfl) (by decide) ?_
      refine Rn_pure 4 (i' := 62) (L' := [some (2, 161), some (0, l1), some (0, l2), some (0, l3), some (0, l4)]) (st' := [(0, l3 + 0), (2, 174), (0, l3 + 0), (2, 174)]) rfl ?_
      obtain ⟨hg, h⟩ := h
      refine Rn_iald rfl (⟨rfl, (by omega : (0 : Int) ≤ 174), (by omega : (174 : Int) < K)⟩) hg ?_
      refine Rn_pure 2 (i' := 65) (L' := [some (2, 161), some (0, l1), some (0, l2), some (0, l3), some (0, l4)]) (st' := [(0, g2 174 (l3 + 0) + 1), (0, l3 + 0), (2, 174)]) rfl ?_
      obtain ⟨hg, h⟩ := h
      refine Rn_iast rfl (⟨rfl, (by omega : (0 : Int) ≤ 174), (by omega : (174 : Int) < K)⟩) hg (fun g4 he_g4 => ?_)
      have h := h g4 he_g4
      refine Rn_pure 2 (i' := 35) (L' := [some (2, 161), some (0, l1), some (0, l2), some (0, l3), some (0, l4 + 1)]) (st' := []) rfl ?_
      exact h
-- EventLedgerModel.rewind (I)I
theorem v_M_rewind {K : Int} {S : Nat} {g r : ab_H} {p1 : Int} (P : Int → ab_H → ab_H → Prop) (hr : SI r) (hK : 185 ≤ K) (h : ∀ g1, g1 = ab_up g 161 0 0 → ab_RI m_M_isTally [(2, 161), (0, p1)] K S g1 r (fun x2 g' r' => g' = g1 ∧ r' = r ∧ (((¬ wr x2 = wr 0 → ab_RI m_M_tallyAt [(0, p1)] K S g1 r (fun x3 g' r' => g' = g1 ∧ r' = r ∧ (((0 : Int) ≤ x3 + 0 ∧ (x3 + 0 : Int) < 1607) ∧ ab_RV m_M_remembers [(2, 161)] K S g1 r (fun g4 r' => r' = r ∧ (ab_Rn m_M_rewind 23 [some (2, 161), none, some (0, x3), some (0, g1 174 (x3 + 0)), some (0, 0)] [] (K, S, g4, r) (ab_Qi K S P)))))) ∧ (wr x2 = wr 0 → P (-1) g1 r))))) : ab_RI m_M_rewind [(2, 161), (0, p1)] K S g r P := by
  show ab_Rn m_M_rewind 0 [some (2, 161), some (0, p1), none, none, none] [] (K, S, g, r) (ab_Qi K S P)
  refine Rn_pure 2 (i' := 2) (L' := [some (2, 161), some (0, p1), none, none, none]) (st' := [(0, 0), (2, 161)]) rfl ?_
  refine Rn_putI rfl (⟨rfl, (by omega : (0 : Int) ≤ 161), (by omega : (161 : Int) < K)⟩) (fun g1 he_g1 => ?_)
  have h := h g1 he_g1
  refine Rn_pure 2 (i' := 5) (L' := [some (2, 161), some (0, p1), none, none, none]) (st' := [(0, p1), (2, 161)]) rfl ?_
  refine Rn_callI [(2, 161), (0, p1)] [] rfl rfl rfl rfl (ab_rvB_of rfl (⟨rfl, (by omega : (0 : Int) ≤ 161), (by omega : (161 : Int) < K)⟩)) ?_
  refine h.mono (fun x2 g' r' h => ?_)
  obtain ⟨hx, h⟩ := h
  replace hx := hx.symm
  subst hx
  obtain ⟨hx, h⟩ := h
  replace hx := hx.symm
  subst hx
  refine Rn_ifne rfl (fun hc => ?_) (fun hc => ?_)
  · have h := h.1 hc
    refine Rn_pure 1 (i' := 10) (L' := [some (2, 161), some (0, p1), none, none, none]) (st' := [(0, p1)]) rfl ?_
    refine Rn_callI [(0, p1)] [] rfl rfl rfl rfl (rfl) ?_
    refine h.mono (fun x3 g' r' h => ?_)
    obtain ⟨hx, h⟩ := h
    replace hx := hx.symm
    subst hx
    obtain ⟨hx, h⟩ := h
    replace hx := hx.symm
    subst hx
    refine Rn_pure 2 (i' := 13) (L' := [some (2, 161), some (0, p1), some (0, x3), none, none]) (st' := [(2, 161)]) rfl ?_
    refine Rn_getR rfl (⟨rfl, (by omega : (0 : Int) ≤ 161), (by omega : (161 : Int) < K)⟩) (hr 149 _ rfl) (by decide) ?_
    refine Rn_pure 3 (i' := 17) (L' := [some (2, 161), some (0, p1), some (0, x3), none, none]) (st' := [(0, x3 + 0), (2, 174)]) rfl ?_
    obtain ⟨hg, h⟩ := h
    refine Rn_iald rfl (⟨rfl, (by omega : (0 : Int) ≤ 174), (by omega : (174 : Int) < K)⟩) hg ?_
    refine Rn_pure 2 (i' := 20) (L' := [some (2, 161), some (0, p1), some (0, x3), some (0, g1 174 (x3 + 0)), none]) (st' := [(2, 161)]) rfl ?_
    refine Rn_callV [(2, 161)] [] rfl rfl rfl rfl (ab_rvB_of rfl (⟨rfl, (by omega : (0 : Int) ≤ 161), (by omega : (161 : Int) < K)⟩)) ?_
    refine h.mono (fun g4 r' h => ?_)
    obtain ⟨hx, h⟩ := h
    replace hx := hx.symm
    subst hx
    refine Rn_pure 2 (i' := 23) (L' := [some (2, 161), some (0, p1), some (0, x3), some (0, g1 174 (x3 + 0)), some (0, 0)]) (st' := []) rfl ?_
    refine Rn_weak (L' := [some (2, 161), none, some (0, x3), some (0, g1 174 (x3 + 0)), some (0, 0)]) ⟨rfl, ⟨rfl, ⟨rfl, ⟨rfl, trivial⟩⟩⟩⟩ ?_
    exact h
  · have h := h.2 hc
    refine Rn_pure 1 (i' := 8) (L' := [some (2, 161), some (0, p1), none, none, none]) (st' := [(0, (-1))]) rfl ?_
    exact Rn_ret1 rfl h
theorem v_M_rewind_23 {K : Int} {S : Nat} {g r : ab_H} {l2 l3 l4 : Int} (P : Int → ab_H → ab_H → Prop) (hr : SI r) (hK : 185 ≤ K) (h : ((wr 129 ≤ wr l4 → P l3 g r) ∧ (wr l4 < wr 129 → ((0 : Int) ≤ l2 + l4 ∧ (l2 + l4 : Int) < 1607) ∧ ∀ g1, g1 = ab_up g 174 (l2 + l4) 0 → ab_Rn m_M_rewind 23 [some (2, 161), none, some (0, l2), some (0, l3), some (0, l4 + 1)] [] (K, S, g1, r) (ab_Qi K S P)))) : ab_Rn m_M_rewind 23 [some (2, 161), none, some (0, l2), some (0, l3), some (0, l4)] [] (K, S, g, r) (ab_Qi K S P) := by
  refine Rn_pure 2 (i' := 25) (L' := [some (2, 161), none, some (0, l2), some (0, l3), some (0, l4)]) (st' := [(0, 129), (0, l4)]) rfl ?_
  refine Rn_icge rfl (fun hc => ?_) (fun hc => ?_)
  · have h := h.1 hc
    refine Rn_pure 1 (i' := 36) (L' := [some (2, 161), none, some (0, l2), some (0, l3), some (0, l4)]) (st' := [(0, l3)]) rfl ?_
    exact Rn_ret1 rfl h
  · have h := h.2 hc
    refine Rn_pure 1 (i' := 27) (L' := [some (2, 161), none, some (0, l2), some (0, l3), some (0, l4)]) (st' := [(2, 161)]) rfl ?_
    refine Rn_getR rfl (⟨rfl, (by omega : (0 : Int) ≤ 161), (by omega : (161 : Int) < K)⟩) (hr 149 _ rfl) (by decide) ?_
    refine Rn_pure 4 (i' := 32) (L' := [some (2, 161), none, some (0, l2), some (0, l3), some (0, l4)]) (st' := [(0, 0), (0, l2 + l4), (2, 174)]) rfl ?_
    obtain ⟨hg, h⟩ := h
    refine Rn_iast rfl (⟨rfl, (by omega : (0 : Int) ≤ 174), (by omega : (174 : Int) < K)⟩) hg (fun g1 he_g1 => ?_)
    have h := h g1 he_g1
    refine Rn_pure 2 (i' := 23) (L' := [some (2, 161), none, some (0, l2), some (0, l3), some (0, l4 + 1)]) (st' := []) rfl ?_
    exact h
-- EventLedgerModel.countedMany (I)I
theorem v_M_countedMany {K : Int} {S : Nat} {g r : ab_H} {p1 : Int} (P : Int → ab_H → ab_H → Prop) (hr : SI r) (hK : 185 ≤ K) (h : ab_Rn m_M_countedMany 4 [some (2, 161), some (0, p1), some (0, 0), some (0, 0)] [] (K, S, g, r) (ab_Qi K S P)) : ab_RI m_M_countedMany [(2, 161), (0, p1)] K S g r P := by
  show ab_Rn m_M_countedMany 0 [some (2, 161), some (0, p1), none, none] [] (K, S, g, r) (ab_Qi K S P)
  refine Rn_pure 4 (i' := 4) (L' := [some (2, 161), some (0, p1), some (0, 0), some (0, 0)]) (st' := []) rfl ?_
  exact h
theorem v_M_countedMany_4 {K : Int} {S : Nat} {g r : ab_H} {l1 l2 l3 : Int} (P : Int → ab_H → ab_H → Prop) (hr : SI r) (hK : 185 ≤ K) (h : ((wr 120 ≤ wr l3 → P l2 g r) ∧ (wr l3 < wr 120 → ab_RI m_M_tallyAt [(0, l1)] K S g r (fun x1 g' r' => g' = g ∧ r' = r ∧ (((0 : Int) ≤ x1 + 9 + l3 ∧ (x1 + 9 + l3 : Int) < 1607) ∧ ((wr (g 174 (x1 + 9 + l3)) ≤ wr 0 → ab_Rn m_M_countedMany 4 [some (2, 161), some (0, l1), some (0, l2 + 0), some (0, l3 + 1)] [] (K, S, g, r) (ab_Qi K S P)) ∧ (wr 0 < wr (g 174 (x1 + 9 + l3)) → ab_Rn m_M_countedMany 4 [some (2, 161), some (0, l1), some (0, l2 + 1), some (0, l3 + 1)] [] (K, S, g, r) (ab_Qi K S P)))))))) : ab_Rn m_M_countedMany 4 [some (2, 161), some (0, l1), some (0, l2), some (0, l3)] [] (K, S, g, r) (ab_Qi K S P) := by
  refine Rn_pure 2 (i' := 6) (L' := [some (2, 161), some (0, l1), some (0, l2), some (0, l3)]) (st' := [(0, 120), (0, l3)]) rfl ?_
  refine Rn_icge rfl (fun hc => ?_) (fun hc => ?_)
  · have h := h.1 hc
    refine Rn_pure 1 (i' := 26) (L' := [some (2, 161), some (0, l1), some (0, l2), some (0, l3)]) (st' := [(0, l2)]) rfl ?_
    exact Rn_ret1 rfl h
  · have h := h.2 hc
    refine Rn_pure 2 (i' := 9) (L' := [some (2, 161), some (0, l1), some (0, l2), some (0, l3)]) (st' := [(2, 161), (0, l2)]) rfl ?_
    refine Rn_getR rfl (⟨rfl, (by omega : (0 : Int) ≤ 161), (by omega : (161 : Int) < K)⟩) (hr 149 _ rfl) (by decide) ?_
    refine Rn_pure 1 (i' := 11) (L' := [some (2, 161), some (0, l1), some (0, l2), some (0, l3)]) (st' := [(0, l1), (2, 174), (0, l2)]) rfl ?_
    refine Rn_callI [(0, l1)] [(2, 174), (0, l2)] rfl rfl rfl rfl (rfl) ?_
    refine h.mono (fun x1 g' r' h => ?_)
    obtain ⟨hx, h⟩ := h
    replace hx := hx.symm
    subst hx
    obtain ⟨hx, h⟩ := h
    replace hx := hx.symm
    subst hx
    refine Rn_pure 4 (i' := 16) (L' := [some (2, 161), some (0, l1), some (0, l2), some (0, l3)]) (st' := [(0, x1 + 9 + l3), (2, 174), (0, l2)]) rfl ?_
    obtain ⟨hg, h⟩ := h
    refine Rn_iald rfl (⟨rfl, (by omega : (0 : Int) ≤ 174), (by omega : (174 : Int) < K)⟩) hg ?_
    refine Rn_ifle rfl (fun hc => ?_) (fun hc => ?_)
    · have h := h.1 hc
      refine Rn_pure 5 (i' := 4) (L' := [some (2, 161), some (0, l1), some (0, l2 + 0), some (0, l3 + 1)]) (st' := []) rfl ?_
      exact h
    · have h := h.2 hc
      refine Rn_pure 6 (i' := 4) (L' := [some (2, 161), some (0, l1), some (0, l2 + 1), some (0, l3 + 1)]) (st' := []) rfl ?_
      exact h
-- EventLedgerModel.sums (I)I
theorem v_M_sums {K : Int} {S : Nat} {g r : ab_H} {p1 : Int} (P : Int → ab_H → ab_H → Prop) (hr : SI r) (hK : 185 ≤ K) (h : ab_Rn m_M_sums 4 [some (2, 161), some (0, p1), some (0, 0), some (0, 0)] [] (K, S, g, r) (ab_Qi K S P)) : ab_RI m_M_sums [(2, 161), (0, p1)] K S g r P := by
  show ab_Rn m_M_sums 0 [some (2, 161), some (0, p1), none, none] [] (K, S, g, r) (ab_Qi K S P)
  refine Rn_pure 4 (i' := 4) (L' := [some (2, 161), some (0, p1), some (0, 0), some (0, 0)]) (st' := []) rfl ?_
  exact h
theorem v_M_sums_4 {K : Int} {S : Nat} {g r : ab_H} {l1 l2 l3 : Int} (P : Int → ab_H → ab_H → Prop) (hr : SI r) (hK : 185 ≤ K) (h : ((wr 8 ≤ wr l3 → P l2 g r) ∧ (wr l3 < wr 8 → ab_RI m_M_tallyAt [(0, l1)] K S g r (fun x1 g' r' => g' = g ∧ r' = r ∧ (((0 : Int) ≤ x1 + 1 + l3 ∧ (x1 + 1 + l3 : Int) < 1607) ∧ ab_Rn m_M_sums 4 [some (2, 161), some (0, l1), some (0, l2 + (g 174 (x1 + 1 + l3))), some (0, l3 + 1)] [] (K, S, g, r) (ab_Qi K S P)))))) : ab_Rn m_M_sums 4 [some (2, 161), some (0, l1), some (0, l2), some (0, l3)] [] (K, S, g, r) (ab_Qi K S P) := by
  refine Rn_pure 2 (i' := 6) (L' := [some (2, 161), some (0, l1), some (0, l2), some (0, l3)]) (st' := [(0, 8), (0, l3)]) rfl ?_
  refine Rn_icge rfl (fun hc => ?_) (fun hc => ?_)
  · have h := h.1 hc
    refine Rn_pure 1 (i' := 22) (L' := [some (2, 161), some (0, l1), some (0, l2), some (0, l3)]) (st' := [(0, l2)]) rfl ?_
    exact Rn_ret1 rfl h
  · have h := h.2 hc
    refine Rn_pure 2 (i' := 9) (L' := [some (2, 161), some (0, l1), some (0, l2), some (0, l3)]) (st' := [(2, 161), (0, l2)]) rfl ?_
    refine Rn_getR rfl (⟨rfl, (by omega : (0 : Int) ≤ 161), (by omega : (161 : Int) < K)⟩) (hr 149 _ rfl) (by decide) ?_
    refine Rn_pure 1 (i' := 11) (L' := [some (2, 161), some (0, l1), some (0, l2), some (0, l3)]) (st' := [(0, l1), (2, 174), (0, l2)]) rfl ?_
    refine Rn_callI [(0, l1)] [(2, 174), (0, l2)] rfl rfl rfl rfl (rfl) ?_
    refine h.mono (fun x1 g' r' h => ?_)
    obtain ⟨hx, h⟩ := h
    replace hx := hx.symm
    subst hx
    obtain ⟨hx, h⟩ := h
    replace hx := hx.symm
    subst hx
    refine Rn_pure 4 (i' := 16) (L' := [some (2, 161), some (0, l1), some (0, l2), some (0, l3)]) (st' := [(0, x1 + 1 + l3), (2, 174), (0, l2)]) rfl ?_
    obtain ⟨hg, h⟩ := h
    refine Rn_iald rfl (⟨rfl, (by omega : (0 : Int) ≤ 174), (by omega : (174 : Int) < K)⟩) hg ?_
    refine Rn_pure 4 (i' := 4) (L' := [some (2, 161), some (0, l1), some (0, l2 + (g 174 (x1 + 1 + l3))), some (0, l3 + 1)]) (st' := []) rfl ?_
    exact h
-- EventLedgerModel.anew (I)I
theorem v_M_anew {K : Int} {S : Nat} {g r : ab_H} {p1 : Int} (P : Int → ab_H → ab_H → Prop) (hr : SI r) (hK : 185 ≤ K) (h : ab_RV m_M_replaysAll [(2, 161)] K S g r (fun g1 r' => r' = r ∧ (ab_Rn m_M_anew 6 [some (2, 161), some (0, p1), some (0, 0), some (0, 0), none] [] (K, S, g1, r) (ab_Qi K S P)))) : ab_RI m_M_anew [(2, 161), (0, p1)] K S g r P := by
  show ab_Rn m_M_anew 0 [some (2, 161), some (0, p1), none, none, none] [] (K, S, g, r) (ab_Qi K S P)
  refine Rn_pure 1 (i' := 1) (L' := [some (2, 161), some (0, p1), none, none, none]) (st' := [(2, 161)]) rfl ?_
  refine Rn_callV [(2, 161)] [] rfl rfl rfl rfl (ab_rvB_of rfl (⟨rfl, (by omega : (0 : Int) ≤ 161), (by omega : (161 : Int) < K)⟩)) ?_
  refine h.mono (fun g1 r' h => ?_)
  obtain ⟨hx, h⟩ := h
  replace hx := hx.symm
  subst hx
  refine Rn_pure 4 (i' := 6) (L' := [some (2, 161), some (0, p1), some (0, 0), some (0, 0), none]) (st' := []) rfl ?_
  exact h
theorem v_M_anew_6 {K : Int} {S : Nat} {g r : ab_H} {l1 l2 l3 : Int} (P : Int → ab_H → ab_H → Prop) (hr : SI r) (hK : 185 ≤ K) (h : ab_RI m_M_many [(2, 161)] K S g r (fun x1 g' r' => g' = g ∧ r' = r ∧ (((wr x1 ≤ wr l3 → P l2 g r) ∧ (wr l3 < wr x1 → ab_RI m_M_counts [(2, 161), (0, l1), (0, l3)] K S g r (fun x3 g2 r' => r' = r ∧ (((wr x3 ≤ wr 0 → ab_Rn m_M_anew 6 [some (2, 161), some (0, l1), some (0, l2 + 0), some (0, l3 + 1), none] [] (K, S, g2, r) (ab_Qi K S P)) ∧ (wr 0 < wr x3 → ab_Rn m_M_anew 6 [some (2, 161), some (0, l1), some (0, l2 + (x3 - 1)), some (0, l3 + 1), none] [] (K, S, g2, r) (ab_Qi K S P)))))))))) : ab_Rn m_M_anew 6 [some (2, 161), some (0, l1), some (0, l2), some (0, l3), none] [] (K, S, g, r) (ab_Qi K S P) := by
  refine Rn_pure 2 (i' := 8) (L' := [some (2, 161), some (0, l1), some (0, l2), some (0, l3), none]) (st' := [(2, 161), (0, l3)]) rfl ?_
  refine Rn_callI [(2, 161)] [(0, l3)] rfl rfl rfl rfl (ab_rvB_of rfl (⟨rfl, (by omega : (0 : Int) ≤ 161), (by omega : (161 : Int) < K)⟩)) ?_
  refine h.mono (fun x1 g' r' h => ?_)
  obtain ⟨hx, h⟩ := h
  replace hx := hx.symm
  subst hx
  obtain ⟨hx, h⟩ := h
  replace hx := hx.symm
  subst hx
  refine Rn_icge rfl (fun hc => ?_) (fun hc => ?_)
  · have h := h.1 hc
    refine Rn_pure 1 (i' := 28) (L' := [some (2, 161), some (0, l1), some (0, l2), some (0, l3), none]) (st' := [(0, l2)]) rfl ?_
    exact Rn_ret1 rfl h
  · have h := h.2 hc
    refine Rn_pure 3 (i' := 13) (L' := [some (2, 161), some (0, l1), some (0, l2), some (0, l3), none]) (st' := [(0, l3), (0, l1), (2, 161)]) rfl ?_
    refine Rn_callI [(2, 161), (0, l1), (0, l3)] [] rfl rfl rfl rfl (ab_rvB_of rfl (⟨rfl, (by omega : (0 : Int) ≤ 161), (by omega : (161 : Int) < K)⟩)) ?_
    refine h.mono (fun x3 g2 r' h => ?_)
    obtain ⟨hx, h⟩ := h
    replace hx := hx.symm
    subst hx
    refine Rn_pure 3 (i' := 17) (L' := [some (2, 161), some (0, l1), some (0, l2), some (0, l3), some (0, x3)]) (st' := [(0, x3), (0, l2)]) rfl ?_
    refine Rn_ifle rfl (fun hc => ?_) (fun hc => ?_)
    · have h := h.1 hc
      refine Rn_pure 5 (i' := 6) (L' := [some (2, 161), some (0, l1), some (0, l2 + 0), some (0, l3 + 1), some (0, x3)]) (st' := []) rfl ?_
      refine Rn_weak (L' := [some (2, 161), some (0, l1), some (0, l2 + 0), some (0, l3 + 1), none]) ⟨rfl, ⟨rfl, ⟨rfl, ⟨rfl, trivial⟩⟩⟩⟩ ?_
      exact h
    · have h := h.2 hc
      refine Rn_pure 8 (i' := 6) (L' := [some (2, 161), some (0, l1), some (0, l2 + (x3 - 1)), some (0, l3 + 1), some (0, x3)]) (st' := []) rfl ?_
      refine Rn_weak (L' := [some (2, 161), some (0, l1), some (0, l2 + (x3 - 1)), some (0, l3 + 1), none]) ⟨rfl, ⟨rfl, ⟨rfl, ⟨rfl, trivial⟩⟩⟩⟩ ?_
      exact h
-- EventLedgerModel.tally (II)I
theorem v_M_tally {K : Int} {S : Nat} {g r : ab_H} {p1 p2 : Int} (P : Int → ab_H → ab_H → Prop) (hr : SI r) (hK : 185 ≤ K) (h : ∀ g1, g1 = ab_up g 161 0 0 → ab_RI m_M_isTally [(2, 161), (0, p1)] K S g1 r (fun x2 g' r' => g' = g1 ∧ r' = r ∧ (((¬ wr x2 = wr 0 → ((wr p2 = 0 → ab_RI m_M_tallyAt [(0, p1)] K S g1 r (fun x3 g' r' => g' = g1 ∧ r' = r ∧ (((0 : Int) ≤ x3 + 0 ∧ (x3 + 0 : Int) < 1607) ∧ P (g1 174 (x3 + 0)) g1 r))) ∧ (wr p2 = 1 → ab_RI m_M_many [(2, 161)] K S g1 r (fun x4 g' r' => g' = g1 ∧ r' = r ∧ (ab_RI m_M_tallyAt [(0, p1)] K S g1 r (fun x5 g' r' => g' = g1 ∧ r' = r ∧ (((0 : Int) ≤ x5 + 0 ∧ (x5 + 0 : Int) < 1607) ∧ P (x4 - (g1 174 (x5 + 0))) g1 r))))) ∧ (wr p2 = 2 → ab_RI m_M_countedMany [(2, 161), (0, p1)] K S g1 r (fun x6 g' r' => g' = g1 ∧ r' = r ∧ (P x6 g1 r))) ∧ (wr p2 = 3 → ((0 : Int) ≤ p1 ∧ (p1 : Int) < 8) ∧ P (g1 166 p1) g1 r) ∧ (wr p2 = 4 → ((0 : Int) ≤ p1 ∧ (p1 : Int) < 8) ∧ P (g1 167 p1) g1 r) ∧ (wr p2 = 5 → ab_RI m_M_sums [(2, 161), (0, p1)] K S g1 r (fun x7 g' r' => g' = g1 ∧ r' = r ∧ (P x7 g1 r))) ∧ (wr p2 = 6 → ab_RI m_M_anew [(2, 161), (0, p1)] K S g1 r (fun x9 g8 r' => r' = r ∧ (ab_RI m_M_sums [(2, 161), (0, p1)] K S g8 r (fun x10 g' r' => g' = g8 ∧ r' = r ∧ (P (x9 - x10) g8 r))))) ∧ (wr p2 < 0 ∨ 7 ≤ wr p2 → P (-2147483648) g1 r))) ∧ (wr x2 = wr 0 → P (-2147483648) g1 r))))) : ab_RI m_M_tally [(2, 161), (0, p1), (0, p2)] K S g r P := by
  show ab_Rn m_M_tally 0 [some (2, 161), some (0, p1), some (0, p2)] [] (K, S, g, r) (ab_Qi K S P)
  refine Rn_pure 2 (i' := 2) (L' := [some (2, 161), some (0, p1), some (0, p2)]) (st' := [(0, 0), (2, 161)]) rfl ?_
  refine Rn_putI rfl (⟨rfl, (by omega : (0 : Int) ≤ 161), (by omega : (161 : Int) < K)⟩) (fun g1 he_g1 => ?_)
  have h := h g1 he_g1
  refine Rn_pure 2 (i' := 5) (L' := [some (2, 161), some (0, p1), some (0, p2)]) (st' := [(0, p1), (2, 161)]) rfl ?_
  refine Rn_callI [(2, 161), (0, p1)] [] rfl rfl rfl rfl (ab_rvB_of rfl (⟨rfl, (by omega : (0 : Int) ≤ 161), (by omega : (161 : Int) < K)⟩)) ?_
  refine h.mono (fun x2 g' r' h => ?_)
  obtain ⟨hx, h⟩ := h
  replace hx := hx.symm
  subst hx
  obtain ⟨hx, h⟩ := h
  replace hx := hx.symm
  subst hx
  refine Rn_ifne rfl (fun hc => ?_) (fun hc => ?_)
  · have h := h.1 hc
    refine Rn_pure 1 (i' := 10) (L' := [some (2, 161), some (0, p1), some (0, p2)]) (st' := [(0, p2)]) rfl ?_
    refine Rn_ts rfl ?_
    have ht11 : (wr p2 = 0) → ab_Rn m_M_tally 11 [some (2, 161), some (0, p1), some (0, p2)] [] (K, S, g1, r) (ab_Qi K S P) := by
      intro hc
      have h := h.1 hc
      refine Rn_pure 1 (i' := 12) (L' := [some (2, 161), some (0, p1), some (0, p2)]) (st' := [(2, 161)]) rfl ?_
      refine Rn_getR rfl (⟨rfl, (by omega : (0 : Int) ≤ 161), (by omega : (161 : Int) < K)⟩) (hr 149 _ rfl) (by decide) ?_
      refine Rn_pure 1 (i' := 14) (L' := [some (2, 161), some (0, p1), some (0, p2)]) (st' := [(0, p1), (2, 174)]) rfl ?_
      refine Rn_callI [(0, p1)] [(2, 174)] rfl rfl rfl rfl (rfl) ?_
      refine h.mono (fun x3 g' r' h => ?_)
      obtain ⟨hx, h⟩ := h
      replace hx := hx.symm
      subst hx
      obtain ⟨hx, h⟩ := h
      replace hx := hx.symm
      subst hx
      refine Rn_pure 2 (i' := 17) (L' := [some (2, 161), some (0, p1), some (0, p2)]) (st' := [(0, x3 + 0), (2, 174)]) rfl ?_
      obtain ⟨hg, h⟩ := h
      refine Rn_iald rfl (⟨rfl, (by omega : (0 : Int) ≤ 174), (by omega : (174 : Int) < K)⟩) hg ?_
      exact Rn_ret1 rfl h
    have ht19 : (wr p2 = 1) → ab_Rn m_M_tally 19 [some (2, 161), some (0, p1), some (0, p2)] [] (K, S, g1, r) (ab_Qi K S P) := by
      intro hc
      have h := h.2.1 hc
      refine Rn_pure 1 (i' := 20) (L' := [some (2, 161), some (0, p1), some (0, p2)]) (st' := [(2, 161)]) rfl ?_
      refine Rn_callI [(2, 161)] [] rfl rfl rfl rfl (ab_rvB_of rfl (⟨rfl, (by omega : (0 : Int) ≤ 161), (by omega : (161 : Int) < K)⟩)) ?_
      refine h.mono (fun x4 g' r' h => ?_)
      obtain ⟨hx, h⟩ := h
      replace hx := hx.symm
      subst hx
      obtain ⟨hx, h⟩ := h
      replace hx := hx.symm
      subst hx
      refine Rn_pure 1 (i' := 22) (L' := [some (2, 161), some (0, p1), some (0, p2)]) (st' := [(2, 161), (0, x4)]) rfl ?_
      refine Rn_getR rfl (⟨rfl, (by omega : (0 : Int) ≤ 161), (by omega : (161 : Int) < K)⟩) (hr 149 _ rfl) (by decide) ?_
      refine Rn_pure 1 (i' := 24) (L' := [some (2, 161), some (0, p1), some (0, p2)]) (st' := [(0, p1), (2, 174), (0, x4)]) rfl ?_
      refine Rn_callI [(0, p1)] [(2, 174), (0, x4)] rfl rfl rfl rfl (rfl) ?_
      refine h.mono (fun x5 g' r' h => ?_)
      obtain ⟨hx, h⟩ := h
      replace hx := hx.symm
      subst hx
      obtain ⟨hx, h⟩ := h
      replace hx := hx.symm
      subst hx
      refine Rn_pure 2 (i' := 27) (L' := [some (2, 161), some (0, p1), some (0, p2)]) (st' := [(0, x5 + 0), (2, 174), (0, x4)]) rfl ?_
      obtain ⟨hg, h⟩ := h
      refine Rn_iald rfl (⟨rfl, (by omega : (0 : Int) ≤ 174), (by omega : (174 : Int) < K)⟩) hg ?_
      refine Rn_pure 1 (i' := 29) (L' := [some (2, 161), some (0, p1), some (0, p2)]) (st' := [(0, x4 - (g1 174 (x5 + 0)))]) rfl ?_
      exact Rn_ret1 rfl h
    have ht30 : (wr p2 = 2) → ab_Rn m_M_tally 30 [some (2, 161), some (0, p1), some (0, p2)] [] (K, S, g1, r) (ab_Qi K S P) := by
      intro hc
      have h := h.2.2.1 hc
      refine Rn_pure 2 (i' := 32) (L' := [some (2, 161), some (0, p1), some (0, p2)]) (st' := [(0, p1), (2, 161)]) rfl ?_
      refine Rn_callI [(2, 161), (0, p1)] [] rfl rfl rfl rfl (ab_rvB_of rfl (⟨rfl, (by omega : (0 : Int) ≤ 161), (by omega : (161 : Int) < K)⟩)) ?_
      refine h.mono (fun x6 g' r' h => ?_)
      obtain ⟨hx, h⟩ := h
      replace hx := hx.symm
      subst hx
      obtain ⟨hx, h⟩ := h
      replace hx := hx.symm
      subst hx
      exact Rn_ret1 rfl h
    have ht34 : (wr p2 = 3) → ab_Rn m_M_tally 34 [some (2, 161), some (0, p1), some (0, p2)] [] (K, S, g1, r) (ab_Qi K S P) := by
      intro hc
      have h := h.2.2.2.1 hc
      refine Rn_pure 1 (i' := 35) (L' := [some (2, 161), some (0, p1), some (0, p2)]) (st' := [(2, 161)]) rfl ?_
      refine Rn_getR rfl (⟨rfl, (by omega : (0 : Int) ≤ 161), (by omega : (161 : Int) < K)⟩) (hr 141 _ rfl) (by decide) ?_
      refine Rn_pure 1 (i' := 37) (L' := [some (2, 161), some (0, p1), some (0, p2)]) (st' := [(0, p1), (2, 166)]) rfl ?_
      obtain ⟨hg, h⟩ := h
      refine Rn_iald rfl (⟨rfl, (by omega : (0 : Int) ≤ 166), (by omega : (166 : Int) < K)⟩) hg ?_
      exact Rn_ret1 rfl h
    have ht39 : (wr p2 = 4) → ab_Rn m_M_tally 39 [some (2, 161), some (0, p1), some (0, p2)] [] (K, S, g1, r) (ab_Qi K S P) := by
      intro hc
      have h := h.2.2.2.2.1 hc
      refine Rn_pure 1 (i' := 40) (L' := [some (2, 161), some (0, p1), some (0, p2)]) (st' := [(2, 161)]) rfl ?_
      refine Rn_getR rfl (⟨rfl, (by omega : (0 : Int) ≤ 161), (by omega : (161 : Int) < K)⟩) (hr 142 _ rfl) (by decide) ?_
      refine Rn_pure 1 (i' := 42) (L' := [some (2, 161), some (0, p1), some (0, p2)]) (st' := [(0, p1), (2, 167)]) rfl ?_
      obtain ⟨hg, h⟩ := h
      refine Rn_iald rfl (⟨rfl, (by omega : (0 : Int) ≤ 167), (by omega : (167 : Int) < K)⟩) hg ?_
      exact Rn_ret1 rfl h
    have ht44 : (wr p2 = 5) → ab_Rn m_M_tally 44 [some (2, 161), some (0, p1), some (0, p2)] [] (K, S, g1, r) (ab_Qi K S P) := by
      intro hc
      have h := h.2.2.2.2.2.1 hc
      refine Rn_pure 2 (i' := 46) (L' := [some (2, 161), some (0, p1), some (0, p2)]) (st' := [(0, p1), (2, 161)]) rfl ?_
      refine Rn_callI [(2, 161), (0, p1)] [] rfl rfl rfl rfl (ab_rvB_of rfl (⟨rfl, (by omega : (0 : Int) ≤ 161), (by omega : (161 : Int) < K)⟩)) ?_
      refine h.mono (fun x7 g' r' h => ?_)
      obtain ⟨hx, h⟩ := h
      replace hx := hx.symm
      subst hx
      obtain ⟨hx, h⟩ := h
      replace hx := hx.symm
      subst hx
      exact Rn_ret1 rfl h
    have ht48 : (wr p2 = 6) → ab_Rn m_M_tally 48 [some (2, 161), some (0, p1), some (0, p2)] [] (K, S, g1, r) (ab_Qi K S P) := by
      intro hc
      have h := h.2.2.2.2.2.2.1 hc
      refine Rn_pure 2 (i' := 50) (L' := [some (2, 161), some (0, p1), some (0, p2)]) (st' := [(0, p1), (2, 161)]) rfl ?_
      refine Rn_callI [(2, 161), (0, p1)] [] rfl rfl rfl rfl (ab_rvB_of rfl (⟨rfl, (by omega : (0 : Int) ≤ 161), (by omega : (161 : Int) < K)⟩)) ?_
      refine h.mono (fun x9 g8 r' h => ?_)
      obtain ⟨hx, h⟩ := h
      replace hx := hx.symm
      subst hx
      refine Rn_pure 2 (i' := 53) (L' := [some (2, 161), some (0, p1), some (0, p2)]) (st' := [(0, p1), (2, 161), (0, x9)]) rfl ?_
      refine Rn_callI [(2, 161), (0, p1)] [(0, x9)] rfl rfl rfl rfl (ab_rvB_of rfl (⟨rfl, (by omega : (0 : Int) ≤ 161), (by omega : (161 : Int) < K)⟩)) ?_
      refine h.mono (fun x10 g' r' h => ?_)
      obtain ⟨hx, h⟩ := h
      replace hx := hx.symm
      subst hx
      obtain ⟨hx, h⟩ := h
      replace hx := hx.symm
      subst hx
      refine Rn_pure 1 (i' := 55) (L' := [some (2, 161), some (0, p1), some (0, p2)]) (st' := [(0, x9 - x10)]) rfl ?_
      exact Rn_ret1 rfl h
    have htd : (wr p2 < 0 ∨ 7 ≤ wr p2) → ab_Rn m_M_tally 56 [some (2, 161), some (0, p1), some (0, p2)] [] (K, S, g1, r) (ab_Qi K S P) := by
      intro hc
      have h := h.2.2.2.2.2.2.2 hc
      refine Rn_pure 1 (i' := 57) (L' := [some (2, 161), some (0, p1), some (0, p2)]) (st' := [(0, (-2147483648))]) rfl ?_
      exact Rn_ret1 rfl h
    have hsp : wr p2 < 0 ∨ 7 ≤ wr p2 ∨ wr p2 = 0 ∨ wr p2 = 1 ∨ wr p2 = 2 ∨ wr p2 = 3 ∨ wr p2 = 4 ∨ wr p2 = 5 ∨ wr p2 = 6 := by omega
    rcases hsp with hc | hc | hc | hc | hc | hc | hc | hc | hc
    · rw [ab_ts_out (hT := (rfl : ab_nth ab_tsL 8 = some (0, 56, [11, 19, 30, 34, 39, 44, 48]))) rfl (Or.inl hc)]; exact htd (by simp only [hc, true_or, or_true])
    · rw [ab_ts_out (hT := (rfl : ab_nth ab_tsL 8 = some (0, 56, [11, 19, 30, 34, 39, 44, 48]))) rfl (Or.inr hc)]; exact htd (by simp only [hc, true_or, or_true])
    · rw [ab_ts_in (j := 0) (hT := (rfl : ab_nth ab_tsL 8 = some (0, 56, [11, 19, 30, 34, 39, 44, 48]))) (by rw [hc]; rfl) rfl]; exact ht11 (by simp only [hc, true_or, or_true])
    · rw [ab_ts_in (j := 1) (hT := (rfl : ab_nth ab_tsL 8 = some (0, 56, [11, 19, 30, 34, 39, 44, 48]))) (by rw [hc]; rfl) rfl]; exact ht19 (by simp only [hc, true_or, or_true])
    · rw [ab_ts_in (j := 2) (hT := (rfl : ab_nth ab_tsL 8 = some (0, 56, [11, 19, 30, 34, 39, 44, 48]))) (by rw [hc]; rfl) rfl]; exact ht30 (by simp only [hc, true_or, or_true])
    · rw [ab_ts_in (j := 3) (hT := (rfl : ab_nth ab_tsL 8 = some (0, 56, [11, 19, 30, 34, 39, 44, 48]))) (by rw [hc]; rfl) rfl]; exact ht34 (by simp only [hc, true_or, or_true])
    · rw [ab_ts_in (j := 4) (hT := (rfl : ab_nth ab_tsL 8 = some (0, 56, [11, 19, 30, 34, 39, 44, 48]))) (by rw [hc]; rfl) rfl]; exact ht39 (by simp only [hc, true_or, or_true])
    · rw [ab_ts_in (j := 5) (hT := (rfl : ab_nth ab_tsL 8 = some (0, 56, [11, 19, 30, 34, 39, 44, 48]))) (by rw [hc]; rfl) rfl]; exact ht44 (by simp only [hc, true_or, or_true])
    · rw [ab_ts_in (j := 6) (hT := (rfl : ab_nth ab_tsL 8 = some (0, 56, [11, 19, 30, 34, 39, 44, 48]))) (by rw [hc]; rfl) rfl]; exact ht48 (by simp only [hc, true_or, or_true])
  · have h := h.2 hc
    refine Rn_pure 1 (i' := 8) (L' := [some (2, 161), some (0, p1), some (0, p2)]) (st' := [(0, (-2147483648))]) rfl ?_
    exact Rn_ret1 rfl h
-- EventLedgerModel.sum (II)I
theorem v_M_sum {K : Int} {S : Nat} {g r : ab_H} {p1 p2 : Int} (P : Int → ab_H → ab_H → Prop) (hr : SI r) (hK : 185 ≤ K) (h : ∀ g1, g1 = ab_up g 161 0 0 → ab_RI m_M_isTally [(2, 161), (0, p1)] K S g1 r (fun x2 g' r' => g' = g1 ∧ r' = r ∧ (((wr x2 = wr 0 → P (-2147483648) g1 r) ∧ (¬ wr x2 = wr 0 → ab_RI m_M_isAccount [(2, 161), (0, p2)] K S g1 r (fun x3 g' r' => g' = g1 ∧ r' = r ∧ (((wr x3 = wr 0 → P (-2147483648) g1 r) ∧ (¬ wr x3 = wr 0 → ab_RI m_M_tallyAt [(0, p1)] K S g1 r (fun x4 g' r' => g' = g1 ∧ r' = r ∧ (((0 : Int) ≤ x4 + 1 + p2 ∧ (x4 + 1 + p2 : Int) < 1607) ∧ P (g1 174 (x4 + 1 + p2)) g1 r))))))))))) : ab_RI m_M_sum [(2, 161), (0, p1), (0, p2)] K S g r P := by
  show ab_Rn m_M_sum 0 [some (2, 161), some (0, p1), some (0, p2)] [] (K, S, g, r) (ab_Qi K S P)
  refine Rn_pure 2 (i' := 2) (L' := [some (2, 161), some (0, p1), some (0, p2)]) (st' := [(0, 0), (2, 161)]) rfl ?_
  refine Rn_putI rfl (⟨rfl, (by omega : (0 : Int) ≤ 161), (by omega : (161 : Int) < K)⟩) (fun g1 he_g1 => ?_)
  have h := h g1 he_g1
  refine Rn_pure 2 (i' := 5) (L' := [some (2, 161), some (0, p1), some (0, p2)]) (st' := [(0, p1), (2, 161)]) rfl ?_
  refine Rn_callI [(2, 161), (0, p1)] [] rfl rfl rfl rfl (ab_rvB_of rfl (⟨rfl, (by omega : (0 : Int) ≤ 161), (by omega : (161 : Int) < K)⟩)) ?_
  refine h.mono (fun x2 g' r' h => ?_)
  obtain ⟨hx, h⟩ := h
  replace hx := hx.symm
  subst hx
  obtain ⟨hx, h⟩ := h
  replace hx := hx.symm
  subst hx
  refine Rn_ifeq rfl (fun hc => ?_) (fun hc => ?_)
  · have h := h.1 hc
    refine Rn_pure 1 (i' := 22) (L' := [some (2, 161), some (0, p1), some (0, p2)]) (st' := [(0, (-2147483648))]) rfl ?_
    exact Rn_ret1 rfl h
  · have h := h.2 hc
    refine Rn_pure 2 (i' := 9) (L' := [some (2, 161), some (0, p1), some (0, p2)]) (st' := [(0, p2), (2, 161)]) rfl ?_
    refine Rn_callI [(2, 161), (0, p2)] [] rfl rfl rfl rfl (ab_rvB_of rfl (⟨rfl, (by omega : (0 : Int) ≤ 161), (by omega : (161 : Int) < K)⟩)) ?_
    refine h.mono (fun x3 g' r' h => ?_)
    obtain ⟨hx, h⟩ := h
    replace hx := hx.symm
    subst hx
    obtain ⟨hx, h⟩ := h
    replace hx := hx.symm
    subst hx
    refine Rn_ifeq rfl (fun hc => ?_) (fun hc => ?_)
    · have h := h.1 hc
      refine Rn_pure 1 (i' := 22) (L' := [some (2, 161), some (0, p1), some (0, p2)]) (st' := [(0, (-2147483648))]) rfl ?_
      exact Rn_ret1 rfl h
    · have h := h.2 hc
      refine Rn_pure 1 (i' := 12) (L' := [some (2, 161), some (0, p1), some (0, p2)]) (st' := [(2, 161)]) rfl ?_
      refine Rn_getR rfl (⟨rfl, (by omega : (0 : Int) ≤ 161), (by omega : (161 : Int) < K)⟩) (hr 149 _ rfl) (by decide) ?_
      refine Rn_pure 1 (i' := 14) (L' := [some (2, 161), some (0, p1), some (0, p2)]) (st' := [(0, p1), (2, 174)]) rfl ?_
      refine Rn_callI [(0, p1)] [(2, 174)] rfl rfl rfl rfl (rfl) ?_
      refine h.mono (fun x4 g' r' h => ?_)
      obtain ⟨hx, h⟩ := h
      replace hx := hx.symm
      subst hx
      obtain ⟨hx, h⟩ := h
      replace hx := hx.symm
      subst hx
      refine Rn_pure 4 (i' := 19) (L' := [some (2, 161), some (0, p1), some (0, p2)]) (st' := [(0, x4 + 1 + p2), (2, 174)]) rfl ?_
      obtain ⟨hg, h⟩ := h
      refine Rn_iald rfl (⟨rfl, (by omega : (0 : Int) ≤ 174), (by omega : (174 : Int) < K)⟩) hg ?_
      refine Rn_pure 1 (i' := 22) (L' := [some (2, 161), some (0, p1), some (0, p2)]) (st' := [(0, g1 174 (x4 + 1 + p2))]) rfl ?_
      exact Rn_ret1 rfl h
-- EventLedgerModel.draw (I)I
theorem v_M_draw {K : Int} {S : Nat} {g r : ab_H} {p1 : Int} (P : Int → ab_H → ab_H → Prop) (hr : SI r) (hK : 185 ≤ K) (h : ∀ g1, g1 = ab_up g 161 45 (ab_and ((g 161 45) * 1103515245 + 12345) 2147483647) → (¬ wr p1 = 0) ∧ P (ab_rem (ab_shr (g1 161 45) 16) p1) g1 r) : ab_RI m_M_draw [(2, 161), (0, p1)] K S g r P := by
  show ab_Rn m_M_draw 0 [some (2, 161), some (0, p1)] [] (K, S, g, r) (ab_Qi K S P)
  refine Rn_pure 2 (i' := 2) (L' := [some (2, 161), some (0, p1)]) (st' := [(2, 161), (2, 161)]) rfl ?_
  refine Rn_getI rfl (⟨rfl, (by omega : (0 : Int) ≤ 161), (by omega : (161 : Int) < K)⟩) ?_
  refine Rn_pure 6 (i' := 9) (L' := [some (2, 161), some (0, p1)]) (st' := [(0, ab_and ((g 161 45) * 1103515245 + 12345) 2147483647), (2, 161)]) rfl ?_
  refine Rn_putI rfl (⟨rfl, (by omega : (0 : Int) ≤ 161), (by omega : (161 : Int) < K)⟩) (fun g1 he_g1 => ?_)
  have h := h g1 he_g1
  refine Rn_pure 1 (i' := 11) (L' := [some (2, 161), some (0, p1)]) (st' := [(2, 161)]) rfl ?_
  refine Rn_getI rfl (⟨rfl, (by omega : (0 : Int) ≤ 161), (by omega : (161 : Int) < K)⟩) ?_
  refine Rn_pure 3 (i' := 15) (L' := [some (2, 161), some (0, p1)]) (st' := [(0, p1), (0, ab_shr (g1 161 45) 16)]) rfl ?_
  obtain ⟨hg, h⟩ := h
  refine Rn_rem rfl hg ?_
  exact Rn_ret1 rfl h
-- EventLedgerModel.balances ()I
theorem v_M_balances {K : Int} {S : Nat} {g r : ab_H} (P : Int → ab_H → ab_H → Prop) (hr : SI r) (hK : 185 ≤ K) (h : ab_Rn m_M_balances 4 [some (2, 161), some (0, 0), some (0, 0)] [] (K, S, g, r) (ab_Qi K S P)) : ab_RI m_M_balances [(2, 161)] K S g r P := by
  show ab_Rn m_M_balances 0 [some (2, 161), none, none] [] (K, S, g, r) (ab_Qi K S P)
  refine Rn_pure 4 (i' := 4) (L' := [some (2, 161), some (0, 0), some (0, 0)]) (st' := []) rfl ?_
  exact h
theorem v_M_balances_4 {K : Int} {S : Nat} {g r : ab_H} {l1 l2 : Int} (P : Int → ab_H → ab_H → Prop) (hr : SI r) (hK : 185 ≤ K) (h : ab_RI m_M_accounts [(2, 161)] K S g r (fun x1 g' r' => g' = g ∧ r' = r ∧ (((wr x1 ≤ wr l2 → P l1 g r) ∧ (wr l2 < wr x1 → ((0 : Int) ≤ l2 ∧ (l2 : Int) < 8) ∧ ab_Rn m_M_balances 4 [some (2, 161), some (0, l1 + (g 179 l2)), some (0, l2 + 1)] [] (K, S, g, r) (ab_Qi K S P)))))) : ab_Rn m_M_balances 4 [some (2, 161), some (0, l1), some (0, l2)] [] (K, S, g, r) (ab_Qi K S P) := by
  refine Rn_pure 2 (i' := 6) (L' := [some (2, 161), some (0, l1), some (0, l2)]) (st' := [(2, 161), (0, l2)]) rfl ?_
  refine Rn_callI [(2, 161)] [(0, l2)] rfl rfl rfl rfl (ab_rvB_of rfl (⟨rfl, (by omega : (0 : Int) ≤ 161), (by omega : (161 : Int) < K)⟩)) ?_
  refine h.mono (fun x1 g' r' h => ?_)
  obtain ⟨hx, h⟩ := h
  replace hx := hx.symm
  subst hx
  obtain ⟨hx, h⟩ := h
  replace hx := hx.symm
  subst hx
  refine Rn_icge rfl (fun hc => ?_) (fun hc => ?_)
  · have h := h.1 hc
    refine Rn_pure 1 (i' := 18) (L' := [some (2, 161), some (0, l1), some (0, l2)]) (st' := [(0, l1)]) rfl ?_
    exact Rn_ret1 rfl h
  · have h := h.2 hc
    refine Rn_pure 2 (i' := 10) (L' := [some (2, 161), some (0, l1), some (0, l2)]) (st' := [(2, 161), (0, l1)]) rfl ?_
    refine Rn_getR rfl (⟨rfl, (by omega : (0 : Int) ≤ 161), (by omega : (161 : Int) < K)⟩) (hr 154 _ rfl) (by decide) ?_
    refine Rn_pure 1 (i' := 12) (L' := [some (2, 161), some (0, l1), some (0, l2)]) (st' := [(0, l2), (2, 179), (0, l1)]) rfl ?_
    obtain ⟨hg, h⟩ := h
    refine Rn_iald rfl (⟨rfl, (by omega : (0 : Int) ≤ 179), (by omega : (179 : Int) < K)⟩) hg ?_
    refine Rn_pure 4 (i' := 4) (L' := [some (2, 161), some (0, l1 + (g 179 l2)), some (0, l2 + 1)]) (st' := []) rfl ?_
    exact h
-- EventLedgerModel.chance (III)I
theorem v_M_chance {K : Int} {S : Nat} {g r : ab_H} {p1 p2 p3 : Int} (P : Int → ab_H → ab_H → Prop) (hr : SI r) (hK : 185 ≤ K) (h : ∀ g1, g1 = ab_up g 161 0 0 → ((wr p1 < wr (-1) → ab_Rn m_M_chance 28 [some (2, 161), some (0, p1), some (0, p2), some (0, p3), none, none, none, none, none] [] (K, S, g1, r) (ab_Qi K S P)) ∧ (wr (-1) ≤ wr p1 → ((wr p2 < wr 1 → ab_Rn m_M_chance 28 [some (2, 161), some (0, p1), some (0, p2), some (0, p3), none, none, none, none, none] [] (K, S, g1, r) (ab_Qi K S P)) ∧ (wr 1 ≤ wr p2 → ((wr 60 < wr p2 → ab_Rn m_M_chance 28 [some (2, 161), some (0, p1), some (0, p2), some (0, p3), none, none, none, none, none] [] (K, S, g1, r) (ab_Qi K S P)) ∧ (wr p2 ≤ wr 60 → ((wr p3 < wr 0 → ab_Rn m_M_chance 28 [some (2, 161), some (0, p1), some (0, p2), some (0, p3), none, none, none, none, none] [] (K, S, g1, r) (ab_Qi K S P)) ∧ (wr 0 ≤ wr p3 → ((wr 2 < wr p3 → ab_Rn m_M_chance 28 [some (2, 161), some (0, p1), some (0, p2), some (0, p3), none, none, none, none, none] [] (K, S, g1, r) (ab_Qi K S P)) ∧ (wr p3 ≤ wr 2 → ab_RI m_M_accounts [(2, 161)] K S g1 r (fun x2 g' r' => g' = g1 ∧ r' = r ∧ (((wr x2 ≤ wr 0 → ab_Rn m_M_chance 28 [some (2, 161), some (0, p1), some (0, p2), some (0, p3), none, none, none, none, none] [] (K, S, g1, r) (ab_Qi K S P)) ∧ (wr 0 < wr x2 → ab_RI m_M_many [(2, 161)] K S g1 r (fun x3 g' r' => g' = g1 ∧ r' = r ∧ (((wr 120 < wr (x3 + p2) → ab_Rn m_M_chance 28 [some (2, 161), some (0, p1), some (0, p2), some (0, p3), none, none, none, none, none] [] (K, S, g1, r) (ab_Qi K S P)) ∧ (wr (x3 + p2) ≤ wr 120 → ((¬ wr 1 = wr 0 → ((¬ wr p1 = wr (-1) → ∀ g4, g4 = ab_up g1 161 45 p1 → ab_RV m_M_copies [(2, 174), (0, 0), (2, 175), (0, 0)] K S g4 r (fun g5 r' => r' = r ∧ (ab_RI m_M_many [(2, 161)] K S g5 r (fun x7 g' r' => g' = g5 ∧ r' = r ∧ (∀ g8, g8 = ab_up g5 161 32 0 → ab_Rn m_M_chance 65 [some (2, 161), none, some (0, p2), some (0, p3), none, some (0, x7), some (0, 0), none, none] [] (K, S, g8, r) (ab_Qi K S P)))))) ∧ (wr p1 = wr (-1) → ((0 : Int) ≤ 4 ∧ (4 : Int) < 12) ∧ ∀ g9, g9 = ab_up g1 161 45 (g1 163 4) → ab_RV m_M_copies [(2, 174), (0, 0), (2, 175), (0, 0)] K S g9 r (fun g10 r' => r' = r ∧ (ab_RI m_M_many [(2, 161)] K S g10 r (fun x12 g' r' => g' = g10 ∧ r' = r ∧ (∀ g13, g13 = ab_up g10 161 32 0 → ab_Rn m_M_chance 65 [some (2, 161), none, some (0, p2), some (0, p3), none, some (0, x12), some (0, 0), none, none] [] (K, S, g13, r) (ab_Qi K S P)))))))) ∧ (wr 1 = wr 0 → ((¬ wr p3 = wr 1 → P (-1) g1 r) ∧ (wr p3 = wr 1 → P (-2147483648) g1 r))))))))))))))))))))))) : ab_RI m_M_chance [(2, 161), (0, p1), (0, p2), (0, p3)] K S g r P := by
  show ab_Rn m_M_chance 0 [some (2, 161), some (0, p1), some (0, p2), some (0, p3), none, none, none, none, none] [] (K, S, g, r) (ab_Qi K S P)
  refine Rn_pure 2 (i' := 2) (L' := [some (2, 161), some (0, p1), some (0, p2), some (0, p3), none, none, none, none, none]) (st' := [(0, 0), (2, 161)]) rfl ?_
  refine Rn_putI rfl (⟨rfl, (by omega : (0 : Int) ≤ 161), (by omega : (161 : Int) < K)⟩) (fun g1 he_g1 => ?_)
  have h := h g1 he_g1
  refine Rn_pure 2 (i' := 5) (L' := [some (2, 161), some (0, p1), some (0, p2), some (0, p3), none, none, none, none, none]) (st' := [(0, (-1)), (0, p1)]) rfl ?_
  refine Rn_iclt rfl (fun hc => ?_) (fun hc => ?_)
  · have h := h.1 hc
    exact h
  · have h := h.2 hc
    refine Rn_pure 2 (i' := 8) (L' := [some (2, 161), some (0, p1), some (0, p2), some (0, p3), none, none, none, none, none]) (st' := [(0, 1), (0, p2)]) rfl ?_
    refine Rn_iclt rfl (fun hc => ?_) (fun hc => ?_)
    · have h := h.1 hc
      exact h
    · have h := h.2 hc
      refine Rn_pure 2 (i' := 11) (L' := [some (2, 161), some (0, p1), some (0, p2), some (0, p3), none, none, none, none, none]) (st' := [(0, 60), (0, p2)]) rfl ?_
      refine Rn_icgt rfl (fun hc => ?_) (fun hc => ?_)
      · have h := h.1 hc
        exact h
      · have h := h.2 hc
        refine Rn_pure 1 (i' := 13) (L' := [some (2, 161), some (0, p1), some (0, p2), some (0, p3), none, none, none, none, none]) (st' := [(0, p3)]) rfl ?_
        refine Rn_iflt rfl (fun hc => ?_) (fun hc => ?_)
        · have h := h.1 hc
          exact h
        · have h := h.2 hc
          refine Rn_pure 2 (i' := 16) (L' := [some (2, 161), some (0, p1), some (0, p2), some (0, p3), none, none, none, none, none]) (st' := [(0, 2), (0, p3)]) rfl ?_
          refine Rn_icgt rfl (fun hc => ?_) (fun hc => ?_)
          · have h := h.1 hc
            exact h
          · have h := h.2 hc
            refine Rn_pure 1 (i' := 18) (L' := [some (2, 161), some (0, p1), some (0, p2), some (0, p3), none, none, none, none, none]) (st' := [(2, 161)]) rfl ?_
            refine Rn_callI [(2, 161)] [] rfl rfl rfl rfl (ab_rvB_of rfl (⟨rfl, (by omega : (0 : Int) ≤ 161), (by omega : (161 : Int) < K)⟩)) ?_
            refine h.mono (fun x2 g' r' h => ?_)
            obtain ⟨hx, h⟩ := h
            replace hx := hx.symm
            subst hx
            obtain ⟨hx, h⟩ := h
            replace hx := hx.symm
            subst hx
            refine Rn_ifle rfl (fun hc => ?_) (fun hc => ?_)
            · have h := h.1 hc
              exact h
            · have h := h.2 hc
              refine Rn_pure 1 (i' := 21) (L' := [some (2, 161), some (0, p1), some (0, p2), some (0, p3), none, none, none, none, none]) (st' := [(2, 161)]) rfl ?_
              refine Rn_callI [(2, 161)] [] rfl rfl rfl rfl (ab_rvB_of rfl (⟨rfl, (by omega : (0 : Int) ≤ 161), (by omega : (161 : Int) < K)⟩)) ?_
              refine h.mono (fun x3 g' r' h => ?_)
              obtain ⟨hx, h⟩ := h
              replace hx := hx.symm
              subst hx
              obtain ⟨hx, h⟩ := h
              replace hx := hx.symm
              subst hx
              refine Rn_pure 3 (i' := 25) (L' := [some (2, 161), some (0, p1), some (0, p2), some (0, p3), none, none, none, none, none]) (st' := [(0, 120), (0, x3 + p2)]) rfl ?_
              refine Rn_icgt rfl (fun hc => ?_) (fun hc => ?_)
              · have h := h.1 hc
                exact h
              · have h := h.2 hc
                refine Rn_pure 4 (i' := 31) (L' := [some (2, 161), some (0, p1), some (0, p2), some (0, p3), some (0, 1), none, none, none, none]) (st' := [(0, 1)]) rfl ?_
                refine Rn_ifne rfl (fun hc => ?_) (fun hc => ?_)
                · have h := h.1 hc
                  refine Rn_pure 3 (i' := 42) (L' := [some (2, 161), some (0, p1), some (0, p2), some (0, p3), some (0, 1), none, none, none, none]) (st' := [(0, (-1)), (0, p1), (2, 161)]) rfl ?_
                  refine Rn_icne rfl (fun hc => ?_) (fun hc => ?_)
                  · have h := h.1 hc
                    refine Rn_pure 1 (i' := 49) (L' := [some (2, 161), some (0, p1), some (0, p2), some (0, p3), some (0, 1), none, none, none, none]) (st' := [(0, p1), (2, 161)]) rfl ?_
                    refine Rn_putI rfl (⟨rfl, (by omega : (0 : Int) ≤ 161), (by omega : (161 : Int) < K)⟩) (fun g4 he_g4 => ?_)
                    have h := h g4 he_g4
                    refine Rn_pure 1 (i' := 51) (L' := [some (2, 161), some (0, p1), some (0, p2), some (0, p3), some (0, 1), none, none, none, none]) (st' := [(2, 161)]) rfl ?_
                    refine Rn_getR rfl (⟨rfl, (by omega : (0 : Int) ≤ 161), (by omega : (161 : Int) < K)⟩) (hr 149 _ rfl) (by decide) ?_
                    refine Rn_pure 2 (i' := 54) (L' := [some (2, 161), some (0, p1), some (0, p2), some (0, p3), some (0, 1), none, none, none, none]) (st' := [(2, 161), (0, 0), (2, 174)]) rfl ?_
                    refine Rn_getR rfl (⟨rfl, (by omega : (0 : Int) ≤ 161), (by omega : (161 : Int) < K)⟩) (hr 150 _ rfl) (by decide) ?_
                    refine Rn_pure 1 (i' := 56) (L' := [some (2, 161), some (0, p1), some (0, p2), some (0, p3), some (0, 1), none, none, none, none]) (st' := [(0, 0), (2, 175), (0, 0), (2, 174)]) rfl ?_
                    refine Rn_callV [(2, 174), (0, 0), (2, 175), (0, 0)] [] rfl rfl rfl rfl (rfl) ?_
                    refine h.mono (fun g5 r' h => ?_)
                    obtain ⟨hx, h⟩ := h
                    replace hx := hx.symm
                    subst hx
                    refine Rn_pure 1 (i' := 58) (L' := [some (2, 161), some (0, p1), some (0, p2), some (0, p3), some (0, 1), none, none, none, none]) (st' := [(2, 161)]) rfl ?_
                    refine Rn_callI [(2, 161)] [] rfl rfl rfl rfl (ab_rvB_of rfl (⟨rfl, (by omega : (0 : Int) ≤ 161), (by omega : (161 : Int) < K)⟩)) ?_
                    refine h.mono (fun x7 g' r' h => ?_)
                    obtain ⟨hx, h⟩ := h
                    replace hx := hx.symm
                    subst hx
                    obtain ⟨hx, h⟩ := h
                    replace hx := hx.symm
                    subst hx
                    refine Rn_pure 3 (i' := 62) (L' := [some (2, 161), some (0, p1), some (0, p2), some (0, p3), some (0, 1), some (0, x7), none, none, none]) (st' := [(0, 0), (2, 161)]) rfl ?_
                    refine Rn_putI rfl (⟨rfl, (by omega : (0 : Int) ≤ 161), (by omega : (161 : Int) < K)⟩) (fun g8 he_g8 => ?_)
                    have h := h g8 he_g8
                    refine Rn_pure 2 (i' := 65) (L' := [some (2, 161), some (0, p1), some (0, p2), some (0, p3), some (0, 1), some (0, x7), some (0, 0), none, none]) (st' := []) rfl ?_
                    refine Rn_weak (L' := [some (2, 161), none, some (0, p2), some (0, p3), none, some (0, x7), some (0, 0), none, none]) ⟨rfl, ⟨rfl, ⟨rfl, ⟨rfl, ⟨rfl, trivial⟩⟩⟩⟩⟩ ?_
                    exact h
                  · have h := h.2 hc
                    refine Rn_pure 1 (i' := 44) (L' := [some (2, 161), some (0, p1), some (0, p2), some (0, p3), some (0, 1), none, none, none, none]) (st' := [(2, 161), (2, 161)]) rfl ?_
                    refine Rn_getR rfl (⟨rfl, (by omega : (0 : Int) ≤ 161), (by omega : (161 : Int) < K)⟩) (hr 138 _ rfl) (by decide) ?_
                    refine Rn_pure 1 (i' := 46) (L' := [some (2, 161), some (0, p1), some (0, p2), some (0, p3), some (0, 1), none, none, none, none]) (st' := [(0, 4), (2, 163), (2, 161)]) rfl ?_
                    obtain ⟨hg, h⟩ := h
                    refine Rn_iald rfl (⟨rfl, (by omega : (0 : Int) ≤ 163), (by omega : (163 : Int) < K)⟩) hg ?_
                    refine Rn_pure 1 (i' := 49) (L' := [some (2, 161), some (0, p1), some (0, p2), some (0, p3), some (0, 1), none, none, none, none]) (st' := [(0, g1 163 4), (2, 161)]) rfl ?_
                    refine Rn_putI rfl (⟨rfl, (by omega : (0 : Int) ≤ 161), (by omega : (161 : Int) < K)⟩) (fun g9 he_g9 => ?_)
                    have h := h g9 he_g9
                    refine Rn_pure 1 (i' := 51) (L' := [some (2, 161), some (0, p1), some (0, p2), some (0, p3), some (0, 1), none, none, none, none]) (st' := [(2, 161)]) rfl ?_
                    refine Rn_getR rfl (⟨rfl, (by omega : (0 : Int) ≤ 161), (by omega : (161 : Int) < K)⟩) (hr 149 _ rfl) (by decide) ?_
                    refine Rn_pure 2 (i' := 54) (L' := [some (2, 161), some (0, p1), some (0, p2), some (0, p3), some (0, 1), none, none, none, none]) (st' := [(2, 161), (0, 0), (2, 174)]) rfl ?_
                    refine Rn_getR rfl (⟨rfl, (by omega : (0 : Int) ≤ 161), (by omega : (161 : Int) < K)⟩) (hr 150 _ rfl) (by decide) ?_
                    refine Rn_pure 1 (i' := 56) (L' := [some (2, 161), some (0, p1), some (0, p2), some (0, p3), some (0, 1), none, none, none, none]) (st' := [(0, 0), (2, 175), (0, 0), (2, 174)]) rfl ?_
                    refine Rn_callV [(2, 174), (0, 0), (2, 175), (0, 0)] [] rfl rfl rfl rfl (rfl) ?_
                    refine h.mono (fun g10 r' h => ?_)
                    obtain ⟨hx, h⟩ := h
                    replace hx := hx.symm
                    subst hx
                    refine Rn_pure 1 (i' := 58) (L' := [some (2, 161), some (0, p1), some (0, p2), some (0, p3), some (0, 1), none, none, none, none]) (st' := [(2, 161)]) rfl ?_
                    refine Rn_callI [(2, 161)] [] rfl rfl rfl rfl (ab_rvB_of rfl (⟨rfl, (by omega : (0 : Int) ≤ 161), (by omega : (161 : Int) < K)⟩)) ?_
                    refine h.mono (fun x12 g' r' h => ?_)
                    obtain ⟨hx, h⟩ := h
                    replace hx := hx.symm
                    subst hx
                    obtain ⟨hx, h⟩ := h
                    replace hx := hx.symm
                    subst hx
                    refine Rn_pure 3 (i' := 62) (L' := [some (2, 161), some (0, p1), some (0, p2), some (0, p3), some (0, 1), some (0, x12), none, none, none]) (st' := [(0, 0), (2, 161)]) rfl ?_
                    refine Rn_putI rfl (⟨rfl, (by omega : (0 : Int) ≤ 161), (by omega : (161 : Int) < K)⟩) (fun g13 he_g13 => ?_)
                    have h := h g13 he_g13
                    refine Rn_pure 2 (i' := 65) (L' := [some (2, 161), some (0, p1), some (0, p2), some (0, p3), some (0, 1), some (0, x12), some (0, 0), none, none]) (st' := []) rfl ?_
                    refine Rn_weak (L' := [some (2, 161), none, some (0, p2), some (0, p3), none, some (0, x12), some (0, 0), none, none]) ⟨rfl, ⟨rfl, ⟨rfl, ⟨rfl, ⟨rfl, trivial⟩⟩⟩⟩⟩ ?_
                    exact h
                · have h := h.2 hc
                  refine Rn_pure 2 (i' := 34) (L' := [some (2, 161), some (0, p1), some (0, p2), some (0, p3), some (0, 1), none, none, none, none]) (st' := [(0, 1), (0, p3)]) rfl ?_
                  refine Rn_icne rfl (fun hc => ?_) (fun hc => ?_)
                  · have h := h.1 hc
                    refine Rn_pure 1 (i' := 38) (L' := [some (2, 161), some (0, p1), some (0, p2), some (0, p3), some (0, 1), none, none, none, none]) (st' := [(0, (-1))]) rfl ?_
                    exact Rn_ret1 rfl h
                  · have h := h.2 hc
                    refine Rn_pure 2 (i' := 38) (L' := [some (2, 161), some (0, p1), some (0, p2), some (0, p3), some (0, 1), none, none, none, none]) (st' := [(0, (-2147483648))]) rfl ?_
                    exact Rn_ret1 rfl h
theorem v_M_chance_28 {K : Int} {S : Nat} {g r : ab_H} {l1 l2 l3 : Int} (P : Int → ab_H → ab_H → Prop) (hr : SI r) (hK : 185 ≤ K) (h : ((¬ wr 0 = wr 0 → ((¬ wr l1 = wr (-1) → ∀ g1, g1 = ab_up g 161 45 l1 → ab_RV m_M_copies [(2, 174), (0, 0), (2, 175), (0, 0)] K S g1 r (fun g2 r' => r' = r ∧ (ab_RI m_M_many [(2, 161)] K S g2 r (fun x4 g' r' => g' = g2 ∧ r' = r ∧ (∀ g5, g5 = ab_up g2 161 32 0 → ab_Rn m_M_chance 65 [some (2, 161), none, some (0, l2), some (0, l3), none, some (0, x4), some (0, 0), none, none] [] (K, S, g5, r) (ab_Qi K S P)))))) ∧ (wr l1 = wr (-1) → ((0 : Int) ≤ 4 ∧ (4 : Int) < 12) ∧ ∀ g6, g6 = ab_up g 161 45 (g 163 4) → ab_RV m_M_copies [(2, 174), (0, 0), (2, 175), (0, 0)] K S g6 r (fun g7 r' => r' = r ∧ (ab_RI m_M_many [(2, 161)] K S g7 r (fun x9 g' r' => g' = g7 ∧ r' = r ∧ (∀ g10, g10 = ab_up g7 161 32 0 → ab_Rn m_M_chance 65 [some (2, 161), none, some (0, l2), some (0, l3), none, some (0, x9), some (0, 0), none, none] [] (K, S, g10, r) (ab_Qi K S P)))))))) ∧ (wr 0 = wr 0 → ((¬ wr l3 = wr 1 → P (-1) g r) ∧ (wr l3 = wr 1 → P (-2147483648) g r))))) : ab_Rn m_M_chance 28 [some (2, 161), some (0, l1), some (0, l2), some (0, l3), none, none, none, none, none] [] (K, S, g, r) (ab_Qi K S P) := by
  refine Rn_pure 3 (i' := 31) (L' := [some (2, 161), some (0, l1), some (0, l2), some (0, l3), some (0, 0), none, none, none, none]) (st' := [(0, 0)]) rfl ?_
  refine Rn_ifne rfl (fun hc => ?_) (fun hc => ?_)
  · have h := h.1 hc
    refine Rn_pure 3 (i' := 42) (L' := [some (2, 161), some (0, l1), some (0, l2), some (0, l3), some (0, 0), none, none, none, none]) (st' := [(0, (-1)), (0, l1), (2, 161)]) rfl ?_
    refine Rn_icne rfl (fun hc => ?_) (fun hc => ?_)
    · have h := h.1 hc
      refine Rn_pure 1 (i' := 49) (L' := [some (2, 161), some (0, l1), some (0, l2), some (0, l3), some (0, 0), none, none, none, none]) (st' := [(0, l1), (2, 161)]) rfl ?_
      refine Rn_putI rfl (⟨rfl, (by omega : (0 : Int) ≤ 161), (by omega : (161 : Int) < K)⟩) (fun g1 he_g1 => ?_)
      have h := h g1 he_g1
      refine Rn_pure 1 (i' := 51) (L' := [some (2, 161), some (0, l1), some (0, l2), some (0, l3), some (0, 0), none, none, none, none]) (st' := [(2, 161)]) rfl ?_
      refine Rn_getR rfl (⟨rfl, (by omega : (0 : Int) ≤ 161), (by omega : (161 : Int) < K)⟩) (hr 149 _ rfl) (by decide) ?_
      refine Rn_pure 2 (i' := 54) (L' := [some (2, 161), some (0, l1), some (0, l2), some (0, l3), some (0, 0), none, none, none, none]) (st' := [(2, 161), (0, 0), (2, 174)]) rfl ?_
      refine Rn_getR rfl (⟨rfl, (by omega : (0 : Int) ≤ 161), (by omega : (161 : Int) < K)⟩) (hr 150 _ rfl) (by decide) ?_
      refine Rn_pure 1 (i' := 56) (L' := [some (2, 161), some (0, l1), some (0, l2), some (0, l3), some (0, 0), none, none, none, none]) (st' := [(0, 0), (2, 175), (0, 0), (2, 174)]) rfl ?_
      refine Rn_callV [(2, 174), (0, 0), (2, 175), (0, 0)] [] rfl rfl rfl rfl (rfl) ?_
      refine h.mono (fun g2 r' h => ?_)
      obtain ⟨hx, h⟩ := h
      replace hx := hx.symm
      subst hx
      refine Rn_pure 1 (i' := 58) (L' := [some (2, 161), some (0, l1), some (0, l2), some (0, l3), some (0, 0), none, none, none, none]) (st' := [(2, 161)]) rfl ?_
      refine Rn_callI [(2, 161)] [] rfl rfl rfl rfl (ab_rvB_of rfl (⟨rfl, (by omega : (0 : Int) ≤ 161), (by omega : (161 : Int) < K)⟩)) ?_
      refine h.mono (fun x4 g' r' h => ?_)
      obtain ⟨hx, h⟩ := h
      replace hx := hx.symm
      subst hx
      obtain ⟨hx, h⟩ := h
      replace hx := hx.symm
      subst hx
      refine Rn_pure 3 (i' := 62) (L' := [some (2, 161), some (0, l1), some (0, l2), some (0, l3), some (0, 0), some (0, x4), none, none, none]) (st' := [(0, 0), (2, 161)]) rfl ?_
      refine Rn_putI rfl (⟨rfl, (by omega : (0 : Int) ≤ 161), (by omega : (161 : Int) < K)⟩) (fun g5 he_g5 => ?_)
      have h := h g5 he_g5
      refine Rn_pure 2 (i' := 65) (L' := [some (2, 161), some (0, l1), some (0, l2), some (0, l3), some (0, 0), some (0, x4), some (0, 0), none, none]) (st' := []) rfl ?_
      refine Rn_weak (L' := [some (2, 161), none, some (0, l2), some (0, l3), none, some (0, x4), some (0, 0), none, none]) ⟨rfl, ⟨rfl, ⟨rfl, ⟨rfl, ⟨rfl, trivial⟩⟩⟩⟩⟩ ?_
      exact h
    · have h := h.2 hc
      refine Rn_pure 1 (i' := 44) (L' := [some (2, 161), some (0, l1), some (0, l2), some (0, l3), some (0, 0), none, none, none, none]) (st' := [(2, 161), (2, 161)]) rfl ?_
      refine Rn_getR rfl (⟨rfl, (by omega : (0 : Int) ≤ 161), (by omega : (161 : Int) < K)⟩) (hr 138 _ rfl) (by decide) ?_
      refine Rn_pure 1 (i' := 46) (L' := [some (2, 161), some (0, l1), some (0, l2), some (0, l3), some (0, 0), none, none, none, none]) (st' := [(0, 4), (2, 163), (2, 161)]) rfl ?_
      obtain ⟨hg, h⟩ := h
      refine Rn_iald rfl (⟨rfl, (by omega : (0 : Int) ≤ 163), (by omega : (163 : Int) < K)⟩) hg ?_
      refine Rn_pure 1 (i' := 49) (L' := [some (2, 161), some (0, l1), some (0, l2), some (0, l3), some (0, 0), none, none, none, none]) (st' := [(0, g 163 4), (2, 161)]) rfl ?_
      refine Rn_putI rfl (⟨rfl, (by omega : (0 : Int) ≤ 161), (by omega : (161 : Int) < K)⟩) (fun g6 he_g6 => ?_)
      have h := h g6 he_g6
      refine Rn_pure 1 (i' := 51) (L' := [some (2, 161), some (0, l1), some (0, l2), some (0, l3), some (0, 0), none, none, none, none]) (st' := [(2, 161)]) rfl ?_
      refine Rn_getR rfl (⟨rfl, (by omega : (0 : Int) ≤ 161), (by omega : (161 : Int) < K)⟩) (hr 149 _ rfl) (by decide) ?_
      refine Rn_pure 2 (i' := 54) (L' := [some (2, 161), some (0, l1), some (0, l2), some (0, l3), some (0, 0), none, none, none, none]) (st' := [(2, 161), (0, 0), (2, 174)]) rfl ?_
      refine Rn_getR rfl (⟨rfl, (by omega : (0 : Int) ≤ 161), (by omega : (161 : Int) < K)⟩) (hr 150 _ rfl) (by decide) ?_
      refine Rn_pure 1 (i' := 56) (L' := [some (2, 161), some (0, l1), some (0, l2), some (0, l3), some (0, 0), none, none, none, none]) (st' := [(0, 0), (2, 175), (0, 0), (2, 174)]) rfl ?_
      refine Rn_callV [(2, 174), (0, 0), (2, 175), (0, 0)] [] rfl rfl rfl rfl (rfl) ?_
      refine h.mono (fun g7 r' h => ?_)
      obtain ⟨hx, h⟩ := h
      replace hx := hx.symm
      subst hx
      refine Rn_pure 1 (i' := 58) (L' := [some (2, 161), some (0, l1), some (0, l2), some (0, l3), some (0, 0), none, none, none, none]) (st' := [(2, 161)]) rfl ?_
      refine Rn_callI [(2, 161)] [] rfl rfl rfl rfl (ab_rvB_of rfl (⟨rfl, (by omega : (0 : Int) ≤ 161), (by omega : (161 : Int) < K)⟩)) ?_
      refine h.mono (fun x9 g' r' h => ?_)
      obtain ⟨hx, h⟩ := h
      replace hx := hx.symm
      subst hx
      obtain ⟨hx, h⟩ := h
      replace hx := hx.symm
      subst hx
      refine Rn_pure 3 (i' := 62) (L' := [some (2, 161), some (0, l1), some (0, l2), some (0, l3), some (0, 0), some (0, x9), none, none, none]) (st' := [(0, 0), (2, 161)]) rfl ?_
      refine Rn_putI rfl (⟨rfl, (by omega : (0 : Int) ≤ 161), (by omega : (161 : Int) < K)⟩) (fun g10 he_g10 => ?_)
      have h := h g10 he_g10
      refine Rn_pure 2 (i' := 65) (L' := [some (2, 161), some (0, l1), some (0, l2), some (0, l3), some (0, 0), some (0, x9), some (0, 0), none, none]) (st' := []) rfl ?_
      refine Rn_weak (L' := [some (2, 161), none, some (0, l2), some (0, l3), none, some (0, x9), some (0, 0), none, none]) ⟨rfl, ⟨rfl, ⟨rfl, ⟨rfl, ⟨rfl, trivial⟩⟩⟩⟩⟩ ?_
      exact h
  · have h := h.2 hc
    refine Rn_pure 2 (i' := 34) (L' := [some (2, 161), some (0, l1), some (0, l2), some (0, l3), some (0, 0), none, none, none, none]) (st' := [(0, 1), (0, l3)]) rfl ?_
    refine Rn_icne rfl (fun hc => ?_) (fun hc => ?_)
    · have h := h.1 hc
      refine Rn_pure 1 (i' := 38) (L' := [some (2, 161), some (0, l1), some (0, l2), some (0, l3), some (0, 0), none, none, none, none]) (st' := [(0, (-1))]) rfl ?_
      exact Rn_ret1 rfl h
    · have h := h.2 hc
      refine Rn_pure 2 (i' := 38) (L' := [some (2, 161), some (0, l1), some (0, l2), some (0, l3), some (0, 0), none, none, none, none]) (st' := [(0, (-2147483648))]) rfl ?_
      exact Rn_ret1 rfl h
theorem v_M_chance_65 {K : Int} {S : Nat} {g r : ab_H} {l2 l3 l5 l6 : Int} (P : Int → ab_H → ab_H → Prop) (hr : SI r) (hK : 185 ≤ K) (h : ((wr l2 ≤ wr l6 → ab_RV m_M_replaysAll [(2, 161)] K S g r (fun g1 r' => r' = r ∧ (ab_Rn m_M_chance 107 [some (2, 161), none, none, some (0, l3), none, none, some (0, 0), some (0, l5), none] [] (K, S, g1, r) (ab_Qi K S P)))) ∧ (wr l6 < wr l2 → ab_RI m_M_draw [(2, 161), (0, 5)] K S g r (fun x4 g3 r' => r' = r ∧ (ab_RI m_M_accounts [(2, 161)] K S g3 r (fun x5 g' r' => g' = g3 ∧ r' = r ∧ (ab_RI m_M_draw [(2, 161), (0, x5)] K S g3 r (fun x7 g6 r' => r' = r ∧ (ab_RI m_M_latestTime [(2, 161)] K S g6 r (fun x8 g' r' => g' = g6 ∧ r' = r ∧ (ab_RV m_M_comes [(2, 161), (0, x4), (0, x7), (0, (-2)), (0, x8), (0, 3)] K S g6 r (fun g9 r' => r' = r ∧ (ab_RI m_M_many [(2, 161)] K S g9 r (fun x11 g' r' => g' = g9 ∧ r' = r ∧ (ab_RI m_M_draw [(2, 161), (0, 1000)] K S g9 r (fun x13 g12 r' => r' = r ∧ (((0 : Int) ≤ 9 * (x11 - 1) + 5 ∧ (9 * (x11 - 1) + 5 : Int) < 1607) ∧ ∀ g14, g14 = ab_up g12 174 (9 * (x11 - 1) + 5) x13 → ab_Rn m_M_chance 65 [some (2, 161), none, some (0, l2), some (0, l3), none, some (0, l5), some (0, l6 + 1), none, none] [] (K, S, g14, r) (ab_Qi K S P)))))))))))))))))) : ab_Rn m_M_chance 65 [some (2, 161), none, some (0, l2), some (0, l3), none, some (0, l5), some (0, l6), none, none] [] (K, S, g, r) (ab_Qi K S P) := by
  refine Rn_pure 2 (i' := 67) (L' := [some (2, 161), none, some (0, l2), some (0, l3), none, some (0, l5), some (0, l6), none, none]) (st' := [(0, l2), (0, l6)]) rfl ?_
  refine Rn_icge rfl (fun hc => ?_) (fun hc => ?_)
  · have h := h.1 hc
    refine Rn_pure 1 (i' := 102) (L' := [some (2, 161), none, some (0, l2), some (0, l3), none, some (0, l5), some (0, l6), none, none]) (st' := [(2, 161)]) rfl ?_
    refine Rn_callV [(2, 161)] [] rfl rfl rfl rfl (ab_rvB_of rfl (⟨rfl, (by omega : (0 : Int) ≤ 161), (by omega : (161 : Int) < K)⟩)) ?_
    refine h.mono (fun g1 r' h => ?_)
    obtain ⟨hx, h⟩ := h
    replace hx := hx.symm
    subst hx
    refine Rn_pure 4 (i' := 107) (L' := [some (2, 161), none, some (0, l2), some (0, l3), none, some (0, l5), some (0, 0), some (0, l5), none]) (st' := []) rfl ?_
    refine Rn_weak (L' := [some (2, 161), none, none, some (0, l3), none, none, some (0, 0), some (0, l5), none]) ⟨rfl, ⟨rfl, ⟨rfl, ⟨rfl, trivial⟩⟩⟩⟩ ?_
    exact h
  · have h := h.2 hc
    refine Rn_pure 2 (i' := 70) (L' := [some (2, 161), none, some (0, l2), some (0, l3), none, some (0, l5), some (0, l6), none, none]) (st' := [(0, 5), (2, 161)]) rfl ?_
    refine Rn_callI [(2, 161), (0, 5)] [] rfl rfl rfl rfl (ab_rvB_of rfl (⟨rfl, (by omega : (0 : Int) ≤ 161), (by omega : (161 : Int) < K)⟩)) ?_
    refine h.mono (fun x4 g3 r' h => ?_)
    obtain ⟨hx, h⟩ := h
    replace hx := hx.symm
    subst hx
    refine Rn_pure 3 (i' := 74) (L' := [some (2, 161), none, some (0, l2), some (0, l3), none, some (0, l5), some (0, l6), some (0, x4), none]) (st' := [(2, 161), (2, 161)]) rfl ?_
    refine Rn_callI [(2, 161)] [(2, 161)] rfl rfl rfl rfl (ab_rvB_of rfl (⟨rfl, (by omega : (0 : Int) ≤ 161), (by omega : (161 : Int) < K)⟩)) ?_
    refine h.mono (fun x5 g' r' h => ?_)
    obtain ⟨hx, h⟩ := h
    replace hx := hx.symm
    subst hx
    obtain ⟨hx, h⟩ := h
    replace hx := hx.symm
    subst hx
    refine Rn_callI [(2, 161), (0, x5)] [] rfl rfl rfl rfl (ab_rvB_of rfl (⟨rfl, (by omega : (0 : Int) ≤ 161), (by omega : (161 : Int) < K)⟩)) ?_
    refine h.mono (fun x7 g6 r' h => ?_)
    obtain ⟨hx, h⟩ := h
    replace hx := hx.symm
    subst hx
    refine Rn_pure 6 (i' := 82) (L' := [some (2, 161), none, some (0, l2), some (0, l3), none, some (0, l5), some (0, l6), some (0, x4), some (0, x7)]) (st' := [(2, 161), (0, (-2)), (0, x7), (0, x4), (2, 161)]) rfl ?_
    refine Rn_callI [(2, 161)] [(0, (-2)), (0, x7), (0, x4), (2, 161)] rfl rfl rfl rfl (ab_rvB_of rfl (⟨rfl, (by omega : (0 : Int) ≤ 161), (by omega : (161 : Int) < K)⟩)) ?_
    refine h.mono (fun x8 g' r' h => ?_)
    obtain ⟨hx, h⟩ := h
    replace hx := hx.symm
    subst hx
    obtain ⟨hx, h⟩ := h
    replace hx := hx.symm
    subst hx
    refine Rn_pure 1 (i' := 84) (L' := [some (2, 161), none, some (0, l2), some (0, l3), none, some (0, l5), some (0, l6), some (0, x4), some (0, x7)]) (st' := [(0, 3), (0, x8), (0, (-2)), (0, x7), (0, x4), (2, 161)]) rfl ?_
    refine Rn_callV [(2, 161), (0, x4), (0, x7), (0, (-2)), (0, x8), (0, 3)] [] rfl rfl rfl rfl (ab_rvB_of rfl (⟨rfl, (by omega : (0 : Int) ≤ 161), (by omega : (161 : Int) < K)⟩)) ?_
    refine h.mono (fun g9 r' h => ?_)
    obtain ⟨hx, h⟩ := h
    replace hx := hx.symm
    subst hx
    refine Rn_pure 1 (i' := 86) (L' := [some (2, 161), none, some (0, l2), some (0, l3), none, some (0, l5), some (0, l6), some (0, x4), some (0, x7)]) (st' := [(2, 161)]) rfl ?_
    refine Rn_getR rfl (⟨rfl, (by omega : (0 : Int) ≤ 161), (by omega : (161 : Int) < K)⟩) (hr 149 _ rfl) (by decide) ?_
    refine Rn_pure 2 (i' := 89) (L' := [some (2, 161), none, some (0, l2), some (0, l3), none, some (0, l5), some (0, l6), some (0, x4), some (0, x7)]) (st' := [(2, 161), (0, 9), (2, 174)]) rfl ?_
    refine Rn_callI [(2, 161)] [(0, 9), (2, 174)] rfl rfl rfl rfl (ab_rvB_of rfl (⟨rfl, (by omega : (0 : Int) ≤ 161), (by omega : (161 : Int) < K)⟩)) ?_
    refine h.mono (fun x11 g' r' h => ?_)
    obtain ⟨hx, h⟩ := h
    replace hx := hx.symm
    subst hx
    obtain ⟨hx, h⟩ := h
    replace hx := hx.symm
    subst hx
    refine Rn_pure 7 (i' := 97) (L' := [some (2, 161), none, some (0, l2), some (0, l3), none, some (0, l5), some (0, l6), some (0, x4), some (0, x7)]) (st' := [(0, 1000), (2, 161), (0, 9 * (x11 - 1) + 5), (2, 174)]) rfl ?_
    refine Rn_callI [(2, 161), (0, 1000)] [(0, 9 * (x11 - 1) + 5), (2, 174)] rfl rfl rfl rfl (ab_rvB_of rfl (⟨rfl, (by omega : (0 : Int) ≤ 161), (by omega : (161 : Int) < K)⟩)) ?_
    refine h.mono (fun x13 g12 r' h => ?_)
    obtain ⟨hx, h⟩ := h
    replace hx := hx.symm
    subst hx
    obtain ⟨hg, h⟩ := h
    refine Rn_iast rfl (⟨rfl, (by omega : (0 : Int) ≤ 174), (by omega : (174 : Int) < K)⟩) hg (fun g14 he_g14 => ?_)
    have h := h g14 he_g14
    refine Rn_pure 2 (i' := 65) (L' := [some (2, 161), none, some (0, l2), some (0, l3), none, some (0, l5), some (0, l6 + 1), some (0, x4), some (0, x7)]) (st' := []) rfl ?_
    refine Rn_weak (L' := [some (2, 161), none, some (0, l2), some (0, l3), none, some (0, l5), some (0, l6 + 1), none, none]) ⟨rfl, ⟨rfl, ⟨rfl, ⟨rfl, ⟨rfl, trivial⟩⟩⟩⟩⟩ ?_
    exact h
theorem v_M_chance_107 {K : Int} {S : Nat} {g r : ab_H} {l3 l6 l7 : Int} (P : Int → ab_H → ab_H → Prop) (hr : SI r) (hK : 185 ≤ K) (h : ab_RI m_M_many [(2, 161)] K S g r (fun x1 g' r' => g' = g ∧ r' = r ∧ (((wr x1 ≤ wr l7 → ((¬ wr l3 = wr 0 → ((¬ wr l3 = wr 1 → ab_RV m_M_copies [(2, 175), (0, 0), (2, 174), (0, 0)] K S g r (fun g2 r' => r' = r ∧ (P (g 161 32) g2 r))) ∧ (wr l3 = wr 1 → ab_RI m_M_balances [(2, 161)] K S g r (fun x4 g' r' => g' = g ∧ r' = r ∧ (ab_RV m_M_copies [(2, 175), (0, 0), (2, 174), (0, 0)] K S g r (fun g5 r' => r' = r ∧ (P x4 g5 r))))))) ∧ (wr l3 = wr 0 → ab_RV m_M_copies [(2, 175), (0, 0), (2, 174), (0, 0)] K S g r (fun g7 r' => r' = r ∧ (P l6 g7 r))))) ∧ (wr l7 < wr x1 → ((0 : Int) ≤ l7 ∧ (l7 : Int) < 120) ∧ ((wr (g 183 l7) = wr 0 → ab_Rn m_M_chance 107 [some (2, 161), none, none, some (0, l3), none, none, some (0, l6 + 0), some (0, l7 + 1), none] [] (K, S, g, r) (ab_Qi K S P)) ∧ (¬ wr (g 183 l7) = wr 0 → ab_Rn m_M_chance 107 [some (2, 161), none, none, some (0, l3), none, none, some (0, l6 + 1), some (0, l7 + 1), none] [] (K, S, g, r) (ab_Qi K S P)))))))) : ab_Rn m_M_chance 107 [some (2, 161), none, none, some (0, l3), none, none, some (0, l6), some (0, l7), none] [] (K, S, g, r) (ab_Qi K S P) := by
  refine Rn_pure 2 (i' := 109) (L' := [some (2, 161), none, none, some (0, l3), none, none, some (0, l6), some (0, l7), none]) (st' := [(2, 161), (0, l7)]) rfl ?_
  refine Rn_callI [(2, 161)] [(0, l7)] rfl rfl rfl rfl (ab_rvB_of rfl (⟨rfl, (by omega : (0 : Int) ≤ 161), (by omega : (161 : Int) < K)⟩)) ?_
  refine h.mono (fun x1 g' r' h => ?_)
  obtain ⟨hx, h⟩ := h
  replace hx := hx.symm
  subst hx
  obtain ⟨hx, h⟩ := h
  replace hx := hx.symm
  subst hx
  refine Rn_icge rfl (fun hc => ?_) (fun hc => ?_)
  · have h := h.1 hc
    refine Rn_pure 1 (i' := 125) (L' := [some (2, 161), none, none, some (0, l3), none, none, some (0, l6), some (0, l7), none]) (st' := [(0, l3)]) rfl ?_
    refine Rn_ifne rfl (fun hc => ?_) (fun hc => ?_)
    · have h := h.1 hc
      refine Rn_pure 2 (i' := 130) (L' := [some (2, 161), none, none, some (0, l3), none, none, some (0, l6), some (0, l7), none]) (st' := [(0, 1), (0, l3)]) rfl ?_
      refine Rn_icne rfl (fun hc => ?_) (fun hc => ?_)
      · have h := h.1 hc
        refine Rn_pure 1 (i' := 135) (L' := [some (2, 161), none, none, some (0, l3), none, none, some (0, l6), some (0, l7), none]) (st' := [(2, 161)]) rfl ?_
        refine Rn_getI rfl (⟨rfl, (by omega : (0 : Int) ≤ 161), (by omega : (161 : Int) < K)⟩) ?_
        refine Rn_pure 2 (i' := 138) (L' := [some (2, 161), none, none, some (0, l3), none, none, some (0, l6), some (0, g 161 32), none]) (st' := [(2, 161)]) rfl ?_
        refine Rn_getR rfl (⟨rfl, (by omega : (0 : Int) ≤ 161), (by omega : (161 : Int) < K)⟩) (hr 150 _ rfl) (by decide) ?_
        refine Rn_pure 2 (i' := 141) (L' := [some (2, 161), none, none, some (0, l3), none, none, some (0, l6), some (0, g 161 32), none]) (st' := [(2, 161), (0, 0), (2, 175)]) rfl ?_
        refine Rn_getR rfl (⟨rfl, (by omega : (0 : Int) ≤ 161), (by omega : (161 : Int) < K)⟩) (hr 149 _ rfl) (by decide) ?_
        refine Rn_pure 1 (i' := 143) (L' := [some (2, 161), none, none, some (0, l3), none, none, some (0, l6), some (0, g 161 32), none]) (st' := [(0, 0), (2, 174), (0, 0), (2, 175)]) rfl ?_
        refine Rn_callV [(2, 175), (0, 0), (2, 174), (0, 0)] [] rfl rfl rfl rfl (rfl) ?_
        refine h.mono (fun g2 r' h => ?_)
        obtain ⟨hx, h⟩ := h
        replace hx := hx.symm
        subst hx
        refine Rn_pure 1 (i' := 145) (L' := [some (2, 161), none, none, some (0, l3), none, none, some (0, l6), some (0, g 161 32), none]) (st' := [(0, g 161 32)]) rfl ?_
        exact Rn_ret1 rfl h
      · have h := h.2 hc
        refine Rn_pure 1 (i' := 132) (L' := [some (2, 161), none, none, some (0, l3), none, none, some (0, l6), some (0, l7), none]) (st' := [(2, 161)]) rfl ?_
        refine Rn_callI [(2, 161)] [] rfl rfl rfl rfl (ab_rvB_of rfl (⟨rfl, (by omega : (0 : Int) ≤ 161), (by omega : (161 : Int) < K)⟩)) ?_
        refine h.mono (fun x4 g' r' h => ?_)
        obtain ⟨hx, h⟩ := h
        replace hx := hx.symm
        subst hx
        obtain ⟨hx, h⟩ := h
        replace hx := hx.symm
        subst hx
        refine Rn_pure 3 (i' := 138) (L' := [some (2, 161), none, none, some (0, l3), none, none, some (0, l6), some (0, x4), none]) (st' := [(2, 161)]) rfl ?_
        refine Rn_getR rfl (⟨rfl, (by omega : (0 : Int) ≤ 161), (by omega : (161 : Int) < K)⟩) (hr 150 _ rfl) (by decide) ?_
        refine Rn_pure 2 (i' := 141) (L' := [some (2, 161), none, none, some (0, l3), none, none, some (0, l6), some (0, x4), none]) (st' := [(2, 161), (0, 0), (2, 175)]) rfl ?_
        refine Rn_getR rfl (⟨rfl, (by omega : (0 : Int) ≤ 161), (by omega : (161 : Int) < K)⟩) (hr 149 _ rfl) (by decide) ?_
        refine Rn_pure 1 (i' := 143) (L' := [some (2, 161), none, none, some (0, l3), none, none, some (0, l6), some (0, x4), none]) (st' := [(0, 0), (2, 174), (0, 0), (2, 175)]) rfl ?_
        refine Rn_callV [(2, 175), (0, 0), (2, 174), (0, 0)] [] rfl rfl rfl rfl (rfl) ?_
        refine h.mono (fun g5 r' h => ?_)
        obtain ⟨hx, h⟩ := h
        replace hx := hx.symm
        subst hx
        refine Rn_pure 1 (i' := 145) (L' := [some (2, 161), none, none, some (0, l3), none, none, some (0, l6), some (0, x4), none]) (st' := [(0, x4)]) rfl ?_
        exact Rn_ret1 rfl h
    · have h := h.2 hc
      refine Rn_pure 4 (i' := 138) (L' := [some (2, 161), none, none, some (0, l3), none, none, some (0, l6), some (0, l6), none]) (st' := [(2, 161)]) rfl ?_
      refine Rn_getR rfl (⟨rfl, (by omega : (0 : Int) ≤ 161), (by omega : (161 : Int) < K)⟩) (hr 150 _ rfl) (by decide) ?_
      refine Rn_pure 2 (i' := 141) (L' := [some (2, 161), none, none, some (0, l3), none, none, some (0, l6), some (0, l6), none]) (st' := [(2, 161), (0, 0), (2, 175)]) rfl ?_
      refine Rn_getR rfl (⟨rfl, (by omega : (0 : Int) ≤ 161), (by omega : (161 : Int) < K)⟩) (hr 149 _ rfl) (by decide) ?_
      refine Rn_pure 1 (i' := 143) (L' := [some (2, 161), none, none, some (0, l3), none, none, some (0, l6), some (0, l6), none]) (st' := [(0, 0), (2, 174), (0, 0), (2, 175)]) rfl ?_
      refine Rn_callV [(2, 175), (0, 0), (2, 174), (0, 0)] [] rfl rfl rfl rfl (rfl) ?_
      refine h.mono (fun g7 r' h => ?_)
      obtain ⟨hx, h⟩ := h
      replace hx := hx.symm
      subst hx
      refine Rn_pure 1 (i' := 145) (L' := [some (2, 161), none, none, some (0, l3), none, none, some (0, l6), some (0, l6), none]) (st' := [(0, l6)]) rfl ?_
      exact Rn_ret1 rfl h
  · have h := h.2 hc
    refine Rn_pure 2 (i' := 113) (L' := [some (2, 161), none, none, some (0, l3), none, none, some (0, l6), some (0, l7), none]) (st' := [(2, 161), (0, l6)]) rfl ?_
    refine Rn_getR rfl (⟨rfl, (by omega : (0 : Int) ≤ 161), (by omega : (161 : Int) < K)⟩) (hr 158 _ rfl) (by decide) ?_
    refine Rn_pure 1 (i' := 115) (L' := [some (2, 161), none, none, some (0, l3), none, none, some (0, l6), some (0, l7), none]) (st' := [(0, l7), (2, 183), (0, l6)]) rfl ?_
    obtain ⟨hg, h⟩ := h
    refine Rn_iald rfl (⟨rfl, (by omega : (0 : Int) ≤ 183), (by omega : (183 : Int) < K)⟩) hg ?_
    refine Rn_ifeq rfl (fun hc => ?_) (fun hc => ?_)
    · have h := h.1 hc
      refine Rn_pure 5 (i' := 107) (L' := [some (2, 161), none, none, some (0, l3), none, none, some (0, l6 + 0), some (0, l7 + 1), none]) (st' := []) rfl ?_
      exact h
    · have h := h.2 hc
      refine Rn_pure 6 (i' := 107) (L' := [some (2, 161), none, none, some (0, l3), none, none, some (0, l6 + 1), some (0, l7 + 1), none]) (st' := []) rfl ?_
      exact h
-- EventLedgerModel.voidedMany ()I
theorem v_M_voidedMany {K : Int} {S : Nat} {g r : ab_H} (P : Int → ab_H → ab_H → Prop) (hr : SI r) (hK : 185 ≤ K) (h : ab_Rn m_M_voidedMany 4 [some (2, 161), some (0, 0), some (0, 0)] [] (K, S, g, r) (ab_Qi K S P)) : ab_RI m_M_voidedMany [(2, 161)] K S g r P := by
  show ab_Rn m_M_voidedMany 0 [some (2, 161), none, none] [] (K, S, g, r) (ab_Qi K S P)
  refine Rn_pure 4 (i' := 4) (L' := [some (2, 161), some (0, 0), some (0, 0)]) (st' := []) rfl ?_
  exact h
theorem v_M_voidedMany_4 {K : Int} {S : Nat} {g r : ab_H} {l1 l2 : Int} (P : Int → ab_H → ab_H → Prop) (hr : SI r) (hK : 185 ≤ K) (h : ab_RI m_M_many [(2, 161)] K S g r (fun x1 g' r' => g' = g ∧ r' = r ∧ (((wr x1 ≤ wr l2 → P l1 g r) ∧ (wr l2 < wr x1 → ab_RI m_M_isVoided [(2, 161), (0, l2)] K S g r (fun x2 g' r' => g' = g ∧ r' = r ∧ (((wr x2 = wr 0 → ab_Rn m_M_voidedMany 4 [some (2, 161), some (0, l1 + 0), some (0, l2 + 1)] [] (K, S, g, r) (ab_Qi K S P)) ∧ (¬ wr x2 = wr 0 → ab_Rn m_M_voidedMany 4 [some (2, 161), some (0, l1 + 1), some (0, l2 + 1)] [] (K, S, g, r) (ab_Qi K S P)))))))))) : ab_Rn m_M_voidedMany 4 [some (2, 161), some (0, l1), some (0, l2)] [] (K, S, g, r) (ab_Qi K S P) := by
  refine Rn_pure 2 (i' := 6) (L' := [some (2, 161), some (0, l1), some (0, l2)]) (st' := [(2, 161), (0, l2)]) rfl ?_
  refine Rn_callI [(2, 161)] [(0, l2)] rfl rfl rfl rfl (ab_rvB_of rfl (⟨rfl, (by omega : (0 : Int) ≤ 161), (by omega : (161 : Int) < K)⟩)) ?_
  refine h.mono (fun x1 g' r' h => ?_)
  obtain ⟨hx, h⟩ := h
  replace hx := hx.symm
  subst hx
  obtain ⟨hx, h⟩ := h
  replace hx := hx.symm
  subst hx
  refine Rn_icge rfl (fun hc => ?_) (fun hc => ?_)
  · have h := h.1 hc
    refine Rn_pure 1 (i' := 21) (L' := [some (2, 161), some (0, l1), some (0, l2)]) (st' := [(0, l1)]) rfl ?_
    exact Rn_ret1 rfl h
  · have h := h.2 hc
    refine Rn_pure 3 (i' := 11) (L' := [some (2, 161), some (0, l1), some (0, l2)]) (st' := [(0, l2), (2, 161), (0, l1)]) rfl ?_
    refine Rn_callI [(2, 161), (0, l2)] [(0, l1)] rfl rfl rfl rfl (ab_rvB_of rfl (⟨rfl, (by omega : (0 : Int) ≤ 161), (by omega : (161 : Int) < K)⟩)) ?_
    refine h.mono (fun x2 g' r' h => ?_)
    obtain ⟨hx, h⟩ := h
    replace hx := hx.symm
    subst hx
    obtain ⟨hx, h⟩ := h
    replace hx := hx.symm
    subst hx
    refine Rn_ifeq rfl (fun hc => ?_) (fun hc => ?_)
    · have h := h.1 hc
      refine Rn_pure 5 (i' := 4) (L' := [some (2, 161), some (0, l1 + 0), some (0, l2 + 1)]) (st' := []) rfl ?_
      exact h
    · have h := h.2 hc
      refine Rn_pure 6 (i' := 4) (L' := [some (2, 161), some (0, l1 + 1), some (0, l2 + 1)]) (st' := []) rfl ?_
      exact h
-- EventLedgerModel.openMany ()I
theorem v_M_openMany {K : Int} {S : Nat} {g r : ab_H} (P : Int → ab_H → ab_H → Prop) (hr : SI r) (hK : 185 ≤ K) (h : ab_RV m_M_replaysAll [(2, 161)] K S g r (fun g1 r' => r' = r ∧ (ab_Rn m_M_openMany 6 [some (2, 161), some (0, 0), some (0, 0)] [] (K, S, g1, r) (ab_Qi K S P)))) : ab_RI m_M_openMany [(2, 161)] K S g r P := by
  show ab_Rn m_M_openMany 0 [some (2, 161), none, none] [] (K, S, g, r) (ab_Qi K S P)
  refine Rn_pure 1 (i' := 1) (L' := [some (2, 161), none, none]) (st' := [(2, 161)]) rfl ?_
  refine Rn_callV [(2, 161)] [] rfl rfl rfl rfl (ab_rvB_of rfl (⟨rfl, (by omega : (0 : Int) ≤ 161), (by omega : (161 : Int) < K)⟩)) ?_
  refine h.mono (fun g1 r' h => ?_)
  obtain ⟨hx, h⟩ := h
  replace hx := hx.symm
  subst hx
  refine Rn_pure 4 (i' := 6) (L' := [some (2, 161), some (0, 0), some (0, 0)]) (st' := []) rfl ?_
  exact h
theorem v_M_openMany_6 {K : Int} {S : Nat} {g r : ab_H} {l1 l2 : Int} (P : Int → ab_H → ab_H → Prop) (hr : SI r) (hK : 185 ≤ K) (h : ab_RI m_M_accounts [(2, 161)] K S g r (fun x1 g' r' => g' = g ∧ r' = r ∧ (((wr x1 ≤ wr l2 → P l1 g r) ∧ (wr l2 < wr x1 → ((0 : Int) ≤ l2 ∧ (l2 : Int) < 8) ∧ ((wr (g 182 l2) = wr 0 → ab_Rn m_M_openMany 6 [some (2, 161), some (0, l1 + 0), some (0, l2 + 1)] [] (K, S, g, r) (ab_Qi K S P)) ∧ (¬ wr (g 182 l2) = wr 0 → ab_Rn m_M_openMany 6 [some (2, 161), some (0, l1 + 1), some (0, l2 + 1)] [] (K, S, g, r) (ab_Qi K S P)))))))) : ab_Rn m_M_openMany 6 [some (2, 161), some (0, l1), some (0, l2)] [] (K, S, g, r) (ab_Qi K S P) := by
  refine Rn_pure 2 (i' := 8) (L' := [some (2, 161), some (0, l1), some (0, l2)]) (st' := [(2, 161), (0, l2)]) rfl ?_
  refine Rn_callI [(2, 161)] [(0, l2)] rfl rfl rfl rfl (ab_rvB_of rfl (⟨rfl, (by omega : (0 : Int) ≤ 161), (by omega : (161 : Int) < K)⟩)) ?_
  refine h.mono (fun x1 g' r' h => ?_)
  obtain ⟨hx, h⟩ := h
  replace hx := hx.symm
  subst hx
  obtain ⟨hx, h⟩ := h
  replace hx := hx.symm
  subst hx
  refine Rn_icge rfl (fun hc => ?_) (fun hc => ?_)
  · have h := h.1 hc
    refine Rn_pure 1 (i' := 24) (L' := [some (2, 161), some (0, l1), some (0, l2)]) (st' := [(0, l1)]) rfl ?_
    exact Rn_ret1 rfl h
  · have h := h.2 hc
    refine Rn_pure 2 (i' := 12) (L' := [some (2, 161), some (0, l1), some (0, l2)]) (st' := [(2, 161), (0, l1)]) rfl ?_
    refine Rn_getR rfl (⟨rfl, (by omega : (0 : Int) ≤ 161), (by omega : (161 : Int) < K)⟩) (hr 157 _ rfl) (by decide) ?_
    refine Rn_pure 1 (i' := 14) (L' := [some (2, 161), some (0, l1), some (0, l2)]) (st' := [(0, l2), (2, 182), (0, l1)]) rfl ?_
    obtain ⟨hg, h⟩ := h
    refine Rn_zald rfl (⟨rfl, (by omega : (0 : Int) ≤ 182), (by omega : (182 : Int) < K)⟩) hg ?_
    refine Rn_ifeq rfl (fun hc => ?_) (fun hc => ?_)
    · have h := h.1 hc
      refine Rn_pure 5 (i' := 6) (L' := [some (2, 161), some (0, l1 + 0), some (0, l2 + 1)]) (st' := []) rfl ?_
      exact h
    · have h := h.2 hc
      refine Rn_pure 6 (i' := 6) (L' := [some (2, 161), some (0, l1 + 1), some (0, l2 + 1)]) (st' := []) rfl ?_
      exact h
-- EventLedgerModel.asideMany ()I
theorem v_M_asideMany {K : Int} {S : Nat} {g r : ab_H} (P : Int → ab_H → ab_H → Prop) (hr : SI r) (hK : 185 ≤ K) (h : ab_RV m_M_replaysAll [(2, 161)] K S g r (fun g1 r' => r' = r ∧ (ab_RI m_M_asidesNow [(2, 161)] K S g1 r (fun x3 g' r' => g' = g1 ∧ r' = r ∧ (P x3 g1 r))))) : ab_RI m_M_asideMany [(2, 161)] K S g r P := by
  show ab_Rn m_M_asideMany 0 [some (2, 161)] [] (K, S, g, r) (ab_Qi K S P)
  refine Rn_pure 1 (i' := 1) (L' := [some (2, 161)]) (st' := [(2, 161)]) rfl ?_
  refine Rn_callV [(2, 161)] [] rfl rfl rfl rfl (ab_rvB_of rfl (⟨rfl, (by omega : (0 : Int) ≤ 161), (by omega : (161 : Int) < K)⟩)) ?_
  refine h.mono (fun g1 r' h => ?_)
  obtain ⟨hx, h⟩ := h
  replace hx := hx.symm
  subst hx
  refine Rn_pure 1 (i' := 3) (L' := [some (2, 161)]) (st' := [(2, 161)]) rfl ?_
  refine Rn_callI [(2, 161)] [] rfl rfl rfl rfl (ab_rvB_of rfl (⟨rfl, (by omega : (0 : Int) ≤ 161), (by omega : (161 : Int) < K)⟩)) ?_
  refine h.mono (fun x3 g' r' h => ?_)
  obtain ⟨hx, h⟩ := h
  replace hx := hx.symm
  subst hx
  obtain ⟨hx, h⟩ := h
  replace hx := hx.symm
  subst hx
  exact Rn_ret1 rfl h
-- EventLedgerModel.count (I)I
theorem v_M_count {K : Int} {S : Nat} {g r : ab_H} {p1 : Int} (P : Int → ab_H → ab_H → Prop) (hr : SI r) (hK : 185 ≤ K) (h : ∀ g1, g1 = ab_up g 161 0 0 → ((wr p1 = 0 → ab_RI m_M_accounts [(2, 161)] K S g1 r (fun x2 g' r' => g' = g1 ∧ r' = r ∧ (P x2 g1 r))) ∧ (wr p1 = 1 → ab_RI m_M_many [(2, 161)] K S g1 r (fun x3 g' r' => g' = g1 ∧ r' = r ∧ (P x3 g1 r))) ∧ (wr p1 = 2 → ab_RI m_M_tallies [(2, 161)] K S g1 r (fun x4 g' r' => g' = g1 ∧ r' = r ∧ (P x4 g1 r))) ∧ (wr p1 = 3 → ((0 : Int) ≤ 1081 ∧ (1081 : Int) < 1607) ∧ P (g1 174 1081) g1 r) ∧ (wr p1 = 4 → ab_RI m_M_asideMany [(2, 161)] K S g1 r (fun x6 g5 r' => r' = r ∧ (P x6 g5 r))) ∧ (wr p1 = 5 → ab_RI m_M_voidedMany [(2, 161)] K S g1 r (fun x7 g' r' => g' = g1 ∧ r' = r ∧ (P x7 g1 r))) ∧ (wr p1 = 6 → ab_RI m_M_many [(2, 161)] K S g1 r (fun x8 g' r' => g' = g1 ∧ r' = r ∧ (((¬ wr x8 = wr 0 → ab_RI m_M_latestTime [(2, 161)] K S g1 r (fun x9 g' r' => g' = g1 ∧ r' = r ∧ (P x9 g1 r))) ∧ (wr x8 = wr 0 → P (-2) g1 r))))) ∧ (wr p1 = 7 → ab_RI m_M_openMany [(2, 161)] K S g1 r (fun x11 g10 r' => r' = r ∧ (P x11 g10 r))) ∧ (wr p1 = 8 → ab_RI m_M_many [(2, 161)] K S g1 r (fun x12 g' r' => g' = g1 ∧ r' = r ∧ (ab_RI m_M_weights [(2, 161), (0, 0), (0, x12)] K S g1 r (fun x13 g' r' => g' = g1 ∧ r' = r ∧ (P x13 g1 r))))) ∧ (wr p1 = 9 → P (g1 161 30) g1 r) ∧ (wr p1 = 10 → P (g1 161 2) g1 r) ∧ (wr p1 = 11 → ((0 : Int) ≤ 1089 ∧ (1089 : Int) < 1607) ∧ P (g1 174 1089) g1 r) ∧ (wr p1 = 12 → ((0 : Int) ≤ 1090 ∧ (1090 : Int) < 1607) ∧ P (g1 174 1090) g1 r) ∧ (wr p1 < 0 ∨ 13 ≤ wr p1 → P (-1) g1 r))) : ab_RI m_M_count [(2, 161), (0, p1)] K S g r P := by
  show ab_Rn m_M_count 0 [some (2, 161), some (0, p1)] [] (K, S, g, r) (ab_Qi K S P)
  refine Rn_pure 2 (i' := 2) (L' := [some (2, 161), some (0, p1)]) (st' := [(0, 0), (2, 161)]) rfl ?_
  refine Rn_putI rfl (⟨rfl, (by omega : (0 : Int) ≤ 161), (by omega : (161 : Int) < K)⟩) (fun g1 he_g1 => ?_)
  have h := h g1 he_g1
  refine Rn_pure 1 (i' := 4) (L' := [some (2, 161), some (0, p1)]) (st' := [(0, p1)]) rfl ?_
  refine Rn_ts rfl ?_
  have ht5 : (wr p1 = 0) → ab_Rn m_M_count 5 [some (2, 161), some (0, p1)] [] (K, S, g1, r) (ab_Qi K S P) := by
    intro hc
    have h := h.1 hc
    refine Rn_pure 1 (i' := 6) (L' := [some (2, 161), some (0, p1)]) (st' := [(2, 161)]) rfl ?_
    refine Rn_callI [(2, 161)] [] rfl rfl rfl rfl (ab_rvB_of rfl (⟨rfl, (by omega : (0 : Int) ≤ 161), (by omega : (161 : Int) < K)⟩)) ?_
    refine h.mono (fun x2 g' r' h => ?_)
    obtain ⟨hx, h⟩ := h
    replace hx := hx.symm
    subst hx
    obtain ⟨hx, h⟩ := h
    replace hx := hx.symm
    subst hx
    exact Rn_ret1 rfl h
  have ht8 : (wr p1 = 1) → ab_Rn m_M_count 8 [some (2, 161), some (0, p1)] [] (K, S, g1, r) (ab_Qi K S P) := by
    intro hc
    have h := h.2.1 hc
    refine Rn_pure 1 (i' := 9) (L' := [some (2, 161), some (0, p1)]) (st' := [(2, 161)]) rfl ?_
    refine Rn_callI [(2, 161)] [] rfl rfl rfl rfl (ab_rvB_of rfl (⟨rfl, (by omega : (0 : Int) ≤ 161), (by omega : (161 : Int) < K)⟩)) ?_
    refine h.mono (fun x3 g' r' h => ?_)
    obtain ⟨hx, h⟩ := h
    replace hx := hx.symm
    subst hx
    obtain ⟨hx, h⟩ := h
    replace hx := hx.symm
    subst hx
    exact Rn_ret1 rfl h
  have ht11 : (wr p1 = 2) → ab_Rn m_M_count 11 [some (2, 161), some (0, p1)] [] (K, S, g1, r) (ab_Qi K S P) := by
    intro hc
    have h := h.2.2.1 hc
    refine Rn_pure 1 (i' := 12) (L' := [some (2, 161), some (0, p1)]) (st' := [(2, 161)]) rfl ?_
    refine Rn_callI [(2, 161)] [] rfl rfl rfl rfl (ab_rvB_of rfl (⟨rfl, (by omega : (0 : Int) ≤ 161), (by omega : (161 : Int) < K)⟩)) ?_
    refine h.mono (fun x4 g' r' h => ?_)
    obtain ⟨hx, h⟩ := h
    replace hx := hx.symm
    subst hx
    obtain ⟨hx, h⟩ := h
    replace hx := hx.symm
    subst hx
    exact Rn_ret1 rfl h
  have ht14 : (wr p1 = 3) → ab_Rn m_M_count 14 [some (2, 161), some (0, p1)] [] (K, S, g1, r) (ab_Qi K S P) := by
    intro hc
    have h := h.2.2.2.1 hc
    refine Rn_pure 1 (i' := 15) (L' := [some (2, 161), some (0, p1)]) (st' := [(2, 161)]) rfl ?_
    refine Rn_getR rfl (⟨rfl, (by omega : (0 : Int) ≤ 161), (by omega : (161 : Int) < K)⟩) (hr 149 _ rfl) (by decide) ?_
    refine Rn_pure 1 (i' := 17) (L' := [some (2, 161), some (0, p1)]) (st' := [(0, 1081), (2, 174)]) rfl ?_
    obtain ⟨hg, h⟩ := h
    refine Rn_iald rfl (⟨rfl, (by omega : (0 : Int) ≤ 174), (by omega : (174 : Int) < K)⟩) hg ?_
    exact Rn_ret1 rfl h
  have ht19 : (wr p1 = 4) → ab_Rn m_M_count 19 [some (2, 161), some (0, p1)] [] (K, S, g1, r) (ab_Qi K S P) := by
    intro hc
    have h := h.2.2.2.2.1 hc
    refine Rn_pure 1 (i' := 20) (L' := [some (2, 161), some (0, p1)]) (st' := [(2, 161)]) rfl ?_
    refine Rn_callI [(2, 161)] [] rfl rfl rfl rfl (ab_rvB_of rfl (⟨rfl, (by omega : (0 : Int) ≤ 161), (by omega : (161 : Int) < K)⟩)) ?_
    refine h.mono (fun x6 g5 r' h => ?_)
    obtain ⟨hx, h⟩ := h
    replace hx := hx.symm
    subst hx
    exact Rn_ret1 rfl h
  have ht22 : (wr p1 = 5) → ab_Rn m_M_count 22 [some (2, 161), some (0, p1)] [] (K, S, g1, r) (ab_Qi K S P) := by
    intro hc
    have h := h.2.2.2.2.2.1 hc
    refine Rn_pure 1 (i' := 23) (L' := [some (2, 161), some (0, p1)]) (st' := [(2, 161)]) rfl ?_
    refine Rn_callI [(2, 161)] [] rfl rfl rfl rfl (ab_rvB_of rfl (⟨rfl, (by omega : (0 : Int) ≤ 161), (by omega : (161 : Int) < K)⟩)) ?_
    refine h.mono (fun x7 g' r' h => ?_)
    obtain ⟨hx, h⟩ := h
    replace hx := hx.symm
    subst hx
    obtain ⟨hx, h⟩ := h
    replace hx := hx.symm
    subst hx
    exact Rn_ret1 rfl h
  have ht25 : (wr p1 = 6) → ab_Rn m_M_count 25 [some (2, 161), some (0, p1)] [] (K, S, g1, r) (ab_Qi K S P) := by
    intro hc
    have h := h.2.2.2.2.2.2.1 hc
    refine Rn_pure 1 (i' := 26) (L' := [some (2, 161), some (0, p1)]) (st' := [(2, 161)]) rfl ?_
    refine Rn_callI [(2, 161)] [] rfl rfl rfl rfl (ab_rvB_of rfl (⟨rfl, (by omega : (0 : Int) ≤ 161), (by omega : (161 : Int) < K)⟩)) ?_
    refine h.mono (fun x8 g' r' h => ?_)
    obtain ⟨hx, h⟩ := h
    replace hx := hx.symm
    subst hx
    obtain ⟨hx, h⟩ := h
    replace hx := hx.symm
    subst hx
    refine Rn_ifne rfl (fun hc => ?_) (fun hc => ?_)
    · have h := h.1 hc
      refine Rn_pure 1 (i' := 31) (L' := [some (2, 161), some (0, p1)]) (st' := [(2, 161)]) rfl ?_
      refine Rn_callI [(2, 161)] [] rfl rfl rfl rfl (ab_rvB_of rfl (⟨rfl, (by omega : (0 : Int) ≤ 161), (by omega : (161 : Int) < K)⟩)) ?_
      refine h.mono (fun x9 g' r' h => ?_)
      obtain ⟨hx, h⟩ := h
      replace hx := hx.symm
      subst hx
      obtain ⟨hx, h⟩ := h
      replace hx := hx.symm
      subst hx
      exact Rn_ret1 rfl h
    · have h := h.2 hc
      refine Rn_pure 2 (i' := 32) (L' := [some (2, 161), some (0, p1)]) (st' := [(0, (-2))]) rfl ?_
      exact Rn_ret1 rfl h
  have ht33 : (wr p1 = 7) → ab_Rn m_M_count 33 [some (2, 161), some (0, p1)] [] (K, S, g1, r) (ab_Qi K S P) := by
    intro hc
    have h := h.2.2.2.2.2.2.2.1 hc
    refine Rn_pure 1 (i' := 34) (L' := [some (2, 161), some (0, p1)]) (st' := [(2, 161)]) rfl ?_
    refine Rn_callI [(2, 161)] [] rfl rfl rfl rfl (ab_rvB_of rfl (⟨rfl, (by omega : (0 : Int) ≤ 161), (by omega : (161 : Int) < K)⟩)) ?_
    refine h.mono (fun x11 g10 r' h => ?_)
    obtain ⟨hx, h⟩ := h
    replace hx := hx.symm
    subst hx
    exact Rn_ret1 rfl h
  have ht36 : (wr p1 = 8) → ab_Rn m_M_count 36 [some (2, 161), some (0, p1)] [] (K, S, g1, r) (ab_Qi K S P) := by
    intro hc
    have h := h.2.2.2.2.2.2.2.2.1 hc
    refine Rn_pure 3 (i' := 39) (L' := [some (2, 161), some (0, p1)]) (st' := [(2, 161), (0, 0), (2, 161)]) rfl ?_
    refine Rn_callI [(2, 161)] [(0, 0), (2, 161)] rfl rfl rfl rfl (ab_rvB_of rfl (⟨rfl, (by omega : (0 : Int) ≤ 161), (by omega : (161 : Int) < K)⟩)) ?_
    refine h.mono (fun x12 g' r' h => ?_)
    obtain ⟨hx, h⟩ := h
    replace hx := hx.symm
    subst hx
    obtain ⟨hx, h⟩ := h
    replace hx := hx.symm
    subst hx
    refine Rn_callI [(2, 161), (0, 0), (0, x12)] [] rfl rfl rfl rfl (ab_rvB_of rfl (⟨rfl, (by omega : (0 : Int) ≤ 161), (by omega : (161 : Int) < K)⟩)) ?_
    refine h.mono (fun x13 g' r' h => ?_)
    obtain ⟨hx, h⟩ := h
    replace hx := hx.symm
    subst hx
    obtain ⟨hx, h⟩ := h
    replace hx := hx.symm
    subst hx
    exact Rn_ret1 rfl h
  have ht42 : (wr p1 = 9) → ab_Rn m_M_count 42 [some (2, 161), some (0, p1)] [] (K, S, g1, r) (ab_Qi K S P) := by
    intro hc
    have h := h.2.2.2.2.2.2.2.2.2.1 hc
    refine Rn_pure 1 (i' := 43) (L' := [some (2, 161), some (0, p1)]) (st' := [(2, 161)]) rfl ?_
    refine Rn_getI rfl (⟨rfl, (by omega : (0 : Int) ≤ 161), (by omega : (161 : Int) < K)⟩) ?_
    exact Rn_ret1 rfl h
  have ht45 : (wr p1 = 10) → ab_Rn m_M_count 45 [some (2, 161), some (0, p1)] [] (K, S, g1, r) (ab_Qi K S P) := by
    intro hc
    have h := h.2.2.2.2.2.2.2.2.2.2.1 hc
    refine Rn_pure 1 (i' := 46) (L' := [some (2, 161), some (0, p1)]) (st' := [(2, 161)]) rfl ?_
    refine Rn_getI rfl (⟨rfl, (by omega : (0 : Int) ≤ 161), (by omega : (161 : Int) < K)⟩) ?_
    exact Rn_ret1 rfl h
  have ht48 : (wr p1 = 11) → ab_Rn m_M_count 48 [some (2, 161), some (0, p1)] [] (K, S, g1, r) (ab_Qi K S P) := by
    intro hc
    have h := h.2.2.2.2.2.2.2.2.2.2.2.1 hc
    refine Rn_pure 1 (i' := 49) (L' := [some (2, 161), some (0, p1)]) (st' := [(2, 161)]) rfl ?_
    refine Rn_getR rfl (⟨rfl, (by omega : (0 : Int) ≤ 161), (by omega : (161 : Int) < K)⟩) (hr 149 _ rfl) (by decide) ?_
    refine Rn_pure 1 (i' := 51) (L' := [some (2, 161), some (0, p1)]) (st' := [(0, 1089), (2, 174)]) rfl ?_
    obtain ⟨hg, h⟩ := h
    refine Rn_iald rfl (⟨rfl, (by omega : (0 : Int) ≤ 174), (by omega : (174 : Int) < K)⟩) hg ?_
    exact Rn_ret1 rfl h
  have ht53 : (wr p1 = 12) → ab_Rn m_M_count 53 [some (2, 161), some (0, p1)] [] (K, S, g1, r) (ab_Qi K S P) := by
    intro hc
    have h := h.2.2.2.2.2.2.2.2.2.2.2.2.1 hc
    refine Rn_pure 1 (i' := 54) (L' := [some (2, 161), some (0, p1)]) (st' := [(2, 161)]) rfl ?_
    refine Rn_getR rfl (⟨rfl, (by omega : (0 : Int) ≤ 161), (by omega : (161 : Int) < K)⟩) (hr 149 _ rfl) (by decide) ?_
    refine Rn_pure 1 (i' := 56) (L' := [some (2, 161), some (0, p1)]) (st' := [(0, 1090), (2, 174)]) rfl ?_
    obtain ⟨hg, h⟩ := h
    refine Rn_iald rfl (⟨rfl, (by omega : (0 : Int) ≤ 174), (by omega : (174 : Int) < K)⟩) hg ?_
    exact Rn_ret1 rfl h
  have htd : (wr p1 < 0 ∨ 13 ≤ wr p1) → ab_Rn m_M_count 58 [some (2, 161), some (0, p1)] [] (K, S, g1, r) (ab_Qi K S P) := by
    intro hc
    have h := h.2.2.2.2.2.2.2.2.2.2.2.2.2 hc
    refine Rn_pure 1 (i' := 59) (L' := [some (2, 161), some (0, p1)]) (st' := [(0, (-1))]) rfl ?_
    exact Rn_ret1 rfl h
  have hsp : wr p1 < 0 ∨ 13 ≤ wr p1 ∨ wr p1 = 0 ∨ wr p1 = 1 ∨ wr p1 = 2 ∨ wr p1 = 3 ∨ wr p1 = 4 ∨ wr p1 = 5 ∨ wr p1 = 6 ∨ wr p1 = 7 ∨ wr p1 = 8 ∨ wr p1 = 9 ∨ wr p1 = 10 ∨ wr p1 = 11 ∨ wr p1 = 12 := by omega
  rcases hsp with hc | hc | hc | hc | hc | hc | hc | hc | hc | hc | hc | hc | hc | hc | hc
  · rw [ab_ts_out (hT := (rfl : ab_nth ab_tsL 9 = some (0, 58, [5, 8, 11, 14, 19, 22, 25, 33, 36, 42, 45, 48, 53]))) rfl (Or.inl hc)]; exact htd (by simp only [hc, true_or, or_true])
  · rw [ab_ts_out (hT := (rfl : ab_nth ab_tsL 9 = some (0, 58, [5, 8, 11, 14, 19, 22, 25, 33, 36, 42, 45, 48, 53]))) rfl (Or.inr hc)]; exact htd (by simp only [hc, true_or, or_true])
  · rw [ab_ts_in (j := 0) (hT := (rfl : ab_nth ab_tsL 9 = some (0, 58, [5, 8, 11, 14, 19, 22, 25, 33, 36, 42, 45, 48, 53]))) (by rw [hc]; rfl) rfl]; exact ht5 (by simp only [hc, true_or, or_true])
  · rw [ab_ts_in (j := 1) (hT := (rfl : ab_nth ab_tsL 9 = some (0, 58, [5, 8, 11, 14, 19, 22, 25, 33, 36, 42, 45, 48, 53]))) (by rw [hc]; rfl) rfl]; exact ht8 (by simp only [hc, true_or, or_true])
  · rw [ab_ts_in (j := 2) (hT := (rfl : ab_nth ab_tsL 9 = some (0, 58, [5, 8, 11, 14, 19, 22, 25, 33, 36, 42, 45, 48, 53]))) (by rw [hc]; rfl) rfl]; exact ht11 (by simp only [hc, true_or, or_true])
  · rw [ab_ts_in (j := 3) (hT := (rfl : ab_nth ab_tsL 9 = some (0, 58, [5, 8, 11, 14, 19, 22, 25, 33, 36, 42, 45, 48, 53]))) (by rw [hc]; rfl) rfl]; exact ht14 (by simp only [hc, true_or, or_true])
  · rw [ab_ts_in (j := 4) (hT := (rfl : ab_nth ab_tsL 9 = some (0, 58, [5, 8, 11, 14, 19, 22, 25, 33, 36, 42, 45, 48, 53]))) (by rw [hc]; rfl) rfl]; exact ht19 (by simp only [hc, true_or, or_true])
  · rw [ab_ts_in (j := 5) (hT := (rfl : ab_nth ab_tsL 9 = some (0, 58, [5, 8, 11, 14, 19, 22, 25, 33, 36, 42, 45, 48, 53]))) (by rw [hc]; rfl) rfl]; exact ht22 (by simp only [hc, true_or, or_true])
  · rw [ab_ts_in (j := 6) (hT := (rfl : ab_nth ab_tsL 9 = some (0, 58, [5, 8, 11, 14, 19, 22, 25, 33, 36, 42, 45, 48, 53]))) (by rw [hc]; rfl) rfl]; exact ht25 (by simp only [hc, true_or, or_true])
  · rw [ab_ts_in (j := 7) (hT := (rfl : ab_nth ab_tsL 9 = some (0, 58, [5, 8, 11, 14, 19, 22, 25, 33, 36, 42, 45, 48, 53]))) (by rw [hc]; rfl) rfl]; exact ht33 (by simp only [hc, true_or, or_true])
  · rw [ab_ts_in (j := 8) (hT := (rfl : ab_nth ab_tsL 9 = some (0, 58, [5, 8, 11, 14, 19, 22, 25, 33, 36, 42, 45, 48, 53]))) (by rw [hc]; rfl) rfl]; exact ht36 (by simp only [hc, true_or, or_true])
  · rw [ab_ts_in (j := 9) (hT := (rfl : ab_nth ab_tsL 9 = some (0, 58, [5, 8, 11, 14, 19, 22, 25, 33, 36, 42, 45, 48, 53]))) (by rw [hc]; rfl) rfl]; exact ht42 (by simp only [hc, true_or, or_true])
  · rw [ab_ts_in (j := 10) (hT := (rfl : ab_nth ab_tsL 9 = some (0, 58, [5, 8, 11, 14, 19, 22, 25, 33, 36, 42, 45, 48, 53]))) (by rw [hc]; rfl) rfl]; exact ht45 (by simp only [hc, true_or, or_true])
  · rw [ab_ts_in (j := 11) (hT := (rfl : ab_nth ab_tsL 9 = some (0, 58, [5, 8, 11, 14, 19, 22, 25, 33, 36, 42, 45, 48, 53]))) (by rw [hc]; rfl) rfl]; exact ht48 (by simp only [hc, true_or, or_true])
  · rw [ab_ts_in (j := 12) (hT := (rfl : ab_nth ab_tsL 9 = some (0, 58, [5, 8, 11, 14, 19, 22, 25, 33, 36, 42, 45, 48, 53]))) (by rw [hc]; rfl) rfl]; exact ht53 (by simp only [hc, true_or, or_true])
