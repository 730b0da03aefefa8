/-! SPECS, part n: an EVENT comes (reference). -/
theorem EvS_up {g g1 : ab_H} {s : Int → Int} {k v : Int} (h : EvS g s) (hg : g1 = ab_up g 174 k v) : EvS g1 (fu s k v) := by
  intro j h0 h1
  rw [hg, up_i]
  simp only [fu]
  split
  · rfl
  · exact h j h0 h1
theorem evadd_k {s : Int → Int} {n k a o t sh x y w : Int} : KEq s (evadd s n k a o t sh x y w) n := by
  intro e h0 h1
  rw [evadd_old ⟨h0, h1⟩ (by omega : (0 : Int) ≤ 0 ∧ (0 : Int) < 9) (Or.inl (by omega)), evadd_old ⟨h0, h1⟩ (by omega : (0 : Int) ≤ 2 ∧ (2 : Int) < 9) (Or.inl (by omega)), evadd_old ⟨h0, h1⟩ (by omega : (0 : Int) ≤ 4 ∧ (4 : Int) < 9) (Or.inl (by omega))]
  exact ⟨rfl, fun _ => rfl, rfl⟩
def CFr (g g' : ab_H) (n : Int) : Prop := (∀ c : Int, c ≠ 174 → c ≠ 161 → g' c = g c) ∧ (∀ j : Int, j ≠ 32 → g' 161 j = g 161 j) ∧ ∀ j : Int, 1088 < j → g' 174 j = g 174 j
theorem s_M_comes {K : Int} {S : Nat} {g r : ab_H} {n k a o t sh ev kp : Int} {q : SN} {s : Int → Int} (P : ab_H → ab_H → Prop) (hr : SI r) (hK : 186 ≤ K) (hs : EvS g s) (hm : g 174 1080 = n) (hE : EvOk s n) (hn : 0 ≤ n ∧ n < 120) (hN : EvNew s n k a o t sh) (hq : SnV (g 174) q) (hok : SNok q kp n) (hev : g 174 1089 = ev) (hkp : g 174 1090 = kp) (hkp2 : 0 ≤ kp ∧ kp ≤ 6) (hev2 : 1 ≤ ev ∧ ev ≤ 999) (h : ∀ g' : ab_H, CFr g g' n → EvS g' (evadd s n k a o t sh 0 0 0) → g' 174 1080 = n + 1 → SnV (g' 174) (sstep (evadd s n k a o t sh 0 0 0) (psm (wts (evadd s n k a o t sh 0 0 0))) ev kp q n) → g' 161 32 = g 161 32 + sdue (psm (wts (evadd s n k a o t sh 0 0 0))) ev (svoid (evadd s n k a o t sh 0 0 0) q n) n → P g' r) : ab_RV m_M_comes [(2, 161), (0, k), (0, a), (0, o), (0, t), (0, sh)] K S g r P := by
  have hE' := EvOk_add (x := 0) (y := 0) (w := 0) hE hN hn.1 (by omega) (by omega) (by omega)
  -- from 59 on, the fields laid
  have k59 : ∀ g1 : ab_H, (∀ c : Int, c ≠ 174 → g1 c = g c) → (∀ j : Int, 1080 ≤ j → g1 174 j = g 174 j) → (∀ j : Int, 0 ≤ j → j < 1080 → ¬ (k = 7 ∧ j = 9 * o + 8) → g1 174 j = evadd s n k a o t sh 0 0 0 j) → ab_Rn m_M_comes 59 [some (2, 161), some (0, k), none, some (0, o), none, none, some (0, n), some (0, 3)] [] (K, S, g1, r) (ab_Qv K S P) := by
    intro g1 f1 f2 hs1
    have hm1 : g1 174 1080 = n := by rw [f2 _ (by omega)]; exact hm
    have hq1 : SnV (g1 174) q := ⟨by rw [f2 _ (by omega)]; exact hq.1, fun i h0 h1 => by rw [f2 _ (by omega)]; exact hq.2 i h0 h1⟩
    have hsn : ∀ (g2 : ab_H), RFr g1 g2 → True := fun _ _ => trivial
    -- the end: one more, snaps
    have kend : ∀ (g5 g7 : ab_H), CFr g g5 n → EvS g5 (evadd s n k a o t sh 0 0 0) → g5 174 1080 = n → g5 161 32 = g 161 32 → SnV (g5 174) (svoid (evadd s n k a o t sh 0 0 0) q n) → g7 = ab_up g5 174 1080 (g5 174 1080 + 1) → ab_RV m_M_snaps [(2, 161), (0, g7 174 1080)] K S g7 r (fun g8 r' => r' = r ∧ (P g8 r)) := by
      intro g5 g7 f5 hs5 hm5 h32 hq5 hg7
      have hm7 : g7 174 1080 = n + 1 := by rw [hg7, up_s, hm5]
      have hs7 : EvS g7 (evadd s n k a o t sh 0 0 0) := fun j h0 h1 => by rw [hg7, up_k (by omega)]; exact hs5 j h0 h1
      have hq7 : SnV (g7 174) (svoid (evadd s n k a o t sh 0 0 0) q n) := ⟨by rw [hg7, up_k (by omega)]; exact hq5.1, fun i h0 h1 => by rw [hg7, up_k (by omega)]; exact hq5.2 i h0 h1⟩
      have hev7 : g7 174 1089 = ev := by rw [hg7, up_k (by omega), f5.2.2 _ (by omega)]; exact hev
      have hkp7 : g7 174 1090 = kp := by rw [hg7, up_k (by omega), f5.2.2 _ (by omega)]; exact hkp
      rw [hm7]
      apply s_M_snaps _ hr hK hs7 hE' (by omega) ⟨hn.1, Int.le_refl _⟩ hq7 (SNok_svoid hok) hev7 hkp7 hkp2 hev2
      intro g8 f8 h328 hq8
      refine ⟨rfl, h g8 ⟨fun c h1 h2 => by rw [f8.1 c h1 h2, hg7, up_f h1, f5.1 c h1 h2], fun j h1 => by rw [f8.2.1 j h1, hg7, up_a (by omega), f5.2.1 j h1], fun j h1 => by rw [f8.2.2 j (by omega), hg7, up_k (by omega), f5.2.2 j h1]⟩ (EvS_RFr hs7 f8) (by rw [f8.2.2 _ (by omega)]; exact hm7) hq8 (by rw [h328, hg7, up_a (by omega), h32])⟩
    have f1c : CFr g g1 n := ⟨fun c h1 h2 => f1 c h1, fun j h1 => by rw [f1 161 (by omega)], fun j h1 => f2 j (by omega)⟩
    have hk := hN.1
    have s0 : evadd s n k a o t sh 0 0 0 (9 * n + 0) = k := by rw [evadd_new (by omega)]; exact if_pos rfl
    have s2 : evadd s n k a o t sh 0 0 0 (9 * n + 2) = o := by
      rw [evadd_new (by omega)]
      simp (config := {decide := true}) only [if_true, if_false]
    apply v_M_comes_59 _ hr hK
    refine And.intro (fun _ => And.intro (fun h7 => ⟨by omega, by omega, fun g7 hg7 => ⟨by omega, ?_⟩⟩) (fun h7 => ?_)) (fun h3 => absurd h3 (by decide))
    · have h7' : k ≠ 7 := by simp only [wr] at h7; omega
      refine kend g1 g7 f1c (fun j h0 h1 => hs1 j h0 h1 (fun hc => h7' hc.1)) hm1 (by rw [f1 161 (by omega)]) ?_ hg7
      unfold svoid
      rw [s0, if_neg h7']
      exact hq1
    · have h7' : k = 7 := by simp only [wr] at h7; omega
      have c7 := hN.2.2.2.1 h7'
      refine ⟨by omega, fun g4 hg4 => ?_⟩
      have hs4 : EvS g4 (evadd s n k a o t sh 0 0 0) := by
        intro j h0 h1
        rw [hg4, up_i]
        by_cases h8 : j = 9 * o + 8
        · rw [if_pos h8]
          unfold evadd
          rw [if_neg (by omega), if_pos ⟨h7', h8⟩]
        · rw [if_neg h8]; exact hs1 j h0 h1 (fun hc => h8 hc.2)
      have hq4 : SnV (g4 174) q := ⟨by rw [hg4, up_k (by omega)]; exact hq1.1, fun i h0 h1 => by rw [hg4, up_k (by omega)]; exact hq1.2 i h0 h1⟩
      apply s_M_letsGo _ hr hK (by omega) (by omega) (by omega) hok hq4
      intro g5 f5 h325 hq5
      refine ⟨rfl, by omega, by omega, fun g7 hg7 => ⟨by omega, ?_⟩⟩
      refine kend g5 g7 ⟨fun c h1 h2 => by rw [f5.1 c h1 h2, hg4, up_f h1, f1 c h1], fun j h1 => by rw [f5.2.1 j h1, hg4, up_a (by omega), f1 161 (by omega)], fun j h1 => by rw [f5.2.2 j (by omega), hg4, up_k (by omega), f2 j (by omega)]⟩ (EvS_RFr hs4 f5) (by rw [f5.2.2 _ (by omega), hg4, up_k (by omega)]; exact hm1) (by rw [h325, hg4, up_a (by omega), f1 161 (by omega)]) ?_ hg7
      unfold svoid
      rw [s0, if_pos h7', s2]
      exact hq5
  apply v_M_comes _ hr hK
  apply s_M_many _ hr hK
  rw [hm]
  refine ⟨rfl, rfl, by omega, fun g2 hg2 => ⟨by omega, fun g3 hg3 => ⟨by omega, fun g4 hg4 => ⟨by omega, fun g5 hg5 => ⟨by omega, fun g6 hg6 => ⟨by omega, fun g7 hg7 => ?_⟩⟩⟩⟩⟩⟩
  have l3 : ∀ (m : Nat) (i : Int) (g8 : ab_H), 0 ≤ i → i + m = 3 → (∀ c : Int, c ≠ 174 → g8 c = g c) → (∀ j : Int, 1080 ≤ j → g8 174 j = g 174 j) → (∀ j : Int, 0 ≤ j → j < 1080 → ¬ (k = 7 ∧ j = 9 * o + 8) → ¬ (9 * n + 5 + i ≤ j ∧ j < 9 * n + 8) → g8 174 j = evadd s n k a o t sh 0 0 0 j) → ab_Rn m_M_comes 59 [some (2, 161), some (0, k), none, some (0, o), none, none, some (0, n), some (0, i)] [] (K, S, g8, r) (ab_Qv K S P) := by
    intro m
    induction m with
    | zero =>
      intro i g8 h0 hi f1 f2 f3
      rw [show i = 3 by omega]
      exact k59 g8 f1 f2 (fun j h1 h2 h3 => f3 j h1 h2 h3 (by omega))
    | succ m ih =>
      intro i g8 h0 hi f1 f2 f3
      apply v_M_comes_59 _ hr hK
      refine And.intro (fun h1 => absurd h1 (by simp only [wr]; omega)) (fun _ => ⟨by omega, fun g10 hg10 => ?_⟩)
      refine ih (i + 1) g10 (by omega) (by omega) (fun c hc => by rw [hg10, up_f hc]; exact f1 c hc) (fun j hj => by rw [hg10, up_k (by omega)]; exact f2 j hj) (fun j h1 h2 h3 h4 => ?_)
      rw [hg10, up_i]
      by_cases h5 : j = 9 * n + 5 + i
      · rw [if_pos h5]
        unfold evadd
        rw [if_pos (by omega)]
        repeat' split
        all_goals omega
      · rw [if_neg h5]
        exact f3 j h1 h2 h3 (by omega)
  refine l3 3 0 g7 (by omega) (by omega) (fun c hc => ?_) (fun j hj => ?_) (fun j h1 h2 h3 h4 => ?_)
  · rw [hg7, hg6, hg5, hg4, hg3, hg2, up_f hc, up_f hc, up_f hc, up_f hc, up_f hc, up_f hc]
  · rw [hg7, hg6, hg5, hg4, hg3, hg2, up_k (by omega), up_k (by omega), up_k (by omega), up_k (by omega), up_k (by omega), up_k (by omega)]
  · rw [hg7, hg6, hg5, hg4, hg3, hg2]
    simp only [up_i]
    unfold evadd
    have hsj := hs j h1 h2
    by_cases h5 : 9 * n ≤ j ∧ j < 9 * n + 9
    · rw [if_pos h5]
      have w : j = 9 * n + 0 ∨ j = 9 * n + 1 ∨ j = 9 * n + 2 ∨ j = 9 * n + 3 ∨ j = 9 * n + 4 ∨ j = 9 * n + 8 := by omega
      rcases w with w | w | w | w | w | w
      all_goals subst w
      all_goals simp (config := {decide := true}) only [Int.add_right_inj, if_true, if_false]
    · rw [if_neg h5, if_neg h3, if_neg (by omega), if_neg (by omega), if_neg (by omega), if_neg (by omega), if_neg (by omega), if_neg (by omega)]
      exact hsj
