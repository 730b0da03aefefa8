/-! SPECS, part zq: feed. -/
def bc (v j : Int) : Int := ab_i2b (ab_i2b (ab_ush v (24 - 8 * j)))
theorem bc_in {v j : Int} (hj : 0 ≤ j ∧ j < 4) : (-128 ≤ bc v j ∧ bc v j < 128) ∧ ab_and (ab_shr v (24 - 8 * j)) 255 = bc v j % 256 := by
  unfold bc
  have w : j = 0 ∨ j = 1 ∨ j = 2 ∨ j = 3 := by omega
  rcases w with w | w | w | w
  · subst w; exact byte_c v 24 (by omega)
  · subst w; exact byte_c v 16 (by omega)
  · subst w; exact byte_c v 8 (by omega)
  · subst w; exact byte_c v 0 (by omega)
theorem l_EL_putBytes {K : Int} {S : Nat} {r : ab_H} {v : Int} (P : ab_H → ab_H → Prop) (hr : SI r) (hK : 186 ≤ K) : ∀ (m : Nat) (tp : Int) (g : ab_H), m ≤ 4 → 0 ≤ tp → tp + m ≤ 900 → g 0 1 = tp → (∀ g' : ab_H, (∀ c j : Int, c ≠ 1 → c ≠ 0 ∨ j ≠ 1 → g' c j = g c j) → g' 0 1 = tp + m → (∀ i : Int, i < tp → g' 1 i = g 1 i) → (∀ j : Int, 0 ≤ j → j < m → g' 1 (tp + j) = bc v (4 - m + j)) → P g' r) → ab_Rn m_EL_putBytes 2 [some (2, 0), some (0, v), some (0, 8 * (m : Int) + (-8))] [] (K, S, g, r) (ab_Qv K S P)
  | 0, tp, g, h4, h0, h9, hg, h => by
    apply v_EL_putBytes_2 _ hr hK
    exact And.intro (fun _ => h g (fun _ _ _ _ => rfl) (by rw [hg]; omega) (fun _ _ => rfl) (fun j a b => by omega)) (fun e => absurd e (by decide))
  | m + 1, tp, g, h4, h0, h9, hg, h => by
    apply v_EL_putBytes_2 _ hr hK
    rw [hg]
    refine And.intro (fun e => absurd e (by simp only [wr]; omega)) (fun _ => And.intro (fun e => absurd e (by simp only [wr]; omega)) (fun _ => ⟨by omega, fun g1 hg1 g2 hg2 => ?_⟩))
    have h1 : g1 0 1 = tp := by rw [hg1, up_a (by omega)]; exact hg
    rw [h1] at hg2
    rw [show 8 * ((m + 1 : Nat) : Int) + (-8) + (-8) = 8 * (m : Int) + (-8) by omega]
    refine l_EL_putBytes P hr hK m (tp + 1) g2 (by omega) (by omega) (by omega) (by rw [hg2, up_s]) (fun g' f1 f2 f3 f4 => h g' (fun c j a b => ?_) (by rw [f2]; omega) (fun i a => ?_) (fun j a b => ?_))
    · rw [f1 c j a b, hg2]
      rcases b with b | b
      · rw [up_a b, hg1, up_a a]
      · rw [up_k b, hg1, up_a a]
    · rw [f3 i (by omega), hg2, up_a (by omega), hg1, up_k (by omega)]
    · by_cases hj : j = 0
      · rw [hj, show tp + 0 = tp by omega, f3 tp (by omega), hg2, up_a (by omega), hg1, up_s]
        unfold bc
        rw [show 24 - 8 * (4 - ((m + 1 : Nat) : Int) + 0) = 8 * ((m + 1 : Nat) : Int) + (-8) by omega]
      · have := f4 (j - 1) (by omega) (by omega)
        rw [show tp + 1 + (j - 1) = tp + j by omega] at this
        rw [this]
        congr 1; omega
theorem s_EL_putBytes {K : Int} {S : Nat} {g r : ab_H} {v tp : Int} (P : ab_H → ab_H → Prop) (hr : SI r) (hK : 186 ≤ K) (h0 : 0 ≤ tp) (h9 : tp + 4 ≤ 900) (hg : g 0 1 = tp) (h : ∀ g' : ab_H, (∀ c j : Int, c ≠ 1 → c ≠ 0 ∨ j ≠ 1 → g' c j = g c j) → g' 0 1 = tp + 4 → (∀ i : Int, i < tp → g' 1 i = g 1 i) → (∀ j : Int, 0 ≤ j → j < 4 → g' 1 (tp + j) = bc v j) → P g' r) : ab_RV m_EL_putBytes [(2, 0), (0, v)] K S g r P := by
  apply v_EL_putBytes _ hr hK
  exact l_EL_putBytes P hr hK 4 tp g (by omega) h0 h9 hg (fun g' f1 f2 f3 f4 => h g' f1 f2 f3 (fun j a b => by
    have := f4 j a b
    rw [show 4 - ((4 : Nat) : Int) + j = j by omega] at this
    exact this))
/-- which of the five -/
def s5 (a b c d e k : Int) : Int := if k < 4 then a else if k < 8 then b else if k < 12 then c else if k < 16 then d else e
theorem l_M_feed {K : Int} {S : Nat} {r g0 : ab_H} {a b c d e tp : Int} (P : Int → ab_H → ab_H → Prop) (hr : SI r) (hK : 186 ≤ K) (h0 : 0 ≤ tp) (h9 : tp + 20 ≤ 900) (h2 : g0 161 2 = tp) (h : ∀ g' : ab_H, (∀ i : Int, i ≠ 161 → i ≠ 162 → g' i = g0 i) → (∀ j : Int, j ≠ 2 → g' 161 j = g0 161 j) → g' 161 2 = tp + 20 → (∀ i : Int, i < tp → g' 162 i = g0 162 i) → (∀ k : Int, 0 ≤ k → k < 20 → g' 162 (tp + k) = bc (s5 a b c d e k) (k % 4) % 256) → P (tp + 20) g' r) : ∀ (m : Nat) (i : Int) (g : ab_H), 0 ≤ i → i + m = 20 → (∀ k : Int, k ≠ 162 → g k = g0 k) → (∀ k : Int, k < tp → g 162 k = g0 162 k) → (∀ k : Int, 0 ≤ k → k < i → g 162 (tp + k) = bc (s5 a b c d e k) (k % 4) % 256) → ab_Rn m_M_feed 11 [some (2, 161), some (0, a), some (0, b), some (0, c), some (0, d), some (0, e), some (0, i), none] [] (K, S, g, r) (ab_Qi K S P)
  | 0, i, g, hi0, hi, f1, f2, f3 => by
    apply v_M_feed_11 _ hr hK
    rw [f1 161 (by omega), h2]
    refine And.intro (fun _ g1 hg1 => ?_) (fun x => absurd x (by simp only [wr]; omega))
    have hv : g1 161 2 = tp + 20 := by rw [hg1, up_s]
    rw [hv]
    refine h g1 (fun k p q => by rw [hg1, up_f p, f1 k q]) (fun j p => by rw [hg1, up_k p, f1 161 (by omega)]) hv (fun k p => by rw [hg1, up_a (by omega)]; exact f2 k p) (fun k p q => by rw [hg1, up_a (by omega)]; exact f3 k p (by omega))
  | m + 1, i, g, hi0, hi, f1, f2, f3 => by
    have hrem := rem4 (k := i) ⟨hi0, by omega⟩
    have go : ∀ v : Int, v = s5 a b c d e i → ∀ g1 : ab_H, g1 = ab_up g 162 (tp + i) (ab_and (ab_shr v (24 - (8 * (ab_rem i 4)))) 255) → ab_Rn m_M_feed 11 [some (2, 161), some (0, a), some (0, b), some (0, c), some (0, d), some (0, e), some (0, i + 1), none] [] (K, S, g1, r) (ab_Qi K S P) := by
      intro v hv g1 hg1
      refine l_M_feed P hr hK h0 h9 h2 h m (i + 1) g1 (by omega) (by omega) (fun k p => by rw [hg1, up_f p]; exact f1 k p) (fun k p => by rw [hg1, up_k (by omega)]; exact f2 k p) (fun k p q => ?_)
      rw [hg1, up_i]
      by_cases hk : k = i
      · rw [if_pos (by omega), hrem, (bc_in (v := v) (j := i % 4) (by omega)).2, hv, hk]
      · rw [if_neg (by omega)]; exact f3 k p (by omega)
    apply v_M_feed_11 _ hr hK
    rw [f1 161 (by omega), h2]
    refine And.intro (fun x => absurd x (by simp only [wr]; omega)) (fun _ => And.intro (fun x4 => And.intro (fun x8 => And.intro (fun x12 => And.intro (fun x16 => ⟨by decide, by omega, go e ?_⟩) (fun x16 => ⟨by decide, by omega, go d ?_⟩)) (fun x12 => ⟨by decide, by omega, go c ?_⟩)) (fun x8 => ⟨by decide, by omega, go b ?_⟩)) (fun x4 => ⟨by decide, by omega, go a ?_⟩))
    · unfold s5; rw [if_neg (by simp only [wr] at x4; omega), if_neg (by simp only [wr] at x8; omega), if_neg (by simp only [wr] at x12; omega), if_neg (by simp only [wr] at x16; omega)]
    · unfold s5; rw [if_neg (by simp only [wr] at x4; omega), if_neg (by simp only [wr] at x8; omega), if_neg (by simp only [wr] at x12; omega), if_pos (by simp only [wr] at x16; omega)]
    · unfold s5; rw [if_neg (by simp only [wr] at x4; omega), if_neg (by simp only [wr] at x8; omega), if_pos (by simp only [wr] at x12; omega)]
    · unfold s5; rw [if_neg (by simp only [wr] at x4; omega), if_pos (by simp only [wr] at x8; omega)]
    · unfold s5; rw [if_pos (by simp only [wr] at x4; omega)]
/-- the relation with another TAPE -/
theorem Rel_tape {g r g2 : ab_H} (R : Rel g r) (h1 : ∀ c j : Int, c ≠ 1 → c ≠ 161 → c ≠ 162 → c ≠ 0 ∨ j ≠ 1 → g2 c j = g c j) (h161 : ∀ j : Int, j ≠ 0 → j ≠ 2 → g2 161 j = g 161 j) (h3 : (g2 0 1 = g2 161 2 ∧ 0 ≤ g2 161 2 ∧ g2 161 2 ≤ 900) ∧ (∀ i : Int, 0 ≤ i → i < g2 161 2 → (-128 ≤ g2 1 i ∧ g2 1 i < 128) ∧ g2 162 i = g2 1 i % 256)) : Rel g2 r := by
  have hc : ∀ c : Int, c ≠ 0 → c ≠ 1 → c ≠ 161 → c ≠ 162 → g2 c = g c := fun c a b d e => funext fun j => h1 c j b d e (Or.inl a)
  have htt := tt_new (g := g) (g2 := g2) (fun c a b => hc c (by omega) (by omega) (by omega) (by omega))
  have hss : ss g2 = ss g := by unfold ss; rw [hc 174 (by omega) (by omega) (by omega) (by omega)]
  have hsjs : ∀ j : Int, sj g2 j = sj g j := fun j => by unfold sj; rw [hc 177 (by omega) (by omega) (by omega) (by omega)]
  have hr3 := R.1.2.1
  have hr5 := R.1.2.2.1
  have S1 := R.2.2.2.1
  have U := R.2.2.2.2.1
  refine ⟨R.1, ⟨h3.1, h3.2, ?_, ?_⟩, ?_, ?_, ?_, ?_, ?_, ?_, ⟨R.2.2.2.2.2.2.2.2.1, ?_⟩⟩
  · rw [hc 2 (by omega) (by omega) (by omega) (by omega), h161 24 (by omega) (by omega)]; exact R.2.1.2.2.1
  · rw [hc 2 (by omega) (by omega) (by omega) (by omega), h161 25 (by omega) (by omega)]; exact R.2.1.2.2.2
  · exact RelT_new R.2.2.1 (fun c j a b => by rw [hc c (by omega) (by omega) (by omega) (by omega)]) (fun c a b => hc c (by omega) (by omega) (by omega) (by omega))
  · unfold RelS LL BB
    rw [hss, htt, hc 167 (by omega) (by omega) (by omega) (by omega), hc 163 (by omega) (by omega) (by omega) (by omega)]
    have f : ∀ c i : Int, 2 ≤ c → c ≤ 160 → g2 c i = g c i := fun c i a b => by rw [hc c (by omega) (by omega) (by omega) (by omega)]
    refine ⟨S1.1, LgV_mono S1.2.1 (fun c i a b => f c i (by omega) (by omega)), LgL_mono S1.2.2.1 (fun c i a b => f c i (by omega) (by omega)), ?_, ShV_mono S1.2.2.2.2.1 (fun c i a b => f c i (by omega) (by omega)), StV_mono S1.2.2.2.2.2.1 (fun c i a b => f c i (by omega) (by omega)), TaP_mono S1.2.2.2.2.2.2 (fun c i a b => f c i (by omega) (by omega))⟩
    rw [hc 57 (by omega) (by omega) (by omega) (by omega)]; exact S1.2.2.2.1
  · unfold RelU
    rw [h161 30 (by omega) (by omega), hss, htt, hc 167 (by omega) (by omega) (by omega) (by omega), hc 163 (by omega) (by omega) (by omega) (by omega), h1 0 14 (by omega) (by omega) (by omega) (by omega)]
    refine ⟨U.1, fun j a b => ?_, fun i j a b c => by rw [hsjs, hsjs]; exact U.2.2 i j a b c⟩
    have h4 := U.2.1 j a b
    have hm1 := (R.1.2.2.2.1 j a (by have := U.1; omega)).1
    unfold isMk at hm1
    rw [hsjs]
    exact ⟨h4.1, MkV_mono h4.2.1 (fun c i p q => by rw [hc c (by omega) (by omega) (by omega) (by omega)]), h4.2.2⟩
  · exact RelI_new R.2.2.2.2.2.1 (fun c j a b => by rw [hc c (by omega) (by omega) (by omega) (by omega)]) (fun c a b => hc c (by omega) (by omega) (by omega) (by omega)) (hc 176 (by omega) (by omega) (by omega) (by omega)) (h161 31 (by omega) (by omega)) (h1 0 17 (by omega) (by omega) (by omega) (by omega))
  · rw [h161 34 (by omega) (by omega)]; exact R.2.2.2.2.2.2.1
  · rw [h161 35 (by omega) (by omega)]; exact R.2.2.2.2.2.2.2.1
  · have hr6 := R.1.2.2.1
    rw [h1 (r 0 6 + 10) 0 (by omega) (by omega) (by omega) (by omega)]; exact R.2.2.2.2.2.2.2.2.2
theorem p_feed {K : Int} {S : Nat} {g r : ab_H} {a b c d e : Int} (hr : SI r) (hK : 186 ≤ K) (R : Rel g r) : PB m_EL_feed [(2, 0), (0, a), (0, b), (0, c), (0, d), (0, e)] m_M_feed [(2, 161), (0, a), (0, b), (0, c), (0, d), (0, e)] K S g r := by
  have P1 := R.2.1
  have tp1 := P1.1
  unfold PB
  apply v_EL_feed _ hr hK
  rw [tp1.1]
  refine And.intro (fun x => ?_) (fun x => ?_)
  · have h9 : g 161 2 + 20 ≤ 900 := by simp only [wr] at x; omega
    apply s_EL_putBytes _ hr hK tp1.2.1 (by omega) tp1.1
    intro g1 a1 b1 c1 d1
    refine ⟨rfl, ?_⟩
    apply s_EL_putBytes _ hr hK (by omega) (by omega) b1
    intro g2 a2 b2 c2 d2
    refine ⟨rfl, ?_⟩
    apply s_EL_putBytes _ hr hK (by omega) (by omega) b2
    intro g3 a3 b3 c3 d3
    refine ⟨rfl, ?_⟩
    apply s_EL_putBytes _ hr hK (by omega) (by omega) b3
    intro g4 a4 b4 c4 d4
    refine ⟨rfl, ?_⟩
    apply s_EL_putBytes _ hr hK (by omega) (by omega) b4
    intro g5 a5 b5 c5 d5
    have hf : ∀ i j : Int, i ≠ 1 → i ≠ 0 ∨ j ≠ 1 → g5 i j = g i j := fun i j p q => by rw [a5 i j p q, a4 i j p q, a3 i j p q, a2 i j p q, a1 i j p q]
    have hold : ∀ i : Int, i < g 161 2 → g5 1 i = g 1 i := fun i p => by rw [c5 i (by omega), c4 i (by omega), c3 i (by omega), c2 i (by omega), c1 i p]
    have hnew : ∀ k : Int, 0 ≤ k → k < 20 → g5 1 (g 161 2 + k) = bc (s5 a b c d e k) (k % 4) := by
      intro k p q
      unfold s5
      by_cases k4 : k < 4
      · rw [if_pos k4, c5 _ (by omega), c4 _ (by omega), c3 _ (by omega), c2 _ (by omega), d1 k p k4, show k % 4 = k by omega]
      · rw [if_neg k4]
        by_cases k8 : k < 8
        · have := d2 (k - 4) (by omega) (by omega)
          rw [show g 161 2 + 4 + (k - 4) = g 161 2 + k by omega] at this
          rw [if_pos k8, c5 _ (by omega), c4 _ (by omega), c3 _ (by omega), this, show k - 4 = k % 4 by omega]
        · rw [if_neg k8]
          by_cases k12 : k < 12
          · have := d3 (k - 8) (by omega) (by omega)
            rw [show g 161 2 + 4 + 4 + (k - 8) = g 161 2 + k by omega] at this
            rw [if_pos k12, c5 _ (by omega), c4 _ (by omega), this, show k - 8 = k % 4 by omega]
          · rw [if_neg k12]
            by_cases k16 : k < 16
            · have := d4 (k - 12) (by omega) (by omega)
              rw [show g 161 2 + 4 + 4 + 4 + (k - 12) = g 161 2 + k by omega] at this
              rw [if_pos k16, c5 _ (by omega), this, show k - 12 = k % 4 by omega]
            · have := d5 (k - 16) (by omega) (by omega)
              rw [show g 161 2 + 4 + 4 + 4 + 4 + (k - 16) = g 161 2 + k by omega] at this
              rw [if_neg k16, this, show k - 16 = k % 4 by omega]
    have h51 : g5 0 1 = g 161 2 + 20 := by rw [b5]; omega
    have h5c : ∀ i : Int, i < 0 ∨ 1 < i → g5 i = g i := fun i p => funext fun j => hf i j (by omega) (by omega)
    rw [h51]
    refine ⟨rfl, ?_⟩
    apply v_M_feed _ hr hK
    intro g6 hg6
    have h62 : g6 161 2 = g 161 2 := by rw [hg6, up_k (by omega), h5c 161 (by omega)]
    rw [h62]
    refine And.intro (fun _ => ?_) (fun x => absurd x (by simp only [wr]; omega))
    refine l_M_feed (tp := g 161 2) _ hr hK tp1.2.1 h9 h62 (fun g' f1 f2 f3 f4 f5 => ⟨rfl, ?_, fun c hc => ⟨?_, rfl⟩⟩) 20 0 g6 (by omega) (by omega) (fun _ _ => rfl) (fun _ _ => rfl) (fun k p q => by omega)
    · refine Rel_tape R (fun i j p q s t => ?_) (fun j p q => ?_) ⟨⟨?_, ?_, ?_⟩, fun i p q => ?_⟩
      · rw [f1 i q s, hg6, up_a q]; exact hf i j p t
      · rw [f2 j q, hg6, up_k p, h5c 161 (by omega)]
      · rw [f3, f1 0 (by omega) (by omega), hg6, up_a (by omega)]; exact h51
      · rw [f3]; omega
      · rw [f3]; exact h9
      · rw [f3] at q
        rw [f1 1 (by omega) (by omega), hg6, up_a (by omega)]
        by_cases hi : i < g 161 2
        · rw [f4 i hi, hg6, up_a (by omega), h5c 162 (by omega), hold i hi]
          exact P1.2.1 i p hi
        · have e1 := hnew (i - g 161 2) (by omega) (by omega)
          have e2 := f5 (i - g 161 2) (by omega) (by omega)
          rw [show g 161 2 + (i - g 161 2) = i by omega] at e1 e2
          rw [e2, e1]
          exact ⟨(bc_in (j := (i - g 161 2) % 4) (by omega)).1, rfl⟩
    · rw [f1 c (by omega) (by omega), hg6, up_f (by omega), h5c c (Or.inl hc)]
  · apply v_M_feed _ hr hK
    intro g1 hg1
    have f1 := Scr_t R hg1
    have h12 : g1 161 2 = g 161 2 := by rw [hg1, up_k (by omega)]
    rw [h12]
    exact And.intro (fun y => absurd y (by simp only [wr] at x ⊢; omega)) (fun _ => ⟨rfl, Rel_scr R f1, fun c hc => ⟨Scr_neg R f1 c hc, rfl⟩⟩)
