/-! SPECS, part u: TALLIES' counts and sums; copies; what is remembered. -/
def ne0 (c : Int → Int) (e : Int) : Int := if c e = 0 then 0 else 1
def mi1 (c : Int → Int) (e : Int) : Int := if c e = 0 then 0 else c e - 1
theorem l_M_countedMany {K : Int} {S : Nat} {g r : ab_H} {t b p n : Int} {s c V : Int → Int} (P : Int → ab_H → ab_H → Prop) (hr : SI r) (hK : 186 ≤ K) (ht : 0 ≤ t ∧ t < 4) (hb : b = 1091 + 129 * t) (hty : TyV (g 174) b s p c) (hok : TcOk s c p n V) : ∀ (m : Nat) (i x : Int), 0 ≤ i → i + m = 120 → (∀ y : Int, y - x = psm (ne0 c) 120 - psm (ne0 c) i → P y g r) → ab_Rn m_M_countedMany 4 [some (2, 161), some (0, t), some (0, x), some (0, i)] [] (K, S, g, r) (ab_Qi K S P)
  | 0, i, x, h0, hi, h => by
    apply v_M_countedMany_4 _ hr hK
    exact And.intro (fun _ => h x (by rw [show i = 120 by omega]; omega)) (fun h1 => absurd h1 (by simp only [wr]; omega))
  | m + 1, i, x, h0, hi, h => by
    have hp := psm_1 (f := ne0 c) h0
    have hci := hok.2 i h0 (by omega)
    apply v_M_countedMany_4 _ hr hK
    refine And.intro (fun h1 => absurd h1 (by simp only [wr]; omega)) (fun _ => ?_)
    apply v_M_tallyAt _ hr hK
    rw [← hb, hty.2.1 i h0 (by omega)]
    refine ⟨rfl, rfl, by omega, And.intro (fun h1 => ?_) (fun h1 => ?_)⟩
    · refine l_M_countedMany P hr hK ht hb hty hok m (i + 1) _ (by omega) (by omega) (fun z hz => h z ?_)
      have : ne0 c i = 0 := if_pos (by simp only [wr] at h1; omega)
      omega
    · refine l_M_countedMany P hr hK ht hb hty hok m (i + 1) _ (by omega) (by omega) (fun z hz => h z ?_)
      have : ne0 c i = 1 := if_neg (by simp only [wr] at h1; omega)
      omega
theorem s_M_countedMany {K : Int} {S : Nat} {g r : ab_H} {t b p n : Int} {s c V : Int → Int} (P : Int → ab_H → ab_H → Prop) (hr : SI r) (hK : 186 ≤ K) (ht : 0 ≤ t ∧ t < 4) (hb : b = 1091 + 129 * t) (hty : TyV (g 174) b s p c) (hok : TcOk s c p n V) (h : P (psm (ne0 c) 120) g r) : ab_RI m_M_countedMany [(2, 161), (0, t)] K S g r P := by
  apply v_M_countedMany _ hr hK
  refine l_M_countedMany P hr hK ht hb hty hok 120 0 0 (by omega) (by omega) (fun y hy => ?_)
  rw [psm_0] at hy
  rw [show y = psm (ne0 c) 120 by omega]
  exact h
theorem l_M_sums {K : Int} {S : Nat} {g r : ab_H} {t b p : Int} {s c : Int → Int} (P : Int → ab_H → ab_H → Prop) (hr : SI r) (hK : 186 ≤ K) (ht : 0 ≤ t ∧ t < 4) (hb : b = 1091 + 129 * t) (hty : TyV (g 174) b s p c) : ∀ (m : Nat) (i x : Int), 0 ≤ i → i + m = 8 → (∀ y : Int, y - x = psm (fun a => psm (tcn s c a) 120) 8 - psm (fun a => psm (tcn s c a) 120) i → P y g r) → ab_Rn m_M_sums 4 [some (2, 161), some (0, t), some (0, x), some (0, i)] [] (K, S, g, r) (ab_Qi K S P)
  | 0, i, x, h0, hi, h => by
    apply v_M_sums_4 _ hr hK
    exact And.intro (fun _ => h x (by rw [show i = 8 by omega]; omega)) (fun h1 => absurd h1 (by simp only [wr]; omega))
  | m + 1, i, x, h0, hi, h => by
    have hp := psm_1 (f := fun a => psm (tcn s c a) 120) h0
    apply v_M_sums_4 _ hr hK
    refine And.intro (fun h1 => absurd h1 (by simp only [wr]; omega)) (fun _ => ?_)
    apply v_M_tallyAt _ hr hK
    rw [← hb, hty.2.2 i h0 (by omega)]
    exact ⟨rfl, rfl, by omega, l_M_sums P hr hK ht hb hty m (i + 1) _ (by omega) (by omega) (fun z hz => h z (by omega))⟩
theorem tcn_all {s c : Int → Int} {n : Int} (hn : n ≤ 120) (hz : ∀ e : Int, 0 ≤ e → e < 120 → c e ≠ 0 → 0 ≤ s (9 * e + 1) ∧ s (9 * e + 1) < 8) : psm (fun a => psm (tcn s c a) 120) 8 = psm (mi1 c) 120 := by
  have h8 : ∀ f : Int → Int, psm f 8 = f 0 + f 1 + f 2 + f 3 + f 4 + f 5 + f 6 + f 7 := by
    intro f
    show 0 + f 0 + f 1 + f 2 + f 3 + f 4 + f 5 + f 6 + f 7 = _
    omega
  rw [h8]
  rw [← psm_add, ← psm_add, ← psm_add, ← psm_add, ← psm_add, ← psm_add, ← psm_add]
  refine psm_ext (fun e h0 h1 => ?_)
  have h2 := hz e h0 h1
  unfold tcn mi1
  by_cases h3 : c e = 0
  · rw [if_pos h3, if_neg (fun h => h.1 h3), if_neg (fun h => h.1 h3), if_neg (fun h => h.1 h3), if_neg (fun h => h.1 h3), if_neg (fun h => h.1 h3), if_neg (fun h => h.1 h3), if_neg (fun h => h.1 h3), if_neg (fun h => h.1 h3)]
    rfl
  · rw [if_neg h3]
    have h4 := h2 h3
    have w : s (9 * e + 1) = 0 ∨ s (9 * e + 1) = 1 ∨ s (9 * e + 1) = 2 ∨ s (9 * e + 1) = 3 ∨ s (9 * e + 1) = 4 ∨ s (9 * e + 1) = 5 ∨ s (9 * e + 1) = 6 ∨ s (9 * e + 1) = 7 := by omega
    have hc : (c e ≠ 0) = True := eq_true h3
    simp only [hc, true_and]
    rcases w with w | w | w | w | w | w | w | w
    all_goals rw [w]
    all_goals simp (config := {decide := true}) only [if_true, if_false]
    all_goals omega
theorem s_M_sums {K : Int} {S : Nat} {g r : ab_H} {t b p n : Int} {s c V : Int → Int} (P : Int → ab_H → ab_H → Prop) (hr : SI r) (hK : 186 ≤ K) (ht : 0 ≤ t ∧ t < 4) (hb : b = 1091 + 129 * t) (hty : TyV (g 174) b s p c) (hok : TcOk s c p n V) (hE : EvOk s n) (hn : n ≤ 120) (h : P (psm (mi1 c) 120) g r) : ab_RI m_M_sums [(2, 161), (0, t)] K S g r P := by
  apply v_M_sums _ hr hK
  refine l_M_sums P hr hK ht hb hty 8 0 0 (by omega) (by omega) (fun y hy => ?_)
  rw [psm_0, tcn_all (n := n) hn] at hy
  · rw [show y = psm (mi1 c) 120 by omega]
    exact h
  · intro e h0 h1 h2
    rcases hok.2 e h0 h1 with h3 | h3
    · exact absurd h3 h2
    · exact ((hE e h0 (by have := hok.1; omega)).2.1 h3.1.2).1
theorem l_M_anew {K : Int} {S : Nat} {r : ab_H} {t n k f ps vo : Int} {T : TT} {s : Int → Int} (P : Int → ab_H → ab_H → Prop) (hr : SI r) (hK : 186 ≤ K) (hT : TOk T) (hE : EvOk s n) (hn : n ≤ 120) (hps2 : -1 ≤ ps ∧ ps ≤ 7) (ht : 0 ≤ t ∧ t < 4) (hk2 : 0 ≤ k ∧ k ≤ 6) (hf2 : 1 ≤ f ∧ f ≤ 3) : ∀ (m : Nat) (i x : Int) (g : ab_H), 0 ≤ i → i + m = n → ReT g T → EvS g s → g 174 1080 = n → g 161 34 = -1 → g 161 35 = ps → g 166 t = k → g 167 t = f → (∀ e : Int, 0 ≤ e → e < n → g 183 e = (rep s (LF T s (-1) (-1)) (BF T s (-1) (-1)) (-1) vo n).2.2.2.2 e) → (∀ (y : Int) (g' : ab_H), (∀ c : Int, c ≠ 178 → g' c = g c) → y - x = psm (mi1 (cvn s (fun e => LF T s (-1) (-1) e (f - 1)) (rep s (LF T s (-1) (-1)) (BF T s (-1) (-1)) (-1) vo n).2.2.2.2 k)) n - psm (mi1 (cvn s (fun e => LF T s (-1) (-1) e (f - 1)) (rep s (LF T s (-1) (-1)) (BF T s (-1) (-1)) (-1) vo n).2.2.2.2 k)) i → P y g' r) → ab_Rn m_M_anew 6 [some (2, 161), some (0, t), some (0, x), some (0, i), none] [] (K, S, g, r) (ab_Qi K S P)
  | 0, i, x, g, h0, hi, hv, hs, hm, hp, hps, hk, hf, hc, h => by
    apply v_M_anew_6 _ hr hK
    apply s_M_many _ hr hK
    rw [hm]
    exact ⟨rfl, rfl, And.intro (fun _ => h x g (fun _ _ => rfl) (by rw [show i = n by omega]; omega)) (fun h1 => absurd h1 (by simp only [wr]; omega))⟩
  | m + 1, i, x, g, h0, hi, hv, hs, hm, hp, hps, hk, hf, hc, h => by
    have hpp := psm_1 (f := mi1 (cvn s (fun e => LF T s (-1) (-1) e (f - 1)) (rep s (LF T s (-1) (-1)) (BF T s (-1) (-1)) (-1) vo n).2.2.2.2 k)) h0
    apply v_M_anew_6 _ hr hK
    apply s_M_many _ hr hK
    rw [hm]
    refine ⟨rfl, rfl, And.intro (fun h1 => absurd h1 (by simp only [wr]; omega)) (fun _ => ?_)⟩
    apply s_M_counts (n := n) (vo := vo) _ hr hK hT hv hs hE hn ⟨h0, by omega⟩ hp hps hps2 ht hk hk2 hf hf2 (hc i h0 (by omega))
    intro z g2 f2 hz hzb
    have go : ∀ x' : Int, x' - x = mi1 (cvn s (fun e => LF T s (-1) (-1) e (f - 1)) (rep s (LF T s (-1) (-1)) (BF T s (-1) (-1)) (-1) vo n).2.2.2.2 k) i → ab_Rn m_M_anew 6 [some (2, 161), some (0, t), some (0, x'), some (0, i + 1), none] [] (K, S, g2, r) (ab_Qi K S P) := by
      intro x' hx'
      exact l_M_anew P hr hK hT hE hn hps2 ht hk2 hf2 m (i + 1) x' g2 (by omega) (by omega) (ReT_mono hv (fun c' h3 h4 => f2 c' (by omega))) (fun j h3 h4 => by rw [f2 174 (by omega)]; exact hs j h3 h4) (by rw [f2 174 (by omega)]; exact hm) (by rw [f2 161 (by omega)]; exact hp) (by rw [f2 161 (by omega)]; exact hps) (by rw [f2 166 (by omega)]; exact hk) (by rw [f2 167 (by omega)]; exact hf) (fun e h3 h4 => by rw [f2 183 (by omega)]; exact hc e h3 h4) (fun y g' f' hy => h y g' (fun c' h5 => by rw [f' c' h5, f2 c' h5]) (by omega))
    refine ⟨rfl, And.intro (fun h1 => go _ ?_) (fun h1 => go _ ?_)⟩
    · unfold mi1
      rw [← hz, if_pos (by simp only [wr] at h1; omega)]
      omega
    · unfold mi1
      rw [← hz, if_neg (by simp only [wr] at h1; omega)]
      omega
theorem l_M_copies {K : Int} {S : Nat} {r : ab_H} {a b i k na nb : Int} (P : ab_H → ab_H → Prop) (hr : SI r) (hK : 186 ≤ K) (ha : ab_AR K a 100 na) (hb : ab_AR K b 100 nb) (hab : a ≠ b) (hi : 0 ≤ i ∧ i + 1607 ≤ na) (hk : 0 ≤ k ∧ k + 1607 ≤ nb) : ∀ (m : Nat) (j : Int) (g : ab_H), 0 ≤ j → j + m = 1607 → (∀ l : Int, 0 ≤ l → l < j → g b (k + l) = g a (i + l)) → (∀ g' : ab_H, (∀ c : Int, c ≠ b → g' c = g c) → (∀ l : Int, l < k ∨ k + 1607 ≤ l → g' b l = g b l) → (∀ l : Int, 0 ≤ l → l < 1607 → g' b (k + l) = g a (i + l)) → P g' r) → ab_Rn m_M_copies 2 [some (2, a), some (0, i), some (2, b), some (0, k), some (0, j)] [] (K, S, g, r) (ab_Qv K S P)
  | 0, j, g, h0, hj, hl, h => by
    apply v_M_copies_2 _ hr hK ha hb
    exact And.intro (fun _ => h g (fun _ _ => rfl) (fun _ _ => rfl) (fun l h1 h2 => hl l h1 (by omega))) (fun h1 => absurd h1 (by simp only [wr]; omega))
  | m + 1, j, g, h0, hj, hl, h => by
    apply v_M_copies_2 _ hr hK ha hb
    refine And.intro (fun h1 => absurd h1 (by simp only [wr]; omega)) (fun _ => ⟨by omega, by omega, fun g1 hg1 => ?_⟩)
    refine l_M_copies P hr hK ha hb hab hi hk m (j + 1) g1 (by omega) (by omega) (fun l h1 h2 => ?_) (fun g' f1 f2 f3 => h g' (fun c hc => by rw [f1 c hc, hg1, up_f hc]) (fun l hl' => by rw [f2 l hl', hg1, up_k (by omega)]) (fun l h1 h2 => by rw [f3 l h1 h2, hg1, up_a hab]))
    rw [hg1, up_i, up_a hab]
    by_cases h3 : l = j
    · rw [if_pos (by omega), h3]
    · rw [if_neg (by omega)]; exact hl l h1 (by omega)
theorem s_M_copies {K : Int} {S : Nat} {g r : ab_H} {a b i k na nb : Int} (P : ab_H → ab_H → Prop) (hr : SI r) (hK : 186 ≤ K) (ha : ab_AR K a 100 na) (hb : ab_AR K b 100 nb) (hab : a ≠ b) (hi : 0 ≤ i ∧ i + 1607 ≤ na) (hk : 0 ≤ k ∧ k + 1607 ≤ nb) (h : ∀ g' : ab_H, (∀ c : Int, c ≠ b → g' c = g c) → (∀ l : Int, l < k ∨ k + 1607 ≤ l → g' b l = g b l) → (∀ l : Int, 0 ≤ l → l < 1607 → g' b (k + l) = g a (i + l)) → P g' r) : ab_RV m_M_copies [(2, a), (0, i), (2, b), (0, k)] K S g r P := by
  apply v_M_copies _ hr hK ha hb
  exact l_M_copies P hr hK ha hb hab hi hk 1607 0 g (by omega) (by omega) (fun l h1 h2 => by omega) h
theorem ar_s {K : Int} (hK : 186 ≤ K) : ab_AR K 174 100 1607 := ⟨rfl, by omega, by omega⟩
theorem ar_aside {K : Int} (hK : 186 ≤ K) : ab_AR K 175 100 1607 := ⟨rfl, by omega, by omega⟩
theorem ar_image {K : Int} (hK : 186 ≤ K) : ab_AR K 176 100 1607 := ⟨rfl, by omega, by omega⟩
theorem ar_pasts {K : Int} (hK : 186 ≤ K) : ab_AR K 177 100 32140 := ⟨rfl, by omega, by omega⟩
/-- one more remembered: g' against g -/
def Rem (g g' : ab_H) : Prop := (∀ c : Int, c ≠ 161 → c ≠ 177 → g' c = g c) ∧ (∀ j : Int, j ≠ 30 → g' 161 j = g 161 j) ∧ g' 161 30 = (if g 161 30 = 20 then 20 else g 161 30 + 1) ∧ (∀ j i : Int, 0 ≤ j → j < (if g 161 30 = 20 then 19 else g 161 30) → 0 ≤ i → i < 1607 → g' 177 (1607 * j + i) = g 177 (1607 * (if g 161 30 = 20 then j + 1 else j) + i)) ∧ ∀ i : Int, 0 ≤ i → i < 1607 → g' 177 (1607 * (if g 161 30 = 20 then 19 else g 161 30) + i) = g 174 i
theorem l_M_remembers {K : Int} {S : Nat} {r g0 : ab_H} (P : ab_H → ab_H → Prop) (hr : SI r) (hK : 186 ≤ K) (hU : g0 161 30 = 20) (h : ∀ g' : ab_H, Rem g0 g' → P g' r) : ∀ (m : Nat) (i : Int) (g : ab_H), 0 ≤ i → i + m = 30533 → (∀ c : Int, c ≠ 177 → g c = g0 c) → (∀ j : Int, 0 ≤ j → j < i → g 177 j = g0 177 (1607 + j)) → (∀ j : Int, i ≤ j → g 177 j = g0 177 j) → ab_Rn m_M_remembers 6 [some (2, 161), some (0, i)] [] (K, S, g, r) (ab_Qv K S P)
  | 0, i, g, h0, hi, f1, f2, f3 => by
    have hi2 : i = 30533 := by omega
    subst hi2
    apply v_M_remembers_6 _ hr hK
    refine And.intro (fun _ g1 hg1 => ?_) (fun h1 => absurd h1 (by simp only [wr]; omega))
    have h30 : g1 161 30 = 19 := by rw [hg1, up_s, f1 161 (by omega), hU]; rfl
    rw [h30]
    apply s_M_copies _ hr hK (ar_s hK) (ar_pasts hK) (by omega) (by omega) (by omega)
    intro g2 e1 e2 e3
    refine ⟨rfl, fun g4 hg4 => h g4 ⟨fun c a b => ?_, fun j a => ?_, ?_, fun j k h1 h2 h3 h4 => ?_, fun k h3 h4 => ?_⟩⟩
    · rw [hg4, up_f a, e1 c b, hg1, up_f a, f1 c b]
    · rw [hg4, up_k a, e1 161 (by omega), hg1, up_k a, f1 161 (by omega)]
    · rw [hg4, up_s, e1 161 (by omega), h30, hU]; rfl
    · rw [hU] at h2 ⊢
      rw [if_pos rfl] at h2 ⊢
      rw [hg4, up_a (by omega), e2 _ (by omega), hg1, up_a (by omega), f2 _ (by omega) (by omega)]
      congr 1; omega
    · rw [hU, if_pos rfl, hg4, up_a (by omega), e3 k h3 h4, hg1, up_a (by omega), f1 174 (by omega)]
      congr 1; omega
  | m + 1, i, g, h0, hi, f1, f2, f3 => by
    apply v_M_remembers_6 _ hr hK
    refine And.intro (fun h1 => absurd h1 (by simp only [wr]; omega)) (fun _ => ⟨by omega, by omega, fun g5 hg5 => ?_⟩)
    refine l_M_remembers P hr hK hU h m (i + 1) g5 (by omega) (by omega) (fun c hc => by rw [hg5, up_f hc]; exact f1 c hc) (fun j h1 h2 => ?_) (fun j h1 => by rw [hg5, up_k (by omega)]; exact f3 j (by omega))
    rw [hg5, up_i]
    by_cases h3 : j = i
    · rw [if_pos h3, h3]; exact f3 _ (by omega)
    · rw [if_neg h3]; exact f2 j h1 (by omega)
theorem s_M_remembers {K : Int} {S : Nat} {g r : ab_H} (P : ab_H → ab_H → Prop) (hr : SI r) (hK : 186 ≤ K) (hU : 0 ≤ g 161 30 ∧ g 161 30 ≤ 20) (h : ∀ g' : ab_H, Rem g g' → P g' r) : ab_RV m_M_remembers [(2, 161)] K S g r P := by
  apply v_M_remembers _ hr hK
  refine And.intro (fun h1 => ?_) (fun h1 => ?_)
  · have hU2 : g 161 30 ≠ 20 := by simp only [wr] at h1; omega
    apply s_M_copies _ hr hK (ar_s hK) (ar_pasts hK) (by omega) (by omega) (by omega)
    intro g1 e1 e2 e3
    refine ⟨rfl, fun g3 hg3 => h g3 ⟨fun c a b => by rw [hg3, up_f a, e1 c b], fun j a => by rw [hg3, up_k a, e1 161 (by omega)], ?_, fun j k h1 h2 h3 h4 => ?_, fun k h3 h4 => ?_⟩⟩
    · rw [hg3, up_s, e1 161 (by omega), if_neg hU2]
    · rw [if_neg hU2] at h2 ⊢
      rw [hg3, up_a (by omega), e2 _ (by omega)]
    · rw [if_neg hU2, hg3, up_a (by omega), e3 k h3 h4]
      congr 1; omega
  · have hU2 : g 161 30 = 20 := by simp only [wr] at h1; omega
    exact l_M_remembers P hr hK hU2 h 30533 0 g (by omega) (by omega) (fun _ _ => rfl) (fun j h1 h2 => by omega) (fun _ _ => rfl)
