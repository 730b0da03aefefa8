/-! SPECS, part zzze: text, the reference begins with the EVENTS told; the class takes over. -/
theorem evadd_f {s : Int → Int} {n k a o t sh x y w j : Int} : evadd s n k a o t sh x y w j = if j = 9 * n + 5 then x else if j = 9 * n + 6 then y else if j = 9 * n + 7 then w else evadd s n k a o t sh 0 0 0 j := by
  unfold evadd
  by_cases h5 : j = 9 * n + 5
  · rw [if_pos h5, if_pos (by omega), if_neg (by omega), if_neg (by omega), if_neg (by omega), if_neg (by omega), if_neg (by omega), if_pos h5]
  · rw [if_neg h5]
    by_cases h6 : j = 9 * n + 6
    · rw [if_pos h6, if_pos (by omega), if_neg (by omega), if_neg (by omega), if_neg (by omega), if_neg (by omega), if_neg (by omega), if_neg h5, if_pos h6]
    · rw [if_neg h6]
      by_cases h7 : j = 9 * n + 7
      · rw [if_pos h7, if_pos (by omega), if_neg (by omega), if_neg (by omega), if_neg (by omega), if_neg (by omega), if_neg (by omega), if_neg h5, if_neg h6, if_pos h7]
      · rw [if_neg h7, if_neg h5, if_neg h6, if_neg h7, if_neg h5, if_neg h6, if_neg h7]
def BgS (g0 g : ab_H) (E : Int → Int → Int) (m : Nat) (ev kp : Int) : Prop := (∀ c : Int, c ≠ 161 → c ≠ 174 → g c = g0 c) ∧ (∀ j : Int, j ≠ 32 → g 161 j = g0 161 j) ∧ EvS g (bsf E m) ∧ g 174 1080 = m ∧ SnV (g 174) (sn (bsf E m) ev kp m) ∧ (g 174 1089 = ev ∧ g 174 1090 = kp) ∧ ∀ j : Int, 1091 ≤ j → j < 1607 → g 174 j = 0
theorem l_M_beg74 {K : Int} {S : Nat} {r g0 : ab_H} {e : Int} (P : ab_H → ab_H → Prop) (hr : SI r) (hK : 186 ≤ K) (he : 0 ≤ e ∧ e < 50) (h : ∀ g' : ab_H, (∀ c : Int, c ≠ 174 → g' c = g0 c) → (∀ j : Int, j < 9 * e + 5 ∨ 9 * e + 8 ≤ j → g' 174 j = g0 174 j) → (∀ k : Int, 0 ≤ k → k < 3 → g' 174 (9 * e + 5 + k) = g0 172 (8 * e + 5 + k)) → ab_Rn m_M_begins 30 [some (2, 161), some (0, e + 1), none, none] [] (K, S, g', r) (ab_Qv K S P)) : ∀ (m : Nat) (i : Int) (g : ab_H), 0 ≤ i → i + m = 3 → (∀ c : Int, c ≠ 174 → g c = g0 c) → (∀ j : Int, j < 9 * e + 5 ∨ 9 * e + 8 ≤ j → g 174 j = g0 174 j) → (∀ k : Int, 0 ≤ k → k < i → g 174 (9 * e + 5 + k) = g0 172 (8 * e + 5 + k)) → ab_Rn m_M_begins 74 [some (2, 161), some (0, e), some (0, 8 * e), some (0, i)] [] (K, S, g, r) (ab_Qv K S P) := by
  intro m
  induction m with
  | zero =>
    intro i g h0 hi k1 k2 k3
    apply v_M_begins_74 _ hr hK
    exact And.intro (fun _ => h g k1 k2 (fun k a b => k3 k a (by omega))) (fun q => absurd q (by simp only [wr]; omega))
  | succ m ih =>
    intro i g h0 hi k1 k2 k3
    apply v_M_begins_74 _ hr hK
    refine And.intro (fun q => absurd q (by simp only [wr]; omega)) (fun _ => ⟨by omega, by omega, fun g1 h1 => ?_⟩)
    refine ih (i + 1) g1 (by omega) (by omega) (fun c a => by rw [h1, up_f a]; exact k1 c a) (fun j a => by rw [h1, up_k (by omega)]; exact k2 j a) (fun k a b => ?_)
    rw [h1]
    by_cases q : k = i
    · rw [q, up_s, k1 172 (by omega)]
    · rw [up_k (by omega)]; exact k3 k a (by omega)
theorem l_M_beg30 {K : Int} {S : Nat} {r g0 : ab_H} {E : Int → Int → Int} {n nA ev kp : Int} (P : ab_H → ab_H → Prop) (hr : SI r) (hK : 186 ≤ K) (hn : 0 ≤ n ∧ n ≤ 50) (hE : EvAll E n nA) (hev : 1 ≤ ev ∧ ev ≤ 999) (hkp : 0 ≤ kp ∧ kp ≤ 6) (h163 : g0 163 5 = n) (hrd : ∀ e f : Int, 0 ≤ e → e < n → 0 ≤ f → f < 8 → g0 172 (8 * e + f) = E e f) (h : ∀ g' : ab_H, BgS g0 g' E n.toNat ev kp → P g' r) : ∀ (d m : Nat) (g : ab_H), (m : Int) + d = n → BgS g0 g E m ev kp → ab_Rn m_M_begins 30 [some (2, 161), some (0, (m : Int)), none, none] [] (K, S, g, r) (ab_Qv K S P) := by
  intro d
  induction d with
  | zero =>
    intro m g hm hB
    apply v_M_begins_30 _ hr hK
    rw [hB.1 163 (by omega) (by omega), h163]
    refine ⟨by omega, And.intro (fun _ => h g ?_) (fun q => absurd q (by simp only [wr]; omega))⟩
    rw [show n.toNat = m by omega]; exact hB
  | succ d ih =>
    intro m g hm hB
    obtain ⟨b1, b2, b3, b4, b5, b6, b7⟩ := hB
    obtain ⟨o1, o2, o3⟩ := EvAll_ok hE m (by omega)
    obtain ⟨i1, i2, i3, i4, i5⟩ := hE m (by omega)
    apply v_M_begins_30 _ hr hK
    rw [b1 163 (by omega) (by omega), h163, b1 172 (by omega) (by omega), hrd m 0 (by omega) (by omega) (by omega) (by omega), hrd m 1 (by omega) (by omega) (by omega) (by omega), hrd m 2 (by omega) (by omega) (by omega) (by omega), hrd m 3 (by omega) (by omega) (by omega) (by omega), hrd m 4 (by omega) (by omega) (by omega) (by omega)]
    refine ⟨by omega, And.intro (fun q => absurd q (by simp only [wr]; omega)) (fun _ => ⟨by omega, by omega, by omega, by omega, by omega, ?_⟩)⟩
    apply s_M_comes (n := m) (ev := ev) (kp := kp) (s := bsf E m) (q := sn (bsf E m) ev kp m) _ hr hK b3 b4 o1 (by omega) i1 b5 (SNok_sn hkp.1 (by omega)) b6.1 b6.2 hkp hev
    intro g1 f1 f2 f3 f4 _
    refine ⟨rfl, ?_⟩
    refine l_M_beg74 (g0 := g1) (e := m) P hr hK (by omega) ?_ 3 0 g1 (by omega) (by omega) (fun _ _ => rfl) (fun _ _ => rfl) (fun k a b => absurd b (by omega))
    intro g' c1 c2 c3
    have e172 : ∀ k : Int, 0 ≤ k → k < 3 → g1 172 (8 * (m : Int) + 5 + k) = E m (5 + k) := fun k a b => by rw [f1.1 172 (by omega) (by omega), b1 172 (by omega) (by omega), show 8 * (m : Int) + 5 + k = 8 * (m : Int) + (5 + k) by omega]; exact hrd m (5 + k) (by omega) (by omega) (by omega) (by omega)
    have hB2 : BgS g0 g' E (m + 1) ev kp := by
      have es : bsf E (m + 1) = evadd (bsf E m) m (E m 0) (E m 1) (E m 2) (E m 3) (E m 4) (E m 5) (E m 6) (E m 7) := rfl
      have em : ((m + 1 : Nat) : Int) = (m : Int) + 1 := by omega
      refine ⟨fun c a b => by rw [c1 c b, f1.1 c b a, b1 c a b], fun j a => by rw [c1 161 (by omega), f1.2.1 j a, b2 j a], ?_, ?_, ?_, ?_, ?_⟩
      · intro j a b
        rw [es, evadd_f]
        by_cases h5 : j = 9 * (m : Int) + 5
        · rw [if_pos h5]
          have := c3 0 (by omega) (by omega)
          rw [show 9 * (m : Int) + 5 + 0 = j by omega, e172 0 (by omega) (by omega)] at this
          exact this
        · rw [if_neg h5]
          by_cases h6 : j = 9 * (m : Int) + 6
          · rw [if_pos h6]
            have := c3 1 (by omega) (by omega)
            rw [show 9 * (m : Int) + 5 + 1 = j by omega, e172 1 (by omega) (by omega)] at this
            exact this
          · rw [if_neg h6]
            by_cases h7 : j = 9 * (m : Int) + 7
            · rw [if_pos h7]
              have := c3 2 (by omega) (by omega)
              rw [show 9 * (m : Int) + 5 + 2 = j by omega, e172 2 (by omega) (by omega)] at this
              exact this
            · rw [if_neg h7, c2 j (by omega)]
              exact f2 j a b
      · rw [c2 1080 (by omega), f3, em]
      · have hk : KEq (evadd (bsf E m) m (E m 0) (E m 1) (E m 2) (E m 3) (E m 4) 0 0 0) (bsf E (m + 1)) ((m : Int) + 1) := by
          intro e a b
          have q : ∀ f : Int, f = 0 ∨ f = 2 ∨ f = 4 → evadd (bsf E m) m (E m 0) (E m 1) (E m 2) (E m 3) (E m 4) 0 0 0 (9 * e + f) = bsf E (m + 1) (9 * e + f) := fun f hf => by
            rw [es, evadd_f (x := E m 5), if_neg (by omega), if_neg (by omega), if_neg (by omega)]
          exact ⟨q 0 (by omega), fun _ => q 2 (by omega), q 4 (by omega)⟩
        have hs : sstep (evadd (bsf E m) m (E m 0) (E m 1) (E m 2) (E m 3) (E m 4) 0 0 0) (psm (wts (evadd (bsf E m) m (E m 0) (E m 1) (E m 2) (E m 3) (E m 4) 0 0 0))) ev kp (sn (bsf E m) ev kp m) m = sn (bsf E (m + 1)) ev kp ((m : Int) + 1) := by
          rw [← sn_ext hkp.1 hk, sn_s (by omega), ← sn_ext hkp.1 (evadd_k (s := bsf E m))]
        rw [hs] at f4
        rw [em]
        have hok := SNok_sn (s := bsf E (m + 1)) (ev := ev) hkp.1 (show (0 : Int) ≤ (m : Int) + 1 by omega)
        have hq1 := hok.1
        exact ⟨by rw [c2 1081 (by omega)]; exact f4.1, fun i a b => by rw [c2 (1082 + i) (by omega)]; exact f4.2 i a b⟩
      · exact ⟨by rw [c2 _ (by omega), f1.2.2 _ (by omega)]; exact b6.1, by rw [c2 _ (by omega), f1.2.2 _ (by omega)]; exact b6.2⟩
      · intro j a b
        rw [c2 j (by omega), f1.2.2 j (by omega)]; exact b7 j a b
    have := ih (m + 1) g' (by omega) hB2
    rw [show ((m + 1 : Nat) : Int) = (m : Int) + 1 by omega] at this
    exact this
theorem l_M_beg2 {K : Int} {S : Nat} {r g0 : ab_H} {E : Int → Int → Int} {n nA ev kp : Int} (P : ab_H → ab_H → Prop) (hr : SI r) (hK : 186 ≤ K) (hn : 0 ≤ n ∧ n ≤ 50) (hE : EvAll E n nA) (hev : 1 ≤ ev ∧ ev ≤ 999) (hkp : 0 ≤ kp ∧ kp ≤ 6) (h163 : g0 163 5 = n ∧ g0 163 2 = ev ∧ g0 163 3 = kp) (hrd : ∀ e f : Int, 0 ≤ e → e < n → 0 ≤ f → f < 8 → g0 172 (8 * e + f) = E e f) (h : ∀ g' : ab_H, BgS g0 g' E n.toNat ev kp → P g' r) : ∀ (m : Nat) (i : Int) (g : ab_H), 0 ≤ i → i + m = 1607 → (∀ c : Int, c ≠ 174 → g c = g0 c) → (∀ j : Int, 0 ≤ j → j < i → g 174 j = 0) → ab_Rn m_M_begins 2 [some (2, 161), some (0, i), none, none] [] (K, S, g, r) (ab_Qv K S P) := by
  intro m
  induction m with
  | zero =>
    intro i g h0 hi k1 k2
    apply v_M_begins_2 _ hr hK
    rw [k1 163 (by omega)]
    refine And.intro (fun _ => ⟨by omega, by omega, fun g1 h1 => ?_⟩) (fun q => absurd q (by simp only [wr]; omega))
    rw [h1, up_f (by omega), k1 163 (by omega)]
    refine ⟨by omega, by omega, fun g2 h2 => ?_⟩
    have f : ∀ c : Int, c ≠ 174 → g2 c = g0 c := fun c a => by rw [h2, up_f a, up_f a, k1 c a]
    have fj : ∀ j : Int, j ≠ 1089 → j ≠ 1090 → g2 174 j = g 174 j := fun j a b => by rw [h2, up_k b, up_k a]
    have hB : BgS g0 g2 E 0 ev kp := by
      refine ⟨fun c a b => f c b, fun j a => by rw [f 161 (by omega)], fun j a b => by rw [fj j (by omega) (by omega)]; exact k2 j a (by omega), by rw [fj _ (by omega) (by omega)]; exact k2 1080 (by omega) (by omega), ⟨by rw [fj _ (by omega) (by omega)]; exact k2 1081 (by omega) (by omega), fun i a b => absurd b (by show ¬ i < 0; omega)⟩, ⟨?_, ?_⟩, fun j a b => by rw [fj j (by omega) (by omega)]; exact k2 j (by omega) (by omega)⟩
      · rw [h2, up_k (by omega), up_s]; exact h163.2.1
      · rw [h2, up_s]; exact h163.2.2
    exact l_M_beg30 P hr hK hn hE hev hkp h163.1 hrd h n.toNat 0 g2 (by omega) hB
  | succ m ih =>
    intro i g h0 hi k1 k2
    apply v_M_begins_2 _ hr hK
    refine And.intro (fun q => absurd q (by simp only [wr]; omega)) (fun _ => ⟨by omega, fun g3 h3 => ?_⟩)
    refine ih (i + 1) g3 (by omega) (by omega) (fun c a => by rw [h3, up_f a]; exact k1 c a) (fun j a b => ?_)
    rw [h3]
    by_cases q : j = i
    · rw [q, up_s]
    · rw [up_k q]; exact k2 j a (by omega)
theorem u_begins {K : Int} {S : Nat} {g r : ab_H} {E : Int → Int → Int} {n nA ev kp : Int} (P : ab_H → ab_H → Prop) (hr : SI r) (hK : 186 ≤ K) (hn : 0 ≤ n ∧ n ≤ 50) (hE : EvAll E n nA) (hev : 1 ≤ ev ∧ ev ≤ 999) (hkp : 0 ≤ kp ∧ kp ≤ 6) (h163 : g 163 5 = n ∧ g 163 2 = ev ∧ g 163 3 = kp) (hrd : ∀ e f : Int, 0 ≤ e → e < n → 0 ≤ f → f < 8 → g 172 (8 * e + f) = E e f) (h : ∀ g' : ab_H, BgS g g' E n.toNat ev kp → P g' r) : ab_RV m_M_begins [(2, 161)] K S g r P := by
  apply v_M_begins _ hr hK
  exact l_M_beg2 P hr hK hn hE hev hkp h163 hrd h 1607 0 g (by omega) (by omega) (fun _ _ => rfl) (fun j a b => absurd b (by omega))
/-- the class LIFTS what it takes over -/
theorem l_EL_take {K : Int} {S : Nat} {r g0 : ab_H} {n : Int} {s : Int → Int} {T : TT} (P : ab_H → ab_H → Prop) (hr : SI r) (hK : 186 ≤ K) (hK2 : 187 ≤ K) (hL : isLg (r 0 5)) (hTe : isTe (r 0 3)) (hn : 0 ≤ n ∧ n ≤ 120) (hE : EvOk s n) (hT : TOk T) (hT0 : TeV g0 (r 0 3) T) (hv0 : LgV g0 (r 0 5) s n) (h : ∀ g' : ab_H, (∀ c j : Int, c ≠ r 0 5 + 7 → c ≠ r 0 5 + 8 → g' c j = g0 c j) → LgL g' (r 0 5) s (LF T s (-1) (-1)) (BF T s (-1) (-1)) n → P g' r) : ∀ (m : Nat) (i : Int) (g : ab_H), 0 ≤ i → i + m = n → (∀ c j : Int, c ≠ r 0 5 + 7 → c ≠ r 0 5 + 8 → g c j = g0 c j) → (∀ e : Int, 0 ≤ e → e < i → s (9 * e + 0) ≠ 7 → g (r 0 5 + 8) e = BF T s (-1) (-1) e ∧ ∀ f : Int, 0 ≤ f → f < 3 → g (r 0 5 + 7) (3 * e + f) = LF T s (-1) (-1) e f) → ab_Rn m_EL_takeOverSpares 22 [some (2, 0), none, none, some (0, i)] [] (K, S, g, r) (ab_Qv K S P) := by
  have hL2 := hL
  have hTe2 := hTe
  unfold isLg at hL2
  unfold isTe at hTe2
  intro m
  induction m with
  | zero =>
    intro i g h0 hi hf hl
    apply v_EL_takeOverSpares_22 _ hr hK
    rw [hf _ _ (by omega) (by omega), hv0.1]
    exact ⟨hL, And.intro (fun _ => h g hf (fun e a b c => hl e a (by omega) c)) (fun q => absurd q (by simp only [wr]; omega))⟩
  | succ m ih =>
    intro i g h0 hi hf hl
    apply v_EL_takeOverSpares_22 _ hr hK
    rw [hf _ _ (by omega) (by omega), hv0.1]
    refine ⟨hL, And.intro (fun q => absurd q (by simp only [wr]; omega)) (fun _ => ⟨hTe, hL, ?_⟩)⟩
    have hvi := hv0.2.2.1 i h0 (by omega)
    apply s_Te_lift (n := n) (T := T) (s := s) _ hr hK hK2 hTe hL hT (TeV_mono hT0 (fun c j a b => hf c j (by omega) (by omega))) (by rw [hf _ _ (by omega) (by omega)]; exact hvi.1) (by rw [hf _ _ (by omega) (by omega)]; exact hvi.2.2.2.2.1) (fun q f a b => by rw [hf _ _ (by omega) (by omega)]; exact hvi.2.2.2.2.2.2 q f a b) hE ⟨h0, by omega⟩ (by omega) (by omega) (by omega)
    intro g' f' hg'
    refine ⟨rfl, ih (i + 1) g' (by omega) (by omega) (fun c j a b => by rw [f' c j (by omega) (by omega)]; exact hf c j a b) (fun e a b q => ?_)⟩
    by_cases he : e = i
    · rw [he] at q ⊢; exact hg' q
    · have h3 := hl e a (by omega) q
      refine ⟨by rw [f' _ _ (by omega) (by omega)]; exact h3.1, fun f u v => by rw [f' _ _ (by omega) (by omega)]; exact h3.2 f u v⟩
