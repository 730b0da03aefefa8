/-! SPECS, part l: SNAPSHOTS depend on the EVENTS ahead alone; the reference's weights and SNAPSHOTS. -/
theorem lwr_ext {W W' pl : Int → Int} : ∀ m : Nat, (∀ k : Int, 0 ≤ k → k ≤ m → gap W pl k = gap W' pl k) → lwr W pl m = lwr W' pl m
  | 0, _ => rfl
  | m + 1, h => by
    have h1 := lwr_ext m (fun k h0 h1 => h k h0 (by omega))
    have h2 := lwr_in (W := W') (pl := pl) m
    show (if gap W pl ((m : Int) + 1) < gap W pl (lwr W pl m) then (m : Int) + 1 else lwr W pl m) = (if gap W' pl ((m : Int) + 1) < gap W' pl (lwr W' pl m) then (m : Int) + 1 else lwr W' pl m)
    rw [h1, h ((m : Int) + 1) (by omega) (by omega), h (lwr W' pl m) (by omega) (by omega)]
/-- two rows of EVENTS with the same KINDS, others and SHAPES -/
def KEq (s s' : Int → Int) (n : Int) : Prop := ∀ e : Int, 0 ≤ e → e < n → s (9 * e + 0) = s' (9 * e + 0) ∧ (s (9 * e + 0) = 7 → s (9 * e + 2) = s' (9 * e + 2)) ∧ s (9 * e + 4) = s' (9 * e + 4)
theorem W_ext {s s' : Int → Int} {n p : Int} (h : KEq s s' n) (hp : p ≤ n) : psm (wts s) p = psm (wts s') p :=
  psm_ext fun i h0 h1 => wts_ext (h i h0 (by omega)).1 (h i h0 (by omega)).2.2
theorem sstep_ext {s s' : Int → Int} {n e ev kp : Int} {q : SN} (h : KEq s s' n) (he : 0 ≤ e ∧ e < n) (hq : SNok q kp e) : sstep s (psm (wts s)) ev kp q e = sstep s' (psm (wts s')) ev kp q e := by
  have h1 := h e he.1 he.2
  have hv : svoid s q e = svoid s' q e := by
    unfold svoid
    by_cases h7 : s (9 * e + 0) = 7
    · rw [if_pos h7, if_pos (by rw [← h1.1]; exact h7), h1.2.1 h7]
    · rw [if_neg h7, if_neg (by rw [← h1.1]; exact h7)]
  have hok := SNok_svoid (s := s') (e := e) hq
  have hz := hok.1
  have hsl := slat_in hok he.1
  unfold sstep
  rw [hv, W_ext h (by omega : e + 1 ≤ n), W_ext h (by omega : slat (svoid s' q e) ≤ n)]
  have hl : lwr (psm (wts s)) (fu (svoid s' q e).2 (svoid s' q e).1 (e + 1)) ((svoid s' q e).1 - 1).toNat = lwr (psm (wts s')) (fu (svoid s' q e).2 (svoid s' q e).1 (e + 1)) ((svoid s' q e).1 - 1).toNat := by
    by_cases h0 : (svoid s' q e).1 = 0
    · rw [show ((svoid s' q e).1 - 1).toNat = 0 by omega]; rfl
    · have hb : ∀ i : Int, 0 ≤ i → i < (svoid s' q e).1 + 1 → fu (svoid s' q e).2 (svoid s' q e).1 (e + 1) i ≤ n := by
        intro i h2 h3
        simp only [fu]
        split
        · omega
        · have := hok.2.1 i h2 (by omega); omega
      refine lwr_ext _ (fun k h2 h3 => ?_)
      unfold gap
      rw [W_ext h (hb (k + 1) (by omega) (by omega))]
      split
      · rw [W_ext h (hb (k - 1) (by omega) (by omega))]
      · rw [W_ext h (by omega : (0 : Int) ≤ n)]
  have ha : sadd (psm (wts s)) kp (svoid s' q e) (e + 1) = sadd (psm (wts s')) kp (svoid s' q e) (e + 1) := by
    unfold sadd
    rw [hl]
  rw [ha]
theorem snN_ext {s s' : Int → Int} {n ev kp : Int} (hk : 0 ≤ kp) (h : KEq s s' n) : ∀ m : Nat, (m : Int) ≤ n → snN s ev kp m = snN s' ev kp m
  | 0, _ => rfl
  | m + 1, hm => by
    show sstep s (psm (wts s)) ev kp (snN s ev kp m) m = sstep s' (psm (wts s')) ev kp (snN s' ev kp m) m
    rw [snN_ext hk h m (by omega)]
    exact sstep_ext h ⟨by omega, by omega⟩ (SNok_snN hk m)
theorem sn_ext {s s' : Int → Int} {n ev kp : Int} (hk : 0 ≤ kp) (h : KEq s s' n) : sn s ev kp n = sn s' ev kp n := by
  by_cases h0 : 0 ≤ n
  · exact snN_ext hk h n.toNat (by omega)
  · unfold sn; rw [show n.toNat = 0 by omega]; rfl
/-- the reference's EVENTS are those of s -/
def EvS (g : ab_H) (s : Int → Int) : Prop := ∀ j : Int, 0 ≤ j → j < 1080 → g 174 j = s j
theorem s_M_weightOf {K : Int} {S : Nat} {g r : ab_H} {e n : Int} {s : Int → Int} (P : Int → ab_H → ab_H → Prop) (hr : SI r) (hK : 186 ≤ K) (hs : EvS g s) (hE : EvOk s n) (hn : n ≤ 120) (he : 0 ≤ e ∧ e < n) (h : P (wts s e) g r) : ab_RI m_M_weightOf [(2, 161), (0, e)] K S g r P := by
  have c0 := hE e he.1 he.2
  have h0 := hs (9 * e + 0) (by omega) (by omega)
  have h4 := hs (9 * e + 4) (by omega) (by omega)
  apply v_M_weightOf _ hr hK
  apply s_M_isVoid _ hr hK (by omega) (by omega)
  intro x hx
  rw [h0] at hx
  rw [h4]
  refine ⟨rfl, rfl, And.intro (fun h1 => ⟨by omega, ?_⟩) (fun h1 => ?_)⟩
  · unfold wts at h
    rw [if_neg (by simp only [wr] at h1; omega)] at h
    exact h
  · unfold wts at h
    rw [if_pos (by simp only [wr] at h1; omega)] at h
    exact h
theorem l_M_weights {K : Int} {S : Nat} {g r : ab_H} {b n : Int} {s : Int → Int} (P : Int → ab_H → ab_H → Prop) (hr : SI r) (hK : 186 ≤ K) (hs : EvS g s) (hE : EvOk s n) (hn : n ≤ 120) (hb : b ≤ n) : ∀ (m : Nat) (i x : Int), 0 ≤ i → i + m = b → (∀ y : Int, y - x = psm (wts s) b - psm (wts s) i → P y g r) → ab_Rn m_M_weights 4 [some (2, 161), none, some (0, b), some (0, x), some (0, i)] [] (K, S, g, r) (ab_Qi K S P)
  | 0, i, x, h0, hi, h => by
    apply v_M_weights_4 _ hr hK
    simp only [wr]
    exact And.intro (fun _ => h x (by rw [show i = b by omega]; omega)) (fun h1 => by omega)
  | m + 1, i, x, h0, hi, h => by
    have hp := psm_1 (f := wts s) h0
    apply v_M_weights_4 _ hr hK
    simp only [wr]
    refine And.intro (fun h1 => by omega) (fun _ => ?_)
    apply s_M_weightOf _ hr hK hs hE hn (by omega)
    exact ⟨rfl, rfl, l_M_weights P hr hK hs hE hn hb m (i + 1) _ (by omega) (by omega) (fun y hy => h y (by omega))⟩
theorem s_M_weights {K : Int} {S : Nat} {g r : ab_H} {a b n : Int} {s : Int → Int} (P : Int → ab_H → ab_H → Prop) (hr : SI r) (hK : 186 ≤ K) (hs : EvS g s) (hE : EvOk s n) (hn : n ≤ 120) (ha : 0 ≤ a ∧ a ≤ b) (hb : b ≤ n) (h : P (psm (wts s) b - psm (wts s) a) g r) : ab_RI m_M_weights [(2, 161), (0, a), (0, b)] K S g r P := by
  apply v_M_weights _ hr hK
  refine l_M_weights P hr hK hs hE hn hb (b - a).toNat a 0 ha.1 (by omega) (fun y hy => ?_)
  rw [show y = psm (wts s) b - psm (wts s) a by omega]
  exact h
theorem s_M_snapAt {K : Int} {S : Nat} {g r : ab_H} {k : Int} (P : Int → ab_H → ab_H → Prop) (hr : SI r) (hK : 186 ≤ K) (hk : -1 ≤ k ∧ k ≤ 100) (h : P (if 0 ≤ k then g 174 (1082 + k) else 0) g r) : ab_RI m_M_snapAt [(2, 161), (0, k)] K S g r P := by
  apply v_M_snapAt _ hr hK
  refine And.intro (fun h1 => ⟨by omega, ?_⟩) (fun h1 => ?_)
  · rw [if_pos (by simp only [wr] at h1; omega)] at h; exact h
  · rw [if_neg (by simp only [wr] at h1; omega)] at h; exact h
def RFr (g g' : ab_H) : Prop := (∀ c : Int, c ≠ 174 → c ≠ 161 → g' c = g c) ∧ (∀ j : Int, j ≠ 32 → g' 161 j = g 161 j) ∧ ∀ j : Int, j < 1081 ∨ 1088 < j → g' 174 j = g 174 j
theorem RFr_rfl {g : ab_H} : RFr g g := ⟨fun _ _ _ => rfl, fun _ _ => rfl, fun _ _ => rfl⟩
theorem RFr_tr {g g1 g2 : ab_H} (h : RFr g g1) (h2 : RFr g1 g2) : RFr g g2 := ⟨fun c a b => by rw [h2.1 c a b, h.1 c a b], fun j a => by rw [h2.2.1 j a, h.2.1 j a], fun j a => by rw [h2.2.2 j a, h.2.2 j a]⟩
theorem RFr_up {g g1 : ab_H} {k v : Int} (hg : g1 = ab_up g 174 k v) (hk : 1081 ≤ k ∧ k ≤ 1088) : RFr g g1 := ⟨fun c a b => by rw [hg, up_f a], fun j a => by rw [hg, up_a (by omega)], fun j a => by rw [hg, up_k (by omega)]⟩
theorem EvS_RFr {g g' : ab_H} {s : Int → Int} (h : EvS g s) (hf : RFr g g') : EvS g' s := fun j h0 h1 => by rw [hf.2.2 j (by omega)]; exact h j h0 h1
theorem l_M_snapGoes {K : Int} {S : Nat} {r : ab_H} {k z : Int} {pl : Int → Int} (P : ab_H → ab_H → Prop) (hr : SI r) (hK : 186 ≤ K) (hk : 0 ≤ k ∧ k ≤ z) (hz : z ≤ 6) : ∀ (m : Nat) (i : Int) (g : ab_H), k ≤ i → i + m = z → g 174 1081 = z → (∀ j : Int, 0 ≤ j → j < i → g 174 (1082 + j) = rmv pl k j) → (∀ j : Int, i ≤ j → j ≤ z → g 174 (1082 + j) = pl j) → (∀ g' : ab_H, RFr g g' → g' 161 32 = g 161 32 → SnV (g' 174) (z, rmv pl k) → P g' r) → ab_Rn m_M_snapGoes 10 [some (2, 161), none, some (0, i)] [] (K, S, g, r) (ab_Qv K S P)
  | 0, i, g, h0, hi, h1, hl, hg, h => by
    apply v_M_snapGoes_10 _ hr hK
    rw [h1]
    refine ⟨by omega, And.intro (fun _ => h g RFr_rfl rfl ⟨h1, fun j h2 h3 => hl j h2 (by have h4 : j < z := h3; omega)⟩) (fun h2 => absurd h2 (by simp only [wr]; omega))⟩
  | m + 1, i, g, h0, hi, h1, hl, hg, h => by
    have e1 : g 174 (1082 + i + 1) = pl (i + 1) := by rw [show 1082 + i + 1 = 1082 + (i + 1) by omega]; exact hg (i + 1) (by omega) (by omega)
    apply v_M_snapGoes_10 _ hr hK
    rw [h1, e1]
    refine ⟨by omega, And.intro (fun h2 => absurd h2 (by simp only [wr]; omega)) (fun _ => ⟨by omega, by omega, fun g2 hg2 => ?_⟩)⟩
    have f2 := RFr_up hg2 (by omega)
    refine l_M_snapGoes P hr hK hk hz m (i + 1) g2 (by omega) (by omega) (by rw [hg2, up_k (by omega)]; exact h1) (fun j h2 h3 => ?_) (fun j h2 h3 => ?_) (fun g' f' h4 hq' => h g' (RFr_tr f2 f') (by rw [h4, hg2, up_a (by omega)]) hq')
    · rw [hg2, up_i]
      by_cases h4 : j = i
      · rw [if_pos (by omega), h4]; unfold rmv; rw [if_neg (by omega)]
      · rw [if_neg (by omega)]; exact hl j h2 (by omega)
    · rw [hg2, up_k (by omega)]; exact hg j (by omega) h3
theorem s_M_snapGoes {K : Int} {S : Nat} {g r : ab_H} {k z : Int} {pl : Int → Int} (P : ab_H → ab_H → Prop) (hr : SI r) (hK : 186 ≤ K) (hk : 0 ≤ k ∧ k ≤ z) (hz : z ≤ 6) (hq : SnV (g 174) (z + 1, pl)) (h : ∀ g' : ab_H, RFr g g' → g' 161 32 = g 161 32 → SnV (g' 174) (z, rmv pl k) → P g' r) : ab_RV m_M_snapGoes [(2, 161), (0, k)] K S g r P := by
  have h1 : g 174 1081 = z + 1 := hq.1
  apply v_M_snapGoes _ hr hK
  refine ⟨by omega, by omega, fun g1 hg1 => ?_⟩
  rw [h1, show z + 1 - 1 = z by omega] at hg1
  have f1 := RFr_up hg1 (by omega)
  refine l_M_snapGoes P hr hK hk hz (z - k).toNat k g1 (by omega) (by omega) (by rw [hg1, up_s]) (fun j h2 h3 => ?_) (fun j h2 h3 => ?_) (fun g' f' h4 hq' => h g' (RFr_tr f1 f') (by rw [h4, hg1, up_a (by omega)]) hq')
  · unfold rmv
    rw [if_pos h3, hg1, up_k (by omega)]
    exact hq.2 j h2 (by show j < z + 1; omega)
  · rw [hg1, up_k (by omega)]
    exact hq.2 j (by omega) (by show j < z + 1; omega)
theorem l_M_letsGo {K : Int} {S : Nat} {r : ab_H} {e kp n : Int} {pl : Int → Int} (P : ab_H → ab_H → Prop) (hr : SI r) (hK : 186 ≤ K) (he : 0 ≤ e ∧ e ≤ 1000) (hkp : kp ≤ 7) (hn : n ≤ 1000) : ∀ (m : Nat) (g : ab_H), SNok ((m : Int), pl) kp n → SnV (g 174) ((m : Int), pl) → (∀ g' : ab_H, RFr g g' → g' 161 32 = g 161 32 → SnV (g' 174) (lgo pl e m, pl) → P g' r) → ab_Rn m_M_letsGo 0 [some (2, 161), some (0, e)] [] (K, S, g, r) (ab_Qv K S P)
  | 0, g, hok, hq, h => by
    have h1 : g 174 1081 = 0 := hq.1
    apply v_M_letsGo_0 _ hr hK
    rw [h1]
    exact ⟨by omega, And.intro (fun _ => h g RFr_rfl rfl hq) (fun h2 => absurd h2 (by decide))⟩
  | m + 1, g, hok, hq, h => by
    have h1 : g 174 1081 = (m : Int) + 1 := hq.1
    have hz : 0 ≤ (m : Int) + 1 ∧ (m : Int) + 1 ≤ kp := hok.1
    have hb' : 1 ≤ pl m ∧ pl m ≤ n := hok.2.1 (m : Int) (by omega) (by show (m : Int) < ((m + 1 : Nat) : Int); omega)
    have h2 : g 174 (1082 + (m : Int)) = pl m := hq.2 m (by omega) (by show (m : Int) < ((m + 1 : Nat) : Int); omega)
    have hs : lgo pl e (m + 1) = if e < pl m then lgo pl e m else (m : Int) + 1 := rfl
    apply v_M_letsGo_0 _ hr hK
    rw [h1, show (m : Int) + 1 - 1 = m by omega]
    refine ⟨by omega, And.intro (fun h3 => absurd h3 (by simp only [wr]; omega)) (fun _ => ⟨by omega, ?_⟩)⟩
    apply s_M_snapAt _ hr hK (by omega)
    rw [if_pos (by omega), h2]
    refine ⟨rfl, rfl, And.intro (fun h4 => ?_) (fun h4 => ⟨by omega, by omega, fun g1 hg1 => ?_⟩)⟩
    · rw [if_neg (by simp only [wr] at h4; omega)] at hs
      exact h g RFr_rfl rfl (by rw [hs]; exact hq)
    · rw [if_pos (by simp only [wr] at h4; omega)] at hs
      have f1 := RFr_up hg1 (by omega)
      refine l_M_letsGo P hr hK he hkp hn m g1 ⟨⟨by show 0 ≤ (m : Int); omega, by show (m : Int) ≤ kp; omega⟩, fun i h5 h6 => hok.2.1 i h5 (by have h7 : i < (m : Int) := h6; show i < ((m + 1 : Nat) : Int); omega), fun i j h5 h6 h7 => hok.2.2 i j h5 h6 (by have h8 : j < (m : Int) := h7; show j < ((m + 1 : Nat) : Int); omega)⟩ ⟨by rw [hg1, up_s], fun i h5 h6 => ?_⟩ (fun g' f' h9 hq' => h g' (RFr_tr f1 f') (by rw [h9, hg1, up_a (by omega)]) (by rw [hs]; exact hq'))
      rw [hg1, up_k (by omega)]
      exact hq.2 i h5 (by have h7 : i < (m : Int) := h6; show i < ((m + 1 : Nat) : Int); omega)
theorem s_M_letsGo {K : Int} {S : Nat} {g r : ab_H} {e kp n : Int} {q : SN} (P : ab_H → ab_H → Prop) (hr : SI r) (hK : 186 ≤ K) (he : 0 ≤ e ∧ e ≤ 1000) (hkp : kp ≤ 7) (hn : n ≤ 1000) (hok : SNok q kp n) (hq : SnV (g 174) q) (h : ∀ g' : ab_H, RFr g g' → g' 161 32 = g 161 32 → SnV (g' 174) (lgo q.2 e q.1.toNat, q.2) → P g' r) : ab_RV m_M_letsGo [(2, 161), (0, e)] K S g r P := by
  have hz := hok.1
  apply v_M_letsGo _ hr hK
  have e1 : ((q.1.toNat : Int), q.2) = q := by rw [show (q.1.toNat : Int) = q.1 by omega]
  exact l_M_letsGo P hr hK he hkp hn q.1.toNat g (by rw [e1]; exact hok) (by rw [e1]; exact hq) h
