/-! SPECS, part j: the class's Shots. -/
theorem s_Lg_weights {K : Int} {S : Nat} {g r : ab_H} {o a b n : Int} {s : Int → Int} (P : Int → ab_H → ab_H → Prop) (hr : SI r) (hK : 186 ≤ K) (ho : isLg o) (hv : LgV g o s n) (ha : 0 ≤ a ∧ a ≤ n) (hb : 0 ≤ b ∧ b ≤ n) (h : P (psm (wts s) b - psm (wts s) a) g r) : ab_RI m_Lg_weights [(2, o), (0, a), (0, b)] K S g r P := by
  have hn := hv.2.1
  apply v_Lg_weights _ hr hK ho
  rw [hv.2.2.2 a ha.1 ha.2, hv.2.2.2 b hb.1 hb.2]
  exact ⟨by omega, by omega, h⟩
theorem l_Sh_latestUpTo {K : Int} {S : Nat} {g r : ab_H} {o p kp n : Int} {q : SN} (P : Int → ab_H → ab_H → Prop) (hr : SI r) (hK : 186 ≤ K) (ho : isSh o) (hq : ShV g o q) (hok : SNok q kp n) (hkp : kp ≤ 7) (hn : n ≤ 1000) (hp : -1 ≤ p ∧ p ≤ 1000) (h : ∀ x : Int, x = lat q p → P x g r) : ∀ (m : Nat) (i x : Int), 0 ≤ i → i + m = q.1 → x = latN q.2 p i.toNat → ab_Rn m_Sh_latestUpTo 4 [some (2, o), some (0, p), some (0, x), some (0, i)] [] (K, S, g, r) (ab_Qi K S P)
  | 0, i, x, h0, hi, hx => by
    have hz := hok.1
    apply v_Sh_latestUpTo_4 _ hr hK ho
    rw [hq.1]
    simp only [wr]
    exact And.intro (fun _ => h x (by rw [hx, show i = q.1 by omega]; rfl)) (fun h1 => by omega)
  | m + 1, i, x, h0, hi, hx => by
    have hz := hok.1
    have hb := hok.2.1 i h0 (by omega)
    have hs : latN q.2 p (i + 1).toNat = if q.2 i ≤ p then q.2 i else latN q.2 p i.toNat := by
      rw [show (i + 1).toNat = i.toNat + 1 by omega]
      show (if q.2 (i.toNat : Int) ≤ p then _ else _) = _
      rw [show (i.toNat : Int) = i by omega]
    apply v_Sh_latestUpTo_4 _ hr hK ho
    rw [hq.1, hq.2 i h0 (by omega)]
    simp only [wr]
    refine And.intro (fun h1 => by omega) (fun h1 => ⟨by omega, And.intro (fun h2 => ?_) (fun h2 => ⟨by omega, ?_⟩)⟩)
    · exact l_Sh_latestUpTo P hr hK ho hq hok hkp hn hp h m (i + 1) x (by omega) (by omega) (by rw [hs, if_neg (by omega)]; exact hx)
    · exact l_Sh_latestUpTo P hr hK ho hq hok hkp hn hp h m (i + 1) _ (by omega) (by omega) (by rw [hs, if_pos (by omega)])
theorem s_Sh_latestUpTo {K : Int} {S : Nat} {g r : ab_H} {o p kp n : Int} {q : SN} (P : Int → ab_H → ab_H → Prop) (hr : SI r) (hK : 186 ≤ K) (ho : isSh o) (hq : ShV g o q) (hok : SNok q kp n) (hkp : kp ≤ 7) (hn : n ≤ 1000) (hp : -1 ≤ p ∧ p ≤ 1000) (h : ∀ x : Int, x = lat q p → P x g r) : ab_RI m_Sh_latestUpTo [(2, o), (0, p)] K S g r P := by
  have hz := hok.1
  apply v_Sh_latestUpTo _ hr hK ho
  exact l_Sh_latestUpTo P hr hK ho hq hok hkp hn hp h q.1.toNat 0 0 (by omega) (by omega) rfl
/-- the first behind a PLACE -/
def nxtN (pl : Int → Int) (p e z : Int) : Nat → Int
  | 0 => e
  | m + 1 => if p < pl (z - ((m : Int) + 1)) then pl (z - ((m : Int) + 1)) else nxtN pl p e z m
def nxt (q : SN) (p e : Int) : Int := nxtN q.2 p e q.1 q.1.toNat
theorem l_Sh_nextBehind {K : Int} {S : Nat} {g r : ab_H} {o p e kp n : Int} {q : SN} (P : Int → ab_H → ab_H → Prop) (hr : SI r) (hK : 186 ≤ K) (ho : isSh o) (hq : ShV g o q) (hok : SNok q kp n) (hkp : kp ≤ 7) (hn : n ≤ 1000) (hp : -1 ≤ p ∧ p ≤ 1000) : ∀ (m : Nat) (i : Int), 0 ≤ i → i + m = q.1 → (∀ x : Int, x = nxtN q.2 p e q.1 m → P x g r) → ab_Rn m_Sh_nextBehind 2 [some (2, o), some (0, p), some (0, e), some (0, i)] [] (K, S, g, r) (ab_Qi K S P)
  | 0, i, h0, hi, h => by
    have hz := hok.1
    apply v_Sh_nextBehind_2 _ hr hK ho
    rw [hq.1]
    simp only [wr]
    exact And.intro (fun _ => h e rfl) (fun h1 => by omega)
  | m + 1, i, h0, hi, h => by
    have hz := hok.1
    have hb := hok.2.1 i h0 (by omega)
    have hs : nxtN q.2 p e q.1 (m + 1) = if p < q.2 i then q.2 i else nxtN q.2 p e q.1 m := by
      show (if p < q.2 (q.1 - ((m : Int) + 1)) then q.2 (q.1 - ((m : Int) + 1)) else _) = _
      rw [show q.1 - ((m : Int) + 1) = i by omega]
    apply v_Sh_nextBehind_2 _ hr hK ho
    rw [hq.1, hq.2 i h0 (by omega)]
    simp only [wr]
    refine And.intro (fun h1 => by omega) (fun h1 => ⟨by omega, And.intro (fun h2 => ?_) (fun h2 => ⟨by omega, h _ (by rw [hs, if_pos (by omega)])⟩)⟩)
    exact l_Sh_nextBehind P hr hK ho hq hok hkp hn hp m (i + 1) (by omega) (by omega) (fun x hx => h x (by rw [hs, if_neg (by omega)]; exact hx))
theorem s_Sh_nextBehind {K : Int} {S : Nat} {g r : ab_H} {o p e kp n : Int} {q : SN} (P : Int → ab_H → ab_H → Prop) (hr : SI r) (hK : 186 ≤ K) (ho : isSh o) (hq : ShV g o q) (hok : SNok q kp n) (hkp : kp ≤ 7) (hn : n ≤ 1000) (hp : -1 ≤ p ∧ p ≤ 1000) (h : ∀ x : Int, x = nxt q p e → P x g r) : ab_RI m_Sh_nextBehind [(2, o), (0, p), (0, e)] K S g r P := by
  have hz := hok.1
  apply v_Sh_nextBehind _ hr hK ho
  exact l_Sh_nextBehind P hr hK ho hq hok hkp hn hp q.1.toNat 0 (by omega) (by omega) h
theorem l_Sh_letGoAbove {K : Int} {S : Nat} {r : ab_H} {o e kp n : Int} {pl : Int → Int} (P : ab_H → ab_H → Prop) (hr : SI r) (hK : 186 ≤ K) (ho : isSh o) (he : 0 ≤ e ∧ e ≤ 1000) (hkp : kp ≤ 7) (hn : n ≤ 1000) : ∀ (m : Nat) (g : ab_H), SNok ((m : Int), pl) kp n → ShV g o ((m : Int), pl) → (∀ g' : ab_H, (∀ c j : Int, c ≠ o ∨ j ≠ 1 → g' c j = g c j) → ShV g' o (lgo pl e m, pl) → P g' r) → ab_Rn m_Sh_letGoAbove 0 [some (2, o), some (0, e)] [] (K, S, g, r) (ab_Qv K S P)
  | 0, g, hok, hq, h => by
    have h1 : g o 1 = 0 := hq.1
    apply v_Sh_letGoAbove_0 _ hr hK ho
    rw [h1]
    simp only [wr]
    exact And.intro (fun _ => h g (fun _ _ _ => rfl) hq) (fun h2 => by omega)
  | m + 1, g, hok, hq, h => by
    have h1 : g o 1 = (m : Int) + 1 := hq.1
    have hz : 0 ≤ (m : Int) + 1 ∧ (m : Int) + 1 ≤ kp := hok.1
    have hb := hok.2.1 (m : Int) (by omega) (by show (m : Int) < ((m + 1 : Nat) : Int); omega)
    have h2 : g (o + 1) (m : Int) = pl m := hq.2 m (by omega) (by show (m : Int) < ((m + 1 : Nat) : Int); omega)
    have hb' : 1 ≤ pl m ∧ pl m ≤ n := hb
    have hs : lgo pl e (m + 1) = if e < pl m then lgo pl e m else (m : Int) + 1 := rfl
    apply v_Sh_letGoAbove_0 _ hr hK ho
    rw [h1, show (m : Int) + 1 - 1 = m by omega, h2]
    simp only [wr]
    refine And.intro (fun h3 => by omega) (fun h3 => ⟨by omega, And.intro (fun h4 => ?_) (fun h4 g1 hg1 => ?_)⟩)
    · rw [if_neg (by omega)] at hs
      exact h g (fun _ _ _ => rfl) (by rw [hs]; exact hq)
    · rw [if_pos (by omega)] at hs
      have ho' : o = 57 ∨ o = 59 := ho
      refine l_Sh_letGoAbove P hr hK ho he hkp hn m g1 ⟨⟨by show 0 ≤ (m : Int); omega, by show (m : Int) ≤ kp; omega⟩, fun i h5 h6 => hok.2.1 i h5 (by have h7 : i < (m : Int) := h6; show i < ((m + 1 : Nat) : Int); omega), fun i j h5 h6 h7 => hok.2.2 i j h5 h6 (by have h8 : j < (m : Int) := h7; show j < ((m + 1 : Nat) : Int); omega)⟩ ⟨by rw [hg1, up_s], fun i h5 h6 => ?_⟩ (fun g' f' hq' => h g' (fun c j hc => by rw [f' c j hc, hg1]; rcases hc with hc | hc; exact up_a hc; exact up_k hc) (by rw [hs]; exact hq'))
      rw [hg1, up_a (by omega)]
      exact hq.2 i h5 (by have h7 : i < (m : Int) := h6; show i < ((m + 1 : Nat) : Int); omega)
theorem s_Sh_letGoAbove {K : Int} {S : Nat} {g r : ab_H} {o e kp n : Int} {q : SN} (P : ab_H → ab_H → Prop) (hr : SI r) (hK : 186 ≤ K) (ho : isSh o) (he : 0 ≤ e ∧ e ≤ 1000) (hkp : kp ≤ 7) (hn : n ≤ 1000) (hok : SNok q kp n) (hq : ShV g o q) (h : ∀ g' : ab_H, (∀ c j : Int, c ≠ o ∨ j ≠ 1 → g' c j = g c j) → ShV g' o (lgo q.2 e q.1.toNat, q.2) → P g' r) : ab_RV m_Sh_letGoAbove [(2, o), (0, e)] K S g r P := by
  have hz := hok.1
  apply v_Sh_letGoAbove _ hr hK ho
  have e1 : ((q.1.toNat : Int), q.2) = q := by rw [show (q.1.toNat : Int) = q.1 by omega]
  exact l_Sh_letGoAbove P hr hK ho he hkp hn q.1.toNat g (by rw [e1]; exact hok) (by rw [e1]; exact hq) h
theorem l_Sh_leastWorth {K : Int} {S : Nat} {g r : ab_H} {o p1 nn z : Int} {pl : Int → Int} {s : Int → Int} (P : Int → ab_H → ab_H → Prop) (hr : SI r) (hK : 186 ≤ K) (ho : isSh o) (hp1 : isLg p1) (hv : LgV g p1 s nn) (hE : EvOk s nn) (hq : ShV g o (z + 1, pl)) (hz : 1 ≤ z ∧ z ≤ 6) (hb : ∀ i : Int, 0 ≤ i → i < z + 1 → 1 ≤ pl i ∧ pl i ≤ nn) (h : ∀ x : Int, x = lwr (psm (wts s)) pl (z - 1).toNat → P x g r) : ∀ (m : Nat) (i x y : Int), 1 ≤ i → i + m = z → x = lwr (psm (wts s)) pl (i - 1).toNat → y = gap (psm (wts s)) pl x → ab_Rn m_Sh_leastWorth 14 [some (2, o), some (2, p1), some (0, x), some (0, y), some (0, i), none] [] (K, S, g, r) (ab_Qi K S P)
  | 0, i, x, y, h0, hi, hx, hy => by
    have h1 : g o 1 = z + 1 := hq.1
    apply v_Sh_leastWorth_14 _ hr hK ho hp1
    rw [h1]
    simp only [wr]
    exact And.intro (fun _ => h x (by rw [hx, show i = z by omega])) (fun h1 => by omega)
  | m + 1, i, x, y, h0, hi, hx, hy => by
    have h1 : g o 1 = z + 1 := hq.1
    have hn := hv.2.1
    have hp : g (o + 1) (i - 1) = pl (i - 1) := hq.2 (i - 1) (by omega) (by show i - 1 < z + 1; omega)
    have hp2 : g (o + 1) (i + 1) = pl (i + 1) := hq.2 (i + 1) (by omega) (by show i + 1 < z + 1; omega)
    have hb1 := hb (i - 1) (by omega) (by omega)
    have hb2 := hb (i + 1) (by omega) (by omega)
    have w1 := W_in hE (by omega) (by omega : pl (i - 1) ≤ nn)
    have w2 := W_in hE (by omega) (by omega : pl (i + 1) ≤ nn)
    have hg : gap (psm (wts s)) pl i = psm (wts s) (pl (i + 1)) - psm (wts s) (pl (i - 1)) := by
      unfold gap; rw [if_pos (by omega)]
    have hxi := lwr_in (W := psm (wts s)) (pl := pl) (i - 1).toNat
    have hyb : -400 ≤ y ∧ y ≤ 400 := by
      rw [hy]
      unfold gap
      have w3 := hb (x + 1) (by omega) (by omega)
      have w4 := W_in hE (by omega) (by omega : pl (x + 1) ≤ nn)
      split
      · have w5 := hb (x - 1) (by omega) (by omega)
        have w6 := W_in hE (by omega) (by omega : pl (x - 1) ≤ nn)
        omega
      · have w6 := W_in hE (p := 0) (by omega) (by omega)
        omega
    have hs : lwr (psm (wts s)) pl (i + 1 - 1).toNat = if gap (psm (wts s)) pl i < y then i else x := by
      rw [show (i + 1 - 1).toNat = (i - 1).toNat + 1 by omega]
      show (if gap (psm (wts s)) pl (((i - 1).toNat : Int) + 1) < gap (psm (wts s)) pl (lwr (psm (wts s)) pl (i - 1).toNat) then (((i - 1).toNat : Int) + 1) else lwr (psm (wts s)) pl (i - 1).toNat) = _
      rw [show ((i - 1).toNat : Int) + 1 = i by omega, ← hx, ← hy]
    apply v_Sh_leastWorth_14 _ hr hK ho hp1
    rw [h1, hp, hp2]
    simp only [wr]
    refine And.intro (fun h1 => by omega) (fun h1 => And.intro (fun h2 => by omega) (fun h2 => ⟨by omega, by omega, ?_⟩))
    apply s_Lg_weights _ hr hK hp1 hv (by omega) (by omega)
    rw [← hg]
    refine ⟨rfl, rfl, And.intro (fun h3 => ?_) (fun h3 => ?_)⟩
    · exact l_Sh_leastWorth P hr hK ho hp1 hv hE hq hz hb h m (i + 1) x y (by omega) (by omega) (by rw [hs, if_neg (by omega)]) hy
    · exact l_Sh_leastWorth P hr hK ho hp1 hv hE hq hz hb h m (i + 1) i _ (by omega) (by omega) (by rw [hs, if_pos (by omega)]) rfl
theorem s_Sh_leastWorth {K : Int} {S : Nat} {g r : ab_H} {o p1 nn z kp : Int} {pl : Int → Int} {s : Int → Int} (P : Int → ab_H → ab_H → Prop) (hr : SI r) (hK : 186 ≤ K) (ho : isSh o) (hp1 : isLg p1) (hv : LgV g p1 s nn) (hE : EvOk s nn) (hq : ShV g o (z + 1, pl)) (hk : g o 3 = kp) (hkp : 0 ≤ kp ∧ kp ≤ 6) (hz : 0 ≤ z ∧ z = kp) (hb : ∀ i : Int, 0 ≤ i → i < z + 1 → 1 ≤ pl i ∧ pl i ≤ nn) (h : ∀ x : Int, x = lwr (psm (wts s)) pl (z - 1).toNat → P x g r) : ab_RI m_Sh_leastWorth [(2, o), (2, p1)] K S g r P := by
  have h1 : g o 1 = z + 1 := hq.1
  have hn := hv.2.1
  apply v_Sh_leastWorth _ hr hK ho hp1
  rw [hk, h1]
  refine And.intro (fun h2 => ?_) (fun h2 => ?_)
  · have h2' : kp ≠ 0 := by simp only [wr] at h2; omega
    have hp2 : g (o + 1) (0 + 1) = pl (0 + 1) := hq.2 (0 + 1) (by omega) (by show (0 : Int) + 1 < z + 1; omega)
    have hb2 := hb (0 + 1) (by omega) (by omega)
    have w2 := W_in hE (by omega) (by omega : pl (0 + 1) ≤ nn)
    apply v_Sh_leastWorth_14 _ hr hK ho hp1
    rw [h1, hp2]
    simp only [wr]
    refine And.intro (fun h1 => by omega) (fun h1 => And.intro (fun h2 => ⟨by omega, ?_⟩) (fun h2 => by omega))
    apply s_Lg_weights _ hr hK hp1 hv (by omega) (by omega)
    rw [psm_0]
    refine ⟨rfl, rfl, And.intro (fun h3 => by omega) (fun h3 => ?_)⟩
    refine l_Sh_leastWorth P hr hK ho hp1 hv hE hq (by omega) hb h (z - 1).toNat (0 + 1) 0 _ (by omega) (by omega) rfl ?_
    unfold gap
    rw [if_neg (by omega), psm_0]
  · refine h _ ?_
    have h2' : kp = 0 := by simp only [wr] at h2; omega
    rw [show (z - 1).toNat = 0 by omega]
    show z + 1 - 1 = 0
    omega
theorem l_Sh_letGo {K : Int} {S : Nat} {r : ab_H} {o k z : Int} {pl : Int → Int} (P : ab_H → ab_H → Prop) (hr : SI r) (hK : 186 ≤ K) (ho : isSh o) (hk : 0 ≤ k ∧ k ≤ z) (hz : z ≤ 6) : ∀ (m : Nat) (i : Int) (g : ab_H), k ≤ i → i + m = z → g o 1 = z + 1 → (∀ j : Int, 0 ≤ j → j < i → g (o + 1) j = rmv pl k j) → (∀ j : Int, i ≤ j → j ≤ z → g (o + 1) j = pl j) → (∀ g' : ab_H, (∀ c j : Int, c ≠ o + 1 → c ≠ o ∨ j ≠ 1 → g' c j = g c j) → ShV g' o (z, rmv pl k) → P g' r) → ab_Rn m_Sh_letGo 4 [some (2, o), none, some (0, i + 1)] [] (K, S, g, r) (ab_Qv K S P)
  | 0, i, g, h0, hi, h1, hl, hg, h => by
    have ho' : o = 57 ∨ o = 59 := ho
    apply v_Sh_letGo_4 _ hr hK ho
    rw [h1]
    simp only [wr]
    refine And.intro (fun _ g1 hg1 => h g1 (fun c j hc hj => ?_) ⟨?_, fun j h2 h3 => ?_⟩) (fun h2 => by omega)
    · rw [hg1]; rcases hj with hj | hj; exact up_a hj; exact up_k hj
    · rw [hg1, up_s]; show z + 1 - 1 = z; omega
    · rw [hg1, up_a (by omega)]; exact hl j h2 (by have h4 : j < z := h3; omega)
  | m + 1, i, g, h0, hi, h1, hl, hg, h => by
    have ho' : o = 57 ∨ o = 59 := ho
    apply v_Sh_letGo_4 _ hr hK ho
    rw [h1, show i + 1 - 1 = i by omega, hg (i + 1) (by omega) (by omega)]
    simp only [wr]
    refine And.intro (fun h2 => by omega) (fun _ => ⟨by omega, by omega, fun g2 hg2 => ?_⟩)
    refine l_Sh_letGo P hr hK ho hk hz m (i + 1) g2 (by omega) (by omega) (by rw [hg2, up_a (by omega)]; exact h1) (fun j h2 h3 => ?_) (fun j h2 h3 => ?_) (fun g' f' hq' => h g' (fun c j hc hj => by rw [f' c j hc hj, hg2, up_a hc]) hq')
    · rw [hg2, up_i]
      by_cases h4 : j = i
      · rw [if_pos h4, h4]; unfold rmv; rw [if_neg (by omega)]
      · rw [if_neg h4]; exact hl j h2 (by omega)
    · rw [hg2, up_k (by omega)]; exact hg j (by omega) h3
theorem s_Sh_letGo {K : Int} {S : Nat} {g r : ab_H} {o k z : Int} {pl : Int → Int} (P : ab_H → ab_H → Prop) (hr : SI r) (hK : 186 ≤ K) (ho : isSh o) (hk : 0 ≤ k ∧ k ≤ z) (hz : z ≤ 6) (hq : ShV g o (z + 1, pl)) (h : ∀ g' : ab_H, (∀ c j : Int, c ≠ o + 1 → c ≠ o ∨ j ≠ 1 → g' c j = g c j) → ShV g' o (z, rmv pl k) → P g' r) : ab_RV m_Sh_letGo [(2, o), (0, k)] K S g r P := by
  apply v_Sh_letGo _ hr hK ho
  refine l_Sh_letGo P hr hK ho hk hz (z - k).toNat k g (by omega) (by omega) hq.1 (fun j h1 h2 => ?_) (fun j h1 h2 => hq.2 j (by omega) (by show j < z + 1; omega)) h
  unfold rmv
  rw [if_pos h2]
  exact hq.2 j h1 (by show j < z + 1; omega)
