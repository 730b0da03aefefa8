/-! SPECS, part m: the reference's SNAPSHOTS; an EVENT comes. -/
theorem l_M_snaps {K : Int} {S : Nat} {g r : ab_H} {z n : Int} {pl : Int → Int} {s : Int → Int} (P : ab_H → ab_H → Prop) (hr : SI r) (hK : 186 ≤ K) (hs : EvS g s) (hE : EvOk s n) (hn : n ≤ 120) (hz : 0 ≤ z ∧ z ≤ 6) (hq : SnV (g 174) (z + 1, pl)) (hb : ∀ i : Int, 0 ≤ i → i < z + 1 → 1 ≤ pl i ∧ pl i ≤ n) (ha : ∀ i j : Int, 0 ≤ i → i < j → j < z + 1 → pl i < pl j) (h : ∀ g' : ab_H, RFr g g' → g' 161 32 = g 161 32 → SnV (g' 174) (z, rmv pl (lwr (psm (wts s)) pl (z - 1).toNat)) → P g' r) : ∀ (m : Nat) (i x : Int), 1 ≤ i → (i + m = z ∨ (m = 0 ∧ z ≤ i)) → x = lwr (psm (wts s)) pl (i - 1).toNat → (z ≤ i → (i - 1).toNat = (z - 1).toNat) → ab_Rn m_M_snaps 55 [some (2, 161), none, some (0, x), some (0, i)] [] (K, S, g, r) (ab_Qv K S P)
  | 0, i, x, h0, hi, hx, he => by
    have h1 : g 174 1081 = z + 1 := hq.1
    have hxi := lwr_in (W := psm (wts s)) (pl := pl) (i - 1).toNat
    have he' := he (by omega)
    apply v_M_snaps_55 _ hr hK
    rw [h1]
    refine ⟨by omega, And.intro (fun _ => ?_) (fun h2 => absurd h2 (by simp only [wr]; omega))⟩
    apply s_M_snapGoes _ hr hK (by omega) hz.2 hq
    intro g' f' h32 hq'
    rw [hx, he'] at hq'
    exact ⟨rfl, h g' f' h32 hq'⟩
  | m + 1, i, x, h0, hi, hx, he => by
    have h1 : g 174 1081 = z + 1 := hq.1
    have hxi := lwr_in (W := psm (wts s)) (pl := pl) (i - 1).toNat
    have hiz : i + ((m + 1 : Nat) : Int) = z := by omega
    have e1 : g 174 (1082 + (i - 1)) = pl (i - 1) := hq.2 (i - 1) (by omega) (by show i - 1 < z + 1; omega)
    have e2 : g 174 (1082 + (i + 1)) = pl (i + 1) := hq.2 (i + 1) (by omega) (by show i + 1 < z + 1; omega)
    have e3 : g 174 (1082 + (x + 1)) = pl (x + 1) := hq.2 (x + 1) (by omega) (by show x + 1 < z + 1; omega)
    have b1 := hb (i - 1) (by omega) (by omega)
    have b2 := hb (i + 1) (by omega) (by omega)
    have b3 := hb (x + 1) (by omega) (by omega)
    have a1 := ha (i - 1) (i + 1) (by omega) (by omega) (by omega)
    have hg : gap (psm (wts s)) pl i = psm (wts s) (pl (i + 1)) - psm (wts s) (pl (i - 1)) := by unfold gap; rw [if_pos (by omega)]
    have w1 := W_in hE (by omega : 0 ≤ pl (i - 1)) (by omega)
    have w2 := W_in hE (by omega : 0 ≤ pl (i + 1)) (by omega)
    have w3 := W_in hE (by omega : 0 ≤ pl (x + 1)) (by omega)
    have hs1 : lwr (psm (wts s)) pl (i + 1 - 1).toNat = if gap (psm (wts s)) pl i < gap (psm (wts s)) pl x then i else x := by
      rw [show (i + 1 - 1).toNat = (i - 1).toNat + 1 by omega]
      show (if gap (psm (wts s)) pl (((i - 1).toNat : Int) + 1) < gap (psm (wts s)) pl (lwr (psm (wts s)) pl (i - 1).toNat) then (((i - 1).toNat : Int) + 1) else lwr (psm (wts s)) pl (i - 1).toNat) = _
      rw [show ((i - 1).toNat : Int) + 1 = i by omega, ← hx]
    have kgo : ∀ y : Int, y = gap (psm (wts s)) pl x → -400 ≤ y → y ≤ 400 → ((wr y ≤ wr (psm (wts s) (pl (i + 1)) - psm (wts s) (pl (i - 1))) → ab_Rn m_M_snaps 55 [some (2, 161), none, some (0, x), some (0, i + 1)] [] (K, S, g, r) (ab_Qv K S P)) ∧ (wr (psm (wts s) (pl (i + 1)) - psm (wts s) (pl (i - 1))) < wr y → ab_Rn m_M_snaps 55 [some (2, 161), none, some (0, i), some (0, i + 1)] [] (K, S, g, r) (ab_Qv K S P))) := by
      intro y hy hy1 hy2
      refine And.intro (fun h2 => ?_) (fun h2 => ?_)
      · exact l_M_snaps P hr hK hs hE hn hz hq hb ha h m (i + 1) x (by omega) (by omega) (by rw [hs1, if_neg (by simp only [wr] at h2; omega)]) (fun h3 => by omega)
      · exact l_M_snaps P hr hK hs hE hn hz hq hb ha h m (i + 1) i (by omega) (by omega) (by rw [hs1, if_pos (by simp only [wr] at h2; omega)]) (fun h3 => by omega)
    apply v_M_snaps_55 _ hr hK
    rw [h1]
    refine ⟨by omega, And.intro (fun h2 => absurd h2 (by simp only [wr]; omega)) (fun _ => ?_)⟩
    apply s_M_snapAt _ hr hK (by omega)
    rw [if_pos (by omega), e1]
    refine ⟨rfl, rfl, ?_⟩
    apply s_M_snapAt _ hr hK (by omega)
    rw [if_pos (by omega), e2]
    refine ⟨rfl, rfl, ?_⟩
    apply s_M_weights _ hr hK hs hE hn (by omega) (by omega)
    refine ⟨rfl, rfl, ?_⟩
    apply s_M_snapAt _ hr hK (by omega)
    refine ⟨rfl, rfl, ?_⟩
    apply s_M_snapAt _ hr hK (by omega)
    rw [if_pos (by omega : 0 ≤ x + 1), e3]
    refine ⟨rfl, rfl, ?_⟩
    by_cases hx0 : 0 < x
    · have e4 : g 174 (1082 + (x - 1)) = pl (x - 1) := hq.2 (x - 1) (by omega) (by show x - 1 < z + 1; omega)
      have b4 := hb (x - 1) (by omega) (by omega)
      have a4 := ha (x - 1) (x + 1) (by omega) (by omega) (by omega)
      have w4 := W_in hE (by omega : 0 ≤ pl (x - 1)) (by omega)
      rw [if_pos (by omega : 0 ≤ x - 1), e4]
      apply s_M_weights _ hr hK hs hE hn (by omega) (by omega)
      refine ⟨rfl, rfl, kgo _ ?_ (by omega) (by omega)⟩
      unfold gap; rw [if_pos hx0]
    · rw [if_neg (by omega : ¬ 0 ≤ x - 1)]
      apply s_M_weights _ hr hK hs hE hn (by omega) (by omega)
      rw [psm_0]
      refine ⟨rfl, rfl, kgo _ ?_ (by omega) (by omega)⟩
      unfold gap; rw [if_neg hx0, psm_0]
theorem s_M_snaps {K : Int} {S : Nat} {g r : ab_H} {n p ev kp : Int} {q : SN} {s : Int → Int} (P : ab_H → ab_H → Prop) (hr : SI r) (hK : 186 ≤ K) (hs : EvS g s) (hE : EvOk s n) (hn : n ≤ 120) (hp : 0 ≤ p ∧ p + 1 ≤ n) (hq : SnV (g 174) q) (hok : SNok q kp p) (hev : g 174 1089 = ev) (hk : g 174 1090 = kp) (hkp : 0 ≤ kp ∧ kp ≤ 6) (hev2 : 1 ≤ ev ∧ ev ≤ 999) (h : ∀ g' : ab_H, RFr g g' → g' 161 32 = g 161 32 + sdue (psm (wts s)) ev q p → SnV (g' 174) (if ev ≤ psm (wts s) (p + 1) - psm (wts s) (slat q) then sadd (psm (wts s)) kp q (p + 1) else q) → P g' r) : ab_RV m_M_snaps [(2, 161), (0, p + 1)] K S g r P := by
  have hz := hok.1
  have hsl := slat_in hok hp.1
  have w1 := W_in hE (by omega : 0 ≤ p + 1) (by omega)
  have w2 := W_in hE hsl.1 (by omega)
  apply v_M_snaps _ hr hK
  rw [hq.1]
  refine ⟨by omega, ?_⟩
  apply s_M_snapAt _ hr hK (by omega)
  have hla : (if 0 ≤ q.1 - 1 then g 174 (1082 + (q.1 - 1)) else 0) = slat q := by
    unfold slat
    by_cases h0 : 0 < q.1
    · rw [if_pos h0, if_pos (by omega)]; exact hq.2 (q.1 - 1) (by omega) (by omega)
    · rw [if_neg h0, if_neg (by omega)]
  rw [hla]
  refine ⟨rfl, rfl, ?_⟩
  apply s_M_weights _ hr hK hs hE hn (by omega) (by omega)
  rw [hev]
  refine ⟨rfl, rfl, by omega, And.intro (fun h1 => ⟨by omega, by omega, fun g3 hg3 => ⟨by omega, by omega, fun g4 hg4 g5 hg5 => ?_⟩⟩) (fun h1 => ?_)⟩
  · have h1' : ev ≤ psm (wts s) (p + 1) - psm (wts s) (slat q) := by simp only [wr] at h1; omega
    rw [if_pos h1'] at h
    have hd : sdue (psm (wts s)) ev q p = 1 := by unfold sdue; rw [if_pos h1']
    rw [hd] at h
    have h31 : g3 174 1081 = q.1 := by rw [hg3, up_k (by omega)]; exact hq.1
    have f4 : RFr g g4 := RFr_tr (RFr_up hg3 (by omega)) (RFr_up hg4 (by omega))
    have f5 : RFr g g5 := RFr_tr f4 ⟨fun c a b => by rw [hg5, up_f b], fun j a => by rw [hg5, up_k a], fun j a => by rw [hg5, up_a (by omega)]⟩
    have h32 : g5 161 32 = g 161 32 + 1 := by
      rw [hg5, up_s, hg4, up_a (by omega), hg3, up_a (by omega)]
    have hq5 : SnV (g5 174) (q.1 + 1, fu q.2 q.1 (p + 1)) := by
      refine ⟨?_, fun i h2 h3 => ?_⟩
      · rw [hg5, up_a (by omega), hg4, up_s, h31]
      · have h3' : i < q.1 + 1 := h3
        rw [hg5, up_a (by omega), hg4, up_k (by omega), hg3, up_i]
        simp only [fu]
        by_cases h4 : i = q.1
        · rw [if_pos (by omega), if_pos h4]
        · rw [if_neg (by omega), if_neg h4]; exact hq.2 i h2 (by omega)
    have h51 : g5 174 1081 = q.1 + 1 := hq5.1
    have h50 : g5 174 1090 = kp := by rw [f5.2.2 1090 (by omega)]; exact hk
    rw [h51, h50]
    refine ⟨by omega, by omega, And.intro (fun h2 => ?_) (fun h2 => ?_)⟩
    · have h2' : kp < q.1 + 1 := by simp only [wr] at h2; omega
      have hsa : sadd (psm (wts s)) kp q (p + 1) = (q.1, rmv (fu q.2 q.1 (p + 1)) (lwr (psm (wts s)) (fu q.2 q.1 (p + 1)) (q.1 - 1).toNat)) := by unfold sadd; rw [if_pos h2']
      rw [hsa] at h
      refine l_M_snaps P hr hK (EvS_RFr hs f5) hE hn (by omega) hq5 (fun i h3 h4 => ?_) (fun i j h3 h4 h5 => ?_) (fun g' f' h6 hq' => h g' (RFr_tr f5 f') (by rw [h6, h32]) hq') (q.1 - 1).toNat 1 0 (by omega) (by omega) rfl (fun h3 => by omega)
      · simp only [fu]
        split
        · omega
        · have := hok.2.1 i h3 (by omega); omega
      · have h6 := hok.2.1 i h3 (by omega)
        simp only [fu]
        rw [if_neg (by omega)]
        split
        · omega
        · exact hok.2.2 i j h3 h4 (by omega)
    · have h2' : ¬ kp < q.1 + 1 := by simp only [wr] at h2; omega
      have hsa : sadd (psm (wts s)) kp q (p + 1) = (q.1 + 1, fu q.2 q.1 (p + 1)) := by unfold sadd; rw [if_neg h2']
      rw [hsa] at h
      exact h g5 f5 h32 hq5
  · have h1' : ¬ ev ≤ psm (wts s) (p + 1) - psm (wts s) (slat q) := by simp only [wr] at h1; omega
    rw [if_neg h1'] at h
    have hd : sdue (psm (wts s)) ev q p = 0 := by unfold sdue; rw [if_neg h1']
    rw [hd] at h
    exact h g RFr_rfl (by omega) hq
/-- the EVENTS with one more -/
def evadd (s : Int → Int) (n k a o t sh x y w : Int) : Int → Int := fun j =>
  if 9 * n ≤ j ∧ j < 9 * n + 9 then (if j = 9 * n + 0 then k else if j = 9 * n + 1 then a else if j = 9 * n + 2 then o else if j = 9 * n + 3 then t else if j = 9 * n + 4 then sh else if j = 9 * n + 5 then x else if j = 9 * n + 6 then y else if j = 9 * n + 7 then w else 0)
  else if k = 7 ∧ j = 9 * o + 8 then n + 1 else s j
/-- what may come -/
def EvNew (s : Int → Int) (n k a o t sh : Int) : Prop := (0 ≤ k ∧ k ≤ 7) ∧ (k ≠ 7 → (0 ≤ a ∧ a < 8) ∧ (1 ≤ sh ∧ sh ≤ 3)) ∧ (k = 6 → 0 ≤ o ∧ o < 8) ∧ (k = 7 → (0 ≤ o ∧ o < n) ∧ s (9 * o + 0) ≠ 7 ∧ sh = 0) ∧ (0 ≤ t ∧ t ≤ 9999)
theorem evadd_old {s : Int → Int} {n k a o t sh x y w e f : Int} (he : 0 ≤ e ∧ e < n) (hf : 0 ≤ f ∧ f < 9) (h : f ≠ 8 ∨ k ≠ 7 ∨ e ≠ o) : evadd s n k a o t sh x y w (9 * e + f) = s (9 * e + f) := by
  unfold evadd
  rw [if_neg (by omega), if_neg (by omega)]
theorem evadd_new {s : Int → Int} {n k a o t sh x y w f : Int} (hf : 0 ≤ f ∧ f < 9) : evadd s n k a o t sh x y w (9 * n + f) = (if f = 0 then k else if f = 1 then a else if f = 2 then o else if f = 3 then t else if f = 4 then sh else if f = 5 then x else if f = 6 then y else if f = 7 then w else 0) := by
  unfold evadd
  rw [if_pos (by omega)]
  repeat' split
  all_goals omega
theorem EvOk_add {s : Int → Int} {n k a o t sh x y w : Int} (hE : EvOk s n) (hN : EvNew s n k a o t sh) (hn : 0 ≤ n) (hx : 0 ≤ x ∧ x ≤ 99999) (hy : 0 ≤ y ∧ y ≤ 99999) (hw : 0 ≤ w ∧ w ≤ 99999) : EvOk (evadd s n k a o t sh x y w) (n + 1) := by
  intro e h0 h1
  by_cases he : e = n
  · subst he
    rw [evadd_new (by omega : (0 : Int) ≤ 0 ∧ (0 : Int) < 9), evadd_new (by omega : (0 : Int) ≤ 1 ∧ (1 : Int) < 9), evadd_new (by omega : (0 : Int) ≤ 2 ∧ (2 : Int) < 9), evadd_new (by omega : (0 : Int) ≤ 3 ∧ (3 : Int) < 9), evadd_new (by omega : (0 : Int) ≤ 4 ∧ (4 : Int) < 9), evadd_new (by omega : (0 : Int) ≤ 8 ∧ (8 : Int) < 9)]
    simp (config := {decide := true}) only [if_true, if_false]
    refine ⟨hN.1, fun h7 => ⟨(hN.2.1 h7).1, (hN.2.1 h7).2, fun f hf0 hf1 => ?_⟩, hN.2.2.1, fun h7 => ?_, hN.2.2.2.2, by constructor <;> first | trivial | omega⟩
    · rw [show 9 * e + 5 + f = 9 * e + (5 + f) by omega, evadd_new (by omega)]
      have w : f = 0 ∨ f = 1 ∨ f = 2 := by omega
      rcases w with w | w | w
      · subst w; simp (config := {decide := true}) only [if_true, if_false]; exact hx
      · subst w; simp (config := {decide := true}) only [if_true, if_false]; exact hy
      · subst w; simp (config := {decide := true}) only [if_true, if_false]; exact hw
    · have h8 := hN.2.2.2.1 h7
      rw [evadd_old h8.1 (by omega) (Or.inl (by omega))]
      exact h8
  · have he2 : 0 ≤ e ∧ e < n := by omega
    have h2 := hE e h0 he2.2
    rw [evadd_old he2 (by omega : (0 : Int) ≤ 0 ∧ (0 : Int) < 9) (Or.inl (by omega)), evadd_old he2 (by omega : (0 : Int) ≤ 1 ∧ (1 : Int) < 9) (Or.inl (by omega)), evadd_old he2 (by omega : (0 : Int) ≤ 2 ∧ (2 : Int) < 9) (Or.inl (by omega)), evadd_old he2 (by omega : (0 : Int) ≤ 3 ∧ (3 : Int) < 9) (Or.inl (by omega)), evadd_old he2 (by omega : (0 : Int) ≤ 4 ∧ (4 : Int) < 9) (Or.inl (by omega))]
    refine ⟨h2.1, fun h7 => ⟨(h2.2.1 h7).1, (h2.2.1 h7).2.1, fun f hf0 hf1 => ?_⟩, h2.2.2.1, fun h7 => ?_, h2.2.2.2.2.1, ?_⟩
    · rw [show 9 * e + 5 + f = 9 * e + (5 + f) by omega, evadd_old he2 (by omega) (Or.inl (by omega)), ← show 9 * e + 5 + f = 9 * e + (5 + f) by omega]
      exact (h2.2.1 h7).2.2 f hf0 hf1
    · have h8 := h2.2.2.2.1 h7
      rw [evadd_old ⟨h8.1.1, by omega⟩ (by omega) (Or.inl (by omega))]
      exact h8
    · have h8 := h2.2.2.2.2.2
      unfold evadd
      rw [if_neg (by omega)]
      split <;> omega
