/-! SPECS, part e: the class LIFTS. -/
def TeV (g : ab_H) (o : Int) (T : TT) : Prop := ∀ i : Int, 0 ≤ i → i < 14 → g (o + 5) i = T.1 i ∧ ∀ k : Int, 0 ≤ k → k < T.1 i → g (o + 6) (4 * i + k) = T.2.1 (4 * i + k) - 8 ∧ g (o + 7) (4 * i + k) = T.2.2.1 (4 * i + k) ∧ g (o + 8) (4 * i + k) = T.2.2.2 (4 * i + k)
theorem TeV_mono {g g' : ab_H} {o : Int} {T : TT} (h : TeV g o T) (hf : ∀ c i : Int, o ≤ c → c ≤ o + 8 → g' c i = g c i) : TeV g' o T := by
  intro i h0 h1
  have h2 := h i h0 h1
  refine ⟨?_, fun k h3 h4 => ?_⟩
  · rw [hf _ _ (by omega) (by omega)]; exact h2.1
  · have h5 := h2.2 k h3 h4
    rw [hf _ _ (by omega) (by omega), hf _ _ (by omega) (by omega), hf _ _ (by omega) (by omega)]
    exact h5
theorem s_Te_takeStep {K : Int} {S : Nat} {g r : ab_H} {o p1 e q : Int} {T : TT} {l : Int → Int} (P : ab_H → ab_H → Prop) (hr : SI r) (hK : 186 ≤ K) (ho : isTe o) (hp1 : isLg p1) (he : 0 ≤ e ∧ e < 120) (hq : 0 ≤ q ∧ q < 56) (h1 : g (o + 6) q = T.2.1 q - 8 ∧ g (o + 7) q = T.2.2.1 q ∧ g (o + 8) q = T.2.2.2 q) (hb : (8 ≤ T.2.1 q ∧ T.2.1 q ≤ 11) ∧ (1 ≤ T.2.2.1 q ∧ T.2.2.1 q ≤ 3) ∧ (0 ≤ T.2.2.2 q ∧ T.2.2.2 q ≤ 999) ∧ (T.2.1 q = 11 → 1 ≤ T.2.2.2 q ∧ T.2.2.2 q ≤ 3)) (hl : ∀ f : Int, 0 ≤ f → f < 3 → g (p1 + 7) (3 * e + f) = l f) (h : ∀ g' : ab_H, g' = ab_up g (p1 + 7) (3 * e + (T.2.2.1 q - 1)) (lstep T q l (T.2.2.1 q - 1)) → P g' r) : ab_RV m_Te_takeStep [(2, o), (2, p1), (0, 3 * e), (0, q)] K S g r P := by
  have hl1 := hl (T.2.2.1 q - 1) (by omega) (by omega)
  apply v_Te_takeStep _ hr hK ho hp1
  simp only [h1.1, h1.2.1, h1.2.2]
  rw [show 3 * e + T.2.2.1 q - 1 = 3 * e + (T.2.2.1 q - 1) by omega, show 3 * e + T.2.2.2 q - 1 = 3 * e + (T.2.2.2 q - 1) by omega, hl1]
  have w : T.2.1 q = 8 ∨ T.2.1 q = 9 ∨ T.2.1 q = 10 ∨ T.2.1 q = 11 := by omega
  have hv : lstep T q l (T.2.2.1 q - 1) = (if T.2.1 q - 8 = 0 then T.2.2.2 q else if T.2.1 q - 8 = 1 then l (T.2.2.1 q - 1) * T.2.2.2 q else if T.2.1 q - 8 = 2 then l (T.2.2.1 q - 1) + T.2.2.2 q else l (T.2.2.2 q - 1)) := fu_s
  rw [hv] at h
  rcases w with w | w | w | w
  · rw [w] at h ⊢
    simp only [wr]
    repeat' (first | refine And.intro ?_ ?_ | intro _)
    all_goals first | omega | skip
    subst_vars
    exact h _ rfl
  · rw [w] at h ⊢
    simp only [wr]
    repeat' (first | refine And.intro ?_ ?_ | intro _)
    all_goals first | omega | skip
    subst_vars
    exact h _ rfl
  · rw [w] at h ⊢
    simp only [wr]
    repeat' (first | refine And.intro ?_ ?_ | intro _)
    all_goals first | omega | skip
    subst_vars
    exact h _ rfl
  · have hb4 := hb.2.2.2 w
    have hl2 := hl (T.2.2.2 q - 1) (by omega) (by omega)
    rw [hl2]
    rw [w] at h ⊢
    simp only [wr]
    repeat' (first | refine And.intro ?_ ?_ | intro _)
    all_goals first | omega | skip
    subst_vars
    exact h _ rfl
def LFr (g g' : ab_H) (p1 e : Int) : Prop := ∀ c j : Int, ¬ (c = p1 + 7 ∧ 3 * e ≤ j ∧ j < 3 * e + 3) → ¬ (c = p1 + 8 ∧ j = e) → g' c j = g c j
theorem l_Te_lift_in {K : Int} {S : Nat} {r : ab_H} {o p1 e pk ps kd sh i : Int} {T : TT} (P : ab_H → ab_H → Prop) (hr : SI r) (hK : 186 ≤ K) (ho : isTe o) (hp1 : isLg p1) (hT : TOk T) (he : 0 ≤ e ∧ e < 120) (hi : 0 ≤ i ∧ i < 14) : ∀ (m : Nat) (k c : Int) (g : ab_H) (l : Int → Int), 0 ≤ k → k + m = c → c ≤ T.1 i → TeV g o T → (∀ f : Int, 0 ≤ f → f < 3 → g (p1 + 7) (3 * e + f) = l f) → L3 l 1000000 → ((lrun T m (4 * i + k) l).2 = 0 → ∀ g' : ab_H, LFr g g' p1 e → g' (p1 + 8) e = g (p1 + 8) e → (∀ f : Int, 0 ≤ f → f < 3 → g' (p1 + 7) (3 * e + f) = (lrun T m (4 * i + k) l).1 f) → ab_Rn m_Te_lift 17 [some (2, o), some (2, p1), some (0, e), some (0, pk), some (0, ps), some (0, kd), some (0, sh + 1), none, none, none, none] [] (K, S, g', r) (ab_Qv K S P)) → ((lrun T m (4 * i + k) l).2 ≠ 0 → ∀ g' : ab_H, LFr g g' p1 e → g' (p1 + 8) e = 1 → (∀ f : Int, 0 ≤ f → f < 3 → g' (p1 + 7) (3 * e + f) = (lrun T m (4 * i + k) l).1 f) → P g' r) → ab_Rn m_Te_lift 39 [some (2, o), some (2, p1), some (0, e), some (0, pk), some (0, ps), some (0, kd), some (0, sh), some (0, i), some (0, c), some (0, k), none] [] (K, S, g, r) (ab_Qv K S P)
  | 0, k, c, g, l, h0, hk, hc, hv, hl, hL, hd, _ => by
    have hi' := (hT i hi.1 hi.2).1
    apply v_Te_lift_39 _ hr hK ho hp1
    simp only [wr]
    refine And.intro (fun _ => ?_) (fun h => by omega)
    exact hd rfl g (fun _ _ _ _ => rfl) rfl hl
  | m + 1, k, c, g, l, h0, hk, hc, hv, hl, hL, hd, hb => by
    have hi' := (hT i hi.1 hi.2).1
    have ht := (hT i hi.1 hi.2).2 k h0 (by omega)
    have hv1 := (hv i hi.1 hi.2).2 k h0 (by omega)
    have hst := lstep_in ht.1 ht.2.1 ht.2.2.1 ht.2.2.2 hL
    have ho' : o = 5 ∨ o = 14 := ho
    have hp' : p1 = 23 ∨ p1 = 34 ∨ p1 = 66 := hp1
    apply v_Te_lift_39 _ hr hK ho hp1
    simp only [wr]
    refine And.intro (fun h => by omega) (fun _ => ?_)
    apply s_Te_takeStep _ hr hK ho hp1 he (q := 4 * i + k) (by omega) hv1 ht hl
    intro g1 hg1
    have f1 : LFr g g1 p1 e := by
      intro c' j h1 h2
      rw [hg1]
      by_cases h3 : c' = p1 + 7
      · exact up_k (by omega)
      · exact up_a h3
    have hx : 3 * e + g1 (o + 7) (4 * i + k) - 1 = 3 * e + (T.2.2.1 (4 * i + k) - 1) := by
      rw [f1 _ _ (by omega) (by omega), hv1.2.1]; omega
    have hy : g1 (p1 + 7) (3 * e + (T.2.2.1 (4 * i + k) - 1)) = lstep T (4 * i + k) l (T.2.2.1 (4 * i + k) - 1) := by rw [hg1, up_s]
    have hl1 : ∀ f : Int, 0 ≤ f → f < 3 → g1 (p1 + 7) (3 * e + f) = lstep T (4 * i + k) l f := by
      intro f h1 h2
      by_cases h3 : f = T.2.2.1 (4 * i + k) - 1
      · rw [h3]; exact hy
      · rw [hg1, up_k (by omega), hl f h1 h2]
        exact (fu_n h3).symm
    have hsf := hst (T.2.2.1 (4 * i + k) - 1) (by omega) (by omega)
    rw [hx, hy]
    refine ⟨rfl, by omega, by omega, And.intro (fun h => ?_) (fun h => ?_)⟩
    · have hn : ¬ 1000000 < lstep T (4 * i + k) l (T.2.2.1 (4 * i + k) - 1) := by omega
      have hr1 : lrun T (m + 1) (4 * i + k) l = lrun T m (4 * i + (k + 1)) (lstep T (4 * i + k) l) := by
        show (if 1000000 < lstep T (4 * i + k) l (T.2.2.1 (4 * i + k) - 1) then _ else lrun T m (4 * i + k + 1) (lstep T (4 * i + k) l)) = _
        rw [if_neg hn, show 4 * i + k + 1 = 4 * i + (k + 1) by omega]
      rw [hr1] at hd hb
      have hL1 : L3 (lstep T (4 * i + k) l) 1000000 := by
        intro f h5 h6
        have h7 := hst f h5 h6
        by_cases h8 : f = T.2.2.1 (4 * i + k) - 1
        · rw [← h8] at hn; omega
        · have := h7.2 h8; omega
      have f8 : g1 (p1 + 8) e = g (p1 + 8) e := by rw [hg1, up_a (by omega)]
      refine l_Te_lift_in P hr hK ho hp1 hT he hi m (k + 1) c g1 _ (by omega) (by omega) hc (TeV_mono hv (fun c' j h1 h2 => f1 c' j (by omega) (by omega))) hl1 hL1 (fun h2 g' f2 h3 h4 => hd h2 g' (fun c' j h5 h6 => by rw [f2 c' j h5 h6, f1 c' j h5 h6]) (by rw [h3, f8]) h4) (fun h2 g' f2 h3 h4 => hb h2 g' (fun c' j h5 h6 => by rw [f2 c' j h5 h6, f1 c' j h5 h6]) h3 h4)
    · have hn : 1000000 < lstep T (4 * i + k) l (T.2.2.1 (4 * i + k) - 1) := by omega
      have hr1 : lrun T (m + 1) (4 * i + k) l = (lstep T (4 * i + k) l, 1) := by
        show (if 1000000 < lstep T (4 * i + k) l (T.2.2.1 (4 * i + k) - 1) then _ else lrun T m (4 * i + k + 1) (lstep T (4 * i + k) l)) = _
        rw [if_pos hn]
      rw [hr1] at hb
      refine ⟨by omega, fun g3 hg3 => ?_⟩
      refine hb (by show ¬ (1 : Int) = 0; omega) g3 (fun c' j h5 h6 => ?_) ?_ (fun f h5 h6 => ?_)
      · rw [hg3]
        by_cases h7 : c' = p1 + 8
        · rw [up_k (by omega)]; exact f1 c' j h5 h6
        · rw [up_a h7]; exact f1 c' j h5 h6
      · rw [hg3, up_s]
      · rw [hg3, up_a (by omega)]
        exact hl1 f h5 h6
theorem l_Te_lift_out {K : Int} {S : Nat} {r : ab_H} {o p1 e pk ps kd : Int} {T : TT} (P : ab_H → ab_H → Prop) (hr : SI r) (hK : 186 ≤ K) (ho : isTe o) (hp1 : isLg p1) (hT : TOk T) (he : 0 ≤ e ∧ e < 120) (hk : 0 ≤ kd ∧ kd ≤ 6) (hpk : -1 ≤ pk ∧ pk ≤ 7) (hps : -1 ≤ ps ∧ ps ≤ 7) : ∀ (m : Nat) (sh : Int) (g : ab_H) (l : Int → Int), 1 ≤ sh → sh + m = 3 → TeV g o T → (∀ f : Int, 0 ≤ f → f < 3 → g (p1 + 7) (3 * e + f) = l f) → L3 l 1000000 → g (p1 + 8) e = 0 → (∀ g' : ab_H, LFr g g' p1 e → g' (p1 + 8) e = (lshp T kd pk ps m sh l).2 → (∀ f : Int, 0 ≤ f → f < 3 → g' (p1 + 7) (3 * e + f) = (lshp T kd pk ps m sh l).1 f) → P g' r) → ab_Rn m_Te_lift 17 [some (2, o), some (2, p1), some (0, e), some (0, pk), some (0, ps), some (0, kd), some (0, sh), none, none, none, none] [] (K, S, g, r) (ab_Qv K S P)
  | 0, sh, g, l, h0, hs, hv, hl, hL, h8, h => by
    apply v_Te_lift_17 _ hr hK ho hp1
    simp only [wr]
    exact And.intro (fun _ => h g (fun _ _ _ _ => rfl) h8 hl) (fun h => by omega)
  | m + 1, sh, g, l, h0, hs, hv, hl, hL, h8, h => by
    have ho' : o = 5 ∨ o = 14 := ho
    have hp' : p1 = 23 ∨ p1 = 34 ∨ p1 = 66 := hp1
    have hi : 0 ≤ 2 * kd + sh - 1 ∧ 2 * kd + sh - 1 < 14 := by omega
    have hc := lcnt_in (pk := pk) (ps := ps) hT hk (sh := sh) ⟨h0, by omega⟩
    have hv1 := (hv _ hi.1 hi.2).1
    have hT1 := (hT _ hi.1 hi.2).1
    have hr3 := lrun_in hT hi (lcnt T kd pk ps sh).toNat 0 l (by omega) (by omega) hL
    rw [show 4 * (2 * kd + sh - 1) + 0 = 4 * (2 * kd + sh - 1) by omega] at hr3
    have key : ∀ c : Int, c = lcnt T kd pk ps sh → ab_Rn m_Te_lift 39 [some (2, o), some (2, p1), some (0, e), some (0, pk), some (0, ps), some (0, kd), some (0, sh), some (0, 2 * kd + sh - 1), some (0, c), some (0, 0), none] [] (K, S, g, r) (ab_Qv K S P) := by
      intro c hcc
      refine l_Te_lift_in P hr hK ho hp1 hT he hi (lcnt T kd pk ps sh).toNat 0 c g l (by omega) (by omega) (by omega) hv hl hL (fun h2 g' f2 h3 h4 => ?_) (fun h2 g' f2 h3 h4 => ?_)
      · rw [show 4 * (2 * kd + sh - 1) + 0 = 4 * (2 * kd + sh - 1) by omega] at h2 h4
        have h5 : lshp T kd pk ps (m + 1) sh l = lshp T kd pk ps m (sh + 1) (lrun T (lcnt T kd pk ps sh).toNat (4 * (2 * kd + sh - 1)) l).1 := if_neg (by omega)
        rw [h5] at h
        exact l_Te_lift_out P hr hK ho hp1 hT he hk hpk hps m (sh + 1) g' _ (by omega) (by omega) (TeV_mono hv (fun c' j h1 h2 => f2 c' j (by omega) (by omega))) h4 (hr3.2.2 h2) (by rw [h3, h8]) (fun g2 f3 h6 h7 => h g2 (fun c' j h5 h6 => by rw [f3 c' j h5 h6, f2 c' j h5 h6]) h6 h7)
      · rw [show 4 * (2 * kd + sh - 1) + 0 = 4 * (2 * kd + sh - 1) by omega] at h2 h4
        have h5 : lshp T kd pk ps (m + 1) sh l = lrun T (lcnt T kd pk ps sh).toNat (4 * (2 * kd + sh - 1)) l := if_pos h2
        rw [h5] at h
        exact h g' f2 (by rw [h3]; omega) h4
    apply v_Te_lift_17 _ hr hK ho hp1
    simp only [wr]
    refine And.intro (fun h => by omega) (fun _ => ?_)
    apply v_Te_group _ hr hK
    refine ⟨rfl, rfl, And.intro (fun h1 => ⟨hi, key _ ?_⟩) (fun h1 => And.intro (fun h2 => ⟨hi, key _ ?_⟩) (fun h2 => key _ ?_))⟩
    · rw [hv1]; unfold lcnt; rw [if_neg (by omega)]
    · rw [hv1]; unfold lcnt; rw [if_neg (by omega)]
    · unfold lcnt; rw [if_pos (by omega)]
theorem s_Lg_unlift {K : Int} {S : Nat} {g r : ab_H} {o e : Int} (P : ab_H → ab_H → Prop) (hr : SI r) (hK : 186 ≤ K) (hK2 : 187 ≤ K) (ho : isLg o) (he : 0 ≤ e ∧ e < 120) (h : ∀ g' : ab_H, LFr g g' o e → g' (o + 8) e = 0 → (∀ f : Int, 0 ≤ f → f < 3 → g' (o + 7) (3 * e + f) = g (o + 6) (3 * e + f)) → P g' r) : ab_RV m_Lg_unlift [(2, o), (0, e)] K S g r P := by
  apply v_Lg_unlift _ hr hK ho
  refine ⟨hK2, by omega, by omega, fun g1 hg1 => ⟨by omega, fun g2 hg2 => ?_⟩⟩
  refine h g2 (fun c j h1 h2 => ?_) (by rw [hg2, up_s]) (fun f h1 h2 => ?_)
  · rw [hg2, hg1]
    by_cases h3 : c = o + 8
    · rw [up_k (by omega), cpy_a (by omega)]
    · rw [up_a h3]
      by_cases h4 : c = o + 7
      · rw [cpy_k (by omega)]
      · rw [cpy_a h4]
  · rw [hg2, hg1, up_a (by omega), cpy_e rfl (by omega)]
    congr 1; omega
/-- the class LIFTS one EVENT -/
theorem s_Te_lift {K : Int} {S : Nat} {g r : ab_H} {o p1 e n pk ps : Int} {T : TT} {s : Int → Int} (P : ab_H → ab_H → Prop) (hr : SI r) (hK : 186 ≤ K) (hK2 : 187 ≤ K) (ho : isTe o) (hp1 : isLg p1) (hT : TOk T) (hv : TeV g o T) (hk : g (p1 + 1) e = s (9 * e + 0)) (hsh : g (p1 + 5) e = s (9 * e + 4)) (hto : s (9 * e + 0) ≠ 7 → ∀ f : Int, 0 ≤ f → f < 3 → g (p1 + 6) (3 * e + f) = s (9 * e + 5 + f)) (hE : EvOk s n) (he : 0 ≤ e ∧ e < n) (hn : n ≤ 120) (hpk : -1 ≤ pk ∧ pk ≤ 7) (hps : -1 ≤ ps ∧ ps ≤ 7) (h : ∀ g' : ab_H, LFr g g' p1 e → (s (9 * e + 0) ≠ 7 → g' (p1 + 8) e = BF T s pk ps e ∧ ∀ f : Int, 0 ≤ f → f < 3 → g' (p1 + 7) (3 * e + f) = LF T s pk ps e f) → P g' r) : ab_RV m_Te_lift [(2, o), (2, p1), (0, e), (0, pk), (0, ps)] K S g r P := by
  have ho' : o = 5 ∨ o = 14 := ho
  have hp' : p1 = 23 ∨ p1 = 34 ∨ p1 = 66 := hp1
  have c0 := hE e he.1 he.2
  apply v_Te_lift _ hr hK ho hp1
  apply s_Lg_unlift _ hr hK hK2 hp1 (by omega)
  intro g1 f1 h8 hl
  refine ⟨rfl, by omega, ?_⟩
  rw [f1 (p1 + 1) e (by omega) (by omega), f1 (p1 + 5) e (by omega) (by omega), hk, hsh]
  simp only [wr]
  refine And.intro (fun h7 => ⟨by omega, ?_⟩) (fun h7 => ?_)
  · have h7' : s (9 * e + 0) ≠ 7 := by omega
    have c1 := c0.2.1 h7'
    refine l_Te_lift_out P hr hK ho hp1 hT (by omega) (by omega) hpk hps (3 - s (9 * e + 4)).toNat (s (9 * e + 4)) g1 (fl s e) (by omega) (by omega) (TeV_mono hv (fun c' j h1 h2 => f1 c' j (by omega) (by omega))) (fun f h1 h2 => by rw [hl f h1 h2, hto h7' f h1 h2, fl_eq h1 h2]) (fun f h1 h2 => by have := c1.2.2 f h1 h2; rw [fl_eq h1 h2]; omega) h8 (fun g' f2 h9 hl2 => ?_)
    exact h g' (fun c' j h5 h6 => by rw [f2 c' j h5 h6, f1 c' j h5 h6]) (fun _ => ⟨h9, hl2⟩)
  · exact h g1 f1 (fun hc => by omega)
