/-! SPECS, part f: the reference LIFTS. -/
theorem up_f {g : ab_H} {a k v b : Int} (h : b ≠ a) : ab_up g a k v b = g b := by
  funext j; exact up_a h
def ReT (g : ab_H) (T : TT) : Prop := g 168 = T.1 ∧ g 169 = T.2.1 ∧ g 170 = T.2.2.1 ∧ g 171 = T.2.2.2
theorem ReT_mono {g g' : ab_H} {T : TT} (h : ReT g T) (hf : ∀ c : Int, 168 ≤ c → c ≤ 171 → g' c = g c) : ReT g' T :=
  ⟨by rw [hf _ (by omega) (by omega)]; exact h.1, by rw [hf _ (by omega) (by omega)]; exact h.2.1, by rw [hf _ (by omega) (by omega)]; exact h.2.2.1, by rw [hf _ (by omega) (by omega)]; exact h.2.2.2⟩
theorem l_M_brk53 {K : Int} {S : Nat} {g r : ab_H} (P : Int → ab_H → ab_H → Prop) (hr : SI r) (hK : 186 ≤ K) (hl : ∀ f : Int, 0 ≤ f → f < 3 → 0 ≤ g 178 f ∧ g 178 f ≤ 999000000) (h : ∀ x : Int, ((x = 1 ∧ (1000000 < g 178 0 ∨ 1000000 < g 178 1 ∨ 1000000 < g 178 2)) ∨ (x = 0 ∧ ¬ (1000000 < g 178 0 ∨ 1000000 < g 178 1 ∨ 1000000 < g 178 2))) → P x g r) : ab_Rn m_M_breaksBy 53 [some (2, 161), none, none, none] [] (K, S, g, r) (ab_Qi K S P) := by
  have h0 := hl 0 (by omega) (by omega)
  have h1 := hl 1 (by omega) (by omega)
  have h2 := hl 2 (by omega) (by omega)
  apply v_M_breaksBy_53 _ hr hK
  simp only [wr]
  repeat' (first | refine And.intro ?_ ?_ | intro _)
  all_goals first | omega | (apply h; omega) | (apply v_M_breaksBy_71 _ hr hK; apply h; omega)
theorem s_M_breaksBy {K : Int} {S : Nat} {g r : ab_H} {q : Int} {T : TT} {l : Int → Int} (P : Int → ab_H → ab_H → Prop) (hr : SI r) (hK : 186 ≤ K) (hT : ReT g T) (hq : 0 ≤ q ∧ q < 56) (hb : (8 ≤ T.2.1 q ∧ T.2.1 q ≤ 11) ∧ (1 ≤ T.2.2.1 q ∧ T.2.2.1 q ≤ 3) ∧ (0 ≤ T.2.2.2 q ∧ T.2.2.2 q ≤ 999) ∧ (T.2.1 q = 11 → 1 ≤ T.2.2.2 q ∧ T.2.2.2 q ≤ 3)) (hl : ∀ f : Int, 0 ≤ f → f < 3 → g 178 f = l f) (hL : L3 l 1000000) (h : ∀ (x : Int) (g' : ab_H), (∀ c : Int, c ≠ 178 → g' c = g c) → (∀ f : Int, 0 ≤ f → f < 3 → g' 178 f = lstep T q l f) → ((x = 1 ∧ 1000000 < lstep T q l (T.2.2.1 q - 1)) ∨ (x = 0 ∧ ¬ 1000000 < lstep T q l (T.2.2.1 q - 1))) → P x g' r) : ab_RI m_M_breaksBy [(2, 161), (0, q)] K S g r P := by
  have hst := lstep_in hb.1 hb.2.1 hb.2.2.1 hb.2.2.2 hL
  have hl1 := hl (T.2.2.1 q - 1) (by omega) (by omega)
  have hv : lstep T q l (T.2.2.1 q - 1) = (if T.2.1 q - 8 = 0 then T.2.2.2 q else if T.2.1 q - 8 = 1 then l (T.2.2.1 q - 1) * T.2.2.2 q else if T.2.1 q - 8 = 2 then l (T.2.2.1 q - 1) + T.2.2.2 q else l (T.2.2.2 q - 1)) := fu_s
  have key : ∀ g1 : ab_H, g1 = ab_up g 178 (T.2.2.1 q - 1) (lstep T q l (T.2.2.1 q - 1)) → ab_Rn m_M_breaksBy 53 [some (2, 161), none, none, none] [] (K, S, g1, r) (ab_Qi K S P) := by
    intro g1 hg1
    have hg : ∀ f : Int, 0 ≤ f → f < 3 → g1 178 f = lstep T q l f := by
      intro f h1 h2
      rw [hg1, up_i]
      by_cases h3 : f = T.2.2.1 q - 1
      · rw [if_pos h3, h3]
      · rw [if_neg h3, hl f h1 h2]; exact (fu_n h3).symm
    refine l_M_brk53 P hr hK (fun f h1 h2 => by rw [hg f h1 h2]; exact (hst f h1 h2).1) (fun x hx => h x g1 (fun c hc => by rw [hg1, up_f hc]) hg ?_)
    rw [hg 0 (by omega) (by omega), hg 1 (by omega) (by omega), hg 2 (by omega) (by omega)] at hx
    have h0 := hst 0 (by omega) (by omega)
    have h1 := hst 1 (by omega) (by omega)
    have h2 := hst 2 (by omega) (by omega)
    have w : T.2.2.1 q = 1 ∨ T.2.2.1 q = 2 ∨ T.2.2.1 q = 3 := by omega
    rcases w with w | w | w
    · rw [w] at h0 h1 h2 ⊢
      simp only [show (1 : Int) - 1 = 0 by omega] at h0 h1 h2 ⊢
      omega
    · rw [w] at h0 h1 h2 ⊢
      simp only [show (2 : Int) - 1 = 1 by omega] at h0 h1 h2 ⊢
      omega
    · rw [w] at h0 h1 h2 ⊢
      simp only [show (3 : Int) - 1 = 2 by omega] at h0 h1 h2 ⊢
      omega
  apply v_M_breaksBy _ hr hK
  simp only [hT.2.1, hT.2.2.1, hT.2.2.2]
  rw [hl1]
  rw [hv] at key
  have w : T.2.1 q = 8 ∨ T.2.1 q = 9 ∨ T.2.1 q = 10 ∨ T.2.1 q = 11 := by omega
  rcases w with w | w | w | w
  · rw [w] at key ⊢
    simp only [wr]
    repeat' (first | refine And.intro ?_ ?_ | intro _)
    all_goals first | omega | skip
    exact key _ (by assumption)
  · rw [w] at key ⊢
    simp only [wr]
    repeat' (first | refine And.intro ?_ ?_ | intro _)
    all_goals first | omega | skip
    exact key _ (by assumption)
  · rw [w] at key ⊢
    simp only [wr]
    repeat' (first | refine And.intro ?_ ?_ | intro _)
    all_goals first | omega | skip
    exact key _ (by assumption)
  · have hb4 := hb.2.2.2 w
    have hl2 := hl (T.2.2.2 q - 1) (by omega) (by omega)
    rw [hl2]
    rw [w] at key ⊢
    simp only [wr]
    repeat' (first | refine And.intro ?_ ?_ | intro _)
    all_goals first | omega | skip
    exact key _ (by assumption)
theorem l_M_brk65 {K : Int} {S : Nat} {r : ab_H} {kd sh i : Int} {T : TT} (P : Int → ab_H → ab_H → Prop) (hr : SI r) (hK : 186 ≤ K) (hT : TOk T) (hi : 0 ≤ i ∧ i < 14) (hii : i = 2 * kd + sh - 1) : ∀ (m : Nat) (k c : Int) (g : ab_H) (l : Int → Int), 0 ≤ k → k + m = c → c ≤ T.1 i → ReT g T → (∀ f : Int, 0 ≤ f → f < 3 → g 178 f = l f) → L3 l 1000000 → ((lrun T m (4 * i + k) l).2 = 0 → ∀ g' : ab_H, (∀ c : Int, c ≠ 178 → g' c = g c) → (∀ f : Int, 0 ≤ f → f < 3 → g' 178 f = (lrun T m (4 * i + k) l).1 f) → ab_Rn m_M_breaks 39 [some (2, 161), none, some (0, kd), some (0, sh + 1), none, none] [] (K, S, g', r) (ab_Qi K S P)) → ((lrun T m (4 * i + k) l).2 = 1 → ∀ g' : ab_H, (∀ c : Int, c ≠ 178 → g' c = g c) → (∀ f : Int, 0 ≤ f → f < 3 → g' 178 f = (lrun T m (4 * i + k) l).1 f) → P 1 g' r) → ab_Rn m_M_breaks 65 [some (2, 161), none, some (0, kd), some (0, sh), some (0, c), some (0, k)] [] (K, S, g, r) (ab_Qi K S P)
  | 0, k, c, g, l, h0, hk, hc, hv, hl, hL, hd, _ => by
    have hi' := (hT i hi.1 hi.2).1
    apply v_M_breaks_65 _ hr hK
    simp only [wr]
    refine And.intro (fun _ => ?_) (fun h => by omega)
    exact hd rfl g (fun _ _ => rfl) hl
  | m + 1, k, c, g, l, h0, hk, hc, hv, hl, hL, hd, hb => by
    have hi' := (hT i hi.1 hi.2).1
    have ht := (hT i hi.1 hi.2).2 k h0 (by omega)
    have hst := lstep_in ht.1 ht.2.1 ht.2.2.1 ht.2.2.2 hL
    apply v_M_breaks_65 _ hr hK
    simp only [wr]
    refine And.intro (fun h => by omega) (fun _ => ?_)
    apply v_M_stepAt _ hr hK
    rw [show 56 * 0 + 8 * kd + 4 * (sh - 1) + k = 4 * i + k by omega]
    refine ⟨rfl, rfl, ?_⟩
    apply s_M_breaksBy _ hr hK hv (q := 4 * i + k) (by omega) ht hl hL
    intro x g1 f1 hl1 hx
    refine ⟨rfl, And.intro (fun h => ?_) (fun h => ?_)⟩
    · have hn : ¬ 1000000 < lstep T (4 * i + k) l (T.2.2.1 (4 * i + k) - 1) := by omega
      have hr1 : lrun T (m + 1) (4 * i + k) l = lrun T m (4 * i + (k + 1)) (lstep T (4 * i + k) l) := by
        show (if 1000000 < lstep T (4 * i + k) l (T.2.2.1 (4 * i + k) - 1) then _ else lrun T m (4 * i + k + 1) (lstep T (4 * i + k) l)) = _
        rw [if_neg hn, show 4 * i + k + 1 = 4 * i + (k + 1) by omega]
      rw [hr1] at hd hb
      have hL1 : L3 (lstep T (4 * i + k) l) 1000000 := by
        intro f h5 h6
        have h7 := hst f h5 h6
        by_cases h8 : f = T.2.2.1 (4 * i + k) - 1
        · rw [← h8] at hn; omega
        · have := h7.2 h8; omega
      exact l_M_brk65 P hr hK hT hi hii m (k + 1) c g1 _ (by omega) (by omega) hc (ReT_mono hv (fun c' h1 h2 => f1 c' (by omega))) hl1 hL1 (fun h2 g' f2 h4 => hd h2 g' (fun c' h5 => by rw [f2 c' h5, f1 c' h5]) h4) (fun h2 g' f2 h4 => hb h2 g' (fun c' h5 => by rw [f2 c' h5, f1 c' h5]) h4)
    · have hn : 1000000 < lstep T (4 * i + k) l (T.2.2.1 (4 * i + k) - 1) := by omega
      have hr1 : lrun T (m + 1) (4 * i + k) l = (lstep T (4 * i + k) l, 1) := by
        show (if 1000000 < lstep T (4 * i + k) l (T.2.2.1 (4 * i + k) - 1) then _ else lrun T m (4 * i + k + 1) (lstep T (4 * i + k) l)) = _
        rw [if_pos hn]
      rw [hr1] at hb
      exact hb rfl g1 f1 hl1
theorem l_M_brk39 {K : Int} {S : Nat} {r : ab_H} {kd pk ps : Int} {T : TT} (P : Int → ab_H → ab_H → Prop) (hr : SI r) (hK : 186 ≤ K) (hT : TOk T) (hk : 0 ≤ kd ∧ kd ≤ 6) (hpk : -1 ≤ pk ∧ pk ≤ 7) (hps : -1 ≤ ps ∧ ps ≤ 7) : ∀ (m : Nat) (sh : Int) (g : ab_H) (l : Int → Int), 1 ≤ sh → sh + m = 3 → ReT g T → g 161 34 = pk → g 161 35 = ps → (∀ f : Int, 0 ≤ f → f < 3 → g 178 f = l f) → L3 l 1000000 → (∀ g' : ab_H, (∀ c : Int, c ≠ 178 → g' c = g c) → (∀ f : Int, 0 ≤ f → f < 3 → g' 178 f = (lshp T kd pk ps m sh l).1 f) → P (lshp T kd pk ps m sh l).2 g' r) → ab_Rn m_M_breaks 39 [some (2, 161), none, some (0, kd), some (0, sh), none, none] [] (K, S, g, r) (ab_Qi K S P)
  | 0, sh, g, l, h0, hs, hv, hp, hq, hl, hL, h => by
    apply v_M_breaks_39 _ hr hK
    simp only [wr]
    exact And.intro (fun _ => h g (fun _ _ => rfl) hl) (fun h => by omega)
  | m + 1, sh, g, l, h0, hs, hv, hp, hq, hl, hL, h => by
    have hi : 0 ≤ 2 * kd + sh - 1 ∧ 2 * kd + sh - 1 < 14 := by omega
    have hc := lcnt_in (pk := pk) (ps := ps) hT hk (sh := sh) ⟨h0, by omega⟩
    have hT1 := (hT _ hi.1 hi.2).1
    have hr3 := lrun_in hT hi (lcnt T kd pk ps sh).toNat 0 l (by omega) (by omega) hL
    rw [show 4 * (2 * kd + sh - 1) + 0 = 4 * (2 * kd + sh - 1) by omega] at hr3
    have key : ∀ c : Int, c = lcnt T kd pk ps sh → ab_Rn m_M_breaks 65 [some (2, 161), none, some (0, kd), some (0, sh), some (0, c), some (0, 0)] [] (K, S, g, r) (ab_Qi K S P) := by
      intro c hcc
      refine l_M_brk65 P hr hK hT hi rfl (lcnt T kd pk ps sh).toNat 0 c g l (by omega) (by omega) (by omega) hv hl hL (fun h2 g' f2 h4 => ?_) (fun h2 g' f2 h4 => ?_)
      · rw [show 4 * (2 * kd + sh - 1) + 0 = 4 * (2 * kd + sh - 1) by omega] at h2 h4
        have h5 : lshp T kd pk ps (m + 1) sh l = lshp T kd pk ps m (sh + 1) (lrun T (lcnt T kd pk ps sh).toNat (4 * (2 * kd + sh - 1)) l).1 := if_neg (by omega)
        rw [h5] at h
        exact l_M_brk39 P hr hK hT hk hpk hps m (sh + 1) g' _ (by omega) (by omega) (ReT_mono hv (fun c' h1 h2 => f2 c' (by omega))) (by rw [f2 161 (by omega)]; exact hp) (by rw [f2 161 (by omega)]; exact hq) h4 (hr3.2.2 h2) (fun g2 f3 h7 => h g2 (fun c' h5 => by rw [f3 c' h5, f2 c' h5]) h7)
      · rw [show 4 * (2 * kd + sh - 1) + 0 = 4 * (2 * kd + sh - 1) by omega] at h2 h4
        have h5 : lshp T kd pk ps (m + 1) sh l = lrun T (lcnt T kd pk ps sh).toNat (4 * (2 * kd + sh - 1)) l := if_pos (by omega)
        rw [h5, h2] at h
        exact h g' f2 h4
    apply v_M_breaks_39 _ hr hK
    rw [hp, hq, hv.1]
    simp only [wr]
    refine And.intro (fun h => by omega) (fun _ => ?_)
    refine And.intro (fun h1 => ⟨by omega, key _ ?_⟩) (fun h1 => And.intro (fun h2 => ⟨by omega, key _ ?_⟩) (fun h2 => key _ ?_))
    · unfold lcnt; rw [if_neg (by omega)]
    · unfold lcnt; rw [if_neg (by omega)]
    · unfold lcnt; rw [if_pos (by omega)]
theorem l_M_brk11 {K : Int} {S : Nat} {r : ab_H} {e kd : Int} {s : Int → Int} (P : Int → ab_H → ab_H → Prop) (hr : SI r) (hK : 186 ≤ K) (he : 0 ≤ e ∧ e < 120) : ∀ (m : Nat) (i : Int) (g : ab_H), 0 ≤ i → i + m = 3 → g 174 = s → (∀ f : Int, 0 ≤ f → f < i → g 178 f = s (9 * e + 5 + f)) → (∀ g' : ab_H, (∀ c : Int, c ≠ 178 → g' c = g c) → (∀ f : Int, 0 ≤ f → f < 3 → g' 178 f = s (9 * e + 5 + f)) → ab_Rn m_M_breaks 39 [some (2, 161), none, some (0, kd), some (0, s (9 * e + 4)), none, none] [] (K, S, g', r) (ab_Qi K S P)) → ab_Rn m_M_breaks 11 [some (2, 161), some (0, e), some (0, kd), some (0, i), none, none] [] (K, S, g, r) (ab_Qi K S P)
  | 0, i, g, h0, hi, hs, hl, h => by
    apply v_M_breaks_11 _ hr hK
    rw [hs]
    simp only [wr]
    exact And.intro (fun _ => ⟨by omega, h g (fun _ _ => rfl) (fun f h1 h2 => hl f h1 (by omega))⟩) (fun h => by omega)
  | m + 1, i, g, h0, hi, hs, hl, h => by
    apply v_M_breaks_11 _ hr hK
    rw [hs]
    simp only [wr]
    refine And.intro (fun h => by omega) (fun _ => ⟨by omega, by omega, fun g1 hg1 => ?_⟩)
    refine l_M_brk11 P hr hK he m (i + 1) g1 (by omega) (by omega) (by rw [hg1, up_f (by omega)]; exact hs) (fun f h1 h2 => ?_) (fun g' f' hl' => h g' (fun c hc => by rw [f' c hc, hg1, up_f hc]) hl')
    rw [hg1, up_i]
    by_cases h3 : f = i
    · rw [if_pos h3, h3]
    · rw [if_neg h3]; exact hl f h1 (by omega)
theorem s_M_breaks {K : Int} {S : Nat} {g r : ab_H} {e n pk ps : Int} {T : TT} {s : Int → Int} (P : Int → ab_H → ab_H → Prop) (hr : SI r) (hK : 186 ≤ K) (hT : TOk T) (hv : ReT g T) (hs : g 174 = s) (hE : EvOk s n) (he : 0 ≤ e ∧ e < n) (hn : n ≤ 120) (h7 : s (9 * e + 0) ≠ 7) (hp : g 161 34 = pk) (hq : g 161 35 = ps) (hpk : -1 ≤ pk ∧ pk ≤ 7) (hps : -1 ≤ ps ∧ ps ≤ 7) (h : ∀ g' : ab_H, (∀ c : Int, c ≠ 178 → g' c = g c) → (∀ f : Int, 0 ≤ f → f < 3 → g' 178 f = LF T s pk ps e f) → P (BF T s pk ps e) g' r) : ab_RI m_M_breaks [(2, 161), (0, e)] K S g r P := by
  have c0 := hE e he.1 he.2
  have c1 := c0.2.1 h7
  apply v_M_breaks _ hr hK
  rw [hs]
  refine ⟨by omega, ?_⟩
  refine l_M_brk11 P hr hK (by omega) 3 0 g (by omega) (by omega) hs (fun f h1 h2 => by omega) (fun g1 f1 hl => ?_)
  exact l_M_brk39 P hr hK hT (by omega) hpk hps (3 - s (9 * e + 4)).toNat (s (9 * e + 4)) g1 (fl s e) (by omega) (by omega) (ReT_mono hv (fun c' h1 h2 => f1 c' (by omega))) (by rw [f1 161 (by omega)]; exact hp) (by rw [f1 161 (by omega)]; exact hq) (fun f h1 h2 => by rw [hl f h1 h2, fl_eq h1 h2]) (fun f h1 h2 => by have := c1.2.2 f h1 h2; rw [fl_eq h1 h2]; omega) (fun g' f' hl' => h g' (fun c hc => by rw [f' c hc, f1 c hc]) hl')
