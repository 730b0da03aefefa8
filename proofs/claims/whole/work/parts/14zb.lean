/-! SPECS, part zb: calls that answer alone (5): touches, ifPlain, bestPlace. -/
def tch (c c' : Int → Int) (e j : Int) : Int := if j = e then 0 else if c' j = c j then 0 else 1
def V_touches (g : ab_H) (e : Int) : Int := if (0 ≤ e ∧ e < ss g 1080) ∧ ss g (9 * e + 0) ≠ 7 then psm (tch (rp g (-1) 120 (ss g 1080)).2.2.2.2 (rp g e 120 (ss g 1080)).2.2.2.2 e) (ss g 1080) else -1
theorem l_M_touches42 {K : Int} {S : Nat} {g r : ab_H} {n e : Int} {c c' : Int → Int} (P : Int → ab_H → ab_H → Prop) (hr : SI r) (hK : 186 ≤ K) (he : 0 ≤ e ∧ e < 120) (hm : g 174 1080 = n) (hn : n ≤ 120) (hq : ∀ j : Int, 0 ≤ j → j < n → g 184 j = c j ∧ g 183 j = c' j) (hc : ∀ j : Int, (0 ≤ c j ∧ c j ≤ 3) ∧ (0 ≤ c' j ∧ c' j ≤ 3)) : ∀ (m : Nat) (i x : Int), 0 ≤ i → i + m = n → (∀ y : Int, y - x = psm (tch c c' e) n - psm (tch c c' e) i → P y g r) → ab_Rn m_M_touches 42 [some (2, 161), some (0, e), some (0, x), some (0, i)] [] (K, S, g, r) (ab_Qi K S P)
  | 0, i, x, h0, hi, h => by
    apply v_M_touches_42 _ hr hK
    apply s_M_many _ hr hK
    rw [hm]
    exact ⟨rfl, rfl, And.intro (fun _ => h x (by rw [show i = n by omega]; omega)) (fun h1 => absurd h1 (by simp only [wr]; omega))⟩
  | m + 1, i, x, h0, hi, h => by
    have hp := psm_1 (f := tch c c' e) h0
    have hqi := hq i h0 (by omega)
    have hci := hc i
    apply v_M_touches_42 _ hr hK
    apply s_M_many _ hr hK
    rw [hm, hqi.1, hqi.2]
    refine ⟨rfl, rfl, And.intro (fun h1 => absurd h1 (by simp only [wr]; omega)) (fun _ => And.intro (fun h1 => ?_) (fun h1 => ⟨by omega, by omega, And.intro (fun h2 => ?_) (fun h2 => ?_)⟩))⟩
    · refine l_M_touches42 P hr hK he hm hn hq hc m (i + 1) _ (by omega) (by omega) (fun y hy => h y ?_)
      have : tch c c' e i = 0 := if_pos (by simp only [wr] at h1; omega)
      omega
    · refine l_M_touches42 P hr hK he hm hn hq hc m (i + 1) _ (by omega) (by omega) (fun y hy => h y ?_)
      have : tch c c' e i = 0 := by unfold tch; rw [if_neg (by simp only [wr] at h1; omega), if_pos (by simp only [wr] at h2; omega)]
      omega
    · refine l_M_touches42 P hr hK he hm hn hq hc m (i + 1) _ (by omega) (by omega) (fun y hy => h y ?_)
      have : tch c c' e i = 1 := by unfold tch; rw [if_neg (by simp only [wr] at h1; omega), if_neg (by simp only [wr] at h2; omega)]
      omega
theorem l_M_touches17 {K : Int} {S : Nat} {r g0 : ab_H} {n e : Int} {c : Int → Int} (P : Int → ab_H → ab_H → Prop) (hr : SI r) (hK : 186 ≤ K) (hn : n ≤ 120) (hm : g0 174 1080 = n) (hq : ∀ j : Int, 0 ≤ j → j < n → g0 183 j = c j) (h : ∀ g : ab_H, (∀ k : Int, k ≠ 184 → g k = g0 k) → (∀ j : Int, 0 ≤ j → j < n → g 184 j = c j) → ab_RV m_M_replays [(2, 161), (0, n), (0, e), (0, 120), (0, (-1))] K S g r (fun g3 r' => r' = r ∧ (ab_Rn m_M_touches 42 [some (2, 161), some (0, e), some (0, 0), some (0, 0)] [] (K, S, g3, r) (ab_Qi K S P)))) : ∀ (m : Nat) (i : Int) (g : ab_H), 0 ≤ i → i + m = n → (∀ k : Int, k ≠ 184 → g k = g0 k) → (∀ j : Int, 0 ≤ j → j < i → g 184 j = c j) → ab_Rn m_M_touches 17 [some (2, 161), some (0, e), some (0, i), none] [] (K, S, g, r) (ab_Qi K S P)
  | 0, i, g, h0, hi, hf, hc => by
    apply v_M_touches_17 _ hr hK
    apply s_M_many _ hr hK
    rw [hf 174 (by omega), hm]
    refine ⟨rfl, rfl, And.intro (fun _ => ?_) (fun h1 => absurd h1 (by simp only [wr]; omega))⟩
    apply s_M_many _ hr hK
    rw [hf 174 (by omega), hm]
    exact ⟨rfl, rfl, h g hf (fun j a b => hc j a (by omega))⟩
  | m + 1, i, g, h0, hi, hf, hc => by
    apply v_M_touches_17 _ hr hK
    apply s_M_many _ hr hK
    rw [hf 174 (by omega), hm]
    refine ⟨rfl, rfl, And.intro (fun h1 => absurd h1 (by simp only [wr]; omega)) (fun _ => ⟨by omega, by omega, fun g5 hg5 => ?_⟩)⟩
    refine l_M_touches17 P hr hK hn hm hq h m (i + 1) g5 (by omega) (by omega) (fun k hk => by rw [hg5, up_f hk]; exact hf k hk) (fun j a b => ?_)
    rw [hg5, up_i]
    by_cases h1 : j = i
    · rw [if_pos h1, hf 183 (by omega), h1]; exact hq i h0 (by omega)
    · rw [if_neg h1]; exact hc j a (by omega)
theorem Scr_184 {g g' r : ab_H} (R : Rel g r) (h : ∀ k : Int, k ≠ 184 → g' k = g k) : Scr g g' r := by
  refine ⟨fun c j a _ _ _ _ => by rw [h c (by omega)], fun c a b => h c (by omega), h _ (by omega), h _ (by omega), ?_, fun j _ _ _ _ _ _ _ => by rw [h 161 (by omega)], ?_⟩
  · unfold ss; rw [h _ (by omega)]
  · rw [h 161 (by omega)]; exact R.2.2.2.2.2.2.2.1
theorem m_touches {K : Int} {S : Nat} {g r : ab_H} {e v : Int} (hr : SI r) (hK : 186 ≤ K) (R : Rel g r) (he : I32 e) (hv : v = V_touches g e) : MA m_M_touches [(2, 161), (0, e)] K S g r v := by
  unfold I32 at he
  unfold MA
  apply v_M_touches _ hr hK
  intro g1 hg1
  have f1 := Scr_t R hg1
  have R1 := Rel_scr R f1
  have hv1 : v = V_touches g1 e := by rw [hv]; unfold V_touches; rw [Scr_rp f1, Scr_rp f1, Scr_ss f1]
  have G1 := R1.2.2.2.1.1
  have n1 := G1.1
  unfold V_touches at hv1
  apply s_M_isEvent _ hr hK (Rel_many R1) G1.1 he
  intro x hx
  refine ⟨rfl, rfl, And.intro (fun h1 => ⟨rfl, f1, ?_⟩) (fun h1 => ?_)⟩
  · rw [hv1, if_neg (by simp only [wr] at h1; omega)]
  · have he2 : 0 ≤ e ∧ e < ss g1 1080 := by simp only [wr] at h1; omega
    have c0 := G1.2.1 e he2.1 he2.2
    have s0 := Rel_EvS R1 (9 * e + 0) (by omega) (by omega)
    apply s_M_isVoid _ hr hK (by omega) (by omega)
    intro y hy
    rw [s0] at hy
    refine ⟨rfl, rfl, And.intro (fun h4 => ?_) (fun h4 => ⟨rfl, f1, ?_⟩)⟩
    · rw [if_pos ⟨he2, by simp only [wr] at h4; omega⟩] at hv1
      apply u_M_replaysAll _ hr hK R1
      intro g4 fm4 f4 hq4
      refine ⟨rfl, ?_⟩
      have R4 := Rel_scr R1 f4
      refine l_M_touches17 (n := ss g1 1080) (c := (rp g1 (-1) 120 (ss g1 1080)).2.2.2.2) _ hr hK n1.2 (by rw [Rel_many R4, Scr_ss f4]) (fun j a b => hq4.2 j a b) (fun g5 f5 hc5 => ?_) (ss g1 1080).toNat 0 g4 (by omega) (by omega) (fun _ _ => rfl) (fun j a b => by omega)
      have f5s := Scr_184 R4 f5
      have R5 := Rel_scr R4 f5s
      have f45 := Scr_tr f4 f5s
      have e5 : ss g5 1080 = ss g1 1080 := by rw [Scr_ss f45]
      rw [← e5]
      apply u_M_replays _ hr hK R5 (by omega) (by omega) (by omega) (Or.inl rfl)
      intro g6 fm6 f6 hq6 _
      refine ⟨rfl, ?_⟩
      rw [e5] at hq6
      have hq6' : StV g6 178 (rp g5 e 120 (ss g1 1080)) (ss g1 1080) := hq6
      rw [Scr_rp f45] at hq6'
      have R6 := Rel_scr R5 f6
      have f46 := Scr_tr f45 f6
      refine l_M_touches42 (n := ss g1 1080) (c := (rp g1 (-1) 120 (ss g1 1080)).2.2.2.2) (c' := (rp g1 e 120 (ss g1 1080)).2.2.2.2) _ hr hK (by omega) (by rw [Rel_many R6, Scr_ss f46]) n1.2 (fun j a b => ⟨by rw [fm6.1 184 (by omega) (by omega)]; exact hc5 j a b, hq6'.2 j a b⟩) (fun j => ⟨rep_cau j, rep_cau j⟩) (ss g1 1080).toNat 0 0 (by omega) (by omega) (fun z hz => ⟨rfl, Scr_tr f1 f46, ?_⟩)
      rw [psm_0] at hz
      omega
    · rw [hv1, if_neg (by simp only [wr] at h4; omega)]
theorem l_EL_touches {K : Int} {S : Nat} {g r : ab_H} {n e : Int} {c c' : Int → Int} (P : Int → ab_H → ab_H → Prop) (hr : SI r) (hK : 186 ≤ K) (hL : isLg (r 0 5)) (he : 0 ≤ e ∧ e < 120) (hm : g (r 0 5) 10 = n) (hn : n ≤ 120) (hq : ∀ j : Int, 0 ≤ j → j < n → g 50 j = c j ∧ g 56 j = c' j) (hc : ∀ j : Int, (0 ≤ c j ∧ c j ≤ 3) ∧ (0 ≤ c' j ∧ c' j ≤ 3)) : ∀ (m : Nat) (i x : Int), 0 ≤ i → i + m = n → (∀ y : Int, y - x = psm (tch c c' e) n - psm (tch c c' e) i → P y g r) → ab_Rn m_EL_touches 23 [some (2, 0), some (0, e), some (0, x), some (0, i)] [] (K, S, g, r) (ab_Qi K S P)
  | 0, i, x, h0, hi, h => by
    apply v_EL_touches_23 _ hr hK
    rw [hm]
    exact ⟨hL, And.intro (fun _ => h x (by rw [show i = n by omega]; omega)) (fun h1 => absurd h1 (by simp only [wr]; omega))⟩
  | m + 1, i, x, h0, hi, h => by
    have hp := psm_1 (f := tch c c' e) h0
    have hqi := hq i h0 (by omega)
    have hci := hc i
    apply v_EL_touches_23 _ hr hK
    rw [hm, hqi.1, hqi.2]
    refine ⟨hL, And.intro (fun h1 => absurd h1 (by simp only [wr]; omega)) (fun _ => And.intro (fun h1 => ?_) (fun h1 => ⟨by omega, by omega, And.intro (fun h2 => ?_) (fun h2 => ?_)⟩))⟩
    · refine l_EL_touches P hr hK hL he hm hn hq hc m (i + 1) _ (by omega) (by omega) (fun y hy => h y ?_)
      have : tch c c' e i = 0 := if_pos (by simp only [wr] at h1; omega)
      omega
    · refine l_EL_touches P hr hK hL he hm hn hq hc m (i + 1) _ (by omega) (by omega) (fun y hy => h y ?_)
      have : tch c c' e i = 0 := by unfold tch; rw [if_neg (by simp only [wr] at h1; omega), if_pos (by simp only [wr] at h2; omega)]
      omega
    · refine l_EL_touches P hr hK hL he hm hn hq hc m (i + 1) _ (by omega) (by omega) (fun y hy => h y ?_)
      have : tch c c' e i = 1 := by unfold tch; rw [if_neg (by simp only [wr] at h1; omega), if_neg (by simp only [wr] at h2; omega)]
      omega
theorem p_touches {K : Int} {S : Nat} {g r : ab_H} {e : Int} (hr : SI r) (hK : 186 ≤ K) (R : Rel g r) (he : I32 e) : PA m_EL_touches [(2, 0), (0, e)] m_M_touches [(2, 161), (0, e)] K S g r := by
  have S1 := R.2.2.2.1
  have n1 := S1.1.1
  unfold PA
  apply v_EL_touches _ hr hK
  refine ⟨Rel_Lg R, ?_⟩
  apply s_Lg_holdsPlain _ hr hK (Rel_Lg R) S1.2.1 S1.1.2.1 he
  intro x hx
  refine ⟨rfl, rfl, And.intro (fun h1 => ⟨Rel_Lg R, Rel_Lg R, Rel_Lg R, ?_⟩) (fun h1 => ⟨rfl, Scr_rfl R, m_touches hr hK R he ?_⟩)⟩
  · have hh : (0 ≤ e ∧ e < ss g 1080) ∧ ss g (9 * e + 0) ≠ 7 := by simp only [wr] at h1; omega
    rw [S1.2.1.1]
    apply u_guess _ hr hK R (by omega) (by omega) (by omega)
    intro g6 f6 hq
    rw [Rel_vo R (by omega) (Int.le_refl _)] at hq
    have R6 := Rel_scr R f6
    have hnow := Rel_now R6
    rw [Scr_rp f6, Scr_ss f6] at hnow
    have hm6 := R6.2.2.2.1.2.1.1
    rw [Scr_ss f6] at hm6
    refine ⟨rfl, l_EL_touches (n := ss g 1080) (c := (rp g (-1) 120 (ss g 1080)).2.2.2.2) (c' := (rp g e 120 (ss g 1080)).2.2.2.2) _ hr hK (Rel_Lg R) (by omega) hm6 n1.2 (fun j a b => ⟨hnow.2 j a b, hq.2 j a b⟩) (fun j => ⟨rep_cau j, rep_cau j⟩) (ss g 1080).toNat 0 0 (by omega) (by omega) (fun z hz => ⟨rfl, f6, m_touches hr hK R6 he ?_⟩)⟩
    unfold V_touches
    rw [Scr_rp f6, Scr_rp f6, Scr_ss f6, if_pos hh]
    rw [psm_0] at hz
    omega
  · unfold V_touches; rw [if_neg (by simp only [wr] at h1; omega)]
def V_ifPlain (g : ab_H) (k s : Int) : Int := if (0 ≤ k ∧ k ≤ 6) ∧ (1 ≤ s ∧ s ≤ 2) then psm (asd (rep (ss g) (LF (tt g) (ss g) k s) (BF (tt g) (ss g) k s) (-1) 120 (ss g 1080)).2.2.2.2) (ss g 1080) else -1
theorem m_ifPlain {K : Int} {S : Nat} {g r : ab_H} {k s v : Int} (hr : SI r) (hK : 186 ≤ K) (R : Rel g r) (hk : I32 k) (hs : I32 s) (hv : v = V_ifPlain g k s) : MA m_M_ifPlain [(2, 161), (0, k), (0, s)] K S g r v := by
  unfold I32 at hk hs
  unfold MA
  apply v_M_ifPlain _ hr hK
  intro g1 hg1
  have f1 := Scr_t R hg1
  have R1 := Rel_scr R f1
  have hv1 : v = V_ifPlain g1 k s := by rw [hv]; unfold V_ifPlain; rw [Scr_tt f1, Scr_ss f1]
  have G1 := R1.2.2.2.1.1
  have n1 := G1.1
  unfold V_ifPlain at hv1
  refine And.intro (fun h1 => ⟨rfl, f1, ?_⟩) (fun h1 => And.intro (fun h2 => ⟨rfl, f1, ?_⟩) (fun h2 => And.intro (fun h3 => ⟨rfl, f1, ?_⟩) (fun h3 => And.intro (fun h4 g2 hg2 g3 hg3 => ?_) (fun h4 => ⟨rfl, f1, ?_⟩))))
  · rw [hv1, if_neg (by simp only [wr] at h1; omega)]
  · rw [hv1, if_neg (by simp only [wr] at h2; omega)]
  · rw [hv1, if_neg (by simp only [wr] at h3; omega)]
  · have hh : (0 ≤ k ∧ k ≤ 6) ∧ (1 ≤ s ∧ s ≤ 2) := by simp only [wr] at h1 h2 h3 h4; omega
    rw [if_pos hh] at hv1
    have c3 : ∀ c : Int, c ≠ 161 → g3 c = g1 c := fun c hc => by rw [hg3, hg2, up_f hc, up_f hc]
    have s3 : EvS g3 (ss g1) := fun j a b => by rw [c3 174 (by omega)]; exact Rel_EvS R1 j a b
    apply t_M_replaysAll (n := ss g1 1080) (pk := k) (ps := s) (T := tt g1) (s := ss g1) _ hr hK R1.2.2.1.1 G1.2.1 n1 (by omega) (by omega) s3 (by rw [c3 174 (by omega)]; exact Rel_many R1) ⟨c3 168 (by omega), c3 169 (by omega), c3 170 (by omega), c3 171 (by omega)⟩ (by rw [hg3, up_k (by omega), hg2, up_s]) (by rw [hg3, up_s])
    intro g4 f4 hq
    refine ⟨rfl, fun g6 hg6 => ?_⟩
    have c6 : ∀ c : Int, c ≠ 161 → g6 c = g4 c := fun c hc => by rw [hg6, up_f hc]
    have fin : Scr g1 g6 r := by
      refine ⟨fun c j a _ _ _ _ => by rw [c6 c (by omega), f4.1 c (by omega) (by omega), c3 c (by omega)], fun c a b => by rw [c6 c (by omega), f4.1 c (by omega) (by omega), c3 c (by omega)], by rw [c6 _ (by omega), f4.1 _ (by omega) (by omega), c3 _ (by omega)], by rw [c6 _ (by omega), f4.1 _ (by omega) (by omega), c3 _ (by omega)], ?_, fun j a _ b c d e _ => ?_, ?_⟩
      · unfold ss; rw [c6 _ (by omega), f4.1 _ (by omega) (by omega), c3 _ (by omega)]
      · by_cases h34 : j = 34
        · rw [h34, hg6, up_s, R1.2.2.2.2.2.2.1]
        · rw [hg6, up_k h34, f4.2 j c d e, hg3, up_k b, hg2, up_k h34]
      · rw [hg6, up_k (by omega), f4.2 35 (by omega) (by omega) (by omega), hg3, up_s]; omega
    apply s_M_asidesNow (n := ss g1 1080) _ hr hK (by rw [c6 _ (by omega), f4.1 _ (by omega) (by omega), c3 _ (by omega)]; exact Rel_many R1) n1 (q := rep (ss g1) (LF (tt g1) (ss g1) k s) (BF (tt g1) (ss g1) k s) (-1) 120 (ss g1 1080)) (fun e a b => by rw [c6 183 (by omega)]; exact hq.2 e a b) rep_cau
    exact ⟨rfl, rfl, rfl, Scr_tr f1 fin, hv1⟩
  · rw [hv1, if_neg (by simp only [wr] at h4; omega)]
theorem l_EL_ifPlain {K : Int} {S : Nat} {r g0 : ab_H} {k s : Int} (P : Int → ab_H → ab_H → Prop) (hr : SI r) (hK : 186 ≤ K) (hK2 : 187 ≤ K) (R : Rel g0 r) (hk : 0 ≤ k ∧ k ≤ 6) (hs : 1 ≤ s ∧ s ≤ 2) (h : ∀ g' : ab_H, Scr g0 g' r → P (psm (asd (rep (ss g0) (LF (tt g0) (ss g0) k s) (BF (tt g0) (ss g0) k s) (-1) 120 (ss g0 1080)).2.2.2.2) (ss g0 1080)) g' r) : ∀ (m : Nat) (i : Int) (g : ab_H), 0 ≤ i → i + m = ss g0 1080 → (∀ c j : Int, c < r 0 6 ∨ r 0 6 + 10 < c → g c j = g0 c j) → LgV g (r 0 6) (ss g0) (ss g0 1080) → (∀ e : Int, 0 ≤ e → e < i → ss g0 (9 * e + 0) ≠ 7 → g (r 0 6 + 8) e = BF (tt g0) (ss g0) k s e ∧ ∀ f : Int, 0 ≤ f → f < 3 → g (r 0 6 + 7) (3 * e + f) = LF (tt g0) (ss g0) k s e f) → ab_Rn m_EL_ifPlain 20 [some (2, 0), some (0, k), some (0, s), some (0, i)] [] (K, S, g, r) (ab_Qi K S P)
  | 0, i, g, h0, hi, hf, hv, hl => by
    have n1 := R.2.2.2.1.1.1
    have hr6 := R.1.2.2.1
    have L6 : isLg (r 0 6) := by unfold isLg; omega
    have hE := R.2.2.2.1.1.2.1
    apply v_EL_ifPlain_20 _ hr hK
    rw [hv.1]
    refine ⟨L6, And.intro (fun _ => ⟨L6, L6, L6, ?_⟩) (fun h1 => absurd h1 (by simp only [wr]; omega))⟩
    apply s_St_replay (s := ss g0) (n := ss g0 1080) (Lf := LF (tt g0) (ss g0) k s) (B := BF (tt g0) (ss g0) k s) _ hr hK (Or.inr rfl) L6 hv (fun e a b c => hl e a (by omega) c) hE (LfOk_lft R.2.2.1.1 hE) ⟨n1.1, Int.le_refl _⟩ (by omega) (by omega)
    intro g5 f5 hq
    have hvo : rep (ss g0) (LF (tt g0) (ss g0) k s) (BF (tt g0) (ss g0) k s) (-1) (ss g0 1080) (ss g0 1080) = rep (ss g0) (LF (tt g0) (ss g0) k s) (BF (tt g0) (ss g0) k s) (-1) 120 (ss g0 1080) := rep_vo n1.1 (fun e a b => by have := (hE e a b).2.2.2.2.2; omega)
    rw [hvo] at hq
    have hm5 : g5 (r 0 6) 10 = ss g0 1080 := by rw [f5 _ _ (by omega)]; exact hv.1
    rw [hm5]
    refine ⟨rfl, L6, ?_⟩
    apply s_St_countAside _ hr hK (Or.inr rfl) (by omega) (Int.le_refl _) n1.2 hq rep_cau
    intro y hy
    have hc : ∀ c : Int, 56 < c → ¬ (r 0 6 ≤ c ∧ c ≤ r 0 6 + 10) → g5 c = g0 c := fun c a b => funext fun j => by rw [f5 c j (by omega), hf c j (by omega)]
    have hp := h g5 ⟨fun c j a b _ _ d => by
      by_cases e10 : c = r 0 6 + 10 ∧ j = 0
      · have h10 := hv.2.2.2 0 (Int.le_refl _) n1.1
        rw [psm_0] at h10
        rw [f5 c j (by omega), e10.1, e10.2, h10, R.2.2.2.2.2.2.2.2.2]
      · rw [f5 c j (by omega), hf c j (by omega)], fun c a b => hc c (by omega) (by omega), hc _ (by omega) (by omega), hc _ (by omega) (by omega), by unfold ss; rw [hc 174 (by omega) (by omega)], fun j _ _ _ _ _ _ _ => by rw [hc 161 (by omega) (by omega)], by rw [hc 161 (by omega) (by omega)]; exact R.2.2.2.2.2.2.2.1⟩
    rw [psm_0] at hy
    refine ⟨rfl, rfl, ?_⟩
    rw [show y = psm (asd (rep (ss g0) (LF (tt g0) (ss g0) k s) (BF (tt g0) (ss g0) k s) (-1) 120 (ss g0 1080)).2.2.2.2) (ss g0 1080) by omega]
    exact hp
  | m + 1, i, g, h0, hi, hf, hv, hl => by
    have n1 := R.2.2.2.1.1.1
    have hr6 := R.1.2.2.1
    have hr3 := R.1.2.1
    have L6 : isLg (r 0 6) := by unfold isLg; omega
    have hE := R.2.2.2.1.1.2.1
    have hvi := hv.2.2.1 i h0 (by omega)
    apply v_EL_ifPlain_20 _ hr hK
    rw [hv.1]
    refine ⟨L6, And.intro (fun h1 => absurd h1 (by simp only [wr]; omega)) (fun _ => ⟨Rel_Te R, L6, ?_⟩)⟩
    apply s_Te_lift (s := ss g0) (n := ss g0 1080) _ hr hK hK2 (Rel_Te R) L6 R.2.2.1.1 (TeV_mono R.2.2.1.2.1 (fun c j a b => hf c j (by omega))) hvi.1 hvi.2.2.2.2.1 hvi.2.2.2.2.2.2 hE ⟨h0, by omega⟩ n1.2 (by omega) (by omega)
    intro g1 f1 hl1
    refine ⟨rfl, l_EL_ifPlain P hr hK hK2 R hk hs h m (i + 1) g1 (by omega) (by omega) (fun c j a => by rw [f1 c j (by omega) (by omega), hf c j a]) ?_ (fun e a b c => ?_)⟩
    · refine ⟨by rw [f1 _ _ (by omega) (by omega)]; exact hv.1, hv.2.1, fun e a b => ?_, fun p a b => by rw [f1 _ _ (by omega) (by omega)]; exact hv.2.2.2 p a b⟩
      have h3 := hv.2.2.1 e a b
      rw [f1 (r 0 6 + 1) e (by omega) (by omega), f1 (r 0 6 + 2) e (by omega) (by omega), f1 (r 0 6 + 3) e (by omega) (by omega), f1 (r 0 6 + 4) e (by omega) (by omega), f1 (r 0 6 + 5) e (by omega) (by omega), f1 (r 0 6 + 9) e (by omega) (by omega)]
      exact ⟨h3.1, h3.2.1, h3.2.2.1, h3.2.2.2.1, h3.2.2.2.2.1, h3.2.2.2.2.2.1, fun h7 f c d => by rw [f1 (r 0 6 + 6) _ (by omega) (by omega)]; exact h3.2.2.2.2.2.2 h7 f c d⟩
    · by_cases he : e = i
      · rw [he] at c ⊢; exact hl1 c
      · have h4 := hl e a (by omega) c
        rw [f1 (r 0 6 + 8) e (by omega) (by omega)]
        exact ⟨h4.1, fun f x y => by rw [f1 (r 0 6 + 7) _ (by omega) (by omega)]; exact h4.2 f x y⟩
theorem p_ifPlain {K : Int} {S : Nat} {g r : ab_H} {k s : Int} (hr : SI r) (hK : 186 ≤ K) (hK2 : 187 ≤ K) (R : Rel g r) (hk : I32 k) (hs : I32 s) : PA m_EL_ifPlain [(2, 0), (0, k), (0, s)] m_M_ifPlain [(2, 161), (0, k), (0, s)] K S g r := by
  have hk' := hk
  have hs' := hs
  unfold I32 at hk' hs'
  have S1 := R.2.2.2.1
  have n1 := S1.1.1
  have hr6 := R.1.2.2.1
  have L6 : isLg (r 0 6) := by unfold isLg; omega
  unfold PA
  apply v_EL_ifPlain _ hr hK
  refine And.intro (fun h1 => ⟨rfl, Scr_rfl R, m_ifPlain hr hK R hk hs ?_⟩) (fun h1 => And.intro (fun h2 => ⟨rfl, Scr_rfl R, m_ifPlain hr hK R hk hs ?_⟩) (fun h2 => And.intro (fun h3 => ⟨rfl, Scr_rfl R, m_ifPlain hr hK R hk hs ?_⟩) (fun h3 => And.intro (fun h4 => ⟨L6, Rel_Lg R, ?_⟩) (fun h4 => ⟨rfl, Scr_rfl R, m_ifPlain hr hK R hk hs ?_⟩))))
  · unfold V_ifPlain; rw [if_neg (by simp only [wr] at h1; omega)]
  · unfold V_ifPlain; rw [if_neg (by simp only [wr] at h2; omega)]
  · unfold V_ifPlain; rw [if_neg (by simp only [wr] at h3; omega)]
  · have hh : (0 ≤ k ∧ k ≤ 6) ∧ (1 ≤ s ∧ s ≤ 2) := by simp only [wr] at h1 h2 h3 h4; omega
    apply s_Lg_copyFrom _ hr hK hK2 L6 (Rel_Lg R) (by omega) S1.2.1 S1.2.2.1
    intro g3 f3 hv3 _
    refine ⟨rfl, l_EL_ifPlain _ hr hK hK2 R hh.1 hh.2 (fun g' f' => ⟨rfl, f', m_ifPlain hr hK (Rel_scr R f') hk hs ?_⟩) (ss g 1080).toNat 0 g3 (by omega) (by omega) (fun c j a => f3 c j a) hv3 (fun e a b => by omega)⟩
    unfold V_ifPlain
    rw [Scr_tt f', Scr_ss f', if_pos hh]
  · unfold V_ifPlain; rw [if_neg (by simp only [wr] at h4; omega)]
