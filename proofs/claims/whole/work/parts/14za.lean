/-! SPECS, part za: calls that answer alone (4). -/
/-- the first EVENT from i on that is to blame for e -/
def blN (g : ab_H) (e : Int) : Nat → Int → Int
  | 0, _ => -2
  | m + 1, i => if ss g (9 * i + 0) = 7 ∨ ss g (9 * i + 8) ≠ 0 then blN g e m (i + 1) else if (rp g i 120 (e + 1)).2.2.2.2 e = 0 then i else blN g e m (i + 1)
theorem Scr_blN {g g' r : ab_H} (h : Scr g g' r) (e : Int) : ∀ (m : Nat) (i : Int), blN g' e m i = blN g e m i
  | 0, _ => rfl
  | m + 1, i => by
    show (if ss g' (9 * i + 0) = 7 ∨ ss g' (9 * i + 8) ≠ 0 then blN g' e m (i + 1) else if (rp g' i 120 (e + 1)).2.2.2.2 e = 0 then i else blN g' e m (i + 1)) = (if ss g (9 * i + 0) = 7 ∨ ss g (9 * i + 8) ≠ 0 then blN g e m (i + 1) else if (rp g i 120 (e + 1)).2.2.2.2 e = 0 then i else blN g e m (i + 1))
    rw [Scr_ss h, Scr_rp h, Scr_blN h e m (i + 1)]
def V_blame (g : ab_H) (e : Int) : Int := if (0 ≤ e ∧ e < ss g 1080) ∧ (rp g (-1) 120 (ss g 1080)).2.2.2.2 e ≠ 0 then blN g e e.toNat 0 else -1
theorem l_M_blame {K : Int} {S : Nat} {r : ab_H} {e : Int} (P : Int → ab_H → ab_H → Prop) (hr : SI r) (hK : 186 ≤ K) : ∀ (m : Nat) (i : Int) (g : ab_H), Rel g r → (0 ≤ e ∧ e < ss g 1080) → 0 ≤ i → i + m = e → (∀ g' : ab_H, Scr g g' r → P (blN g e m i) g' r) → ab_Rn m_M_blame 20 [some (2, 161), some (0, e), some (0, i)] [] (K, S, g, r) (ab_Qi K S P)
  | 0, i, g, R, he, h0, hi, h => by
    have n1 := R.2.2.2.1.1.1
    apply v_M_blame_20 _ hr hK
    exact And.intro (fun _ => h g (Scr_rfl R)) (fun h1 => absurd h1 (by simp only [wr]; omega))
  | m + 1, i, g, R, he, h0, hi, h => by
    have G := R.2.2.2.1.1
    have n1 := G.1
    have c0 := G.2.1 i h0 (by omega)
    have s0 := Rel_EvS R (9 * i + 0) (by omega) (by omega)
    have s8 := Rel_EvS R (9 * i + 8) (by omega) (by omega)
    have hs : blN g e (m + 1) i = if ss g (9 * i + 0) = 7 ∨ ss g (9 * i + 8) ≠ 0 then blN g e m (i + 1) else if (rp g i 120 (e + 1)).2.2.2.2 e = 0 then i else blN g e m (i + 1) := rfl
    rw [hs] at h
    have next : ∀ g1 : ab_H, Scr g g1 r → (∀ g' : ab_H, Scr g g' r → P (blN g e m (i + 1)) g' r) → ab_Rn m_M_blame 20 [some (2, 161), some (0, e), some (0, i + 1)] [] (K, S, g1, r) (ab_Qi K S P) := by
      intro g1 f1 h'
      refine l_M_blame P hr hK m (i + 1) g1 (Rel_scr R f1) (by rw [Scr_ss f1]; exact he) (by omega) (by omega) (fun g' f' => ?_)
      rw [Scr_blN f1]
      exact h' g' (Scr_tr f1 f')
    apply v_M_blame_20 _ hr hK
    refine And.intro (fun h1 => absurd h1 (by simp only [wr]; omega)) (fun _ => ?_)
    apply s_M_isVoid _ hr hK (by omega) (by omega)
    intro x hx
    rw [s0] at hx
    refine ⟨rfl, rfl, And.intro (fun h1 => ?_) (fun h1 => ?_)⟩
    · rw [if_pos (Or.inl (by simp only [wr] at h1; omega))] at h
      exact next g (Scr_rfl R) h
    apply s_M_isVoided _ hr hK (by omega) (by omega)
    intro y hy
    rw [s8] at hy
    refine ⟨rfl, rfl, And.intro (fun h2 => ?_) (fun h2 => ?_)⟩
    · rw [if_neg (by simp only [wr] at h1 h2; omega)] at h
      apply u_M_replays _ hr hK R (by omega) (by omega) (by omega) (Or.inl rfl)
      intro g3 _ f3 hq _
      have hc : g3 183 e = (rp g i 120 (e + 1)).2.2.2.2 e := hq.2 e he.1 (by omega)
      have hcb := rep_cau (s := ss g) (L := LL g (ss g)) (B := BB g (ss g)) (but := i) (vo := 120) (n := e + 1) e
      have hcb' : 0 ≤ (rp g i 120 (e + 1)).2.2.2.2 e ∧ (rp g i 120 (e + 1)).2.2.2.2 e ≤ 3 := hcb
      rw [hc]
      refine ⟨rfl, by omega, And.intro (fun h3 => ?_) (fun h3 => ?_)⟩
      · rw [if_neg (by simp only [wr] at h3; omega)] at h
        exact next g3 f3 h
      · rw [if_pos (by simp only [wr] at h3; omega)] at h
        exact h g3 f3
    · rw [if_pos (Or.inr (by simp only [wr] at h2; omega))] at h
      exact next g (Scr_rfl R) h
theorem m_blame {K : Int} {S : Nat} {g r : ab_H} {e v : Int} (hr : SI r) (hK : 186 ≤ K) (R : Rel g r) (he : I32 e) (hv : v = V_blame g e) : MA m_M_blame [(2, 161), (0, e)] K S g r v := by
  unfold I32 at he
  unfold MA
  apply v_M_blame _ hr hK
  intro g1 hg1
  have f1 := Scr_t R hg1
  have R1 := Rel_scr R f1
  have hv1 : v = V_blame g1 e := by rw [hv]; unfold V_blame; rw [Scr_rp f1, Scr_ss f1, Scr_blN f1]
  have G1 := R1.2.2.2.1.1
  have n1 := G1.1
  unfold V_blame at hv1
  apply s_M_isEvent _ hr hK (Rel_many R1) G1.1 he
  intro x hx
  refine ⟨rfl, rfl, And.intro (fun h1 => ?_) (fun h1 => ⟨rfl, f1, ?_⟩)⟩
  · have he2 : 0 ≤ e ∧ e < ss g1 1080 := by simp only [wr] at h1; omega
    apply u_M_replaysAll _ hr hK R1
    intro g3 _ f3 hq
    have hc : g3 183 e = (rp g1 (-1) 120 (ss g1 1080)).2.2.2.2 e := hq.2 e he2.1 he2.2
    have hcb : 0 ≤ (rp g1 (-1) 120 (ss g1 1080)).2.2.2.2 e ∧ (rp g1 (-1) 120 (ss g1 1080)).2.2.2.2 e ≤ 3 := rep_cau e
    rw [hc]
    refine ⟨rfl, by omega, And.intro (fun h2 => ?_) (fun h2 => ⟨rfl, Scr_tr f1 f3, ?_⟩)⟩
    · rw [if_pos ⟨he2, by simp only [wr] at h2; omega⟩] at hv1
      refine l_M_blame _ hr hK e.toNat 0 g3 (Rel_scr R1 f3) (by rw [Scr_ss f3]; exact he2) (by omega) (by omega) (fun g' f' => ⟨rfl, Scr_tr f1 (Scr_tr f3 f'), ?_⟩)
      rw [Scr_blN f3]; exact hv1
    · rw [hv1, if_neg (by simp only [wr] at h2; omega)]
  · rw [hv1, if_neg (by simp only [wr] at h1; omega)]
theorem l_EL_blame {K : Int} {S : Nat} {r : ab_H} {e : Int} (P : Int → ab_H → ab_H → Prop) (hr : SI r) (hK : 186 ≤ K) : ∀ (m : Nat) (i : Int) (g : ab_H), Rel g r → (0 ≤ e ∧ e < ss g 1080) → 0 ≤ i → i + m = e → (∀ g' : ab_H, Scr g g' r → P (blN g e m i) g' r) → ab_Rn m_EL_blame 15 [some (2, 0), some (0, e), some (0, i)] [] (K, S, g, r) (ab_Qi K S P)
  | 0, i, g, R, he, h0, hi, h => by
    have n1 := R.2.2.2.1.1.1
    apply v_EL_blame_15 _ hr hK
    exact And.intro (fun _ => h g (Scr_rfl R)) (fun h1 => absurd h1 (by simp only [wr]; omega))
  | m + 1, i, g, R, he, h0, hi, h => by
    have S1 := R.2.2.2.1
    have G := S1.1
    have n1 := G.1
    have c0 := G.2.1 i h0 (by omega)
    have e0 := S1.2.1.2.2.1 i h0 (by omega)
    have hs : blN g e (m + 1) i = if ss g (9 * i + 0) = 7 ∨ ss g (9 * i + 8) ≠ 0 then blN g e m (i + 1) else if (rp g i 120 (e + 1)).2.2.2.2 e = 0 then i else blN g e m (i + 1) := rfl
    rw [hs] at h
    have next : ∀ g1 : ab_H, Scr g g1 r → (∀ g' : ab_H, Scr g g' r → P (blN g e m (i + 1)) g' r) → ab_Rn m_EL_blame 15 [some (2, 0), some (0, e), some (0, i + 1)] [] (K, S, g1, r) (ab_Qi K S P) := by
      intro g1 f1 h'
      refine l_EL_blame P hr hK m (i + 1) g1 (Rel_scr R f1) (by rw [Scr_ss f1]; exact he) (by omega) (by omega) (fun g' f' => ?_)
      rw [Scr_blN f1]
      exact h' g' (Scr_tr f1 f')
    apply v_EL_blame_15 _ hr hK
    refine And.intro (fun h1 => absurd h1 (by simp only [wr]; omega)) (fun _ => ⟨Rel_Lg R, ?_⟩)
    apply s_Lg_holdsPlain _ hr hK (Rel_Lg R) S1.2.1 G.2.1 (by omega)
    intro x hx
    refine ⟨rfl, rfl, And.intro (fun h1 => ?_) (fun h1 => ⟨Rel_Lg R, by omega, ?_⟩)⟩
    · rw [if_pos (Or.inl (by simp only [wr] at h1; omega))] at h
      exact next g (Scr_rfl R) h
    rw [e0.2.2.2.2.2.1, S1.2.1.1]
    refine And.intro (fun h2 => ?_) (fun h2 => ⟨Rel_Lg R, Rel_Lg R, ?_⟩)
    · rw [if_pos (Or.inr (by simp only [wr] at h2; omega))] at h
      exact next g (Scr_rfl R) h
    · rw [if_neg (by simp only [wr] at h1 h2; omega)] at h
      apply u_guess _ hr hK R (by omega) (by omega) (by omega)
      intro g6 f6 hq
      rw [Rel_vo R (by omega) (Int.le_refl _)] at hq
      have hc : g6 56 e = (rp g i 120 (e + 1)).2.2.2.2 e := hq.2 e he.1 (by omega)
      have hcb' : 0 ≤ (rp g i 120 (e + 1)).2.2.2.2 e ∧ (rp g i 120 (e + 1)).2.2.2.2 e ≤ 3 := rep_cau e
      rw [hc]
      refine ⟨rfl, by omega, And.intro (fun h3 => ?_) (fun h3 => ?_)⟩
      · rw [if_neg (by simp only [wr] at h3; omega)] at h
        exact next g6 f6 h
      · rw [if_pos (by simp only [wr] at h3; omega)] at h
        exact h g6 f6
theorem p_blame {K : Int} {S : Nat} {g r : ab_H} {e : Int} (hr : SI r) (hK : 186 ≤ K) (R : Rel g r) (he : I32 e) : PA m_EL_blame [(2, 0), (0, e)] m_M_blame [(2, 161), (0, e)] K S g r := by
  have S1 := R.2.2.2.1
  have n1 := S1.1.1
  unfold PA
  apply v_EL_blame _ hr hK
  refine ⟨Rel_Lg R, ?_⟩
  apply s_Lg_holds _ hr hK (Rel_Lg R) S1.2.1.1 n1 he
  intro x hx
  refine ⟨rfl, rfl, And.intro (fun h1 => ⟨rfl, Scr_rfl R, m_blame hr hK R he ?_⟩) (fun h1 => ?_)⟩
  · unfold V_blame; rw [if_neg (by simp only [wr] at h1; omega)]
  · have he2 : 0 ≤ e ∧ e < ss g 1080 := by simp only [wr] at h1; omega
    have hc : g 50 e = (rp g (-1) 120 (ss g 1080)).2.2.2.2 e := (Rel_now R).2 e he2.1 he2.2
    have hcb : 0 ≤ (rp g (-1) 120 (ss g 1080)).2.2.2.2 e ∧ (rp g (-1) 120 (ss g 1080)).2.2.2.2 e ≤ 3 := rep_cau e
    rw [hc]
    refine ⟨by omega, And.intro (fun h2 => ?_) (fun h2 => ⟨rfl, Scr_rfl R, m_blame hr hK R he ?_⟩)⟩
    · refine l_EL_blame _ hr hK e.toNat 0 g R he2 (by omega) (by omega) (fun g' f' => ⟨rfl, f', m_blame hr hK (Rel_scr R f') he ?_⟩)
      unfold V_blame
      rw [Scr_rp f', Scr_ss f', Scr_blN f', if_pos ⟨he2, by simp only [wr] at h2; omega⟩]
    · unfold V_blame; rw [if_neg (by simp only [wr] at h2; omega)]
/-- one ACCOUNT watched -/
def wt (g : ab_H) (a n : Int) : Int × Int × Int := wat (ss g) (LL g (ss g)) (BB g (ss g)) (-1) 120 a n
theorem Scr_wt {g g' r : ab_H} (h : Scr g g' r) (a n : Int) : wt g' a n = wt g a n := by
  unfold wt LL BB; rw [h.2.2.2.2.1, Scr_tt h]
theorem wt_keep {g : ab_H} {a n m : Int} (h0 : 0 ≤ m) (h1 : m ≤ n) (h : (wt g a m).1 ≠ -2) : (wt g a n).1 = (wt g a m).1 := by
  have key : ∀ d : Nat, (wt g a (m + d)).1 = (wt g a m).1 := by
    intro d
    induction d with
    | zero => rw [show m + ((0 : Nat) : Int) = m by omega]
    | succ d ih =>
      rw [show m + ((d + 1 : Nat) : Int) = m + d + 1 by omega]
      unfold wt
      rw [wat_s (by omega)]
      split
      · exact ih
      · unfold wt at ih h
        unfold wstep
        dsimp only
        rw [if_neg (fun hc => by rw [ih] at hc; exact h hc.2)]
        exact ih
  have h2 := key (n - m).toNat
  rw [show m + ((n - m).toNat : Int) = n by omega] at h2
  exact h2
def V_firstBelow (g : ab_H) (a : Int) : Int := if 0 ≤ a ∧ a < g 163 0 then (wt g a (ss g 1080)).1 else -1
theorem m_firstBelow {K : Int} {S : Nat} {g r : ab_H} {a v : Int} (hr : SI r) (hK : 186 ≤ K) (R : Rel g r) (ha : I32 a) (hv : v = V_firstBelow g a) : MA m_M_firstBelow [(2, 161), (0, a)] K S g r v := by
  unfold I32 at ha
  unfold MA
  apply v_M_firstBelow _ hr hK
  intro g1 hg1
  have f1 := Scr_t R hg1
  have R1 := Rel_scr R f1
  have t1 := R1.2.2.1.2.2.1
  have n1 := R1.2.2.2.1.1.1
  have hv1 : v = V_firstBelow g1 a := by rw [hv]; unfold V_firstBelow; rw [Scr_wt f1, Scr_ss f1, Scr_163 f1]
  unfold V_firstBelow at hv1
  apply s_M_isAccount _ hr hK rfl (by omega) ha
  intro x hx
  refine ⟨rfl, rfl, And.intro (fun h1 => ?_) (fun h1 => ⟨rfl, f1, ?_⟩)⟩
  · have ha2 : 0 ≤ a ∧ a < g1 163 0 := by simp only [wr] at h1; omega
    rw [if_pos ha2] at hv1
    apply s_M_many _ hr hK
    rw [Rel_many R1]
    refine ⟨rfl, rfl, ?_⟩
    apply u_M_replays _ hr hK R1 (by omega) (by omega) (by omega) (Or.inr (by omega))
    intro g4 _ f4 _ hw
    exact ⟨rfl, rfl, Scr_tr f1 f4, by rw [hv1]; exact hw.1.symm⟩
  · rw [hv1, if_neg (by simp only [wr] at h1; omega)]
theorem Rel_step {K : Int} {S : Nat} {g g0 r : ab_H} {i : Int} (P : ab_H → ab_H → Prop) (hr : SI r) (hK : 186 ≤ K) (R : Rel g0 r) (f : Scr g0 g r) (hi : 0 ≤ i ∧ i < ss g0 1080) (hq : StV g 51 (rp g0 (-1) (ss g0 1080) i) i) (h5 : g 51 5 = ss g0 1080) (h6 : g 51 6 = -1) (h : ∀ g' : ab_H, Scr g0 g' r → StV g' 51 (rp g0 (-1) (ss g0 1080) (i + 1)) (i + 1) → g' 51 5 = ss g0 1080 → g' 51 6 = -1 → P g' r) : ab_RV m_St_step [(2, 51), (2, r 0 5), (0, i)] K S g r P := by
  have R1 := Rel_scr R f
  have S1 := R1.2.2.2.1
  unfold RelS at S1
  rw [Scr_ss f] at S1
  have n1 := S1.1.1
  have eL : LL g (ss g0) = LL g0 (ss g0) := by have := Scr_LL f; rw [Scr_ss f] at this; exact this
  have eB : BB g (ss g0) = BB g0 (ss g0) := by unfold BB; rw [Scr_tt f]
  apply s_St_step (m := i) _ hr hK (Or.inr rfl) (Rel_Lg R) S1.2.1 S1.2.2.1 S1.1.2.1 (LfOk_lft R1.2.2.1.1 S1.1.2.1) hi (q := rp g0 (-1) (ss g0 1080) i) hq (Rel_RB R ⟨hi.1, by omega⟩) (by omega) h5 h6 (by omega) (by omega)
  intro g' f' hq'
  refine h g' (Scr_tr f (Scr_guess R1 (fun c j hc => f' c j (by omega)))) ?_ (by rw [f' _ _ (by omega)]; exact h5) (by rw [f' _ _ (by omega)]; exact h6)
  unfold rp
  rw [rep_s hi.1, ← eL, ← eB]
  unfold rp at hq'
  rw [← eL, ← eB] at hq'
  exact hq'
theorem l_EL_firstBelow {K : Int} {S : Nat} {r g0 : ab_H} {a : Int} (P : Int → ab_H → ab_H → Prop) (hr : SI r) (hK : 186 ≤ K) (R : Rel g0 r) (ha : 0 ≤ a ∧ a < 8) (h : ∀ g' : ab_H, Scr g0 g' r → P (wt g0 a (ss g0 1080)).1 g' r) : ∀ (m : Nat) (i : Int) (g : ab_H), 0 ≤ i → i + m = ss g0 1080 → Scr g0 g r → StV g 51 (rp g0 (-1) (ss g0 1080) i) i → g 51 5 = ss g0 1080 → g 51 6 = -1 → (wt g0 a i).1 = -2 → ab_Rn m_EL_firstBelow 15 [some (2, 0), some (0, a), some (0, i)] [] (K, S, g, r) (ab_Qi K S P)
  | 0, i, g, h0, hi, f, hq, h5, h6, hw => by
    have R1 := Rel_scr R f
    have n1 := R.2.2.2.1.1.1
    have hm := R1.2.2.2.1.2.1.1
    rw [Scr_ss f] at hm
    apply v_EL_firstBelow_15 _ hr hK
    rw [hm]
    refine ⟨Rel_Lg R, And.intro (fun _ => ?_) (fun h1 => absurd h1 (by simp only [wr]; omega))⟩
    have h1 := h g f
    rw [← show i = ss g0 1080 by omega, hw] at h1
    exact h1
  | m + 1, i, g, h0, hi, f, hq, h5, h6, hw => by
    have R1 := Rel_scr R f
    have n1 := R.2.2.2.1.1.1
    have hm := R1.2.2.2.1.2.1.1
    rw [Scr_ss f] at hm
    apply v_EL_firstBelow_15 _ hr hK
    rw [hm]
    refine ⟨Rel_Lg R, And.intro (fun h1 => absurd h1 (by simp only [wr]; omega)) (fun _ => ⟨Rel_Lg R, ?_⟩)⟩
    apply Rel_step _ hr hK R f ⟨h0, by omega⟩ hq h5 h6
    intro g3 f3 hq3 h53 h63
    have hb : g3 52 a = (rp g0 (-1) (ss g0 1080) (i + 1)).1 a := (hq3.1 a ha.1 ha.2).1
    have hvo : rp g0 (-1) (ss g0 1080) (i + 1) = rp g0 (-1) 120 (i + 1) := Rel_vo R ⟨by omega, by omega⟩ (Int.le_refl _)
    rw [hvo] at hb
    have hrb := Rel_RB R (but := -1) (vo := 120) (k := i + 1) ⟨by omega, by omega⟩ a
    have hrb' : -2000000 * (i + 1) ≤ (rp g0 (-1) 120 (i + 1)).1 a ∧ (rp g0 (-1) 120 (i + 1)).1 a ≤ 2000000 * (i + 1) := hrb.1
    have hst : wt g0 a (i + 1) = wstep ((rp g0 (-1) 120 (i + 1)).1 a) i (wt g0 a i) := by
      unfold wt
      rw [wat_s h0, if_neg (by omega)]
      rfl
    rw [hb]
    refine ⟨rfl, by omega, And.intro (fun h1 => ?_) (fun h1 => ?_)⟩
    · refine l_EL_firstBelow P hr hK R ha h m (i + 1) g3 (by omega) (by omega) f3 hq3 h53 h63 ?_
      rw [hst]
      unfold wstep
      dsimp only
      rw [if_neg (fun hc => by simp only [wr] at h1; omega)]
      exact hw
    · have hi2 : (wt g0 a (i + 1)).1 = i := by
        rw [hst]
        unfold wstep
        dsimp only
        rw [if_pos ⟨by simp only [wr] at h1; omega, hw⟩]
      have h2 := wt_keep (g := g0) (a := a) (m := i + 1) (n := ss g0 1080) (by omega) (by omega) (by rw [hi2]; omega)
      have h3 := h g3 f3
      rw [h2, hi2] at h3
      exact h3
theorem p_firstBelow {K : Int} {S : Nat} {g r : ab_H} {a : Int} (hr : SI r) (hK : 186 ≤ K) (R : Rel g r) (ha : I32 a) : PA m_EL_firstBelow [(2, 0), (0, a)] m_M_firstBelow [(2, 161), (0, a)] K S g r := by
  have t1 := R.2.2.1.2.2.1
  have S1 := R.2.2.2.1
  have n1 := S1.1.1
  unfold PA
  apply v_EL_firstBelow _ hr hK
  apply s_EL_isAccount _ hr hK R ha
  intro x hx
  refine ⟨rfl, rfl, And.intro (fun h1 => ⟨Rel_Lg R, ?_⟩) (fun h1 => ⟨rfl, Scr_rfl R, m_firstBelow hr hK R ha ?_⟩)⟩
  · have ha2 : 0 ≤ a ∧ a < g 163 0 := by simp only [wr] at h1; omega
    rw [S1.2.1.1]
    apply s_St_begin _ hr hK (Or.inr rfl)
    intro g3 f3 h5 h6 hq
    refine ⟨rfl, l_EL_firstBelow _ hr hK R (by omega) (fun g' f' => ⟨rfl, f', m_firstBelow hr hK (Rel_scr R f') ha ?_⟩) (ss g 1080).toNat 0 g3 (by omega) (by omega) (Scr_guess R (fun c j hc => f3 c j (by omega))) hq h5 h6 rfl⟩
    unfold V_firstBelow
    rw [Scr_wt f', Scr_ss f', Scr_163 f', if_pos ha2]
  · unfold V_firstBelow; rw [if_neg (by simp only [wr] at h1; omega)]
def V_peak (g : ab_H) (a w : Int) : Int := if (0 ≤ a ∧ a < g 163 0) ∧ (0 ≤ w ∧ w ≤ 1) then (if w = 0 then (wt g a (ss g 1080)).2.1 else (wt g a (ss g 1080)).2.2) else -2147483648
theorem m_peak {K : Int} {S : Nat} {g r : ab_H} {a w v : Int} (hr : SI r) (hK : 186 ≤ K) (R : Rel g r) (ha : I32 a) (hw : I32 w) (hv : v = V_peak g a w) : MA m_M_peak [(2, 161), (0, a), (0, w)] K S g r v := by
  unfold I32 at ha hw
  unfold MA
  apply v_M_peak _ hr hK
  intro g1 hg1
  have f1 := Scr_t R hg1
  have R1 := Rel_scr R f1
  have t1 := R1.2.2.1.2.2.1
  have n1 := R1.2.2.2.1.1.1
  have hv1 : v = V_peak g1 a w := by rw [hv]; unfold V_peak; rw [Scr_wt f1, Scr_ss f1, Scr_163 f1]
  unfold V_peak at hv1
  apply s_M_isAccount _ hr hK rfl (by omega) ha
  intro x hx
  refine ⟨rfl, rfl, And.intro (fun h1 => ⟨rfl, f1, ?_⟩) (fun h1 => And.intro (fun h2 => ⟨rfl, f1, ?_⟩) (fun h2 => And.intro (fun h3 => ?_) (fun h3 => ⟨rfl, f1, ?_⟩)))⟩
  · rw [hv1, if_neg (by simp only [wr] at h1; omega)]
  · rw [hv1, if_neg (by simp only [wr] at h2; omega)]
  · have hh : (0 ≤ a ∧ a < g1 163 0) ∧ (0 ≤ w ∧ w ≤ 1) := by simp only [wr] at h1 h2 h3; omega
    rw [if_pos hh] at hv1
    apply s_M_many _ hr hK
    rw [Rel_many R1]
    refine ⟨rfl, rfl, ?_⟩
    apply u_M_replays _ hr hK R1 (by omega) (by omega) (by omega) (Or.inr (by omega))
    intro g4 _ f4 _ hww
    refine ⟨rfl, And.intro (fun h4 => ⟨rfl, Scr_tr f1 f4, ?_⟩) (fun h4 => ⟨rfl, Scr_tr f1 f4, ?_⟩)⟩
    · rw [hv1, if_neg (by simp only [wr] at h4; omega)]; exact hww.2.2.symm
    · rw [hv1, if_pos (by simp only [wr] at h4; omega)]; exact hww.2.1.symm
  · rw [hv1, if_neg (by simp only [wr] at h3; omega)]
theorem l_EL_peak {K : Int} {S : Nat} {r g0 : ab_H} {a w : Int} (P : Int → ab_H → ab_H → Prop) (hr : SI r) (hK : 186 ≤ K) (R : Rel g0 r) (ha : 0 ≤ a ∧ a < 8) (hw : 0 ≤ w ∧ w ≤ 1) (h : ∀ g' : ab_H, Scr g0 g' r → P (if w = 0 then (wt g0 a (ss g0 1080)).2.1 else (wt g0 a (ss g0 1080)).2.2) g' r) : ∀ (m : Nat) (i x y : Int) (g : ab_H), 0 ≤ i → i + m = ss g0 1080 → Scr g0 g r → StV g 51 (rp g0 (-1) (ss g0 1080) i) i → g 51 5 = ss g0 1080 → g 51 6 = -1 → x = (wt g0 a i).2.1 → y = (wt g0 a i).2.2 → ab_Rn m_EL_peak 24 [some (2, 0), some (0, a), some (0, w), some (0, x), some (0, y), some (0, i)] [] (K, S, g, r) (ab_Qi K S P)
  | 0, i, x, y, g, h0, hi, f, hq, h5, h6, hx, hy => by
    have R1 := Rel_scr R f
    have n1 := R.2.2.2.1.1.1
    have hm := R1.2.2.2.1.2.1.1
    rw [Scr_ss f] at hm
    apply v_EL_peak_24 _ hr hK
    rw [hm]
    have h1 := h g f
    rw [← show i = ss g0 1080 by omega, ← hx, ← hy] at h1
    refine ⟨Rel_Lg R, And.intro (fun _ => And.intro (fun h2 => ?_) (fun h2 => ?_)) (fun h1 => absurd h1 (by simp only [wr]; omega))⟩
    · rw [if_neg (by simp only [wr] at h2; omega)] at h1; exact h1
    · rw [if_pos (by simp only [wr] at h2; omega)] at h1; exact h1
  | m + 1, i, x, y, g, h0, hi, f, hq, h5, h6, hx, hy => by
    have R1 := Rel_scr R f
    have n1 := R.2.2.2.1.1.1
    have hm := R1.2.2.2.1.2.1.1
    rw [Scr_ss f] at hm
    apply v_EL_peak_24 _ hr hK
    rw [hm]
    refine ⟨Rel_Lg R, And.intro (fun h1 => absurd h1 (by simp only [wr]; omega)) (fun _ => ⟨Rel_Lg R, ?_⟩)⟩
    apply Rel_step _ hr hK R f ⟨h0, by omega⟩ hq h5 h6
    intro g3 f3 hq3 h53 h63
    have hb : g3 52 a = (rp g0 (-1) (ss g0 1080) (i + 1)).1 a := (hq3.1 a ha.1 ha.2).1
    have hvo : rp g0 (-1) (ss g0 1080) (i + 1) = rp g0 (-1) 120 (i + 1) := Rel_vo R ⟨by omega, by omega⟩ (Int.le_refl _)
    rw [hvo] at hb
    have hrb := Rel_RB R (but := -1) (vo := 120) (k := i + 1) ⟨by omega, by omega⟩ a
    have hrb' : -2000000 * (i + 1) ≤ (rp g0 (-1) 120 (i + 1)).1 a ∧ (rp g0 (-1) 120 (i + 1)).1 a ≤ 2000000 * (i + 1) := hrb.1
    have hwi := wat_in (but := -1) (vo := 120) (w := a) (LfOk_lft (pk := -1) (ps := -1) R.2.2.1.1 R.2.2.2.1.1.2.1) h0 (by omega : i ≤ ss g0 1080)
    have hwi' : 0 ≤ (wt g0 a i).2.1 ∧ (wt g0 a i).2.1 ≤ 2000000 * i := hwi.2
    have hst : wt g0 a (i + 1) = wstep ((rp g0 (-1) 120 (i + 1)).1 a) i (wt g0 a i) := by
      unfold wt
      rw [wat_s h0, if_neg (by omega)]
      rfl
    rw [hb]
    refine ⟨rfl, by omega, And.intro (fun h1 => ?_) (fun h1 => ⟨by omega, ?_⟩)⟩
    · refine l_EL_peak P hr hK R ha hw h m (i + 1) x y g3 (by omega) (by omega) f3 hq3 h53 h63 ?_ ?_
      · rw [hst]; unfold wstep; dsimp only; rw [if_neg (by simp only [wr] at h1; omega)]; exact hx
      · rw [hst]; unfold wstep; dsimp only; rw [if_neg (by simp only [wr] at h1; omega)]; exact hy
    · refine l_EL_peak P hr hK R ha hw h m (i + 1) _ i g3 (by omega) (by omega) f3 hq3 h53 h63 ?_ ?_
      · rw [hst]; unfold wstep; dsimp only; rw [if_pos (by simp only [wr] at h1; omega)]
      · rw [hst]; unfold wstep; dsimp only; rw [if_pos (by simp only [wr] at h1; omega)]
theorem p_peak {K : Int} {S : Nat} {g r : ab_H} {a w : Int} (hr : SI r) (hK : 186 ≤ K) (R : Rel g r) (ha : I32 a) (hw : I32 w) : PA m_EL_peak [(2, 0), (0, a), (0, w)] m_M_peak [(2, 161), (0, a), (0, w)] K S g r := by
  have hw' := hw
  unfold I32 at hw'
  have t1 := R.2.2.1.2.2.1
  have S1 := R.2.2.2.1
  have n1 := S1.1.1
  unfold PA
  apply v_EL_peak _ hr hK
  apply s_EL_isAccount _ hr hK R ha
  intro x hx
  refine ⟨rfl, rfl, And.intro (fun h1 => ⟨rfl, Scr_rfl R, m_peak hr hK R ha hw ?_⟩) (fun h1 => And.intro (fun h2 => ⟨rfl, Scr_rfl R, m_peak hr hK R ha hw ?_⟩) (fun h2 => And.intro (fun h3 => ⟨Rel_Lg R, ?_⟩) (fun h3 => ⟨rfl, Scr_rfl R, m_peak hr hK R ha hw ?_⟩)))⟩
  · unfold V_peak; rw [if_neg (by simp only [wr] at h1; omega)]
  · unfold V_peak; rw [if_neg (by simp only [wr] at h2; omega)]
  · have hh : (0 ≤ a ∧ a < g 163 0) ∧ (0 ≤ w ∧ w ≤ 1) := by simp only [wr] at h1 h2 h3; omega
    rw [S1.2.1.1]
    apply s_St_begin _ hr hK (Or.inr rfl)
    intro g3 f3 h5 h6 hq
    refine ⟨rfl, l_EL_peak _ hr hK R (by omega) hh.2 (fun g' f' => ⟨rfl, f', m_peak hr hK (Rel_scr R f') ha hw ?_⟩) (ss g 1080).toNat 0 0 (-2) g3 (by omega) (by omega) (Scr_guess R (fun c j hc => f3 c j (by omega))) hq h5 h6 rfl rfl⟩
    unfold V_peak
    rw [Scr_wt f', Scr_ss f', Scr_163 f', if_pos hh]
  · unfold V_peak; rw [if_neg (by simp only [wr] at h3; omega)]
