/-! SPECS, part z: calls that answer alone (3). -/
theorem Rel_now {g r : ab_H} (R : Rel g r) : StV g 45 (rp g (-1) 120 (ss g 1080)) (ss g 1080) := R.2.2.2.1.2.2.2.2.2.1
def V_field (g : ab_H) (e f l : Int) : Int := if ((0 ≤ e ∧ e < ss g 1080) ∧ ss g (9 * e + 0) ≠ 7) ∧ (1 ≤ f ∧ f ≤ 3) then (if l = 0 then ss g (9 * e + 5 + (f - 1)) else LL g (ss g) e (f - 1)) else -1
theorem m_field {K : Int} {S : Nat} {g r : ab_H} {e f l v : Int} (hr : SI r) (hK : 186 ≤ K) (R : Rel g r) (he : I32 e) (hf : I32 f) (hl : l = 0 ∨ l = 1) (hv : v = V_field g e f l) : MA m_M_field [(2, 161), (0, e), (0, f), (0, l)] K S g r v := by
  unfold I32 at he hf
  unfold MA
  apply v_M_field _ hr hK
  intro g1 hg1
  have f1 := Scr_t R hg1
  have R1 := Rel_scr R f1
  have hv1 : v = V_field g1 e f l := by rw [hv]; unfold V_field; rw [Scr_LL f1, Scr_ss f1]
  have G1 := R1.2.2.2.1.1
  have n1 := G1.1
  unfold V_field at hv1
  apply s_M_isEvent _ hr hK (Rel_many R1) G1.1 he
  intro x hx
  refine ⟨rfl, rfl, And.intro (fun h1 => ⟨rfl, f1, ?_⟩) (fun h1 => And.intro (fun h2 => ⟨rfl, f1, ?_⟩) (fun h2 => And.intro (fun h3 => ⟨rfl, f1, ?_⟩) (fun h3 => ?_)))⟩
  · rw [hv1, if_neg (by simp only [wr] at h1; omega)]
  · rw [hv1, if_neg (by simp only [wr] at h2; omega)]
  · rw [hv1, if_neg (by simp only [wr] at h3; omega)]
  · have he2 : 0 ≤ e ∧ e < ss g1 1080 := by simp only [wr] at h1; omega
    have hf2 : 1 ≤ f ∧ f ≤ 3 := by simp only [wr] at h2 h3; omega
    have c0 := G1.2.1 e he2.1 he2.2
    have s0 := Rel_EvS R1 (9 * e + 0) (by omega) (by omega)
    apply s_M_isVoid _ hr hK (by omega) (by omega)
    intro y hy
    rw [s0] at hy
    refine ⟨rfl, rfl, And.intro (fun h4 => ?_) (fun h4 => ⟨rfl, f1, ?_⟩)⟩
    · have h7 : ss g1 (9 * e + 0) ≠ 7 := by simp only [wr] at h4; omega
      rw [if_pos ⟨⟨he2, h7⟩, hf2⟩] at hv1
      refine And.intro (fun h5 => ?_) (fun h5 => ⟨by omega, rfl, f1, ?_⟩)
      · apply s_M_breaks (s := g1 174) _ hr hK R1.2.2.1.1 ⟨rfl, rfl, rfl, rfl⟩ rfl (EvOk_ext (Rel_EvS R1) G1.1.2 G1.2.1) he2 G1.1.2 (by rw [s0]; exact h7) R1.2.2.2.2.2.2.1 rfl (by omega) R1.2.2.2.2.2.2.2.1
        intro g4 f4 hl4
        refine ⟨rfl, by omega, rfl, Scr_tr f1 (Scr_M R1 (MFr_1 (fun c hc => f4 c (by omega)))), ?_⟩
        rw [hv1, if_neg (by simp only [wr] at h5; omega), hl4 (f - 1) (by omega) (by omega), (LFB_EvS (Rel_EvS R1) G1.1.2 he2.1 he2.2).1, (LB_ps G1.2.1 he2.1 he2.2).1]
      · rw [hv1, if_pos (by simp only [wr] at h5; omega), show 9 * e + 5 + f - 1 = 9 * e + 5 + (f - 1) by omega, Rel_EvS R1 _ (by omega) (by omega)]
    · rw [hv1, if_neg (by simp only [wr] at h4; omega)]
theorem p_field {K : Int} {S : Nat} {g r : ab_H} {e f l : Int} (hr : SI r) (hK : 186 ≤ K) (R : Rel g r) (he : I32 e) (hf : I32 f) (hl : l = 0 ∨ l = 1) : PA m_EL_field [(2, 0), (0, e), (0, f), (0, l)] m_M_field [(2, 161), (0, e), (0, f), (0, l)] K S g r := by
  have he' := he
  have hf' := hf
  unfold I32 at he' hf'
  have S1 := R.2.2.2.1
  have n1 := S1.1.1
  unfold PA
  apply v_EL_field _ hr hK
  refine ⟨Rel_Lg R, ?_⟩
  apply s_Lg_holdsPlain _ hr hK (Rel_Lg R) S1.2.1 S1.1.2.1 he
  intro x hx
  refine ⟨rfl, rfl, And.intro (fun h1 => ⟨rfl, Scr_rfl R, m_field hr hK R he hf hl ?_⟩) (fun h1 => And.intro (fun h2 => ⟨rfl, Scr_rfl R, m_field hr hK R he hf hl ?_⟩) (fun h2 => And.intro (fun h3 => ?_) (fun h3 => ⟨rfl, Scr_rfl R, m_field hr hK R he hf hl ?_⟩)))⟩
  · unfold V_field; rw [if_neg (by simp only [wr] at h1; omega)]
  · unfold V_field; rw [if_neg (by simp only [wr] at h2; omega)]
  · have hh : ((0 ≤ e ∧ e < ss g 1080) ∧ ss g (9 * e + 0) ≠ 7) ∧ (1 ≤ f ∧ f ≤ 3) := by simp only [wr] at h1 h2 h3; omega
    have e0 := S1.2.1.2.2.1 e hh.1.1.1 hh.1.1.2
    have e1 := S1.2.2.1 e hh.1.1.1 hh.1.1.2 hh.1.2
    rw [show 3 * e + f - 1 = 3 * e + (f - 1) by omega]
    refine And.intro (fun h4 => ⟨Rel_Lg R, by omega, rfl, Scr_rfl R, m_field hr hK R he hf hl ?_⟩) (fun h4 => ⟨Rel_Lg R, by omega, rfl, Scr_rfl R, m_field hr hK R he hf hl ?_⟩)
    · unfold V_field; rw [if_pos hh, if_pos (by simp only [wr] at h4; omega)]; exact e0.2.2.2.2.2.2 hh.1.2 (f - 1) (by omega) (by omega)
    · unfold V_field; rw [if_pos hh, if_neg (by simp only [wr] at h4; omega)]; exact e1.2 (f - 1) (by omega) (by omega)
  · unfold V_field; rw [if_neg (by simp only [wr] at h3; omega)]
/-- the k-th that is SET ASIDE -/
def akN (c : Int → Int) : Nat → Int → Int → Int
  | 0, _, _ => -2
  | m + 1, e, k => if c e = 0 then akN c m (e + 1) k else if k = 0 then e else akN c m (e + 1) (k - 1)
def V_aside (g : ab_H) (k : Int) : Int := if 0 ≤ k then akN (rp g (-1) 120 (ss g 1080)).2.2.2.2 (ss g 1080).toNat 0 k else -1
theorem l_M_aside {K : Int} {S : Nat} {g r : ab_H} {n : Int} {c : Int → Int} (P : Int → ab_H → ab_H → Prop) (hr : SI r) (hK : 186 ≤ K) (hm : g 174 1080 = n) (hn : n ≤ 120) (hq : ∀ e : Int, 0 ≤ e → e < n → g 183 e = c e) (hc : ∀ e : Int, 0 ≤ c e ∧ c e ≤ 3) : ∀ (m : Nat) (i k : Int), 0 ≤ i → i + m = n → 0 ≤ k → k ≤ 2147483647 → P (akN c m i k) g r → ab_Rn m_M_aside 13 [some (2, 161), none, some (0, k), some (0, i)] [] (K, S, g, r) (ab_Qi K S P)
  | 0, i, k, h0, hi, hk, hk2, h => by
    apply v_M_aside_13 _ hr hK
    apply s_M_many _ hr hK
    rw [hm]
    exact ⟨rfl, rfl, And.intro (fun _ => h) (fun h1 => absurd h1 (by simp only [wr]; omega))⟩
  | m + 1, i, k, h0, hi, hk, hk2, h => by
    have hci := hc i
    have hs : akN c (m + 1) i k = if c i = 0 then akN c m (i + 1) k else if k = 0 then i else akN c m (i + 1) (k - 1) := rfl
    rw [hs] at h
    apply v_M_aside_13 _ hr hK
    apply s_M_many _ hr hK
    rw [hm, hq i h0 (by omega)]
    refine ⟨rfl, rfl, And.intro (fun h1 => absurd h1 (by simp only [wr]; omega)) (fun _ => ⟨by omega, And.intro (fun h1 => And.intro (fun h2 => ?_) (fun h2 => ?_)) (fun h1 => ?_)⟩)⟩
    · rw [if_neg (by simp only [wr] at h1; omega), if_neg (by simp only [wr] at h2; omega)] at h
      exact l_M_aside P hr hK hm hn hq hc m (i + 1) (k + -1) (by omega) (by omega) (by simp only [wr] at h2; omega) (by omega) h
    · rw [if_neg (by simp only [wr] at h1; omega), if_pos (by simp only [wr] at h2; omega)] at h
      exact h
    · rw [if_pos (by simp only [wr] at h1; omega)] at h
      exact l_M_aside P hr hK hm hn hq hc m (i + 1) k (by omega) (by omega) hk hk2 h
theorem m_aside {K : Int} {S : Nat} {g r : ab_H} {k v : Int} (hr : SI r) (hK : 186 ≤ K) (R : Rel g r) (hk : I32 k) (hv : v = V_aside g k) : MA m_M_aside [(2, 161), (0, k)] K S g r v := by
  unfold I32 at hk
  unfold MA
  apply v_M_aside _ hr hK
  intro g1 hg1
  have f1 := Scr_t R hg1
  have R1 := Rel_scr R f1
  have hv1 : v = V_aside g1 k := by rw [hv]; unfold V_aside; rw [Scr_rp f1, Scr_ss f1]
  have G1 := R1.2.2.2.1.1
  have n1 := G1.1
  unfold V_aside at hv1
  refine And.intro (fun h1 => ?_) (fun h1 => ⟨rfl, f1, ?_⟩)
  · rw [if_pos (by simp only [wr] at h1; omega)] at hv1
    apply u_M_replaysAll _ hr hK R1
    intro g2 fm f2 hq
    refine ⟨rfl, ?_⟩
    refine l_M_aside (n := ss g1 1080) (c := (rp g1 (-1) 120 (ss g1 1080)).2.2.2.2) _ hr hK (by rw [fm.1 174 (by omega) (by omega)]; exact Rel_many R1) n1.2 (fun e a b => hq.2 e a b) rep_cau (ss g1 1080).toNat 0 k (by omega) (by omega) (by simp only [wr] at h1; omega) (by omega) ⟨rfl, Scr_tr f1 f2, hv1⟩
  · rw [hv1, if_neg (by simp only [wr] at h1; omega)]
theorem l_EL_aside {K : Int} {S : Nat} {g r : ab_H} {n k : Int} {q : RS} (P : Int → ab_H → ab_H → Prop) (hr : SI r) (hK : 186 ≤ K) (hL : isLg (r 0 5)) (hm : g (r 0 5) 10 = n) (hn : n ≤ 120) (hq : StV g 45 q n) (hc : ∀ e : Int, 0 ≤ q.2.2.2.2 e ∧ q.2.2.2.2 e ≤ 3) (hk : 0 ≤ k ∧ k ≤ 2147483647) : ∀ (m : Nat) (i a : Int), 0 ≤ i → i + m = n → 0 ≤ a → a ≤ k → a ≤ i → P (akN q.2.2.2.2 m i (k - a)) g r → ab_Rn m_EL_aside 8 [some (2, 0), some (0, k), some (0, a), some (0, i)] [] (K, S, g, r) (ab_Qi K S P)
  | 0, i, a, h0, hi, ha, ha2, hai, h => by
    apply v_EL_aside_8 _ hr hK
    rw [hm]
    exact ⟨hL, And.intro (fun _ => h) (fun h1 => absurd h1 (by simp only [wr]; omega))⟩
  | m + 1, i, a, h0, hi, ha, ha2, hai, h => by
    have hci := hc i
    have e1 : g 50 i = q.2.2.2.2 i := hq.2 i h0 (by omega)
    have hs : akN q.2.2.2.2 (m + 1) i (k - a) = if q.2.2.2.2 i = 0 then akN q.2.2.2.2 m (i + 1) (k - a) else if k - a = 0 then i else akN q.2.2.2.2 m (i + 1) (k - a - 1) := rfl
    rw [hs] at h
    apply v_EL_aside_8 _ hr hK
    rw [hm, e1]
    refine ⟨hL, And.intro (fun h1 => absurd h1 (by simp only [wr]; omega)) (fun _ => ⟨by omega, And.intro (fun h1 => ?_) (fun h1 => And.intro (fun h2 => ?_) (fun h2 => ?_))⟩)⟩
    · rw [if_pos (by simp only [wr] at h1; omega)] at h
      exact l_EL_aside P hr hK hL hm hn hq hc hk m (i + 1) a (by omega) (by omega) ha ha2 (by omega) h
    · rw [if_neg (by simp only [wr] at h1; omega), if_neg (by simp only [wr] at h2; omega), show k - a - 1 = k - (a + 1) by omega] at h
      exact l_EL_aside P hr hK hL hm hn hq hc hk m (i + 1) (a + 1) (by omega) (by omega) (by omega) (by simp only [wr] at h2; omega) (by omega) h
    · rw [if_neg (by simp only [wr] at h1; omega), if_pos (by simp only [wr] at h2; omega)] at h
      exact h
theorem p_aside {K : Int} {S : Nat} {g r : ab_H} {k : Int} (hr : SI r) (hK : 186 ≤ K) (R : Rel g r) (hk : I32 k) : PA m_EL_aside [(2, 0), (0, k)] m_M_aside [(2, 161), (0, k)] K S g r := by
  have hk' := hk
  unfold I32 at hk'
  have S1 := R.2.2.2.1
  have n1 := S1.1.1
  unfold PA
  apply v_EL_aside _ hr hK
  refine And.intro (fun h1 => ?_) (fun h1 => ⟨rfl, Scr_rfl R, m_aside hr hK R hk ?_⟩)
  · refine l_EL_aside (n := ss g 1080) (q := rp g (-1) 120 (ss g 1080)) _ hr hK (Rel_Lg R) S1.2.1.1 n1.2 (Rel_now R) rep_cau (by simp only [wr] at h1; omega) (ss g 1080).toNat 0 0 (by omega) (by omega) (by omega) (by simp only [wr] at h1; omega) (by omega) ⟨rfl, Scr_rfl R, m_aside hr hK R hk ?_⟩
    unfold V_aside; rw [if_pos (by simp only [wr] at h1; omega), show k - 0 = k by omega]
  · unfold V_aside; rw [if_neg (by simp only [wr] at h1; omega)]
def V_without (g : ab_H) (e a : Int) : Int := if ((0 ≤ e ∧ e < ss g 1080) ∧ ss g (9 * e + 0) ≠ 7) ∧ (0 ≤ a ∧ a < g 163 0) then (rp g e 120 (ss g 1080)).1 a else -2147483648
theorem m_without {K : Int} {S : Nat} {g r : ab_H} {e a v : Int} (hr : SI r) (hK : 186 ≤ K) (R : Rel g r) (he : I32 e) (ha : I32 a) (hv : v = V_without g e a) : MA m_M_without [(2, 161), (0, e), (0, a)] K S g r v := by
  unfold I32 at he ha
  unfold MA
  apply v_M_without _ hr hK
  intro g1 hg1
  have f1 := Scr_t R hg1
  have R1 := Rel_scr R f1
  have t1 := R1.2.2.1.2.2.1
  have hv1 : v = V_without g1 e a := by rw [hv]; unfold V_without; rw [Scr_rp f1, Scr_ss f1, Scr_163 f1]
  have G1 := R1.2.2.2.1.1
  have n1 := G1.1
  unfold V_without at hv1
  apply s_M_isEvent _ hr hK (Rel_many R1) G1.1 he
  intro x hx
  refine ⟨rfl, rfl, And.intro (fun h1 => ⟨rfl, f1, ?_⟩) (fun h1 => ?_)⟩
  · rw [hv1, if_neg (by simp only [wr] at h1; omega)]
  · have he2 : 0 ≤ e ∧ e < ss g1 1080 := by simp only [wr] at h1; omega
    have c0 := G1.2.1 e he2.1 he2.2
    have s0 := Rel_EvS R1 (9 * e + 0) (by omega) (by omega)
    apply s_M_isVoid _ hr hK (by omega) (by omega)
    intro y hy
    rw [s0] at hy
    refine ⟨rfl, rfl, And.intro (fun h4 => ⟨rfl, f1, ?_⟩) (fun h4 => ?_)⟩
    · rw [hv1, if_neg (by simp only [wr] at h4; omega)]
    · apply s_M_isAccount _ hr hK rfl (by omega) ha
      intro z hz
      refine ⟨rfl, rfl, And.intro (fun h5 => ?_) (fun h5 => ⟨rfl, f1, ?_⟩)⟩
      · have hh : ((0 ≤ e ∧ e < ss g1 1080) ∧ ss g1 (9 * e + 0) ≠ 7) ∧ (0 ≤ a ∧ a < g1 163 0) := ⟨⟨he2, by simp only [wr] at h4; omega⟩, by simp only [wr] at h5; omega⟩
        rw [if_pos hh] at hv1
        apply s_M_many _ hr hK
        rw [Rel_many R1]
        refine ⟨rfl, rfl, ?_⟩
        apply u_M_replays _ hr hK R1 (by omega) (by omega) (by omega) (Or.inl rfl)
        intro g6 _ f6 hq _
        refine ⟨rfl, by omega, rfl, Scr_tr f1 f6, ?_⟩
        rw [hv1]
        exact (hq.1 a (by omega) (by omega)).1.symm
      · rw [hv1, if_neg (by simp only [wr] at h5; omega)]
theorem p_without {K : Int} {S : Nat} {g r : ab_H} {e a : Int} (hr : SI r) (hK : 186 ≤ K) (R : Rel g r) (he : I32 e) (ha : I32 a) : PA m_EL_without [(2, 0), (0, e), (0, a)] m_M_without [(2, 161), (0, e), (0, a)] K S g r := by
  have t1 := R.2.2.1.2.2.1
  have S1 := R.2.2.2.1
  have n1 := S1.1.1
  unfold PA
  apply v_EL_without _ hr hK
  refine ⟨Rel_Lg R, ?_⟩
  apply s_Lg_holdsPlain _ hr hK (Rel_Lg R) S1.2.1 S1.1.2.1 he
  intro x hx
  refine ⟨rfl, rfl, And.intro (fun h1 => ⟨rfl, Scr_rfl R, m_without hr hK R he ha ?_⟩) (fun h1 => ?_)⟩
  · unfold V_without; rw [if_neg (by simp only [wr] at h1; omega)]
  apply s_EL_isAccount _ hr hK R ha
  intro y hy
  refine ⟨rfl, rfl, And.intro (fun h2 => ⟨Rel_Lg R, Rel_Lg R, Rel_Lg R, ?_⟩) (fun h2 => ⟨rfl, Scr_rfl R, m_without hr hK R he ha ?_⟩)⟩
  · have hh : ((0 ≤ e ∧ e < ss g 1080) ∧ ss g (9 * e + 0) ≠ 7) ∧ (0 ≤ a ∧ a < g 163 0) := by simp only [wr] at h1 h2; omega
    rw [S1.2.1.1]
    apply u_guess _ hr hK R (by omega) (by omega) (by omega)
    intro g7 f7 hq
    refine ⟨rfl, by omega, rfl, f7, m_without hr hK (Rel_scr R f7) he ha ?_⟩
    unfold V_without
    rw [Scr_rp f7, Scr_ss f7, Scr_163 f7, if_pos hh]
    rw [Rel_vo R (by omega) (Int.le_refl _)] at hq
    exact (hq.1 a (by omega) (by omega)).1
  · unfold V_without; rw [if_neg (by simp only [wr] at h2; omega)]
