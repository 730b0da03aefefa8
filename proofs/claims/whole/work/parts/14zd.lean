/-! SPECS, part zd: tally, sum. -/
theorem Rel_TyOk {g r : ab_H} (R : Rel g r) : TyOk (tt g) (g 167) (ss g) := R.2.2.2.1.1.2.2.2.2.2.2.2
def cx (g : ab_H) (t : Int) : Int → Int := tcx (ss g) t
def cv (g : ab_H) (t : Int) : Int → Int := cvn (ss g) (fun e => LL g (ss g) e (g 167 t - 1)) (rp g (-1) 120 (ss g 1080)).2.2.2.2 (g 166 t)
theorem Scr_cx {g g' r : ab_H} (h : Scr g g' r) (t : Int) : cx g' t = cx g t := by unfold cx; rw [Scr_ss h]
theorem Scr_cv {g g' r : ab_H} (h : Scr g g' r) (t : Int) : cv g' t = cv g t := by
  unfold cv; rw [Scr_LL h, Scr_rp h, Scr_ss h, h.2.1 166 (by omega) (by omega), h.2.1 167 (by omega) (by omega)]
theorem Rel_TyV {g r : ab_H} (R : Rel g r) {t : Int} (h0 : 0 ≤ t) (h1 : t < 4) : TyV (g 174) (1091 + 129 * t) (ss g) (tpx (ss g) t) (cx g t) := by
  have h := (Rel_TyOk R t h0 h1).1
  refine ⟨?_, fun e a b => ?_, fun e a b => ?_⟩
  · rw [← cn_in (x := g 174) (by omega) (by omega)]; exact h.1
  · rw [← cn_in (x := g 174) (by omega) (by omega)]; exact h.2.1 e a b
  · rw [← cn_in (x := g 174) (by omega) (by omega)]; exact h.2.2 e a b
theorem Rel_TcOk {g r : ab_H} (R : Rel g r) {t : Int} (h0 : 0 ≤ t) (h1 : t < 4) : TcOk (ss g) (cx g t) (tpx (ss g) t) (ss g 1080) (fun e => LL g (ss g) e (g 167 t - 1)) := (Rel_TyOk R t h0 h1).2
def V_tally (g : ab_H) (t w : Int) : Int := if 0 ≤ t ∧ t < g 163 1 then (if w = 0 then tpx (ss g) t else if w = 1 then ss g 1080 - tpx (ss g) t else if w = 2 then psm (ne0 (cx g t)) 120 else if w = 3 then g 166 t else if w = 4 then g 167 t else if w = 5 then psm (mi1 (cx g t)) 120 else if w = 6 then psm (mi1 (cv g t)) (ss g 1080) - psm (mi1 (cx g t)) 120 else -2147483648) else -2147483648
theorem Scr_Vt {g g' r : ab_H} (h : Scr g g' r) (t w : Int) : V_tally g' t w = V_tally g t w := by
  unfold V_tally
  rw [Scr_cx h, Scr_cv h, Scr_ss h, Scr_163 h, h.2.1 166 (by omega) (by omega), h.2.1 167 (by omega) (by omega)]
theorem m_tally {K : Int} {S : Nat} {g r : ab_H} {t w v : Int} (hr : SI r) (hK : 186 ≤ K) (R : Rel g r) (ht : I32 t) (hw : I32 w) (hv : v = V_tally g t w) : MA m_M_tally [(2, 161), (0, t), (0, w)] K S g r v := by
  unfold I32 at ht hw
  unfold MA
  apply v_M_tally _ hr hK
  intro g1 hg1
  have f1 := Scr_t R hg1
  have R1 := Rel_scr R f1
  have hv1 : v = V_tally g1 t w := by rw [hv, Scr_Vt f1]
  have G1 := R1.2.2.2.1.1
  have n1 := G1.1
  have T1 := R1.2.2.1.2.2.2.2
  have T2 := T1.1
  unfold V_tally at hv1
  apply s_M_isTally _ hr hK rfl (by omega) ht
  intro x hx
  refine ⟨rfl, rfl, And.intro (fun h1 => ?_) (fun h1 => ⟨rfl, f1, ?_⟩)⟩
  · have ht2 : 0 ≤ t ∧ t < g1 163 1 := by simp only [wr] at h1; omega
    have T3 := T1.2.1 t ht2.1 ht2.2
    have hty := Rel_TyV R1 (t := t) ht2.1 (by omega)
    have hok := Rel_TcOk R1 (t := t) ht2.1 (by omega)
    rw [if_pos ht2] at hv1
    refine ⟨fun h2 => ?_, fun h2 => ?_, fun h2 => ?_, fun h2 => ⟨by omega, rfl, f1, ?_⟩, fun h2 => ⟨by omega, rfl, f1, ?_⟩, fun h2 => ?_, fun h2 => ?_, fun h2 => ⟨rfl, f1, ?_⟩⟩
    · have h2' : w = 0 := by simp only [wr] at h2; omega
      apply v_M_tallyAt _ hr hK
      rw [show 1091 + 129 * t + 0 = 1091 + 129 * t by omega, hty.1]
      exact ⟨rfl, rfl, by omega, rfl, f1, by rw [hv1, if_pos h2']⟩
    · have h2' : w = 1 := by simp only [wr] at h2; omega
      apply s_M_many _ hr hK
      refine ⟨rfl, rfl, ?_⟩
      apply v_M_tallyAt _ hr hK
      rw [show 1091 + 129 * t + 0 = 1091 + 129 * t by omega, hty.1, Rel_many R1]
      exact ⟨rfl, rfl, by omega, rfl, f1, by rw [hv1, if_neg (by omega), if_pos h2']⟩
    · have h2' : w = 2 := by simp only [wr] at h2; omega
      apply s_M_countedMany _ hr hK (by omega) rfl hty hok
      exact ⟨rfl, rfl, rfl, f1, by rw [hv1, if_neg (by omega), if_neg (by omega), if_pos h2']⟩
    · have h2' : w = 3 := by simp only [wr] at h2; omega
      rw [hv1, if_neg (by omega), if_neg (by omega), if_neg (by omega), if_pos h2']
    · have h2' : w = 4 := by simp only [wr] at h2; omega
      rw [hv1, if_neg (by omega), if_neg (by omega), if_neg (by omega), if_neg (by omega), if_pos h2']
    · have h2' : w = 5 := by simp only [wr] at h2; omega
      apply s_M_sums _ hr hK (by omega) rfl hty hok G1.2.1 n1.2
      exact ⟨rfl, rfl, rfl, f1, by rw [hv1, if_neg (by omega), if_neg (by omega), if_neg (by omega), if_neg (by omega), if_neg (by omega), if_pos h2']⟩
    · have h2' : w = 6 := by simp only [wr] at h2; omega
      apply v_M_anew _ hr hK
      apply u_M_replaysAll _ hr hK R1
      intro g2 fm2 f2 hq2
      have R2 := Rel_scr R1 f2
      refine ⟨rfl, l_M_anew (n := ss g1 1080) (s := ss g1) (T := tt g1) (vo := 120) _ hr hK R1.2.2.1.1 G1.2.1 n1.2 R1.2.2.2.2.2.2.2.1 (by omega) T3.2.1.2 T3.2.2.2 (ss g1 1080).toNat 0 0 g2 (by omega) (by omega) ⟨by rw [f2.2.1 168 (by omega) (by omega)]; rfl, by rw [f2.2.1 169 (by omega) (by omega)]; rfl, by rw [f2.2.1 170 (by omega) (by omega)]; rfl, by rw [f2.2.1 171 (by omega) (by omega)]; rfl⟩ (by rw [← Scr_ss f2]; exact Rel_EvS R2) (by rw [Rel_many R2, Scr_ss f2]) R2.2.2.2.2.2.2.1 (fm2.2 35 (by omega) (by omega) (by omega)) (by rw [f2.2.1 166 (by omega) (by omega)]) (by rw [f2.2.1 167 (by omega) (by omega)]) (fun e a b => hq2.2 e a b) (fun y g' f' hy => ⟨rfl, ?_⟩)⟩
      have f3 := Scr_M R2 (MFr_1 (g := g2) (g' := g') (fun c hc => f' c (by omega)))
      have R3 := Rel_scr R2 f3
      have f23 := Scr_tr f2 f3
      have hty3 := Rel_TyV R3 (t := t) ht2.1 (by omega)
      have hok3 := Rel_TcOk R3 (t := t) ht2.1 (by omega)
      apply s_M_sums _ hr hK (by omega) rfl hty3 hok3 R3.2.2.2.1.1.2.1 R3.2.2.2.1.1.1.2
      rw [Scr_cx f23]
      refine ⟨rfl, rfl, rfl, Scr_tr f1 f23, ?_⟩
      rw [hv1, if_neg (by omega), if_neg (by omega), if_neg (by omega), if_neg (by omega), if_neg (by omega), if_neg (by omega), if_pos h2']
      rw [psm_0] at hy
      have hy' : y = psm (mi1 (cv g1 t)) (ss g1 1080) := by
        unfold cv LL rp LL BB
        omega
      rw [hy']
    · have h2' : w < 0 ∨ 7 ≤ w := by simp only [wr] at h2; omega
      rw [hv1, if_neg (by omega), if_neg (by omega), if_neg (by omega), if_neg (by omega), if_neg (by omega), if_neg (by omega), if_neg (by omega)]
  · rw [hv1, if_neg (by simp only [wr] at h1; omega)]
def V_sum (g : ab_H) (t a : Int) : Int := if (0 ≤ t ∧ t < g 163 1) ∧ (0 ≤ a ∧ a < g 163 0) then psm (tcn (ss g) (cx g t) a) 120 else -2147483648
theorem m_sum {K : Int} {S : Nat} {g r : ab_H} {t a v : Int} (hr : SI r) (hK : 186 ≤ K) (R : Rel g r) (ht : I32 t) (ha : I32 a) (hv : v = V_sum g t a) : MA m_M_sum [(2, 161), (0, t), (0, a)] K S g r v := by
  unfold I32 at ht ha
  unfold MA
  apply v_M_sum _ hr hK
  intro g1 hg1
  have f1 := Scr_t R hg1
  have R1 := Rel_scr R f1
  have hv1 : v = V_sum g1 t a := by rw [hv]; unfold V_sum; rw [Scr_cx f1, Scr_ss f1, Scr_163 f1]
  have T1 := R1.2.2.1.2.2
  have T2 := T1.1
  have T5 := T1.2.2.1
  unfold V_sum at hv1
  apply s_M_isTally _ hr hK rfl (by omega) ht
  intro x hx
  refine ⟨rfl, rfl, And.intro (fun h1 => ⟨rfl, f1, ?_⟩) (fun h1 => ?_)⟩
  · rw [hv1, if_neg (by simp only [wr] at h1; omega)]
  apply s_M_isAccount _ hr hK rfl (by omega) ha
  intro y hy
  refine ⟨rfl, rfl, And.intro (fun h2 => ⟨rfl, f1, ?_⟩) (fun h2 => ?_)⟩
  · rw [hv1, if_neg (by simp only [wr] at h2; omega)]
  · have hh : (0 ≤ t ∧ t < g1 163 1) ∧ (0 ≤ a ∧ a < g1 163 0) := by simp only [wr] at h1 h2; omega
    have hty := Rel_TyV R1 (t := t) hh.1.1 (by omega)
    rw [if_pos hh] at hv1
    apply v_M_tallyAt _ hr hK
    rw [hty.2.2 a hh.2.1 (by omega)]
    exact ⟨rfl, rfl, by omega, rfl, f1, hv1⟩
/-- the class's sums -/
theorem s_EL_countedField {K : Int} {S : Nat} {g r : ab_H} {t e : Int} (P : Int → ab_H → ab_H → Prop) (hr : SI r) (hK : 186 ≤ K) (R : Rel g r) (ht : 0 ≤ t ∧ t < g 163 1) (he : 0 ≤ e ∧ e < ss g 1080) (h7 : ss g (9 * e + 0) ≠ 7) (h : P (LL g (ss g) e (g 167 t - 1)) g r) : ab_RI m_EL_countedField [(2, 0), (0, t), (0, e)] K S g r P := by
  have S1 := R.2.2.2.1
  have n1 := S1.1.1
  have T5 := R.2.2.1.2.2.2.2.1
  have T3 := R.2.2.1.2.2.2.2.2.1 t ht.1 ht.2
  apply v_EL_countedField _ hr hK
  rw [T3.2.2.1, show 3 * e + g 167 t - 1 = 3 * e + (g 167 t - 1) by omega, (S1.2.2.1 e he.1 he.2 h7).2 (g 167 t - 1) (by omega) (by omega)]
  exact ⟨Rel_Lg R, Rel_Te R, by omega, by omega, h⟩
theorem l_EL_sumCounted {K : Int} {S : Nat} {g r : ab_H} {t a : Int} (P : Int → ab_H → ab_H → Prop) (hr : SI r) (hK : 186 ≤ K) (R : Rel g r) (ht : 0 ≤ t ∧ t < g 163 1) (ha : a = -1 ∨ (0 ≤ a ∧ a < 8)) : ∀ (m : Nat) (i x : Int), 0 ≤ i → i + m = ss g 1080 → (∀ y : Int, y - x = psm (if a = -1 then mi1 (cx g t) else tcn (ss g) (cx g t) a) (ss g 1080) - psm (if a = -1 then mi1 (cx g t) else tcn (ss g) (cx g t) a) i → P y g r) → ab_Rn m_EL_sumCounted 4 [some (2, 0), some (0, t), some (0, a), some (0, x), some (0, i)] [] (K, S, g, r) (ab_Qi K S P)
  | 0, i, x, h0, hi, h => by
    have S1 := R.2.2.2.1
    have n1 := S1.1.1
    apply v_EL_sumCounted_4 _ hr hK
    rw [S1.2.1.1]
    exact ⟨Rel_Lg R, And.intro (fun _ => h x (by rw [show i = ss g 1080 by omega]; omega)) (fun h1 => absurd h1 (by simp only [wr]; omega))⟩
  | m + 1, i, x, h0, hi, h => by
    have S1 := R.2.2.2.1
    have n1 := S1.1.1
    have T5 := R.2.2.1.2.2.2.2.1
    have hok := (Rel_TcOk R (t := t) ht.1 (by omega)).2 i h0 (by omega)
    have e0 := S1.2.1.2.2.1 i h0 (by omega)
    have c0 := S1.1.2.1 i h0 (by omega)
    have hp := psm_1 (f := if a = -1 then mi1 (cx g t) else tcn (ss g) (cx g t) a) h0
    have go : ∀ x' : Int, x' - x = (if a = -1 then mi1 (cx g t) else tcn (ss g) (cx g t) a) i → ab_Rn m_EL_sumCounted 4 [some (2, 0), some (0, t), some (0, a), some (0, x'), some (0, i + 1)] [] (K, S, g, r) (ab_Qi K S P) := fun x' hx' => l_EL_sumCounted P hr hK R ht ha m (i + 1) x' (by omega) (by omega) (fun y hy => h y (by omega))
    apply v_EL_sumCounted_4 _ hr hK
    rw [S1.2.1.1]
    refine ⟨Rel_Lg R, And.intro (fun h1 => absurd h1 (by simp only [wr]; omega)) (fun _ => ?_)⟩
    apply s_Ta_isCounted _ hr hK (Or.inl rfl) S1.2.2.2.2.2.2 (by omega) (by omega)
    intro z hz hz2
    have hz' : z = ne0 (cx g t) i := hz
    refine ⟨rfl, rfl, And.intro (fun h1 => go x ?_) (fun h1 => ?_)⟩
    · have hz0 : cx g t i = 0 := by
        by_cases hc : cx g t i = 0
        · exact hc
        · exfalso
          have : ne0 (cx g t) i = 1 := if_neg hc
          simp only [wr] at h1
          omega
      split
      · have : mi1 (cx g t) i = 0 := if_pos hz0
        omega
      · have : tcn (ss g) (cx g t) a i = 0 := if_neg (fun hc => hc.1 hz0)
        omega
    · have hz0 : cx g t i ≠ 0 := by
        intro hc
        have : ne0 (cx g t) i = 0 := if_pos hc
        simp only [wr] at h1
        omega
      have hk : ss g (9 * i + 0) ≠ 7 := by
        rcases hok with hok | hok
        · exact absurd hok hz0
        · exact hok.1.2
      have hcv : cx g t i = LL g (ss g) i (g 167 t - 1) + 1 := by
        rcases hok with hok | hok
        · exact absurd hok hz0
        · exact hok.2.2
      have c1 := c0.2.1 hk
      refine And.intro (fun h2 => ?_) (fun h2 => ⟨Rel_Lg R, by omega, ?_⟩)
      · apply s_EL_countedField _ hr hK R ht ⟨h0, by omega⟩ hk
        refine ⟨rfl, rfl, go _ ?_⟩
        rw [if_pos (by simp only [wr] at h2; omega)]
        unfold mi1
        rw [if_neg hz0]
        omega
      · rw [e0.2.1 hk]
        refine And.intro (fun h3 => go x ?_) (fun h3 => ?_)
        · rw [if_neg (by simp only [wr] at h2; omega)]
          have : tcn (ss g) (cx g t) a i = 0 := if_neg (fun hc => by simp only [wr] at h3; omega)
          omega
        · apply s_EL_countedField _ hr hK R ht ⟨h0, by omega⟩ hk
          refine ⟨rfl, rfl, go _ ?_⟩
          rw [if_neg (by simp only [wr] at h2; omega)]
          have : tcn (ss g) (cx g t) a i = cx g t i - 1 := if_pos ⟨hz0, by simp only [wr] at h3; omega⟩
          omega
theorem Rel_cz {g r : ab_H} (R : Rel g r) {t e : Int} (h0 : 0 ≤ t) (h1 : t < 4) (he : ss g 1080 ≤ e) (he2 : e < 120) : cx g t e = 0 := by
  have n1 := R.2.2.2.1.1.1
  have hok := Rel_TcOk R h0 h1
  have hp := hok.1
  rcases hok.2 e (by omega) he2 with h | h
  · exact h
  · omega
theorem s_EL_sumCounted {K : Int} {S : Nat} {g r : ab_H} {t a : Int} (P : Int → ab_H → ab_H → Prop) (hr : SI r) (hK : 186 ≤ K) (R : Rel g r) (ht : 0 ≤ t ∧ t < g 163 1) (ha : a = -1 ∨ (0 ≤ a ∧ a < 8)) (h : P (psm (if a = -1 then mi1 (cx g t) else tcn (ss g) (cx g t) a) 120) g r) : ab_RI m_EL_sumCounted [(2, 0), (0, t), (0, a)] K S g r P := by
  have n1 := R.2.2.2.1.1.1
  have T5 := R.2.2.1.2.2.2.2.1
  apply v_EL_sumCounted _ hr hK
  refine l_EL_sumCounted P hr hK R ht ha (ss g 1080).toNat 0 0 (by omega) (by omega) (fun y hy => ?_)
  rw [psm_0] at hy
  have hz : psm (if a = -1 then mi1 (cx g t) else tcn (ss g) (cx g t) a) 120 = psm (if a = -1 then mi1 (cx g t) else tcn (ss g) (cx g t) a) (ss g 1080) := by
    refine psm_z n1.1 (fun e b c => ?_) n1.2
    have h0 := Rel_cz R (t := t) ht.1 (by omega) b c
    split
    · exact if_pos h0
    · exact if_neg (fun hc => hc.1 h0)
  rw [hz] at h
  rw [show y = psm (if a = -1 then mi1 (cx g t) else tcn (ss g) (cx g t) a) (ss g 1080) by omega]
  exact h
theorem p_sum {K : Int} {S : Nat} {g r : ab_H} {t a : Int} (hr : SI r) (hK : 186 ≤ K) (R : Rel g r) (ht : I32 t) (ha : I32 a) : PA m_EL_sum [(2, 0), (0, t), (0, a)] m_M_sum [(2, 161), (0, t), (0, a)] K S g r := by
  have T2 := R.2.2.1.2.2.1
  unfold PA
  apply v_EL_sum _ hr hK
  apply s_EL_isTally _ hr hK R ht
  intro x hx
  refine ⟨rfl, rfl, And.intro (fun h1 => ⟨rfl, Scr_rfl R, m_sum hr hK R ht ha ?_⟩) (fun h1 => ?_)⟩
  · unfold V_sum; rw [if_neg (by simp only [wr] at h1; omega)]
  apply s_EL_isAccount _ hr hK R ha
  intro y hy
  refine ⟨rfl, rfl, And.intro (fun h2 => ⟨rfl, Scr_rfl R, m_sum hr hK R ht ha ?_⟩) (fun h2 => ?_)⟩
  · unfold V_sum; rw [if_neg (by simp only [wr] at h2; omega)]
  · have hh : (0 ≤ t ∧ t < g 163 1) ∧ (0 ≤ a ∧ a < g 163 0) := by simp only [wr] at h1 h2; omega
    apply s_EL_sumCounted _ hr hK R hh.1 (Or.inr (by omega))
    refine ⟨rfl, rfl, rfl, Scr_rfl R, m_sum hr hK R ht ha ?_⟩
    unfold V_sum; rw [if_pos hh, if_neg (by omega)]
theorem s_EL_countsNow {K : Int} {S : Nat} {g r : ab_H} {t e : Int} (P : Int → ab_H → ab_H → Prop) (hr : SI r) (hK : 186 ≤ K) (R : Rel g r) (ht : 0 ≤ t ∧ t < g 163 1) (he : 0 ≤ e ∧ e < ss g 1080) (h : ∀ x : Int, x = ne0 (cv g t) e → (x = 0 ∨ x = 1) → P x g r) : ab_RI m_EL_countsNow [(2, 0), (0, t), (0, e)] K S g r P := by
  have S1 := R.2.2.2.1
  have n1 := S1.1.1
  have T5 := R.2.2.1.2.2.2.2.1
  have T3 := R.2.2.1.2.2.2.2.2.1 t ht.1 ht.2
  have e0 := S1.2.1.2.2.1 e he.1 he.2
  have c0 := S1.1.2.1 e he.1 he.2
  have hnow : g 50 e = (rp g (-1) 120 (ss g 1080)).2.2.2.2 e := (Rel_now R).2 e he.1 he.2
  have hcb : 0 ≤ (rp g (-1) 120 (ss g 1080)).2.2.2.2 e ∧ (rp g (-1) 120 (ss g 1080)).2.2.2.2 e ≤ 3 := rep_cau e
  have z : (ss g (9 * e + 0) = 7 ∨ ss g (9 * e + 8) ≠ 0 ∨ ss g (9 * e + 0) ≠ g 166 t ∨ (rp g (-1) 120 (ss g 1080)).2.2.2.2 e ≠ 0) → ne0 (cv g t) e = 0 := fun hc => if_pos (if_pos hc)
  have o : ¬ (ss g (9 * e + 0) = 7 ∨ ss g (9 * e + 8) ≠ 0 ∨ ss g (9 * e + 0) ≠ g 166 t ∨ (rp g (-1) 120 (ss g 1080)).2.2.2.2 e ≠ 0) → ne0 (cv g t) e = 1 := by
    intro hc
    have h1 : cv g t e = LL g (ss g) e (g 167 t - 1) + 1 := if_neg hc
    have h2 := (LfOk_lft (pk := -1) (ps := -1) R.2.2.1.1 S1.1.2.1 e he.1 he.2 (by omega)).2 (g 167 t - 1) (by omega) (by omega)
    have h3 : 0 ≤ LL g (ss g) e (g 167 t - 1) := h2.1.1
    exact if_neg (by omega)
  apply v_EL_countsNow _ hr hK
  rw [e0.1, e0.2.2.2.2.2.1, T3.2.1.1, hnow]
  refine ⟨Rel_Lg R, by omega, Rel_Te R, by omega, And.intro (fun h1 => h 0 ?_ (Or.inl rfl)) (fun h1 => ⟨by omega, And.intro (fun h2 => h 0 ?_ (Or.inl rfl)) (fun h2 => ⟨Rel_Lg R, by omega, And.intro (fun h3 => h 0 ?_ (Or.inl rfl)) (fun h3 => h 1 ?_ (Or.inr rfl))⟩)⟩)⟩
  · rw [z (by simp only [wr] at h1; omega)]
  · rw [z (by simp only [wr] at h2; omega)]
  · rw [z (by simp only [wr] at h3; omega)]
  · rw [o (by simp only [wr] at h1 h2 h3; omega)]
theorem l_EL_sumAnew {K : Int} {S : Nat} {g r : ab_H} {t : Int} (P : Int → ab_H → ab_H → Prop) (hr : SI r) (hK : 186 ≤ K) (R : Rel g r) (ht : 0 ≤ t ∧ t < g 163 1) : ∀ (m : Nat) (i x : Int), 0 ≤ i → i + m = ss g 1080 → (∀ y : Int, y - x = psm (mi1 (cv g t)) (ss g 1080) - psm (mi1 (cv g t)) i → P y g r) → ab_Rn m_EL_sumAnew 4 [some (2, 0), some (0, t), some (0, x), some (0, i)] [] (K, S, g, r) (ab_Qi K S P)
  | 0, i, x, h0, hi, h => by
    have S1 := R.2.2.2.1
    have n1 := S1.1.1
    apply v_EL_sumAnew_4 _ hr hK
    rw [S1.2.1.1]
    exact ⟨Rel_Lg R, And.intro (fun _ => h x (by rw [show i = ss g 1080 by omega]; omega)) (fun h1 => absurd h1 (by simp only [wr]; omega))⟩
  | m + 1, i, x, h0, hi, h => by
    have S1 := R.2.2.2.1
    have n1 := S1.1.1
    have hp := psm_1 (f := mi1 (cv g t)) h0
    apply v_EL_sumAnew_4 _ hr hK
    rw [S1.2.1.1]
    refine ⟨Rel_Lg R, And.intro (fun h1 => absurd h1 (by simp only [wr]; omega)) (fun _ => ?_)⟩
    apply s_EL_countsNow _ hr hK R ht ⟨h0, by omega⟩
    intro z hz hz2
    refine ⟨rfl, rfl, And.intro (fun h1 => ?_) (fun h1 => ?_)⟩
    · have hc : cv g t i = 0 := by
        by_cases hc : cv g t i = 0
        · exact hc
        · exfalso
          have : ne0 (cv g t) i = 1 := if_neg hc
          simp only [wr] at h1
          omega
      have : mi1 (cv g t) i = 0 := if_pos hc
      exact l_EL_sumAnew P hr hK R ht m (i + 1) x (by omega) (by omega) (fun y hy => h y (by omega))
    · have hc : cv g t i ≠ 0 := by
        intro hc
        have : ne0 (cv g t) i = 0 := if_pos hc
        simp only [wr] at h1
        omega
      have h7 : ¬ (ss g (9 * i + 0) = 7 ∨ ss g (9 * i + 8) ≠ 0 ∨ ss g (9 * i + 0) ≠ g 166 t ∨ (rp g (-1) 120 (ss g 1080)).2.2.2.2 i ≠ 0) := fun hc2 => hc (if_pos hc2)
      have hcv : cv g t i = LL g (ss g) i (g 167 t - 1) + 1 := if_neg h7
      have : mi1 (cv g t) i = cv g t i - 1 := if_neg hc
      apply s_EL_countedField _ hr hK R ht ⟨h0, by omega⟩ (by omega)
      exact ⟨rfl, rfl, l_EL_sumAnew P hr hK R ht m (i + 1) _ (by omega) (by omega) (fun y hy => h y (by omega))⟩
theorem p_tally {K : Int} {S : Nat} {g r : ab_H} {t w : Int} (hr : SI r) (hK : 186 ≤ K) (R : Rel g r) (ht : I32 t) (hw : I32 w) : PA m_EL_tally [(2, 0), (0, t), (0, w)] m_M_tally [(2, 161), (0, t), (0, w)] K S g r := by
  have hw' := hw
  unfold I32 at hw'
  have S1 := R.2.2.2.1
  have n1 := S1.1.1
  have T5 := R.2.2.1.2.2.2.2.1
  unfold PA
  apply v_EL_tally _ hr hK
  apply s_EL_isTally _ hr hK R ht
  intro x hx
  refine ⟨rfl, rfl, And.intro (fun h1 => ?_) (fun h1 => ⟨rfl, Scr_rfl R, m_tally hr hK R ht hw ?_⟩)⟩
  · have ht2 : 0 ≤ t ∧ t < g 163 1 := by simp only [wr] at h1; omega
    have T3 := R.2.2.1.2.2.2.2.2.1 t ht2.1 ht2.2
    have hpl : g 62 t = tpx (ss g) t := S1.2.2.2.2.2.2.1 t ht2.1 (by omega)
    refine ⟨fun h2 => ⟨by omega, rfl, Scr_rfl R, m_tally hr hK R ht hw ?_⟩, fun h2 => ⟨Rel_Lg R, by omega, rfl, Scr_rfl R, m_tally hr hK R ht hw ?_⟩, fun h2 => ?_, fun h2 => ⟨Rel_Te R, by omega, rfl, Scr_rfl R, m_tally hr hK R ht hw ?_⟩, fun h2 => ⟨Rel_Te R, by omega, rfl, Scr_rfl R, m_tally hr hK R ht hw ?_⟩, fun h2 => ?_, fun h2 => ?_, fun h2 => ⟨rfl, Scr_rfl R, m_tally hr hK R ht hw ?_⟩⟩
    · have h2' : w = 0 := by simp only [wr] at h2; omega
      unfold V_tally; rw [if_pos ht2, if_pos h2', hpl]
    · have h2' : w = 1 := by simp only [wr] at h2; omega
      unfold V_tally; rw [if_pos ht2, if_neg (by omega), if_pos h2', hpl, S1.2.1.1]
    · have h2' : w = 2 := by simp only [wr] at h2; omega
      apply s_Ta_countCounted _ hr hK (Or.inl rfl) S1.2.2.2.2.2.2 (by omega)
      refine ⟨rfl, rfl, rfl, Scr_rfl R, m_tally hr hK R ht hw ?_⟩
      unfold V_tally; rw [if_pos ht2, if_neg (by omega), if_neg (by omega), if_pos h2']; rfl
    · have h2' : w = 3 := by simp only [wr] at h2; omega
      unfold V_tally; rw [if_pos ht2, if_neg (by omega), if_neg (by omega), if_neg (by omega), if_pos h2', T3.2.1.1]
    · have h2' : w = 4 := by simp only [wr] at h2; omega
      unfold V_tally; rw [if_pos ht2, if_neg (by omega), if_neg (by omega), if_neg (by omega), if_neg (by omega), if_pos h2', T3.2.2.1]
    · have h2' : w = 5 := by simp only [wr] at h2; omega
      apply s_EL_sumCounted _ hr hK R ht2 (Or.inl rfl)
      refine ⟨rfl, rfl, rfl, Scr_rfl R, m_tally hr hK R ht hw ?_⟩
      unfold V_tally; rw [if_pos (rfl : (-1 : Int) = -1), if_pos ht2, if_neg (by omega), if_neg (by omega), if_neg (by omega), if_neg (by omega), if_neg (by omega), if_pos h2']
    · have h2' : w = 6 := by simp only [wr] at h2; omega
      apply v_EL_sumAnew _ hr hK
      refine l_EL_sumAnew _ hr hK R ht2 (ss g 1080).toNat 0 0 (by omega) (by omega) (fun y hy => ⟨rfl, rfl, ?_⟩)
      apply s_EL_sumCounted _ hr hK R ht2 (Or.inl rfl)
      refine ⟨rfl, rfl, rfl, Scr_rfl R, m_tally hr hK R ht hw ?_⟩
      unfold V_tally; rw [if_pos (rfl : (-1 : Int) = -1), if_pos ht2, if_neg (by omega), if_neg (by omega), if_neg (by omega), if_neg (by omega), if_neg (by omega), if_neg (by omega), if_pos h2']
      rw [psm_0] at hy
      omega
    · have h2' : w < 0 ∨ 7 ≤ w := by simp only [wr] at h2; omega
      unfold V_tally; rw [if_pos ht2, if_neg (by omega), if_neg (by omega), if_neg (by omega), if_neg (by omega), if_neg (by omega), if_neg (by omega), if_neg (by omega)]
  · unfold V_tally; rw [if_neg (by simp only [wr] at h1; omega)]
