/-! SPECS, part y: calls that answer alone (2). -/
def qn (g : ab_H) : SN := sn (ss g) (ss g 1089) (ss g 1090) (ss g 1080)
def rp (g : ab_H) (but vo k : Int) : RS := rep (ss g) (LL g (ss g)) (BB g (ss g)) but vo k
theorem Scr_qn {g g' r : ab_H} (h : Scr g g' r) : qn g' = qn g := by unfold qn; rw [h.2.2.2.2.1]
theorem Scr_rp {g g' r : ab_H} (h : Scr g g' r) (but vo k : Int) : rp g' but vo k = rp g but vo k := by
  unfold rp LL BB; rw [h.2.2.2.2.1, Scr_tt h]
theorem Scr_ss {g g' r : ab_H} (h : Scr g g' r) : ss g' = ss g := h.2.2.2.2.1
theorem Scr_163 {g g' r : ab_H} (h : Scr g g' r) : g' 163 = g 163 := h.2.1 163 (by omega) (by omega)
theorem Scr_LL {g g' r : ab_H} (h : Scr g g' r) : LL g' (ss g') = LL g (ss g) := by unfold LL; rw [h.2.2.2.2.1, Scr_tt h]
theorem rlook_no {q : RS} {a w : Int} (h : ¬ (0 ≤ w ∧ w ≤ 3)) : rlook q a w = -2147483648 := by
  unfold rlook
  rw [if_neg (by omega), if_neg (by omega), if_neg (by omega), if_neg (by omega)]
/-- the reference's answer -/
def MA (km : Nat) (am : List ab_V) (K : Int) (S : Nat) (g r : ab_H) (v : Int) : Prop := ab_RI km am K S g r (fun y g2 r2 => r2 = r ∧ Scr g g2 r ∧ v = y)
def V_account (g : ab_H) (a w : Int) : Int := if 0 ≤ a ∧ a < g 163 0 then rlook (rp g (-1) 120 (ss g 1080)) a w else -2147483648
theorem m_account {K : Int} {S : Nat} {g r : ab_H} {a w v : Int} (hr : SI r) (hK : 186 ≤ K) (R : Rel g r) (ha : I32 a) (hw : I32 w) (hv : v = V_account g a w) : MA m_M_account [(2, 161), (0, a), (0, w)] K S g r v := by
  unfold I32 at ha hw
  have G := R.2.2.2.1.1
  unfold MA
  apply v_M_account _ hr hK
  intro g1 hg1
  have f1 := Scr_t R hg1
  have R1 := Rel_scr R f1
  have t1 := R1.2.2.1.2.2.1
  have hv1 : v = V_account g1 a w := by rw [hv]; unfold V_account; rw [Scr_rp f1, Scr_ss f1, Scr_163 f1]
  have G1 := R1.2.2.2.1.1
  unfold V_account at hv1
  apply s_M_isAccount _ hr hK rfl (by omega) ha
  intro x hx
  refine ⟨rfl, rfl, And.intro (fun h2 => ⟨rfl, f1, ?_⟩) (fun h2 => ?_)⟩
  · rw [hv1, if_neg (by simp only [wr] at h2; omega)]
  · have ha2 : 0 ≤ a ∧ a < g1 163 0 := by simp only [wr] at h2; omega
    rw [if_pos ha2] at hv1
    apply s_M_isWhat _ hr hK hw
    intro y hy
    refine ⟨rfl, rfl, And.intro (fun h3 => ?_) (fun h3 => ⟨rfl, f1, ?_⟩)⟩
    · apply u_M_replaysAll _ hr hK R1
      intro g4 _ f4 hq
      refine ⟨rfl, ?_⟩
      apply s_M_has _ hr hK (by omega) (by simp only [wr] at h3; omega) hq (Rel_RB R1 ⟨G1.1.1, Int.le_refl _⟩)
      exact ⟨rfl, rfl, rfl, Scr_tr f1 f4, hv1⟩
    · rw [hv1, rlook_no (by simp only [wr] at h3; omega)]
theorem p_account {K : Int} {S : Nat} {g r : ab_H} {a w : Int} (hr : SI r) (hK : 186 ≤ K) (R : Rel g r) (ha : I32 a) (hw : I32 w) : PA m_EL_account [(2, 0), (0, a), (0, w)] m_M_account [(2, 161), (0, a), (0, w)] K S g r := by
  have t1 := R.2.2.1.2.2.1
  unfold PA
  apply v_EL_account _ hr hK
  apply s_EL_isAccount _ hr hK R ha
  intro x hx
  refine ⟨rfl, rfl, And.intro (fun h2 => ⟨rfl, Scr_rfl R, m_account hr hK R ha hw ?_⟩) (fun h2 => ?_)⟩
  · unfold V_account; rw [if_neg (by simp only [wr] at h2; omega)]
  · have ha2 : 0 ≤ a ∧ a < g 163 0 := by simp only [wr] at h2; omega
    apply s_St_look _ hr hK (Or.inl rfl) (by omega) hw R.2.2.2.1.2.2.2.2.2.1
    intro y hy
    refine ⟨rfl, rfl, rfl, Scr_rfl R, m_account hr hK R ha hw ?_⟩
    unfold V_account; rw [if_pos ha2]; exact hy
def V_at (g : ab_H) (t a w : Int) : Int := if (0 ≤ t ∧ t ≤ 9999) ∧ (0 ≤ a ∧ a < g 163 0) then rlook (rp g (-1) 120 (plc (ss g) t (ss g 1080))) a w else -2147483648
theorem m_at {K : Int} {S : Nat} {g r : ab_H} {t a w v : Int} (hr : SI r) (hK : 186 ≤ K) (R : Rel g r) (ht : I32 t) (ha : I32 a) (hw : I32 w) (hv : v = V_at g t a w) : MA m_M_at [(2, 161), (0, t), (0, a), (0, w)] K S g r v := by
  unfold I32 at ha hw ht
  unfold MA
  apply v_M_at _ hr hK
  intro g1 hg1
  have f1 := Scr_t R hg1
  have R1 := Rel_scr R f1
  have t1 := R1.2.2.1.2.2.1
  have hv1 : v = V_at g1 t a w := by rw [hv]; unfold V_at; rw [Scr_rp f1, Scr_ss f1, Scr_163 f1]
  have G1 := R1.2.2.2.1.1
  have hp := plc_in (s := ss g1) (t := t) G1.1.1
  unfold V_at at hv1
  apply s_M_isTime _ hr hK ht
  intro z hz
  refine ⟨rfl, rfl, And.intro (fun h1 => ⟨rfl, f1, ?_⟩) (fun h1 => ?_)⟩
  · rw [hv1, if_neg (by simp only [wr] at h1; omega)]
  apply s_M_isAccount _ hr hK rfl (by omega) ha
  intro x hx
  refine ⟨rfl, rfl, And.intro (fun h2 => ⟨rfl, f1, ?_⟩) (fun h2 => ?_)⟩
  · rw [hv1, if_neg (by simp only [wr] at h2; omega)]
  · have hh : (0 ≤ t ∧ t ≤ 9999) ∧ (0 ≤ a ∧ a < g1 163 0) := by simp only [wr] at h1 h2; omega
    rw [if_pos hh] at hv1
    apply s_M_isWhat _ hr hK hw
    intro y hy
    refine ⟨rfl, rfl, And.intro (fun h3 => ?_) (fun h3 => ⟨rfl, f1, ?_⟩)⟩
    · apply s_M_placeAt _ hr hK (Rel_EvS R1) (Rel_many R1) G1.1 G1.2.1 hh.1
      refine ⟨rfl, rfl, ?_⟩
      apply u_M_replays _ hr hK R1 hp (by omega) (by omega) (Or.inl rfl)
      intro g4 _ f4 hq _
      refine ⟨rfl, ?_⟩
      apply s_M_has _ hr hK (by omega) (by simp only [wr] at h3; omega) hq (Rel_RB R1 hp)
      exact ⟨rfl, rfl, rfl, Scr_tr f1 f4, hv1⟩
    · rw [hv1, rlook_no (by simp only [wr] at h3; omega)]
theorem p_at {K : Int} {S : Nat} {g r : ab_H} {t a w : Int} (hr : SI r) (hK : 186 ≤ K) (R : Rel g r) (ht : I32 t) (ha : I32 a) (hw : I32 w) : PA m_EL_at [(2, 0), (0, t), (0, a), (0, w)] m_M_at [(2, 161), (0, t), (0, a), (0, w)] K S g r := by
  have t1 := R.2.2.1.2.2.1
  have S1 := R.2.2.2.1
  have hp := plc_in (s := ss g) (t := t) S1.1.1.1
  have n1 := S1.1.1
  unfold PA
  apply v_EL_at _ hr hK
  apply s_EL_isTime _ hr hK ht
  intro z hz
  refine ⟨rfl, rfl, And.intro (fun h1 => ⟨rfl, Scr_rfl R, m_at hr hK R ht ha hw ?_⟩) (fun h1 => ?_)⟩
  · unfold V_at; rw [if_neg (by simp only [wr] at h1; omega)]
  apply s_EL_isAccount _ hr hK R ha
  intro x hx
  refine ⟨rfl, rfl, And.intro (fun h2 => ⟨Rel_Lg R, Rel_Lg R, ?_⟩) (fun h2 => ⟨rfl, Scr_rfl R, m_at hr hK R ht ha hw ?_⟩)⟩
  · have hh : (0 ≤ t ∧ t ≤ 9999) ∧ (0 ≤ a ∧ a < g 163 0) := by simp only [wr] at h1 h2; omega
    apply s_Lg_placeAt _ hr hK (Rel_Lg R) S1.2.1 S1.1.2.1 hh.1
    refine ⟨rfl, rfl, Rel_Lg R, ?_⟩
    rw [S1.2.1.1]
    apply u_guess _ hr hK R hp (by omega) (by omega)
    intro g7 f7 hq
    refine ⟨rfl, ?_⟩
    apply s_St_look _ hr hK (Or.inr rfl) (by omega) hw hq
    intro y hy
    refine ⟨rfl, rfl, rfl, f7, m_at hr hK (Rel_scr R f7) ht ha hw ?_⟩
    unfold V_at
    rw [Scr_rp f7, Scr_ss f7, Scr_163 f7, if_pos hh, hy, Rel_vo R hp (Int.le_refl _)]
    rfl
  · unfold V_at; rw [if_neg (by simp only [wr] at h2; omega)]
def V_known (g : ab_H) (t a w : Int) : Int := if (0 ≤ t ∧ t ≤ 9999) ∧ (0 ≤ a ∧ a < g 163 0) then rlook (rp g (-1) (plc (ss g) t (ss g 1080)) (plc (ss g) t (ss g 1080))) a w else -2147483648
theorem m_known {K : Int} {S : Nat} {g r : ab_H} {t a w v : Int} (hr : SI r) (hK : 186 ≤ K) (R : Rel g r) (ht : I32 t) (ha : I32 a) (hw : I32 w) (hv : v = V_known g t a w) : MA m_M_known [(2, 161), (0, t), (0, a), (0, w)] K S g r v := by
  unfold I32 at ha hw ht
  unfold MA
  apply v_M_known _ hr hK
  intro g1 hg1
  have f1 := Scr_t R hg1
  have R1 := Rel_scr R f1
  have t1 := R1.2.2.1.2.2.1
  have hv1 : v = V_known g1 t a w := by rw [hv]; unfold V_known; rw [Scr_rp f1, Scr_ss f1, Scr_163 f1]
  have G1 := R1.2.2.2.1.1
  have n1 := G1.1
  have hp := plc_in (s := ss g1) (t := t) G1.1.1
  unfold V_known at hv1
  apply s_M_isTime _ hr hK ht
  intro z hz
  refine ⟨rfl, rfl, And.intro (fun h1 => ⟨rfl, f1, ?_⟩) (fun h1 => ?_)⟩
  · rw [hv1, if_neg (by simp only [wr] at h1; omega)]
  apply s_M_isAccount _ hr hK rfl (by omega) ha
  intro x hx
  refine ⟨rfl, rfl, And.intro (fun h2 => ⟨rfl, f1, ?_⟩) (fun h2 => ?_)⟩
  · rw [hv1, if_neg (by simp only [wr] at h2; omega)]
  · have hh : (0 ≤ t ∧ t ≤ 9999) ∧ (0 ≤ a ∧ a < g1 163 0) := by simp only [wr] at h1 h2; omega
    rw [if_pos hh] at hv1
    apply s_M_isWhat _ hr hK hw
    intro y hy
    refine ⟨rfl, rfl, And.intro (fun h3 => ?_) (fun h3 => ⟨rfl, f1, ?_⟩)⟩
    · apply s_M_placeAt _ hr hK (Rel_EvS R1) (Rel_many R1) G1.1 G1.2.1 hh.1
      refine ⟨rfl, rfl, ?_⟩
      apply u_M_replays _ hr hK R1 hp (by omega) (by omega) (Or.inl rfl)
      intro g4 _ f4 hq _
      refine ⟨rfl, ?_⟩
      apply s_M_has _ hr hK (by omega) (by simp only [wr] at h3; omega) hq (Rel_RB R1 hp)
      exact ⟨rfl, rfl, rfl, Scr_tr f1 f4, hv1⟩
    · rw [hv1, rlook_no (by simp only [wr] at h3; omega)]
theorem p_known {K : Int} {S : Nat} {g r : ab_H} {t a w : Int} (hr : SI r) (hK : 186 ≤ K) (R : Rel g r) (ht : I32 t) (ha : I32 a) (hw : I32 w) : PA m_EL_known [(2, 0), (0, t), (0, a), (0, w)] m_M_known [(2, 161), (0, t), (0, a), (0, w)] K S g r := by
  have t1 := R.2.2.1.2.2.1
  have S1 := R.2.2.2.1
  have hp := plc_in (s := ss g) (t := t) S1.1.1.1
  have n1 := S1.1.1
  unfold PA
  apply v_EL_known _ hr hK
  apply s_EL_isTime _ hr hK ht
  intro z hz
  refine ⟨rfl, rfl, And.intro (fun h1 => ⟨rfl, Scr_rfl R, m_known hr hK R ht ha hw ?_⟩) (fun h1 => ?_)⟩
  · unfold V_known; rw [if_neg (by simp only [wr] at h1; omega)]
  apply s_EL_isAccount _ hr hK R ha
  intro x hx
  refine ⟨rfl, rfl, And.intro (fun h2 => ⟨Rel_Lg R, ?_⟩) (fun h2 => ⟨rfl, Scr_rfl R, m_known hr hK R ht ha hw ?_⟩)⟩
  · have hh : (0 ≤ t ∧ t ≤ 9999) ∧ (0 ≤ a ∧ a < g 163 0) := by simp only [wr] at h1 h2; omega
    apply s_Lg_placeAt _ hr hK (Rel_Lg R) S1.2.1 S1.1.2.1 hh.1
    refine ⟨rfl, rfl, Rel_Lg R, ?_⟩
    apply u_guess _ hr hK R hp (by omega) (by omega)
    intro g7 f7 hq
    refine ⟨rfl, ?_⟩
    apply s_St_look _ hr hK (Or.inr rfl) (by omega) hw hq
    intro y hy
    refine ⟨rfl, rfl, rfl, f7, m_known hr hK (Rel_scr R f7) ht ha hw ?_⟩
    unfold V_known
    rw [Scr_rp f7, Scr_ss f7, Scr_163 f7, if_pos hh, hy]
    rfl
  · unfold V_known; rw [if_neg (by simp only [wr] at h2; omega)]
def V_cost (g : ab_H) (p : Int) : Int := if 0 ≤ p ∧ p ≤ ss g 1080 then cst (ss g) (qn g) p else -1
theorem m_cost {K : Int} {S : Nat} {g r : ab_H} {p v : Int} (hr : SI r) (hK : 186 ≤ K) (R : Rel g r) (hp : I32 p) (hv : v = V_cost g p) : MA m_M_cost [(2, 161), (0, p)] K S g r v := by
  unfold I32 at hp
  unfold MA
  apply v_M_cost _ hr hK
  intro g1 hg1
  have f1 := Scr_t R hg1
  have R1 := Rel_scr R f1
  have hv1 : v = V_cost g1 p := by rw [hv]; unfold V_cost; rw [Scr_qn f1, Scr_ss f1]
  have G1 := R1.2.2.2.1.1
  have n1 := G1.1
  have k1 := G1.2.2.2.2.2.1
  unfold V_cost at hv1
  refine And.intro (fun h1 => ⟨rfl, f1, ?_⟩) (fun h1 => ?_)
  · rw [hv1, if_neg (by simp only [wr] at h1; omega)]
  apply s_M_many _ hr hK
  rw [Rel_many R1]
  refine ⟨rfl, rfl, And.intro (fun h2 => ⟨rfl, f1, ?_⟩) (fun h2 => ?_)⟩
  · rw [hv1, if_neg (by simp only [wr] at h2; omega)]
  · have hh : 0 ≤ p ∧ p ≤ ss g1 1080 := by simp only [wr] at h1 h2; omega
    rw [if_pos hh] at hv1
    apply s_M_costOf _ hr hK (Rel_EvS R1) G1.2.1 G1.1.2 (Rel_SnV R1) (Rel_SNok R1) (by omega) hh
    exact ⟨rfl, rfl, rfl, f1, hv1⟩
theorem p_cost {K : Int} {S : Nat} {g r : ab_H} {p : Int} (hr : SI r) (hK : 186 ≤ K) (R : Rel g r) (hp : I32 p) : PA m_EL_cost [(2, 0), (0, p)] m_M_cost [(2, 161), (0, p)] K S g r := by
  have hp' := hp
  unfold I32 at hp'
  have S1 := R.2.2.2.1
  have n1 := S1.1.1
  unfold PA
  apply v_EL_cost _ hr hK
  rw [S1.2.1.1]
  refine And.intro (fun h1 => ⟨rfl, Scr_rfl R, m_cost hr hK R hp ?_⟩) (fun h1 => ⟨Rel_Lg R, And.intro (fun h2 => ⟨rfl, Scr_rfl R, m_cost hr hK R hp ?_⟩) (fun h2 => ?_)⟩)
  · unfold V_cost; rw [if_neg (by simp only [wr] at h1; omega)]
  · unfold V_cost; rw [if_neg (by simp only [wr] at h2; omega)]
  · have hh : 0 ≤ p ∧ p ≤ ss g 1080 := by simp only [wr] at h1 h2; omega
    apply s_EL_costOf _ hr hK R hh
    refine ⟨rfl, rfl, rfl, Scr_rfl R, m_cost hr hK R hp ?_⟩
    unfold V_cost; rw [if_pos hh]; rfl
def V_costAt (g : ab_H) (t : Int) : Int := if 0 ≤ t ∧ t ≤ 9999 then cst (ss g) (qn g) (plc (ss g) t (ss g 1080)) else -1
theorem m_costAt {K : Int} {S : Nat} {g r : ab_H} {t v : Int} (hr : SI r) (hK : 186 ≤ K) (R : Rel g r) (ht : I32 t) (hv : v = V_costAt g t) : MA m_M_costAt [(2, 161), (0, t)] K S g r v := by
  unfold I32 at ht
  unfold MA
  apply v_M_costAt _ hr hK
  intro g1 hg1
  have f1 := Scr_t R hg1
  have R1 := Rel_scr R f1
  have hv1 : v = V_costAt g1 t := by rw [hv]; unfold V_costAt; rw [Scr_qn f1, Scr_ss f1]
  have G1 := R1.2.2.2.1.1
  have n1 := G1.1
  have k1 := G1.2.2.2.2.2.1
  have hp := plc_in (s := ss g1) (t := t) G1.1.1
  unfold V_costAt at hv1
  apply s_M_isTime _ hr hK ht
  intro z hz
  refine ⟨rfl, rfl, And.intro (fun h1 => ⟨rfl, f1, ?_⟩) (fun h1 => ?_)⟩
  · rw [hv1, if_neg (by simp only [wr] at h1; omega)]
  · have hh : 0 ≤ t ∧ t ≤ 9999 := by simp only [wr] at h1; omega
    rw [if_pos hh] at hv1
    apply s_M_placeAt _ hr hK (Rel_EvS R1) (Rel_many R1) G1.1 G1.2.1 hh
    refine ⟨rfl, rfl, ?_⟩
    apply s_M_costOf _ hr hK (Rel_EvS R1) G1.2.1 G1.1.2 (Rel_SnV R1) (Rel_SNok R1) (by omega) hp
    exact ⟨rfl, rfl, rfl, f1, hv1⟩
theorem p_costAt {K : Int} {S : Nat} {g r : ab_H} {t : Int} (hr : SI r) (hK : 186 ≤ K) (R : Rel g r) (ht : I32 t) : PA m_EL_costAt [(2, 0), (0, t)] m_M_costAt [(2, 161), (0, t)] K S g r := by
  have ht' := ht
  unfold I32 at ht'
  have S1 := R.2.2.2.1
  have hp := plc_in (s := ss g) (t := t) S1.1.1.1
  unfold PA
  apply v_EL_costAt _ hr hK
  apply s_EL_isTime _ hr hK ht
  intro z hz
  refine ⟨rfl, rfl, And.intro (fun h1 => ⟨rfl, Scr_rfl R, m_costAt hr hK R ht ?_⟩) (fun h1 => ⟨Rel_Lg R, ?_⟩)⟩
  · unfold V_costAt; rw [if_neg (by simp only [wr] at h1; omega)]
  · have hh : 0 ≤ t ∧ t ≤ 9999 := by simp only [wr] at h1; omega
    apply s_Lg_placeAt _ hr hK (Rel_Lg R) S1.2.1 S1.1.2.1 hh
    refine ⟨rfl, rfl, ?_⟩
    apply s_EL_costOf _ hr hK R hp
    refine ⟨rfl, rfl, rfl, Scr_rfl R, m_costAt hr hK R ht ?_⟩
    unfold V_costAt; rw [if_pos hh]; rfl
def V_snapshot (g : ab_H) (k : Int) : Int := if 0 ≤ k then (if k < (qn g).1 then (qn g).2 k else -2) else -1
theorem m_snapshot {K : Int} {S : Nat} {g r : ab_H} {k v : Int} (hr : SI r) (hK : 186 ≤ K) (R : Rel g r) (hk : I32 k) (hv : v = V_snapshot g k) : MA m_M_snapshot [(2, 161), (0, k)] K S g r v := by
  unfold I32 at hk
  unfold MA
  apply v_M_snapshot _ hr hK
  intro g1 hg1
  have f1 := Scr_t R hg1
  have R1 := Rel_scr R f1
  have hv1 : v = V_snapshot g1 k := by rw [hv]; unfold V_snapshot; rw [Scr_qn f1]
  have hq := Rel_SnV R1
  have hok := Rel_SNok R1
  have hz := hok.1
  have k1 := R1.2.2.2.1.1.2.2.2.2.2.1
  unfold V_snapshot qn at hv1
  rw [hq.1]
  refine And.intro (fun h1 => ⟨by omega, And.intro (fun h2 => ⟨rfl, f1, ?_⟩) (fun h2 => ?_)⟩) (fun h1 => ⟨rfl, f1, ?_⟩)
  · rw [hv1, if_pos (by simp only [wr] at h1; omega), if_neg (by simp only [wr] at h2; omega)]
  · have h1' : 0 ≤ k := by simp only [wr] at h1; omega
    have h2' : k < (sn (ss g1) (ss g1 1089) (ss g1 1090) (ss g1 1080)).1 := by simp only [wr] at h2; omega
    apply s_M_snapAt _ hr hK (by omega)
    rw [if_pos h1', hq.2 k h1' h2']
    refine ⟨rfl, rfl, rfl, f1, ?_⟩
    rw [hv1, if_pos h1', if_pos h2']
  · rw [hv1, if_neg (by simp only [wr] at h1; omega)]
theorem p_snapshot {K : Int} {S : Nat} {g r : ab_H} {k : Int} (hr : SI r) (hK : 186 ≤ K) (R : Rel g r) (hk : I32 k) : PA m_EL_snapshot [(2, 0), (0, k)] m_M_snapshot [(2, 161), (0, k)] K S g r := by
  have hk' := hk
  unfold I32 at hk'
  have S1 := R.2.2.2.1
  have hq : ShV g 57 (qn g) := S1.2.2.2.2.1
  have hok := Rel_SNok R
  have hz := hok.1
  have k1 := S1.1.2.2.2.2.2.1
  have hzq : 0 ≤ (qn g).1 ∧ (qn g).1 ≤ 6 := by show 0 ≤ (sn _ _ _ _).1 ∧ (sn _ _ _ _).1 ≤ 6; omega
  unfold PA
  apply v_EL_snapshot _ hr hK
  rw [hq.1]
  refine And.intro (fun h1 => And.intro (fun h2 => ⟨rfl, Scr_rfl R, m_snapshot hr hK R hk ?_⟩) (fun h2 => ⟨?_, rfl, Scr_rfl R, m_snapshot hr hK R hk ?_⟩)) (fun h1 => ⟨rfl, Scr_rfl R, m_snapshot hr hK R hk ?_⟩)
  · unfold V_snapshot; rw [if_pos (by simp only [wr] at h1; omega), if_neg (by simp only [wr] at h2; omega)]
  · simp only [wr] at h1 h2; omega
  · have h1' : 0 ≤ k := by simp only [wr] at h1; omega
    have h2' : k < (qn g).1 := by simp only [wr] at h2; omega
    unfold V_snapshot; rw [if_pos h1', if_pos h2']
    exact hq.2 k h1' h2'
  · unfold V_snapshot; rw [if_neg (by simp only [wr] at h1; omega)]
def V_inSnapshot (g : ab_H) (k a w : Int) : Int := if (0 ≤ k ∧ k < (qn g).1) ∧ (0 ≤ a ∧ a < g 163 0) then rlook (rp g (-1) 120 ((qn g).2 k)) a w else -2147483648
theorem m_inSnapshot {K : Int} {S : Nat} {g r : ab_H} {k a w v : Int} (hr : SI r) (hK : 186 ≤ K) (R : Rel g r) (hk : I32 k) (ha : I32 a) (hw : I32 w) (hv : v = V_inSnapshot g k a w) : MA m_M_inSnapshot [(2, 161), (0, k), (0, a), (0, w)] K S g r v := by
  unfold I32 at ha hw hk
  unfold MA
  apply v_M_inSnapshot _ hr hK
  intro g1 hg1
  have f1 := Scr_t R hg1
  have R1 := Rel_scr R f1
  have t1 := R1.2.2.1.2.2.1
  have hv1 : v = V_inSnapshot g1 k a w := by rw [hv]; unfold V_inSnapshot; rw [Scr_rp f1, Scr_qn f1, Scr_163 f1]
  have hq := Rel_SnV R1
  have hok := Rel_SNok R1
  have hz := hok.1
  have k1 := R1.2.2.2.1.1.2.2.2.2.2.1
  unfold V_inSnapshot qn at hv1
  rw [hq.1]
  refine And.intro (fun h1 => ⟨rfl, f1, ?_⟩) (fun h1 => ⟨by omega, And.intro (fun h2 => ⟨rfl, f1, ?_⟩) (fun h2 => ?_)⟩)
  · rw [hv1, if_neg (by simp only [wr] at h1; omega)]
  · rw [hv1, if_neg (by simp only [wr] at h2; omega)]
  apply s_M_isAccount _ hr hK rfl (by omega) ha
  intro x hx
  refine ⟨rfl, rfl, And.intro (fun h3 => ⟨rfl, f1, ?_⟩) (fun h3 => ?_)⟩
  · rw [hv1, if_neg (by simp only [wr] at h3; omega)]
  · have hh : (0 ≤ k ∧ k < (sn (ss g1) (ss g1 1089) (ss g1 1090) (ss g1 1080)).1) ∧ (0 ≤ a ∧ a < g1 163 0) := by simp only [wr] at h1 h2 h3; omega
    have hb := hok.2.1 k hh.1.1 hh.1.2
    rw [if_pos hh] at hv1
    apply s_M_isWhat _ hr hK hw
    intro y hy
    refine ⟨rfl, rfl, And.intro (fun h4 => ?_) (fun h4 => ⟨rfl, f1, ?_⟩)⟩
    · apply s_M_snapAt _ hr hK (by omega)
      rw [if_pos hh.1.1, hq.2 k hh.1.1 hh.1.2]
      refine ⟨rfl, rfl, ?_⟩
      apply u_M_replays _ hr hK R1 (by omega) (by omega) (by omega) (Or.inl rfl)
      intro g4 _ f4 hqq _
      refine ⟨rfl, ?_⟩
      apply s_M_has _ hr hK (by omega) (by simp only [wr] at h4; omega) hqq (Rel_RB R1 (by omega))
      exact ⟨rfl, rfl, rfl, Scr_tr f1 f4, hv1⟩
    · rw [hv1, rlook_no (by simp only [wr] at h4; omega)]
theorem p_inSnapshot {K : Int} {S : Nat} {g r : ab_H} {k a w : Int} (hr : SI r) (hK : 186 ≤ K) (R : Rel g r) (hk : I32 k) (ha : I32 a) (hw : I32 w) : PA m_EL_inSnapshot [(2, 0), (0, k), (0, a), (0, w)] m_M_inSnapshot [(2, 161), (0, k), (0, a), (0, w)] K S g r := by
  have hk' := hk
  unfold I32 at hk'
  have t1 := R.2.2.1.2.2.1
  have S1 := R.2.2.2.1
  have n1 := S1.1.1
  have hq : ShV g 57 (qn g) := S1.2.2.2.2.1
  have hok := Rel_SNok R
  have hz := hok.1
  have k1 := S1.1.2.2.2.2.2.1
  have hzq : 0 ≤ (qn g).1 ∧ (qn g).1 ≤ 6 := by show 0 ≤ (sn _ _ _ _).1 ∧ (sn _ _ _ _).1 ≤ 6; omega
  unfold PA
  apply v_EL_inSnapshot _ hr hK
  rw [hq.1]
  refine And.intro (fun h1 => ⟨rfl, Scr_rfl R, m_inSnapshot hr hK R hk ha hw ?_⟩) (fun h1 => And.intro (fun h2 => ⟨rfl, Scr_rfl R, m_inSnapshot hr hK R hk ha hw ?_⟩) (fun h2 => ?_))
  · unfold V_inSnapshot; rw [if_neg (by simp only [wr] at h1; omega)]
  · unfold V_inSnapshot; rw [if_neg (by simp only [wr] at h2; omega)]
  apply s_EL_isAccount _ hr hK R ha
  intro x hx
  have hk2 : 0 ≤ k ∧ k < (qn g).1 := by simp only [wr] at h1 h2; omega
  refine ⟨rfl, rfl, And.intro (fun h3 => ⟨Rel_Lg R, by omega, Rel_Lg R, ?_⟩) (fun h3 => ⟨rfl, Scr_rfl R, m_inSnapshot hr hK R hk ha hw ?_⟩)⟩
  · have hh : (0 ≤ k ∧ k < (qn g).1) ∧ (0 ≤ a ∧ a < g 163 0) := ⟨hk2, by simp only [wr] at h3; omega⟩
    have hb := hok.2.1 k hk2.1 hk2.2
    have hpl : g 58 k = (qn g).2 k := hq.2 k hk2.1 hk2.2
    have hb' : 1 ≤ (qn g).2 k ∧ (qn g).2 k ≤ ss g 1080 := hb
    rw [hpl, S1.2.1.1]
    apply u_guess _ hr hK R (by omega) (by omega) (by omega)
    intro g4 f4 hqq
    refine ⟨rfl, ?_⟩
    apply s_St_look _ hr hK (Or.inr rfl) (by omega) hw hqq
    intro y hy
    refine ⟨rfl, rfl, rfl, f4, m_inSnapshot hr hK (Rel_scr R f4) hk ha hw ?_⟩
    unfold V_inSnapshot
    rw [Scr_rp f4, Scr_qn f4, Scr_163 f4, if_pos hh, hy, Rel_vo R (by omega) (Int.le_refl _)]
    rfl
  · unfold V_inSnapshot; rw [if_neg (by simp only [wr] at h3; omega)]
