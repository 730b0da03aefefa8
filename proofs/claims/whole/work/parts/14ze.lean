/-! SPECS, part ze: count; of (reference). -/
/-- ACCOUNTS that aren't there have nothing -/
theorem rep_none {s : Int → Int} {L : Int → Int → Int} {B : Int → Int} {but vo n nA a : Int} (hE : EvOk s n) (hA : AcOk s n nA) (hn : 0 ≤ n) (ha : nA ≤ a) : (rep s L B but vo n).1 a = 0 ∧ (rep s L B but vo n).2.2.2.1 a = 0 := by
  have key : ∀ m : Nat, (m : Int) ≤ n → (repN s L B but vo m).1 a = 0 ∧ (repN s L B but vo m).2.2.2.1 a = 0 := by
    intro m
    induction m with
    | zero => intro _; exact ⟨rfl, rfl⟩
    | succ m ih =>
      intro hm
      have h1 := ih (by omega)
      have h2 := hA m (by omega) (by omega)
      have h0 := (hE m (by omega) (by omega)).1
      show (rstep s L B but vo (repN s L B but vo m) m).1 a = 0 ∧ (rstep s L B but vo (repN s L B but vo m) m).2.2.2.1 a = 0
      unfold rstep
      split
      · exact h1
      · rename_i h3
        have h7 : s (9 * (m : Int) + 0) ≠ 7 := fun hc => h3 (Or.inl hc)
        have h4 := h2.1 h7
        have hx : ∀ (f : Int → Int) (v : Int), fu f (s (9 * (m : Int) + 1)) v a = f a := fun f v => fu_n (by omega)
        split
        · have w : s (9 * (m : Int) + 0) = 0 ∨ s (9 * (m : Int) + 0) = 1 ∨ s (9 * (m : Int) + 0) = 2 ∨ s (9 * (m : Int) + 0) = 3 ∨ s (9 * (m : Int) + 0) = 4 ∨ s (9 * (m : Int) + 0) = 5 ∨ s (9 * (m : Int) + 0) = 6 := by omega
          unfold rapply rset
          rcases w with w | w | w | w | w | w | w
          all_goals rw [w]
          all_goals simp (config := {decide := true}) only [if_true, if_false]
          · exact ⟨by rw [hx]; exact h1.1, by rw [hx]; exact h1.2⟩
          · exact ⟨by rw [hx]; exact h1.1, h1.2⟩
          · exact ⟨by rw [hx]; exact h1.1, h1.2⟩
          · exact h1
          · exact h1
          · exact ⟨h1.1, by rw [hx]; exact h1.2⟩
          · have h5 := h2.2.1 w
            refine ⟨?_, h1.2⟩
            rw [fu_n (by omega), hx]
            exact h1.1
        · exact h1
  exact key n.toNat (by omega)
def V_count (g : ab_H) (w : Int) : Int :=
  if w = 0 then g 163 0 else if w = 1 then ss g 1080 else if w = 2 then g 163 1 else if w = 3 then (qn g).1 else if w = 4 then psm (asd (rp g (-1) 120 (ss g 1080)).2.2.2.2) (ss g 1080) else if w = 5 then psm (vdd (ss g)) (ss g 1080) else if w = 6 then (if 0 < ss g 1080 then ss g (9 * (ss g 1080 - 1) + 3) else -2) else if w = 7 then psm (rp g (-1) 120 (ss g 1080)).2.2.2.1 8 else if w = 8 then psm (wts (ss g)) (ss g 1080) else if w = 9 then g 161 30 else if w = 10 then g 161 2 else if w = 11 then ss g 1089 else if w = 12 then ss g 1090 else -1
theorem Scr_Vc {g g' r : ab_H} (h : Scr g g' r) (w : Int) : V_count g' w = V_count g w := by
  unfold V_count
  rw [Scr_qn h, Scr_rp h, Scr_ss h, Scr_163 h, h.2.2.2.2.2.1 30 (by omega) (by omega) (by omega) (by omega) (by omega) (by omega) (by omega), h.2.2.2.2.2.1 2 (by omega) (by omega) (by omega) (by omega) (by omega) (by omega) (by omega)]
theorem Vc_eq {g : ab_H} {w : Int} (k : Int) (h : w = k) : V_count g w = V_count g k := by rw [h]
theorem m_count {K : Int} {S : Nat} {g r : ab_H} {w v : Int} (hr : SI r) (hK : 186 ≤ K) (R : Rel g r) (hw : I32 w) (hv : v = V_count g w) : MA m_M_count [(2, 161), (0, w)] K S g r v := by
  unfold I32 at hw
  unfold MA
  apply v_M_count _ hr hK
  intro g1 hg1
  have f1 := Scr_t R hg1
  have R1 := Rel_scr R f1
  have hv1 : v = V_count g1 w := by rw [hv, Scr_Vc f1]
  have G1 := R1.2.2.2.1.1
  have n1 := G1.1
  have T1 := R1.2.2.1.2.2
  have q1 := (Rel_SnV R1).1
  have w' : wr w = w := wr_of hw.1 (by omega)
  rw [w']
  refine ⟨fun h2 => ?_, fun h2 => ?_, fun h2 => ?_, fun h2 => ⟨by omega, rfl, f1, ?_⟩, fun h2 => ?_, fun h2 => ?_, fun h2 => ?_, fun h2 => ?_, fun h2 => ?_, fun h2 => ⟨rfl, f1, ?_⟩, fun h2 => ⟨rfl, f1, ?_⟩, fun h2 => ⟨by omega, rfl, f1, ?_⟩, fun h2 => ⟨by omega, rfl, f1, ?_⟩, fun h2 => ⟨rfl, f1, ?_⟩⟩
  · subst h2
    apply s_M_accounts _ hr hK rfl
    exact ⟨rfl, rfl, rfl, f1, hv1⟩
  · subst h2
    apply s_M_many _ hr hK
    rw [Rel_many R1]
    exact ⟨rfl, rfl, rfl, f1, hv1⟩
  · subst h2
    apply s_M_tallies _ hr hK rfl
    exact ⟨rfl, rfl, rfl, f1, hv1⟩
  · subst h2
    rw [q1]; exact hv1
  · subst h2
    apply v_M_asideMany _ hr hK
    apply u_M_replaysAll _ hr hK R1
    intro g2 fm2 f2 hq2
    have R2 := Rel_scr R1 f2
    refine ⟨rfl, ?_⟩
    apply s_M_asidesNow (n := ss g1 1080) (q := rp g1 (-1) 120 (ss g1 1080)) _ hr hK (by rw [Rel_many R2, Scr_ss f2]) n1 (fun e a b => hq2.2 e a b) rep_cau
    exact ⟨rfl, rfl, rfl, rfl, Scr_tr f1 f2, hv1⟩
  · subst h2
    apply s_M_voidedMany _ hr hK (Rel_EvS R1) G1.2.1 (Rel_many R1) n1
    exact ⟨rfl, rfl, rfl, f1, hv1⟩
  · subst h2
    apply s_M_many _ hr hK
    rw [Rel_many R1]
    refine ⟨rfl, rfl, And.intro (fun h3 => ?_) (fun h3 => ⟨rfl, f1, ?_⟩)⟩
    · apply s_M_latestTime _ hr hK (Rel_EvS R1) (Rel_many R1) n1
      have h4 : 0 < ss g1 1080 := by simp only [wr] at h3; omega
      rw [if_pos h4]
      refine ⟨rfl, rfl, rfl, f1, ?_⟩
      rw [hv1]
      show (if 0 < ss g1 1080 then ss g1 (9 * (ss g1 1080 - 1) + 3) else -2) = _
      rw [if_pos h4]
    · rw [hv1]
      show (if 0 < ss g1 1080 then ss g1 (9 * (ss g1 1080 - 1) + 3) else -2) = _
      rw [if_neg (by simp only [wr] at h3; omega)]
  · subst h2
    apply v_M_openMany _ hr hK
    apply u_M_replaysAll _ hr hK R1
    intro g2 fm2 f2 hq2
    refine ⟨rfl, l_M_openMany (q := rp g1 (-1) 120 (ss g1 1080)) (nA := g1 163 0) (b := ss g1 1080) _ hr hK (by rw [Scr_163 f2]) T1.1.2 hq2 (Rel_RB R1 ⟨n1.1, Int.le_refl _⟩) (g1 163 0).toNat 0 0 (by omega) (by have := T1.1.2; omega) (fun y hy => ⟨rfl, rfl, Scr_tr f1 f2, ?_⟩)⟩
    rw [hv1]
    show psm (rp g1 (-1) 120 (ss g1 1080)).2.2.2.1 8 = _
    rw [psm_0] at hy
    have hz : psm (rp g1 (-1) 120 (ss g1 1080)).2.2.2.1 8 = psm (rp g1 (-1) 120 (ss g1 1080)).2.2.2.1 (g1 163 0) := psm_z T1.1.2.1 (fun a b c => (rep_none G1.2.1 G1.2.2.2.1 n1.1 b).2) T1.1.2.2
    omega
  · subst h2
    apply s_M_many _ hr hK
    rw [Rel_many R1]
    refine ⟨rfl, rfl, ?_⟩
    apply s_M_weights _ hr hK (Rel_EvS R1) G1.2.1 n1.2 (by omega) (Int.le_refl _)
    rw [psm_0, show psm (wts (ss g1)) (ss g1 1080) - 0 = psm (wts (ss g1)) (ss g1 1080) by omega]
    exact ⟨rfl, rfl, rfl, f1, hv1⟩
  · subst h2; exact hv1
  · subst h2; exact hv1
  · subst h2
    rw [← cn_in (x := g1 174) (by omega) (by omega)]; exact hv1
  · subst h2
    rw [← cn_in (x := g1 174) (by omega) (by omega)]; exact hv1
  · rw [hv1]
    unfold V_count
    rw [if_neg (by omega), if_neg (by omega), if_neg (by omega), if_neg (by omega), if_neg (by omega), if_neg (by omega), if_neg (by omega), if_neg (by omega), if_neg (by omega), if_neg (by omega), if_neg (by omega), if_neg (by omega), if_neg (by omega)]
theorem p_count {K : Int} {S : Nat} {g r : ab_H} {w : Int} (hr : SI r) (hK : 186 ≤ K) (R : Rel g r) (hw : I32 w) : PA m_EL_count [(2, 0), (0, w)] m_M_count [(2, 161), (0, w)] K S g r := by
  have hw' := hw
  unfold I32 at hw'
  have S1 := R.2.2.2.1
  have n1 := S1.1.1
  have T1 := R.2.2.1.2.2
  have P1 := R.2.1.1
  have U1 := R.2.2.2.2.1.1
  have w' : wr w = w := wr_of hw'.1 (by omega)
  unfold PA
  apply v_EL_count _ hr hK
  rw [w']
  refine ⟨fun h2 => ⟨Rel_Te R, rfl, Scr_rfl R, m_count hr hK R hw ?_⟩, fun h2 => ⟨Rel_Lg R, rfl, Scr_rfl R, m_count hr hK R hw ?_⟩, fun h2 => ⟨Rel_Te R, rfl, Scr_rfl R, m_count hr hK R hw ?_⟩, fun h2 => ⟨rfl, Scr_rfl R, m_count hr hK R hw ?_⟩, fun h2 => ⟨Rel_Lg R, ?_⟩, fun h2 => ⟨Rel_Lg R, ?_⟩, fun h2 => ⟨Rel_Lg R, ?_⟩, fun h2 => ?_, fun h2 => ⟨Rel_Lg R, Rel_Lg R, ?_⟩, fun h2 => ⟨rfl, Scr_rfl R, m_count hr hK R hw ?_⟩, fun h2 => ⟨rfl, Scr_rfl R, m_count hr hK R hw ?_⟩, fun h2 => ⟨rfl, Scr_rfl R, m_count hr hK R hw ?_⟩, fun h2 => ⟨rfl, Scr_rfl R, m_count hr hK R hw ?_⟩, fun h2 => ⟨rfl, Scr_rfl R, m_count hr hK R hw ?_⟩⟩
  · rw [Vc_eq 0 h2, T1.1.1]; rfl
  · rw [Vc_eq 1 h2, S1.2.1.1]; rfl
  · rw [Vc_eq 2 h2, T1.2.2.1.1]; rfl
  · rw [Vc_eq 3 h2, S1.2.2.2.2.1.1]; rfl
  · rw [S1.2.1.1]
    apply s_St_countAside _ hr hK (Or.inl rfl) (by omega) (Int.le_refl _) n1.2 (Rel_now R) rep_cau
    intro y hy
    refine ⟨rfl, rfl, rfl, Scr_rfl R, m_count hr hK R hw ?_⟩
    rw [Vc_eq 4 h2]
    rw [psm_0] at hy
    show y = psm (asd (rp g (-1) 120 (ss g 1080)).2.2.2.2) (ss g 1080)
    omega
  · apply s_Lg_countVoided _ hr hK (Rel_Lg R) S1.2.1 S1.1.2.1
    refine ⟨rfl, rfl, rfl, Scr_rfl R, m_count hr hK R hw ?_⟩
    rw [Vc_eq 5 h2]; rfl
  · apply s_Lg_latestTime _ hr hK (Rel_Lg R) S1.2.1
    refine ⟨rfl, rfl, rfl, Scr_rfl R, m_count hr hK R hw ?_⟩
    rw [Vc_eq 6 h2]; rfl
  · apply s_St_countOpen _ hr hK (Or.inl rfl) (Rel_now R)
    intro y hy
    refine ⟨rfl, rfl, rfl, Scr_rfl R, m_count hr hK R hw ?_⟩
    rw [Vc_eq 7 h2, hy]; rfl
  · rw [S1.2.1.1]
    apply s_Lg_weights _ hr hK (Rel_Lg R) S1.2.1 (by omega) (by omega)
    rw [psm_0, show psm (wts (ss g)) (ss g 1080) - 0 = psm (wts (ss g)) (ss g 1080) by omega]
    refine ⟨rfl, rfl, rfl, Scr_rfl R, m_count hr hK R hw ?_⟩
    rw [Vc_eq 8 h2]; rfl
  · rw [Vc_eq 9 h2, U1.1]; rfl
  · rw [Vc_eq 10 h2, P1.1]; rfl
  · rw [Vc_eq 11 h2, S1.2.2.2.1.1]; rfl
  · rw [Vc_eq 12 h2, S1.2.2.2.1.2]; rfl
  · unfold V_count
    rw [if_neg (by omega), if_neg (by omega), if_neg (by omega), if_neg (by omega), if_neg (by omega), if_neg (by omega), if_neg (by omega), if_neg (by omega), if_neg (by omega), if_neg (by omega), if_neg (by omega), if_neg (by omega), if_neg (by omega)]
