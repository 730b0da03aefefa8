/-! SPECS, part zzy: text, the reference's LINE of a LIFT. -/
theorem u_lift3 {K : Int} {S : Nat} {r : ab_H} {x : Mx} {d : Zd} {xx : Int × ZX} {u : Int} (P : ab_H → ab_H → Prop) (hr : SI r) (hK : 186 ≤ K) (hb : TxB x.b x.n) (hxe : xx = zf_x x.b x.n d) (hz : zsm x.n 0 (((((True ∧ (0 ≤ (zf_a x.b x.n d).1 ∧ (zf_a x.b x.n d).1 ≤ 6)) ∧ (1 ≤ (zf_e x.b x.n d).1 ∧ (zf_e x.b x.n d).1 ≤ 2)) ∧ d.T.1 (gix (zf_a x.b x.n d).1 (zf_e x.b x.n d).1) < 4) ∧ (8 ≤ (zf_o x.b x.n d).1 ∧ (zf_o x.b x.n d).1 ≤ 11)) ∧ (1 ≤ (zf_f x.b x.n d).1 ∧ (zf_f x.b x.n d).1 ≤ 3)) d xx.2) (hx0 : 0 ≤ xx.1 ∧ xx.1 ≤ 999) (hx11 : (zf_o x.b x.n d).1 = 11 → 1 ≤ xx.1 ∧ xx.1 ≤ 3) (h : ∀ g' : ab_H, MR x (zl_lift x.b x.n d) g' → P g' r) : ∀ g11 : ab_H, MR x xx.2 g11 → (((wr (g11 161 22) = wr 0 → ((0 : Int) ≤ 14 + (2 * (zf_a x.b x.n d).1) + (zf_e x.b x.n d).1 - 1 ∧ (14 + (2 * (zf_a x.b x.n d).1) + (zf_e x.b x.n d).1 - 1 : Int) < 28) ∧ ab_RI m_M_stepAt [(0, 1), (0, (zf_a x.b x.n d).1), (0, (zf_e x.b x.n d).1), (0, g11 168 (14 + (2 * (zf_a x.b x.n d).1) + (zf_e x.b x.n d).1 - 1))] K S g11 r (fun x13 g' r' => g' = g11 ∧ r' = r ∧ (((0 : Int) ≤ x13 ∧ (x13 : Int) < 112) ∧ ∀ g14, g14 = ab_up g11 169 x13 (zf_o x.b x.n d).1 → ((0 : Int) ≤ x13 ∧ (x13 : Int) < 112) ∧ ∀ g15, g15 = ab_up g14 170 x13 (zf_f x.b x.n d).1 → ((0 : Int) ≤ x13 ∧ (x13 : Int) < 112) ∧ ∀ g16, g16 = ab_up g15 171 x13 xx.1 → ((0 : Int) ≤ 14 + (2 * (zf_a x.b x.n d).1) + (zf_e x.b x.n d).1 - 1 ∧ (14 + (2 * (zf_a x.b x.n d).1) + (zf_e x.b x.n d).1 - 1 : Int) < 28) ∧ ((0 : Int) ≤ 14 + (2 * (zf_a x.b x.n d).1) + (zf_e x.b x.n d).1 - 1 ∧ (14 + (2 * (zf_a x.b x.n d).1) + (zf_e x.b x.n d).1 - 1 : Int) < 28) ∧ ∀ g17, g17 = ab_up g16 168 (14 + (2 * (zf_a x.b x.n d).1) + (zf_e x.b x.n d).1 - 1) (g16 168 (14 + (2 * (zf_a x.b x.n d).1) + (zf_e x.b x.n d).1 - 1) + 1) → P g17 r))) ∧ (¬ wr (g11 161 22) = wr 0 → P g11 r))) := by
  intro g11 k11
  refine And.symm (u_end k11 (fun f w e => h g11 ?_) (fun d5 e => ?_))
  · unfold zl_lift; rw [← hxe, e]; rw [e] at k11; exact k11
  · obtain ⟨⟨⟨⟨⟨⟨_, c1⟩, c2⟩, c3⟩, c4⟩, c5⟩, _, c7⟩ := hz d5 e
    have hT5 : d5.T = d.T := by rw [c7]
    rw [e] at k11
    have ei : 14 + (2 * (zf_a x.b x.n d).1) + (zf_e x.b x.n d).1 - 1 = 14 + gix (zf_a x.b x.n d).1 (zf_e x.b x.n d).1 := by unfold gix; omega
    have hi : 0 ≤ gix (zf_a x.b x.n d).1 (zf_e x.b x.n d).1 ∧ gix (zf_a x.b x.n d).1 (zf_e x.b x.n d).1 < 14 := by unfold gix; omega
    have hTi := (k11.1.2.2.2.1.2.2.2.2.1 _ hi.1 hi.2).1
    have h168 : g11 168 (14 + gix (zf_a x.b x.n d).1 (zf_e x.b x.n d).1) = d5.T.1 (gix (zf_a x.b x.n d).1 (zf_e x.b x.n d).1) := (k11.1.2.2.1.2.2.2.1 _ hi.1 hi.2).1
    have eK : 56 * 1 + (8 * (zf_a x.b x.n d).1) + (4 * ((zf_e x.b x.n d).1 - 1)) + d5.T.1 (gix (zf_a x.b x.n d).1 (zf_e x.b x.n d).1) = 56 + (4 * gix (zf_a x.b x.n d).1 (zf_e x.b x.n d).1 + d5.T.1 (gix (zf_a x.b x.n d).1 (zf_e x.b x.n d).1)) := by
      have : 4 * gix (zf_a x.b x.n d).1 (zf_e x.b x.n d).1 = 8 * (zf_a x.b x.n d).1 + 4 * ((zf_e x.b x.n d).1 - 1) := by unfold gix; omega
      omega
    have c3' : d5.T.1 (gix (zf_a x.b x.n d).1 (zf_e x.b x.n d).1) < 4 := by rw [hT5]; exact c3
    rw [ei]
    refine ⟨by omega, ?_⟩
    apply v_M_stepAt _ hr hK
    rw [h168, eK]
    refine ⟨rfl, rfl, by omega, fun g14 hg14 => ⟨by omega, fun g15 hg15 => ⟨by omega, fun g16 hg16 => ⟨by omega, by omega, fun g17 hg17 => h g17 ?_⟩⟩⟩⟩
    have h9 := u_addS k11 hi c3' c4 c5 hx0 hx11 rfl hg14 hg15 hg16
    rw [hg17]
    unfold zl_lift
    rw [← hxe, e]
    exact h9
theorem u_lift2 {K : Int} {S : Nat} {r : ab_H} {x : Mx} {d : Zd} (P : ab_H → ab_H → Prop) (hr : SI r) (hK : 186 ≤ K) (hb : TxB x.b x.n) (hz : zsm x.n 0 (((True ∧ (0 ≤ (zf_a x.b x.n d).1 ∧ (zf_a x.b x.n d).1 ≤ 6)) ∧ (1 ≤ (zf_e x.b x.n d).1 ∧ (zf_e x.b x.n d).1 ≤ 2)) ∧ d.T.1 (gix (zf_a x.b x.n d).1 (zf_e x.b x.n d).1) < 4) d (zf_4 x.b x.n d)) (h : ∀ g' : ab_H, MR x (zl_lift x.b x.n d) g' → P g' r) : ∀ g5 : ab_H, MR x (zf_4 x.b x.n d) g5 → ab_RI m_M_wordOf [(2, 161), (0, 8), (0, 11)] K S g5 r (fun x8 g7 r' => r' = r ∧ (ab_RI m_M_numeral [(2, 161), (0, 1), (0, 3)] K S g7 r (fun x10 g9 r' => r' = r ∧ (((¬ wr x8 = wr 11 → ab_RI m_M_numeral [(2, 161), (0, 0), (0, 999)] K S g9 r (fun x12 g11 r' => r' = r ∧ (((wr (g11 161 22) = wr 0 → ((0 : Int) ≤ 14 + (2 * (zf_a x.b x.n d).1) + (zf_e x.b x.n d).1 - 1 ∧ (14 + (2 * (zf_a x.b x.n d).1) + (zf_e x.b x.n d).1 - 1 : Int) < 28) ∧ ab_RI m_M_stepAt [(0, 1), (0, (zf_a x.b x.n d).1), (0, (zf_e x.b x.n d).1), (0, g11 168 (14 + (2 * (zf_a x.b x.n d).1) + (zf_e x.b x.n d).1 - 1))] K S g11 r (fun x13 g' r' => g' = g11 ∧ r' = r ∧ (((0 : Int) ≤ x13 ∧ (x13 : Int) < 112) ∧ ∀ g14, g14 = ab_up g11 169 x13 x8 → ((0 : Int) ≤ x13 ∧ (x13 : Int) < 112) ∧ ∀ g15, g15 = ab_up g14 170 x13 x10 → ((0 : Int) ≤ x13 ∧ (x13 : Int) < 112) ∧ ∀ g16, g16 = ab_up g15 171 x13 x12 → ((0 : Int) ≤ 14 + (2 * (zf_a x.b x.n d).1) + (zf_e x.b x.n d).1 - 1 ∧ (14 + (2 * (zf_a x.b x.n d).1) + (zf_e x.b x.n d).1 - 1 : Int) < 28) ∧ ((0 : Int) ≤ 14 + (2 * (zf_a x.b x.n d).1) + (zf_e x.b x.n d).1 - 1 ∧ (14 + (2 * (zf_a x.b x.n d).1) + (zf_e x.b x.n d).1 - 1 : Int) < 28) ∧ ∀ g17, g17 = ab_up g16 168 (14 + (2 * (zf_a x.b x.n d).1) + (zf_e x.b x.n d).1 - 1) (g16 168 (14 + (2 * (zf_a x.b x.n d).1) + (zf_e x.b x.n d).1 - 1) + 1) → P g17 r))) ∧ (¬ wr (g11 161 22) = wr 0 → P g11 r))))) ∧ (wr x8 = wr 11 → ab_RI m_M_numeral [(2, 161), (0, 1), (0, 3)] K S g9 r (fun x12 g11 r' => r' = r ∧ (((wr (g11 161 22) = wr 0 → ((0 : Int) ≤ 14 + (2 * (zf_a x.b x.n d).1) + (zf_e x.b x.n d).1 - 1 ∧ (14 + (2 * (zf_a x.b x.n d).1) + (zf_e x.b x.n d).1 - 1 : Int) < 28) ∧ ab_RI m_M_stepAt [(0, 1), (0, (zf_a x.b x.n d).1), (0, (zf_e x.b x.n d).1), (0, g11 168 (14 + (2 * (zf_a x.b x.n d).1) + (zf_e x.b x.n d).1 - 1))] K S g11 r (fun x13 g' r' => g' = g11 ∧ r' = r ∧ (((0 : Int) ≤ x13 ∧ (x13 : Int) < 112) ∧ ∀ g14, g14 = ab_up g11 169 x13 x8 → ((0 : Int) ≤ x13 ∧ (x13 : Int) < 112) ∧ ∀ g15, g15 = ab_up g14 170 x13 x10 → ((0 : Int) ≤ x13 ∧ (x13 : Int) < 112) ∧ ∀ g16, g16 = ab_up g15 171 x13 x12 → ((0 : Int) ≤ 14 + (2 * (zf_a x.b x.n d).1) + (zf_e x.b x.n d).1 - 1 ∧ (14 + (2 * (zf_a x.b x.n d).1) + (zf_e x.b x.n d).1 - 1 : Int) < 28) ∧ ((0 : Int) ≤ 14 + (2 * (zf_a x.b x.n d).1) + (zf_e x.b x.n d).1 - 1 ∧ (14 + (2 * (zf_a x.b x.n d).1) + (zf_e x.b x.n d).1 - 1 : Int) < 28) ∧ ∀ g17, g17 = ab_up g16 168 (14 + (2 * (zf_a x.b x.n d).1) + (zf_e x.b x.n d).1 - 1) (g16 168 (14 + (2 * (zf_a x.b x.n d).1) + (zf_e x.b x.n d).1 - 1) + 1) → P g17 r))) ∧ (¬ wr (g11 161 22) = wr 0 → P g11 r)))))))))) := by
  intro g5 k5
  apply u_word _ hr hK hb k5 (by omega) (by omega)
  intro g7 k7 f7
  refine ⟨rfl, ?_⟩
  have k7' : MR x (zf_o x.b x.n d).2 g7 := k7
  have z5 := zsm_word (l := 8) (u := 11) hb (Int.le_refl 0) hz
  have uo : 8 ≤ (zf_o x.b x.n d).1 ∧ (zf_o x.b x.n d).1 ≤ 11 := word_u (by omega)
  have eo : (zword x.b x.n (zf_4 x.b x.n d) 8 11).1 = (zf_o x.b x.n d).1 := rfl
  rw [eo]
  apply u_num _ hr hK hb k7' (by omega) (by omega)
  intro g9 k9 f9
  refine ⟨rfl, ?_⟩
  have k9' : MR x (zf_f x.b x.n d).2 g9 := k9
  have z6 := zsm_num (l := 1) (u := 3) hb (Int.le_refl 0) z5
  have ef : (znum x.b x.n (zf_o x.b x.n d).2 1 3).1 = (zf_f x.b x.n d).1 := rfl
  rw [ef]
  refine And.intro (fun e => ?_) (fun e => ?_)
  · have e11 : (zf_o x.b x.n d).1 ≠ 11 := fun hh => e (by rw [hh])
    have ex : zf_x x.b x.n d = znum x.b x.n (zf_f x.b x.n d).2 0 999 := if_neg e11
    apply u_num _ hr hK hb k9' (by omega) (by omega)
    intro g11 k11 f11
    exact ⟨rfl, u_lift3 (xx := znum x.b x.n (zf_f x.b x.n d).2 0 999) (u := 0) P hr hK hb ex.symm (zsm_mono (zsm_num (l := 0) (u := 999) hb (Int.le_refl 0) z6) (fun q => q.1)) (num_u (by omega)) (fun q => absurd q e11) h g11 k11⟩
  · have e11 : (zf_o x.b x.n d).1 = 11 := by simp only [wr] at e; omega
    have ex : zf_x x.b x.n d = znum x.b x.n (zf_f x.b x.n d).2 1 3 := if_pos e11
    apply u_num _ hr hK hb k9' (by omega) (by omega)
    intro g11 k11 f11
    have u3 := num_u (b := x.b) (n := x.n) (X := (zf_f x.b x.n d).2) (l := 1) (u := 3) (by omega)
    exact ⟨rfl, u_lift3 (xx := znum x.b x.n (zf_f x.b x.n d).2 1 3) (u := 0) P hr hK hb ex.symm (zsm_mono (zsm_num (l := 1) (u := 3) hb (Int.le_refl 0) z6) (fun q => q.1)) (by omega) (fun _ => u3) h g11 k11⟩
theorem u_readLift {K : Int} {S : Nat} {g r : ab_H} {x : Mx} {d : Zd} (P : ab_H → ab_H → Prop) (hr : SI r) (hK : 186 ≤ K) (hb : TxB x.b x.n) (hx : MR x (.ok d) g) (h : ∀ g' : ab_H, MR x (zl_lift x.b x.n d) g' → P g' r) : ab_RV m_M_readLift [(2, 161)] K S g r P := by
  have hp := hx.2.2.1
  apply v_M_readLift _ hr hK
  apply u_goOn _ hr hK hb hx
  intro g1 k1 f1
  refine ⟨rfl, ?_⟩
  have z0 : zsm x.n 0 True d (.ok d) := fun d' e => by cases e; exact ⟨trivial, hp, rfl⟩
  have z1 := zsm_adv hb (Int.le_refl 0) z0
  apply u_word _ hr hK hb k1 (by omega) (by omega)
  intro g3 k3 f3
  refine ⟨rfl, ?_⟩
  have z2 := zsm_word (l := 0) (u := 6) hb (Int.le_refl 0) z1
  have k3' : MR x (zf_a x.b x.n d).2 g3 := k3
  have ua : 0 ≤ (zf_a x.b x.n d).1 ∧ (zf_a x.b x.n d).1 ≤ 6 := word_u (by omega)
  have ea : (zword x.b x.n (zadv x.b x.n (.ok d)) 0 6).1 = (zf_a x.b x.n d).1 := rfl
  rw [ea]
  apply u_num _ hr hK hb k3' (by omega) (by omega)
  intro g5 k5 f5
  refine ⟨rfl, ?_⟩
  have z3 := zsm_num (l := 1) (u := 2) hb (Int.le_refl 0) z2
  have k5' : MR x (zf_e x.b x.n d).2 g5 := k5
  have ue : 1 ≤ (zf_e x.b x.n d).1 ∧ (zf_e x.b x.n d).1 ≤ 2 := num_u (by omega)
  have ee : (znum x.b x.n (zf_a x.b x.n d).2 1 2).1 = (zf_e x.b x.n d).1 := rfl
  rw [ee]
  have z4 : zsm x.n 0 (((True ∧ (0 ≤ (zf_a x.b x.n d).1 ∧ (zf_a x.b x.n d).1 ≤ 6)) ∧ (1 ≤ (zf_e x.b x.n d).1 ∧ (zf_e x.b x.n d).1 ≤ 2)) ∧ d.T.1 (gix (zf_a x.b x.n d).1 (zf_e x.b x.n d).1) < 4) d (zf_4 x.b x.n d) := zsm_ck2 z3 (fun p e => of_decide_eq_true e)
  have key := u_lift2 (S := S) P hr hK hb z4 h
  refine u_end k5' (fun f w e => key g5 ?_) (fun d4 e => ?_)
  · unfold zf_4; rw [e]; rw [e] at k5'; exact k5'
  · have hi : 0 ≤ gix (zf_a x.b x.n d).1 (zf_e x.b x.n d).1 ∧ gix (zf_a x.b x.n d).1 (zf_e x.b x.n d).1 < 14 := by unfold gix; omega
    have ei : 14 + (2 * (zf_a x.b x.n d).1) + (zf_e x.b x.n d).1 - 1 = 14 + gix (zf_a x.b x.n d).1 (zf_e x.b x.n d).1 := by unfold gix; omega
    have k6 : MR x (.ok d4) g5 := by rw [← e]; exact k5'
    have hTi := (k6.1.2.2.2.1.2.2.2.2.1 _ hi.1 hi.2).1
    have h168 : g5 168 (14 + gix (zf_a x.b x.n d).1 (zf_e x.b x.n d).1) = d4.T.1 (gix (zf_a x.b x.n d).1 (zf_e x.b x.n d).1) := (k6.1.2.2.1.2.2.2.1 _ hi.1 hi.2).1
    refine ⟨by omega, ?_⟩
    rw [ei, h168]
    refine And.intro (fun e2 => ?_) (fun e2 g43 hg43 g44 hg44 => ?_)
    · rw [← ei]
      refine key g5 ?_
      unfold zf_4
      rw [e]
      show MR x (if decide (d4.T.1 (gix (zf_a x.b x.n d).1 (zf_e x.b x.n d).1) < 4) = true then Except.ok d4 else _) g5
      rw [if_pos (decide_eq_true (by
        refine Classical.byContradiction (fun q => e2 ?_)
        have : d4.T.1 (gix (zf_a x.b x.n d).1 (zf_e x.b x.n d).1) = 4 := by omega
        rw [this]))]
      exact k6
    · rw [← ei]
      refine key g44 ?_
      unfold zf_4
      rw [e]
      show MR x (if decide (d4.T.1 (gix (zf_a x.b x.n d).1 (zf_e x.b x.n d).1) < 4) = true then Except.ok d4 else ZX.bad 2 (zpl (zf_a x.b x.n d).2)) g44
      rw [if_neg (fun q => by have := of_decide_eq_true q; simp only [wr] at e2; omega)]
      have hpl : g3 161 19 = zpl (zf_a x.b x.n d).2 := by
        obtain ⟨d3, e3⟩ := ok_num e
        rw [e3] at k3' ⊢
        exact k3'.2.2.2.1
      refine ⟨⟨d4, MB_k k6.1 (fun c a => by rw [hg44, up_f a, hg43, up_f a]) (fun j a => by rw [hg44, up_k (by omega), hg43, up_k (by omega)]) (by rw [hg44, up_k (by omega), hg43, up_k (by omega)]; exact k6.1.2.1)⟩, by rw [hg44, up_k (by omega), hg43, up_s], by rw [hg44, up_s]; exact hpl, by omega⟩
