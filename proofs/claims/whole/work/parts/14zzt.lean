/-! SPECS, part zzt: text, the class reads a whole TEXT. -/
def zres (Y : Int × ZX) : Int := match Y.2 with
  | .error (_, _) => -1
  | .ok _ => Y.1
theorem l_Pa_parse {K : Int} {S : Nat} (P : Int → ab_H → ab_H → Prop) (hK : 186 ≤ K) (hK2 : 187 ≤ K) : ∀ (m : Nat) (l : Int) (c : Cx) (X : ZX) (g r : ab_H), SI r → CxOk c → CR c X g r → l + m = c.n → 0 ≤ l → (∀ G g' r' : ab_H, (∀ x : Int, x ≠ 3 → G x = c.g0 x) → SI r' → CR (c3 c G) (zloop c.b c.n m X l).2 g' r' → P (zres (zloop c.b c.n m X l)) g' r') → ab_Rn m_Pa_parse 31 [some (2, 2), none, some (0, c.n), none, none, some (0, l)] [] (K, S, g, r) (ab_Qi K S P) := by
  intro m
  induction m with
  | zero =>
    intro l c X g r hr hc hx hm hl h
    have hn := hc.1.1
    have h2 := h c.g0 g r (fun _ _ => rfl) hr hx
    apply v_Pa_parse_31 _ hr hK
    refine And.intro (fun _ => t_end hx (fun f w e => ?_) (fun d e => ?_)) (fun e => absurd e (by simp only [wr]; omega))
    · rw [e] at h2; exact h2
    · rw [e] at h2; exact h2
  | succ m ih =>
    intro l c X g r hr hc hx hm hl h
    have hn := hc.1.1
    apply v_Pa_parse_31 _ hr hK
    refine And.intro (fun e => absurd e (by simp only [wr]; omega)) (fun _ => ?_)
    cases X with
    | error q =>
      obtain ⟨f, w⟩ := q
      have h2 := h c.g0 g r (fun _ _ => rfl) hr hx
      have hf := CR_f0 hx
      have n0 : ¬ wr (g 2 6) = wr 0 := fun e => by obtain ⟨d, e2⟩ := hf.1 e; cases e2
      exact ⟨fun _ => ⟨fun _ => h2, fun e => absurd e n0⟩, fun e => absurd e n0⟩
    | ok d =>
      have hf := CR_f0 hx
      have y0 : wr (g 2 6) = wr 0 := by
        refine Classical.byContradiction (fun e => ?_)
        obtain ⟨f, w, e2⟩ := hf.2 e
        cases e2
      have hkb := (tk_b hc.1 (hp_of hx)).2.2.1
      have h43 := TokC_k hc.1 (hp_of hx) hx.2.2.2.2
      refine And.intro (fun e => absurd y0 e) (fun _ => ?_)
      rw [h43]
      refine And.intro (fun e => ?_) (fun e => ?_)
      · have e4 : tki c.b c.n d.p = 4 := (cK_eq hkb (j := 4) (by omega)).mp e
        have h2 := h c.g0 g r (fun _ _ => rfl) hr
        have ez : zloop c.b c.n (m + 1) (.ok d) l = (l, .ok d) := if_pos e4
        rw [ez] at h2
        exact ⟨fun e => absurd y0 e, fun _ => h2 hx⟩
      · have e4 : tki c.b c.n d.p ≠ 4 := fun hh => e ((cK_eq hkb (j := 4) (by omega)).mpr hh)
        have ez : zloop c.b c.n (m + 1) (.ok d) l = zloop c.b c.n m (zline c.b c.n d) (l + 1) := if_neg e4
        rw [ez] at h
        apply q_stands (k := 0) _ hr hK hc hx (by omega) rfl
        · intro d' e0 hk
          cases e0
          refine ⟨rfl, And.intro (fun e => absurd e (by decide)) (fun _ => ⟨CR_wd hx, ?_⟩)⟩
          apply q_readLine _ hr hK hK2 hc hx hk
          intro G g4 r5 hG s5 h4
          refine ⟨s5, ih (l + 1) (c3 c G) (zline c.b c.n d) g4 r5 s5 (CxOk_3 hc) h4 (by show l + 1 + (m : Int) = c.n; omega) (by omega) ?_⟩
          intro G2 g' r' hG2 s' h'
          exact h G2 g' r' (fun x hx => by rw [hG2 x hx]; exact hG x hx) s' h'
        · intro g' h1 _
          refine ⟨rfl, And.intro (fun _ => ?_) (fun e => absurd rfl e)⟩
          obtain ⟨nk, hb⟩ := h1 d rfl
          have el : zline c.b c.n d = ZX.bad 1 d.p := by
            unfold zline zbody
            rw [if_pos (Or.inl nk)]
            rfl
          rw [el] at h
          exact ih (l + 1) c (ZX.bad 1 d.p) g' r hr hc hb (by omega) (by omega) h
/-- Terms anew -/
theorem l_Te_clear {K : Int} {S : Nat} {r : ab_H} {o : Int} (P : ab_H → ab_H → Prop) (hr : SI r) (hK : 186 ≤ K) (ho : isTe o) : ∀ (m : Nat) (i : Int) (g : ab_H), 0 ≤ i → i + m = 14 → (∀ j : Int, 0 ≤ j → j < i → g (o + 5) j = 0) → (∀ g' : ab_H, (∀ x j : Int, x ≠ o → x ≠ o + 5 → g' x j = g x j) → (∀ j : Int, j < 10 → g' o j = g o j) → (g' o 10 = 20 ∧ g' o 11 = 3 ∧ g' o 12 = 0) → (∀ j : Int, 0 ≤ j → j < 14 → g' (o + 5) j = 0) → P g' r) → ab_Rn m_Te_clear 8 [some (2, o), some (0, i)] [] (K, S, g, r) (ab_Qv K S P) := by
  intro m
  induction m with
  | zero =>
    intro i g h0 hi h5 h
    apply v_Te_clear_8 _ hr hK ho
    refine And.intro (fun _ g1 hg1 g2 hg2 g3 hg3 => ?_) (fun e => absurd e (by simp only [wr]; omega))
    have f : ∀ x : Int, x ≠ o → g3 x = g x := fun x hx => by rw [hg3, up_f hx, hg2, up_f hx, hg1, up_f hx]
    refine h g3 (fun x j a b => by rw [f x a]) (fun j a => by rw [hg3, up_k (by omega), hg2, up_k (by omega), hg1, up_k (by omega)]) ⟨by rw [hg3, up_k (by omega), hg2, up_k (by omega), hg1, up_s], by rw [hg3, up_k (by omega), hg2, up_s], by rw [hg3, up_s]⟩ (fun j a b => by rw [f _ (by omega)]; exact h5 j a (by omega))
  | succ m ih =>
    intro i g h0 hi h5 h
    apply v_Te_clear_8 _ hr hK ho
    refine And.intro (fun e => absurd e (by simp only [wr]; omega)) (fun _ => ⟨by omega, fun g4 hg4 => ?_⟩)
    have f : ∀ x j : Int, x ≠ o + 5 → g4 x j = g x j := fun x j hx => by rw [hg4, up_a hx]
    refine ih (i + 1) g4 (by omega) (by omega) (fun j a b => ?_) (fun g' k1 k2 k3 k4 => h g' (fun x j a b => by rw [k1 x j a b, f x j b]) (fun j a => by rw [k2 j a, f _ _ (by omega)]) k3 k4)
    rw [hg4]
    by_cases e : j = i
    · rw [e, up_s]
    · rw [up_k e]; exact h5 j a (by omega)
theorem s_Te_clear {K : Int} {S : Nat} {g r : ab_H} {o : Int} (P : ab_H → ab_H → Prop) (hr : SI r) (hK : 186 ≤ K) (ho : isTe o) (h : ∀ g' : ab_H, (∀ x j : Int, x ≠ o → x ≠ o + 5 → g' x j = g x j) → (g' o 1 = 0 ∧ g' o 5 = 0) → (g' o 10 = 20 ∧ g' o 11 = 3 ∧ g' o 12 = 0) → (∀ j : Int, 0 ≤ j → j < 14 → g' (o + 5) j = 0) → P g' r) : ab_RV m_Te_clear [(2, o)] K S g r P := by
  apply v_Te_clear _ hr hK ho
  intro g1 hg1 g2 hg2
  refine l_Te_clear P hr hK ho 14 0 g2 (by omega) (by omega) (fun j a b => absurd b (by omega)) (fun g' k1 k2 k3 k4 => h g' (fun x j a b => by rw [k1 x j a b, hg2, up_a a, hg1, up_a a]) ⟨?_, ?_⟩ k3 k4)
  · rw [k2 1 (by omega), hg2, up_k (by omega), hg1, up_s]
  · rw [k2 5 (by omega), hg2, up_s]
noncomputable def zend (b : Int → Int) (n : Int) : Int × ZX := zloop b n n.toNat (.ok (zd0 (scan fB b n n.toNat 0))) 0
theorem Inv_0 {p : Int} : Inv (zd0 p) := by
  refine ⟨⟨Int.le_refl _, by show (0 : Int) ≤ 8; omega⟩, fun i a b => absurd b (by show ¬ i < 0; omega), ⟨Int.le_refl _, by show (0 : Int) ≤ 4; omega⟩, fun i a b => absurd b (by show ¬ i < 0; omega), fun i a b => ⟨⟨Int.le_refl _, by show (0 : Int) ≤ 4; omega⟩, fun k p q => absurd q (by show ¬ k < 0; omega)⟩, ⟨⟨by show (1 : Int) ≤ 20; omega, by show (20 : Int) ≤ 999; omega⟩, ⟨by show (0 : Int) ≤ 3; omega, by show (3 : Int) ≤ 6; omega⟩, ⟨Int.le_refl _, by show (0 : Int) ≤ 99999; omega⟩⟩, ⟨Or.inl rfl, Or.inl rfl⟩, ⟨Int.le_refl _, by show (0 : Int) ≤ 50; omega⟩, fun m hm => absurd hm (by show ¬ ((m : Int) < 0); omega)⟩
theorem q_parse {K : Int} {S : Nat} {b : Int → Int} {n o lo : Int} {g r : ab_H} (P : Int → ab_H → ab_H → Prop) (hr : SI r) (hK : 186 ≤ K) (hK2 : 187 ≤ K) (hc : CxOk (Cx.mk b n o lo g r)) (hb : ∀ i : Int, 0 ≤ i → i < n → g 1 i = sg (b i)) (hw : isWd (r 4 5)) (hw0 : g (lo + 10) 0 = 0) (h : ∀ G g' r' : ab_H, (∀ x : Int, x ≠ 3 → G x = g x) → SI r' → CR (Cx.mk b n o lo G r) (zend b n).2 g' r' → P (zres (zend b n)) g' r') : ab_RI m_Pa_parse [(2, 2), (2, 1), (0, n), (2, o), (2, lo)] K S g r P := by
  have hn := hc.1.1
  have ho := hc.2.1
  have hl := hc.2.2
  have ho2 : isTe o := hc.2.1
  have hlg : isLg lo := CxOk_lg hc
  have hl2 : lo = 23 ∨ lo = 34 := hc.2.2
  have hn2 : 0 ≤ n ∧ n ≤ 900 := hc.1.1
  unfold isTe at ho
  have ho3 : o = 5 ∨ o = 14 := ho
  have ht1 : ab_AR K 1 101 900 := ⟨rfl, by omega, by omega⟩
  apply v_Pa_parse _ hr hK ht1 ho2 hlg
  intro r1 hr1
  have e1 : r1 2 2 = o := by rw [hr1, up_s]
  have s1 : SI r1 := by rw [hr1]; exact SI_up hr (by decide)
  rw [e1]
  refine ⟨ho2, ?_⟩
  apply s_Te_clear _ s1 hK ho2
  intro g4 a1 a2 a3 a4
  refine ⟨rfl, fun r6 hr6 => ?_⟩
  have e6 : r6 2 3 = lo := by rw [hr6, up_s]
  have e62 : r6 2 2 = o := by rw [hr6, up_k (by omega)]; exact e1
  have s6 : SI r6 := by rw [hr6]; exact SI_up s1 (by decide)
  rw [e6]
  refine ⟨hlg, ?_⟩
  apply s_Lg_clear _ s6 hK hlg
  intro g9 hg9
  refine ⟨rfl, fun g11 hg11 g12 hg12 g13 hg13 g14 hg14 => ?_⟩
  have f14 : ∀ x j : Int, x ≠ 2 → x ≠ o → x ≠ o + 5 → x ≠ lo ∨ j ≠ 10 → g14 x j = g x j := by
    intro x j p q s t
    rw [hg14, up_a p, hg13, up_a p, hg12, up_a p, hg11, up_a p, hg9, up_n (by omega), a1 x j q s]
  have f14o : ∀ x j : Int, x ≠ 2 → x ≠ lo → g14 x j = g4 x j := by
    intro x j p t
    rw [hg14, up_a p, hg13, up_a p, hg12, up_a p, hg11, up_a p, hg9, up_a t]
  apply v_To_begin _ s6 hK ht1
  intro r7 hr7 b1 hb1 b2 hb2
  have s7 : SI r7 := by rw [hr7]; exact SI_up s6 (by decide)
  have h40 : r7 4 0 = 1 := by rw [hr7, up_s]
  have em : ab_min n 900 = n := if_neg (by simp only [wr]; omega)
  rw [em] at hb1
  have fb : ∀ x j : Int, x ≠ 4 ∨ (j ≠ 1 ∧ j ≠ 2) → b2 x j = g14 x j := by
    intro x j p
    rw [hb2, up_n (by omega), hb1, up_n (by omega)]
  have tb : TcV b2 b n := ⟨by rw [hb2, up_k (by omega), hb1, up_s], fun i p q => by rw [fb 1 i (by omega), f14 1 i (by omega) (by omega) (by omega) (by omega)]; exact hb i p q⟩
  apply s_To_advance (n := n) (b := b) (q := 0) _ s7 hK h40 hc.1 tb (by omega) (by rw [hb2, up_s])
  intro g15 r16 s16 k15 t15 hr16
  have er16 : ∀ x j : Int, ¬ (x = 4 ∧ j = 5) → r16 x j = r7 x j := by
    intro x j a
    rcases hr16 with e | ⟨k, _, e⟩
    · rw [e]
    · rw [e, up_n a]
  have s0 := scan_in (f := fB) (b := b) (n := n) (n - 0).toNat 0
  have hp0 : 0 ≤ scan fB b n (n - 0).toNat 0 ∧ scan fB b n (n - 0).toNat 0 ≤ n := by omega
  have tq0 := tk_b (b := b) (n := n) hc.1 hp0
  have f15 : ∀ x j : Int, x ≠ 2 → x ≠ 4 → x ≠ o → x ≠ o + 5 → x ≠ lo ∨ j ≠ 10 → g15 x j = g x j := by
    intro x j p q s t u
    rw [k15.1 x q, fb x j (by omega), f14 x j p s t u]
  have f15o : ∀ x j : Int, x ≠ 2 → x ≠ 4 → x ≠ lo → g15 x j = g4 x j := by
    intro x j p q t
    rw [k15.1 x q, fb x j (by omega), f14o x j p t]
  have f2 : ∀ j : Int, g15 2 j = g14 2 j := fun j => by rw [k15.1 2 (by omega), fb 2 j (by omega)]
  have hcr : CR (Cx.mk b n o lo g r) (.ok (zd0 (scan fB b n n.toNat 0))) g15 r16 := by
    have en : (n - 0).toNat = n.toNat := by omega
    rw [en] at t15 hp0 tq0
    refine ⟨⟨TcV_k tb k15, ?_, ?_, s16, ⟨?_, ?_⟩, ⟨?_, ?_, ?_, ?_, ?_, ?_, ?_, ?_⟩, Inv_0, ?_, ?_⟩, ?_, ?_, hp0, t15⟩
    · rw [t15.2.1]; show 0 ≤ tq b n (scan fB b n n.toNat 0) ∧ tq b n (scan fB b n n.toNat 0) ≤ n; have := tq0.1; omega
    · rcases hr16 with e | ⟨k, hk, e⟩
      · rw [e, hr7, up_k (by omega), hr6, up_f (by omega), hr1, up_f (by omega)]; exact hw
      · rw [e, up_s]; unfold isWd; omega
    · rw [er16 _ _ (by omega), hr7, up_f (by omega)]; exact e62
    · rw [er16 _ _ (by omega), hr7, up_f (by omega)]; exact e6
    · intro i p q
      refine ⟨?_, fun k x y => absurd y (by show ¬ k < 0; omega)⟩
      show g15 (o + 5) i = 0
      rw [f15o _ _ (by omega) (by omega) (by omega)]; exact a4 i p q
    · show g15 o 1 = 0
      rw [f15o _ _ (by omega) (by omega) (by omega)]; exact a2.1
    · exact fun i p q => absurd q (by show ¬ i < 0; omega)
    · show g15 o 5 = 0
      rw [f15o _ _ (by omega) (by omega) (by omega)]; exact a2.2
    · exact fun i p q => absurd q (by show ¬ i < 0; omega)
    · show g15 o 10 = 20 ∧ g15 o 11 = 3 ∧ g15 o 12 = 0
      rw [f15o _ 10 (by omega) (by omega) (by omega), f15o _ 11 (by omega) (by omega) (by omega), f15o _ 12 (by omega) (by omega) (by omega)]; exact a3
    · show g15 2 4 = 0 ∧ g15 2 5 = 0
      rw [f2, f2, hg14, up_k (by omega), up_k (by omega), hg13, up_k (by omega), up_k (by omega), hg12, up_k (by omega), up_s, hg11, up_s]
      exact ⟨rfl, rfl⟩
    · refine ⟨?_, ⟨Int.le_refl _, by show (0 : Int) ≤ 120; omega⟩, fun e p q => absurd q (by show ¬ e < 0; omega), fun p q s => ?_⟩
      · show g15 lo 10 = 0
        rw [k15.1 lo (by omega), fb lo 10 (by omega), hg14, up_a (by omega), hg13, up_a (by omega), hg12, up_a (by omega), hg11, up_a (by omega), hg9, up_s]
      · have e0 : p = 0 := by
          have s2 : p ≤ 0 := s
          omega
        show g15 (lo + 10) p = psm (wts (zs (zd0 _))) p
        rw [e0, f15 _ _ (by omega) (by omega) (by omega) (by omega) (by omega), psm_0]
        exact hw0
    · intro x j p q s t
      have s2 : ¬ (o ≤ x ∧ x ≤ o + 8) := s
      have t2 : ¬ (lo ≤ x ∧ x ≤ lo + 10) := t
      exact f15 x j p q (by omega) (by omega) (by omega)
    · intro x j p q
      show r16 x j = ab_up r 4 0 1 x j
      rw [er16 x j q, hr7]
      by_cases hx : x = 4 ∧ j = 0
      · obtain ⟨rfl, rfl⟩ := hx
        rw [up_s, up_s]
      · rw [up_n hx, up_n hx, hr6, up_n (by omega), hr1, up_n (by omega)]
    · rw [f2, hg14, up_k (by omega), hg13, up_s]
    · rw [f2, hg14, up_s]
  refine ⟨s16, s16, ?_⟩
  refine l_Pa_parse P hK hK2 n.toNat 0 _ _ g15 r16 s16 hc hcr (by show 0 + (n.toNat : Int) = n; omega) (by omega) ?_
  intro G g' r' hG s' h'
  exact h G g' r' hG s' h'
