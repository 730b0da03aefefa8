/-! SPECS, part zzl: text, the class takes a TIME, an ACCOUNT, a word. -/
theorem CR_b {c : Cx} {X : ZX} {g r : ab_H} (h : CR c X g r) : ∃ d : Zd, CB c d g r ∧ ∀ d' : Zd, X = .ok d' → d' = d := by
  cases X with
  | error q =>
    obtain ⟨f, w⟩ := q
    obtain ⟨⟨d, hd⟩, _⟩ := h
    exact ⟨d, hd, fun d' e => by cases e⟩
  | ok d => exact ⟨d, h.1, fun d' e => by cases e; rfl⟩
theorem CR_wd {c : Cx} {X : ZX} {g r : ab_H} (h : CR c X g r) : isWd (r 4 5) := by
  obtain ⟨d, hd, _⟩ := CR_b h
  exact hd.2.2.1
theorem CR_te {c : Cx} {X : ZX} {g r : ab_H} (h : CR c X g r) : r 2 2 = c.o := by
  obtain ⟨d, hd, _⟩ := CR_b h
  exact hd.2.2.2.2.1.1
theorem CR_lg {c : Cx} {X : ZX} {g r : ab_H} (h : CR c X g r) : r 2 3 = c.lo := by
  obtain ⟨d, hd, _⟩ := CR_b h
  exact hd.2.2.2.2.1.2
theorem CR_si {c : Cx} {X : ZX} {g r : ab_H} (h : CR c X g r) : SI r := by
  obtain ⟨d, hd, _⟩ := CR_b h
  exact hd.2.2.2.1
theorem CR_f0 {c : Cx} {X : ZX} {g r : ab_H} (h : CR c X g r) : (wr (g 2 6) = wr 0 → ∃ d : Zd, X = .ok d) ∧ (¬ wr (g 2 6) = wr 0 → ∃ f w : Int, X = ZX.bad f w) := by
  cases X with
  | error q =>
    obtain ⟨f, w⟩ := q
    obtain ⟨_, h6, _, h8⟩ := h
    exact ⟨fun e => absurd e (by rw [h6]; simp only [wr]; omega), fun _ => ⟨f, w, rfl⟩⟩
  | ok d =>
    obtain ⟨_, h6, _⟩ := h
    exact ⟨fun _ => ⟨d, rfl⟩, fun e => absurd (by rw [h6]) e⟩
def tmin (d : Zd) : Int := if 0 < d.n then zs d (9 * (d.n - 1) + 3) else 0
noncomputable def ztime (b : Int → Int) (n : Int) (X : ZX) : Int × ZX := match X with
  | .error (f, w) => (0, ZX.bad f w)
  | .ok d => znum b n (.ok d) (tmin d) 9999
theorem tmin_b {d : Zd} (h : Inv d) : 0 ≤ tmin d ∧ tmin d ≤ 9999 := by
  unfold tmin
  have hn := h.2.2.2.2.2.2.2.1
  by_cases h0 : 0 < d.n
  · rw [if_pos h0]
    exact ((Inv_ev h).1 (d.n - 1) (by omega) (by omega)).2.2.2.2.1
  · rw [if_neg h0]; omega
theorem q_time {K : Int} {S : Nat} {g r : ab_H} {c : Cx} {X : ZX} (P : Int → ab_H → ab_H → Prop) (hr : SI r) (hK : 186 ≤ K) (hc : CxOk c) (hx : CR c X g r) (h : ∀ (v : Int) (g' r' : ab_H), SI r' → CR c (ztime c.b c.n X).2 g' r' → (∀ d : Zd, X = .ok d → v = (ztime c.b c.n X).1) → P v g' r') : ab_RI m_Pa_leastTime [(2, 2)] K S g r (fun x g1 r1 => g1 = g ∧ r1 = r ∧ ab_RI m_Pa_takeNumber [(2, 2), (0, x), (0, 9999)] K S g r P) := by
  obtain ⟨d, hd, he⟩ := CR_b hx
  apply v_Pa_leastTime _ hr hK
  rw [hd.2.2.2.2.1.2]
  refine ⟨CxOk_lg hc, ?_⟩
  apply s_Lg_latestTime _ hr hK (CxOk_lg hc) hd.2.2.2.2.2.1.2.2.2.2.2.2.2
  refine ⟨rfl, rfl, ?_⟩
  refine ⟨rfl, rfl, ?_⟩
  have hb := tmin_b hd.2.2.2.2.2.2.1
  have hm : ab_max 0 (if 0 < d.n then zs d (9 * (d.n - 1) + 3) else -2) = tmin d := by
    have hb2 := hb
    unfold tmin at hb2 ⊢
    by_cases h0 : 0 < d.n
    · rw [if_pos h0] at hb2 ⊢
      unfold ab_max; simp only [wr]; split <;> omega
    · rw [if_neg h0, if_neg h0]; rfl
  rw [hm]
  apply q_numb _ hr hK hc hx hb (by omega)
  intro g' r' hs hg
  refine h _ g' r' hs ?_ ?_
  · cases X with
    | error q => obtain ⟨f, w⟩ := q; exact hg
    | ok d' => have := he d' rfl; subst this; exact hg
  · intro d' e
    have := he d' e
    subst this
    rw [e]; rfl
theorem q_acc {K : Int} {S : Nat} {g r : ab_H} {c : Cx} {X : ZX} (P : Int → ab_H → ab_H → Prop) (hr : SI r) (hK : 186 ≤ K) (hc : CxOk c) (hx : CR c X g r) (h : ∀ g' r' : ab_H, SI r' → CR c (zacc c.b c.n X).2 g' r' → P (zacc c.b c.n X).1 g' r') : ab_RI m_Pa_takeAccount [(2, 2)] K S g r P := by
  apply v_Pa_takeAccount _ hr hK
  apply q_stands (k := 1) _ hr hK hc hx (by omega) rfl
  · intro d e hk
    refine ⟨rfl, And.intro (fun _ => ?_) (fun e => absurd e (by decide))⟩
    rw [CR_te hx]
    refine ⟨hc.2.1, ?_⟩
    have hx2 := hx
    rw [e] at hx2
    obtain ⟨hd, h6, h7, hp, ht⟩ := hx2
    have hv : g 4 6 = tv c.b c.n d.p := (ht.2.2.2.1 hk).2
    have hb := (tk_b hc.1 hp).2.2.2.2.1 hk
    have hI := hd.2.2.2.2.2.2.1
    have hD := hd.2.2.2.2.2.1
    have hz : zacc c.b c.n X = if fnd d.an d.nA (tv c.b c.n d.p) = -1 then (0, ZX.bad 4 d.p) else (fnd d.an d.nA (tv c.b c.n d.p), zadv c.b c.n (.ok d)) := by
      rw [e]
      show (if tki c.b c.n d.p ≠ 1 then ((0 : Int), ZX.bad 1 d.p) else if fnd d.an d.nA (tv c.b c.n d.p) = -1 then (0, ZX.bad 4 d.p) else (fnd d.an d.nA (tv c.b c.n d.p), zadv c.b c.n (.ok d))) = _
      rw [if_neg (fun x => x hk)]
    rw [hz] at h
    have hfe : fnd (g (c.o + 1)) d.nA (tv c.b c.n d.p) = fnd d.an d.nA (tv c.b c.n d.p) := fnd_ext (fun i a b => hD.2.2.1 i a b)
    have hfin := fnd_in (f := d.an) (x := tv c.b c.n d.p) hI.1.1
    have hI1 := hI.1
    apply v_Te_accountNamed _ hr hK hc.2.1
    rw [hD.2.1, hv]
    apply s_Te_find _ hr hK (ar_Te_0 hc.2.1 hK) hI.1 (by omega) (by omega)
    · intro i a b
      rw [hD.2.2.1 i a b]; exact hI.2.1 i a b
    · refine ⟨rfl, rfl, rfl, rfl, ?_⟩
      rw [hfe]
      refine And.intro (fun e4 => ?_) (fun e4 => ?_)
      · have hne : fnd d.an d.nA (tv c.b c.n d.p) ≠ -1 := fun hh => e4 (by rw [hh])
        rw [if_neg hne] at h
        apply q_adv _ hr hK hc hx
        intro g' r' hs hg
        rw [e] at hg
        exact ⟨hs, h g' r' hs hg⟩
      · have hne : fnd d.an d.nA (tv c.b c.n d.p) = -1 := by simp only [wr] at e4; omega
        rw [if_pos hne] at h
        apply q_fail (X := .ok d) (w' := d.p) _ hr hK hc (e ▸ hx) (by omega) (fun d2 e => by cases e; exact ht.1)
        exact fun g3 hg3 => ⟨rfl, h g3 r hr hg3⟩
  · intro g' h1 h2
    refine ⟨rfl, And.intro (fun e => absurd rfl e) (fun _ => ?_)⟩
    cases X with
    | error q => obtain ⟨f, w⟩ := q; exact h g' r hr (h2 f w rfl)
    | ok d =>
      have h3 := h1 d rfl
      have hz : zacc c.b c.n (.ok d) = (0, ZX.bad 1 d.p) := if_pos h3.1
      rw [hz] at h
      exact h g' r hr h3.2
theorem wt_tab : (List.range 17).all (fun k => decide (((ab_nth ab_wt (cw k)).getD (0, 0, 0)).2.1 = if k ≤ 6 then (k : Int) else -1) && decide (((ab_nth ab_wt (cw k)).getD (0, 0, 0)).2.2 = if 8 ≤ k ∧ k ≤ 11 then (k : Int) - 8 else -1) && decide ((ab_nth ab_swm (cw k)).getD 0 = if k = 12 then 1 else if k = 13 then 2 else if k = 14 then 3 else if k = 15 then 4 else if k = 16 then 5 else if k = 7 then 6 else 0)) = true := by decide +kernel
theorem wt_at {k : Nat} (hk : k < 17) : ((ab_nth ab_wt (cw k)).getD (0, 0, 0)).2.1 = (if k ≤ 6 then (k : Int) else -1) ∧ ((ab_nth ab_wt (cw k)).getD (0, 0, 0)).2.2 = (if 8 ≤ k ∧ k ≤ 11 then (k : Int) - 8 else -1) ∧ (ab_nth ab_swm (cw k)).getD 0 = (if k = 12 then 1 else if k = 13 then 2 else if k = 14 then 3 else if k = 15 then 4 else if k = 16 then 5 else if k = 7 then 6 else 0) := by
  have h := List.all_eq_true.mp wt_tab k (List.mem_range.mpr hk)
  simp only [Bool.and_eq_true, decide_eq_true_eq] at h
  exact ⟨h.1.1, h.1.2, h.2⟩
theorem CT_wd {c : Cx} {d : Zd} {g r : ab_H} (hc : CxOk c) (h : CT c d g r) (hk : tki c.b c.n d.p = 0) : ∃ k : Nat, k < 17 ∧ tv c.b c.n d.p = k ∧ r 4 5 = -5 - (cw k : Int) ∧ (-5 - r 4 5).toNat = cw k := by
  obtain ⟨hd, h6, h7, hp, ht⟩ := h
  have hb := (tk_b hc.1 hp).2.2.2.1 hk
  have h1 := (ht.2.2.1 hk).2
  exact ⟨(tv c.b c.n d.p).toNat, by omega, by omega, h1, by rw [h1]; omega⟩
theorem CT_kind {c : Cx} {d : Zd} {g r : ab_H} (hc : CxOk c) (h : CT c d g r) (hk : tki c.b c.n d.p = 0) : ((ab_nth ab_wt (-5 - (r 4 5)).toNat).getD (0, 0, 0)).2.1 = if 0 ≤ tv c.b c.n d.p ∧ tv c.b c.n d.p ≤ 6 then tv c.b c.n d.p - 0 else -1 := by
  obtain ⟨k, k1, k2, k3, k4⟩ := CT_wd hc h hk
  rw [k4, (wt_at k1).1, k2]
  by_cases h6 : k ≤ 6
  · rw [if_pos h6, if_pos (by omega)]; omega
  · rw [if_neg h6, if_neg (by omega)]
theorem CT_op {c : Cx} {d : Zd} {g r : ab_H} (hc : CxOk c) (h : CT c d g r) (hk : tki c.b c.n d.p = 0) : ((ab_nth ab_wt (-5 - (r 4 5)).toNat).getD (0, 0, 0)).2.2 = if 8 ≤ tv c.b c.n d.p ∧ tv c.b c.n d.p ≤ 11 then tv c.b c.n d.p - 8 else -1 := by
  obtain ⟨k, k1, k2, k3, k4⟩ := CT_wd hc h hk
  rw [k4, (wt_at k1).2.1, k2]
  by_cases h6 : 8 ≤ k ∧ k ≤ 11
  · rw [if_pos h6, if_pos (by omega)]
  · rw [if_neg h6, if_neg (by omega)]
theorem q_named {K : Int} {S : Nat} {g r : ab_H} {c : Cx} {X : ZX} {p1 lo hi : Int} (P : Int → ab_H → ab_H → Prop) (hr : SI r) (hK : 186 ≤ K) (hc : CxOk c) (hx : CR c X g r) (hl : 0 ≤ lo) (hh : hi < 17) (hp1 : ∀ d : Zd, X = .ok d → CT c d g r → tki c.b c.n d.p = 0 → p1 = if lo ≤ tv c.b c.n d.p ∧ tv c.b c.n d.p ≤ hi then tv c.b c.n d.p - lo else -1) (h : ∀ g' r' : ab_H, SI r' → CR c (zword c.b c.n X lo hi).2 g' r' → P ((zword c.b c.n X lo hi).1 - lo) g' r') : ab_RI m_Pa_takeNamed [(2, 2), (0, p1)] K S g r P := by
  apply v_Pa_takeNamed _ hr hK
  apply q_stands (k := 0) _ hr hK hc hx (by omega) rfl
  · intro d e hk
    refine ⟨rfl, And.intro (fun _ => ?_) (fun e => absurd e (by decide))⟩
    have hx2 := hx
    rw [e] at hx2
    have hp := hp1 d e hx2 hk
    have hz : zword c.b c.n X lo hi = if tv c.b c.n d.p < lo ∨ hi < tv c.b c.n d.p then (lo, ZX.bad 1 d.p) else (tv c.b c.n d.p, zadv c.b c.n (.ok d)) := by
      rw [e]
      show (if tki c.b c.n d.p ≠ 0 ∨ tv c.b c.n d.p < lo ∨ hi < tv c.b c.n d.p then (lo, ZX.bad 1 d.p) else (tv c.b c.n d.p, zadv c.b c.n (.ok d))) = _
      by_cases hcc : tv c.b c.n d.p < lo ∨ hi < tv c.b c.n d.p
      · rw [if_pos hcc, if_pos (Or.inr hcc)]
      · rw [if_neg hcc, if_neg (fun x => x.elim (fun y => y hk) hcc)]
    rw [hz] at h
    refine And.intro (fun e4 => ?_) (fun e4 => ?_)
    · have hno : ¬ (tv c.b c.n d.p < lo ∨ hi < tv c.b c.n d.p) := fun hcc => e4 (by rw [hp, if_neg (by omega)])
      rw [if_neg hno] at h
      apply q_adv _ hr hK hc hx
      intro g' r' hs hg
      rw [e] at hg
      refine ⟨hs, ?_⟩
      rw [hp, if_pos (by omega)]
      exact h g' r' hs hg
    · have hyes : tv c.b c.n d.p < lo ∨ hi < tv c.b c.n d.p := by
        refine Classical.byContradiction (fun hcc => ?_)
        rw [hp, if_pos (by omega)] at e4
        simp only [wr] at e4; omega
      rw [if_pos hyes] at h
      obtain ⟨hd, h6, h7, hpp, ht⟩ := hx2
      apply q_fail (X := .ok d) (w' := d.p) _ hr hK hc (e ▸ hx) (by omega) (fun d2 e => by cases e; exact ht.1)
      refine fun g3 hg3 => ⟨rfl, ?_⟩
      have h9 := h g3 r hr hg3
      have e0 : lo - lo = 0 := by omega
      show P 0 g3 r
      rw [← e0]; exact h9
  · intro g' h1 h2
    refine ⟨rfl, And.intro (fun e => absurd rfl e) (fun _ => ?_)⟩
    have e0 : lo - lo = 0 := by omega
    cases X with
    | error q =>
      obtain ⟨f, w⟩ := q
      have h9 := h g' r hr (h2 f w rfl)
      show P 0 g' r
      rw [← e0]; exact h9
    | ok d =>
      have h3 := h1 d rfl
      have hz : zword c.b c.n (.ok d) lo hi = (lo, ZX.bad 1 d.p) := if_pos (Or.inl h3.1)
      rw [hz] at h
      have h9 := h g' r hr h3.2
      show P 0 g' r
      rw [← e0]; exact h9
theorem q_room {K : Int} {S : Nat} {g r : ab_H} {c : Cx} {d : Zd} {x y : Int} (P : ab_H → ab_H → Prop) (hr : SI r) (hK : 186 ≤ K) (hc : CxOk c) (hx : CR c (.ok d) g r) (hxy : (0 ≤ x ∧ x ≤ 1000) ∧ (0 ≤ y ∧ y ≤ 1000)) (h : ∀ g' : ab_H, CR c (if y ≤ x then ZX.bad 2 d.p else .ok d) g' r → P g' r) : ab_RV m_Pa_needRoom [(2, 2), (0, x), (0, y)] K S g r P := by
  apply v_Pa_needRoom _ hr hK
  refine And.intro (fun e => ?_) (fun e => ?_)
  · rw [if_neg (by simp only [wr] at e; omega)] at h
    exact h g hx
  · rw [if_pos (by simp only [wr] at e; omega)] at h
    apply q_fail (X := .ok d) (w' := d.p) _ hr hK hc hx (by omega) (fun d2 e => by cases e; exact hx.2.2.2.2.1)
    exact fun g3 hg3 => ⟨rfl, h g3 hg3⟩
