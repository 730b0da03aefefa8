/-! SPECS, part zzk: text, the class takes TOKENS. -/
noncomputable def znum (b : Int → Int) (n : Int) (X : ZX) (lo hi : Int) : Int × ZX := match X with
  | .error (f, w) => (lo, ZX.bad f w)
  | .ok d => if tki b n d.p ≠ 2 then (lo, ZX.bad 1 d.p) else if tv b n d.p < lo ∨ hi < tv b n d.p then (lo, ZX.bad 2 d.p) else (tv b n d.p, zadv b n (.ok d))
noncomputable def zword (b : Int → Int) (n : Int) (X : ZX) (lo hi : Int) : Int × ZX := match X with
  | .error (f, w) => (lo, ZX.bad f w)
  | .ok d => if tki b n d.p ≠ 0 ∨ tv b n d.p < lo ∨ hi < tv b n d.p then (lo, ZX.bad 1 d.p) else (tv b n d.p, zadv b n (.ok d))
noncomputable def zacc (b : Int → Int) (n : Int) (X : ZX) : Int × ZX := match X with
  | .error (f, w) => (0, ZX.bad f w)
  | .ok d => if tki b n d.p ≠ 1 then (0, ZX.bad 1 d.p) else if fnd d.an d.nA (tv b n d.p) = -1 then (0, ZX.bad 4 d.p) else (fnd d.an d.nA (tv b n d.p), zadv b n (.ok d))
noncomputable def znam (b : Int → Int) (n : Int) (X : ZX) : Int × ZX := match X with
  | .error (f, w) => (0, ZX.bad f w)
  | .ok d => if tki b n d.p ≠ 1 then (0, ZX.bad 1 d.p) else (tv b n d.p, zadv b n (.ok d))
noncomputable def zstop (b : Int → Int) (n : Int) (X : ZX) : ZX := match X with
  | .error (f, w) => ZX.bad f w
  | .ok d => if tki b n d.p ≠ 3 then ZX.bad 1 d.p else zadv b n (.ok d)
/-- the class's number of a sort -/
def cK (k : Int) : Int := if k = 0 then 1 else if k = 1 then 2 else if k = 2 then 3 else if k = 3 then 4 else if k = 4 then 0 else 5
theorem TokC_k {b : Int → Int} {n p : Int} {g r : ab_H} (hb : TxB b n) (hp : 0 ≤ p ∧ p ≤ n) (h : TokC b n p g r) : g 4 3 = cK (tki b n p) := by
  obtain ⟨_, _, h0, h1, h2, h3, h4, h5⟩ := h
  have hk := (tk_b hb hp).2.2.1
  unfold cK
  by_cases e0 : tki b n p = 0
  · rw [if_pos e0]; exact (h0 e0).1
  · rw [if_neg e0]
    by_cases e1 : tki b n p = 1
    · rw [if_pos e1]; exact (h1 e1).1
    · rw [if_neg e1]
      by_cases e2 : tki b n p = 2
      · rw [if_pos e2]; exact (h2 e2).1
      · rw [if_neg e2]
        by_cases e3 : tki b n p = 3
        · rw [if_pos e3]; exact h3 e3
        · rw [if_neg e3]
          by_cases e4 : tki b n p = 4
          · rw [if_pos e4]; exact h4 e4
          · rw [if_neg e4]; exact h5 (by omega)
theorem cK_eq {k j : Int} (hk : 0 ≤ k ∧ k ≤ 5) (hj : 0 ≤ j ∧ j ≤ 5) : wr (cK k) = wr (cK j) ↔ k = j := by
  constructor
  · intro e
    unfold cK at e
    repeat' (split at e)
    all_goals (simp only [wr] at e; omega)
  · intro e; rw [e]
theorem q_stands {K : Int} {S : Nat} {g r : ab_H} {c : Cx} {X : ZX} {s k : Int} (P : Int → ab_H → ab_H → Prop) (hr : SI r) (hK : 186 ≤ K) (hc : CxOk c) (hx : CR c X g r) (hk : 0 ≤ k ∧ k ≤ 5) (hs : s = cK k) (h1 : ∀ d : Zd, X = .ok d → tki c.b c.n d.p = k → P 1 g r) (h2 : ∀ g' : ab_H, (∀ d : Zd, X = .ok d → tki c.b c.n d.p ≠ k ∧ CR c (ZX.bad 1 d.p) g' r) → (∀ f w : Int, X = ZX.bad f w → CR c X g' r) → P 0 g' r) : ab_RI m_Pa_stands [(2, 2), (0, s)] K S g r P := by
  apply v_Pa_stands _ hr hK
  rw [hs]
  cases X with
  | error q =>
    obtain ⟨f, w⟩ := q
    have hx2 := hx
    obtain ⟨hd, h6, h7, h8⟩ := hx
    refine And.intro (fun _ => ⟨fun _ => h2 g (fun d e => by cases e) (fun f w _ => hx2), fun e => absurd e (by rw [h6]; simp only [wr]; omega)⟩) (fun _ => ?_)
    apply q_fail (X := ZX.bad f w) (w' := w) _ hr hK hc hx2 (by omega) (fun d e => by cases e)
    intro g1 hg1
    refine ⟨rfl, fun _ => h2 g1 (fun d e => by cases e) (fun f w _ => hg1), fun e => absurd e ?_⟩
    have h61 : g1 2 6 = f := hg1.2.1
    rw [h61]; simp only [wr]; omega
  | ok d =>
    have hx2 := hx
    obtain ⟨hd, h6, h7, hp, ht⟩ := hx
    have hcK := TokC_k hc.1 hp ht
    have hkb := (tk_b hc.1 hp).2.2.1
    rw [hcK]
    refine And.intro (fun e => ?_) (fun e => ?_)
    · have e2 := (cK_eq hkb hk).mp e
      exact ⟨fun e3 => absurd (by rw [h6]) e3, fun _ => h1 d rfl e2⟩
    · have e2 : tki c.b c.n d.p ≠ k := fun hh => e ((cK_eq hkb hk).mpr hh)
      apply q_fail (X := .ok d) (w' := d.p) _ hr hK hc hx2 (by omega) (fun d2 e => by cases e; exact ht.1)
      intro g1 hg1
      refine ⟨rfl, fun _ => h2 g1 (fun d2 e => by cases e; exact ⟨e2, hg1⟩) (fun f w e => by cases e), fun e => absurd e ?_⟩
      have h61 : g1 2 6 = 1 := hg1.2.1
      rw [h61]; simp only [wr]; omega
theorem q_stop {K : Int} {S : Nat} {g r : ab_H} {c : Cx} {X : ZX} (P : ab_H → ab_H → Prop) (hr : SI r) (hK : 186 ≤ K) (hc : CxOk c) (hx : CR c X g r) (h : ∀ g' r' : ab_H, SI r' → CR c (zstop c.b c.n X) g' r' → P g' r') : ab_RV m_Pa_takeStop [(2, 2)] K S g r P := by
  apply v_Pa_takeStop _ hr hK
  apply q_stands (k := 3) _ hr hK hc hx (by omega) rfl
  · intro d e hk
    refine ⟨rfl, And.intro (fun e => absurd e (by decide)) (fun _ => ?_)⟩
    apply q_adv _ hr hK hc hx
    intro g' r' hs hg
    refine ⟨hs, h g' r' hs ?_⟩
    rw [e] at hg ⊢
    show CR c (if tki c.b c.n d.p ≠ 3 then ZX.bad 1 d.p else zadv c.b c.n (.ok d)) g' r'
    rw [if_neg (fun x => x hk)]; exact hg
  · intro g' h1 h2
    refine ⟨rfl, And.intro (fun _ => h g' r hr ?_) (fun e => absurd rfl e)⟩
    cases X with
    | error q => obtain ⟨f, w⟩ := q; exact h2 f w rfl
    | ok d =>
      have h3 := h1 d rfl
      show CR c (if tki c.b c.n d.p ≠ 3 then ZX.bad 1 d.p else zadv c.b c.n (.ok d)) g' r
      rw [if_pos h3.1]; exact h3.2
theorem q_name {K : Int} {S : Nat} {g r : ab_H} {c : Cx} {X : ZX} (P : Int → ab_H → ab_H → Prop) (hr : SI r) (hK : 186 ≤ K) (hc : CxOk c) (hx : CR c X g r) (h : ∀ g' r' : ab_H, SI r' → CR c (znam c.b c.n X).2 g' r' → P (znam c.b c.n X).1 g' r') : ab_RI m_Pa_takeName [(2, 2)] K S g r P := by
  apply v_Pa_takeName _ hr hK
  apply q_stands (k := 1) _ hr hK hc hx (by omega) rfl
  · intro d e hk
    refine ⟨rfl, And.intro (fun _ => ?_) (fun e => absurd e (by decide))⟩
    have hv : g 4 6 = tv c.b c.n d.p := by
      rw [e] at hx
      exact (hx.2.2.2.2.2.2.2.1 hk).2
    have hz : znam c.b c.n X = (tv c.b c.n d.p, zadv c.b c.n (.ok d)) := by
      rw [e]
      show (if tki c.b c.n d.p ≠ 1 then ((0 : Int), ZX.bad 1 d.p) else (tv c.b c.n d.p, zadv c.b c.n (.ok d))) = _
      rw [if_neg (fun x => x hk)]
    rw [hz] at h
    apply q_adv _ hr hK hc hx
    intro g' r' hs hg
    rw [e] at hg
    rw [hv]
    exact ⟨hs, h g' r' hs hg⟩
  · intro g' h1 h2
    refine ⟨rfl, And.intro (fun e => absurd rfl e) (fun _ => ?_)⟩
    cases X with
    | error q => obtain ⟨f, w⟩ := q; exact h g' r hr (h2 f w rfl)
    | ok d =>
      have h3 := h1 d rfl
      have hz : znam c.b c.n (.ok d) = (0, ZX.bad 1 d.p) := if_pos h3.1
      rw [hz] at h
      exact h g' r hr h3.2
theorem q_num {K : Int} {S : Nat} {g r : ab_H} {c : Cx} {X : ZX} {lo hi : Int} (P : Int → ab_H → ab_H → Prop) (hr : SI r) (hK : 186 ≤ K) (hc : CxOk c) (hx : CR c X g r) (hl : 0 ≤ lo ∧ lo ≤ 9999) (hh : 0 ≤ hi ∧ (hi ≤ 99999 ∨ hi = 2147483647)) (h : ∀ (v : Int) (g' r' : ab_H), SI r' → CR c (if hi = 2147483647 then znum c.b c.n X lo 2147483647 else znum c.b c.n X lo hi).2 g' r' → (hi ≤ 99999 → v = (znum c.b c.n X lo hi).1) → (hi = 2147483647 → NumR (znum c.b c.n X lo hi).1 v ∧ 0 ≤ v ∧ v ≤ 9999999) → P v g' r') : ab_RI m_Pa_takeNumber [(2, 2), (0, lo), (0, hi)] K S g r P := by
  have hif : (if hi = 2147483647 then znum c.b c.n X lo 2147483647 else znum c.b c.n X lo hi) = znum c.b c.n X lo hi := by
    by_cases e : hi = 2147483647
    · rw [if_pos e, e]
    · rw [if_neg e]
  rw [hif] at h
  clear hif
  apply v_Pa_takeNumber _ hr hK
  apply q_stands (k := 2) _ hr hK hc hx (by omega) rfl
  · intro d e hk
    refine ⟨rfl, And.intro (fun _ => ?_) (fun e => absurd e (by decide))⟩
    have hx2 := hx
    rw [e] at hx2
    obtain ⟨hd, h6, h7, hp, ht⟩ := hx2
    obtain ⟨hk3, hv, hv0, hv9⟩ := ht.2.2.2.2.1 hk
    have hb := (tk_b hc.1 hp).2.2.2.2.2.1 hk
    have hz : znum c.b c.n X lo hi = if tv c.b c.n d.p < lo ∨ hi < tv c.b c.n d.p then (lo, ZX.bad 2 d.p) else (tv c.b c.n d.p, zadv c.b c.n (.ok d)) := by
      rw [e]
      show (if tki c.b c.n d.p ≠ 2 then (lo, ZX.bad 1 d.p) else if tv c.b c.n d.p < lo ∨ hi < tv c.b c.n d.p then (lo, ZX.bad 2 d.p) else (tv c.b c.n d.p, zadv c.b c.n (.ok d))) = _
      rw [if_neg (fun x => x hk)]
    rw [hz] at h
    unfold NumR at hv
    have bad : (tv c.b c.n d.p < lo ∨ hi < tv c.b c.n d.p) → ∀ g3 : ab_H, CR c (zfail (.ok d) 2 d.p) g3 r → P lo g3 r := by
      intro hcc g3 hg3
      rw [if_pos hcc] at h
      exact h lo g3 r hr hg3 (fun _ => rfl) (fun _ => ⟨Or.inl ⟨rfl, hl.1⟩, by omega, by omega⟩)
    have w4 : ∀ x : Int, 0 ≤ x → x ≤ 2147483647 → wr x = x := fun x a b => by simp only [wr]; omega
    rw [w4 (g 4 7) hv0 (by omega), w4 lo hl.1 (by omega), w4 hi hh.1 (by omega)]
    refine And.intro (fun e4 => ?_) (fun e4 => And.intro (fun e5 => ?_) (fun e5 => ?_))
    · apply q_fail (X := .ok d) (w' := d.p) _ hr hK hc (e ▸ hx) (by omega) (fun d2 e => by cases e; exact ht.1)
      exact fun g3 hg3 => ⟨rfl, bad (by omega) g3 hg3⟩
    · have hno : ¬ (tv c.b c.n d.p < lo ∨ hi < tv c.b c.n d.p) := by omega
      rw [if_neg hno] at h
      apply q_adv _ hr hK hc hx
      intro g' r' hs hg
      rw [e] at hg
      exact ⟨hs, h (g 4 7) g' r' hs hg (fun _ => by show g 4 7 = tv c.b c.n d.p; omega) (fun _ => ⟨hv, hv0, hv9⟩)⟩
    · apply q_fail (X := .ok d) (w' := d.p) _ hr hK hc (e ▸ hx) (by omega) (fun d2 e => by cases e; exact ht.1)
      exact fun g3 hg3 => ⟨rfl, bad (by omega) g3 hg3⟩
  · intro g' h1 h2
    refine ⟨rfl, And.intro (fun e => absurd rfl e) (fun _ => ?_)⟩
    cases X with
    | error q => obtain ⟨f, w⟩ := q; exact h lo g' r hr (h2 f w rfl) (fun _ => rfl) (fun _ => ⟨Or.inl ⟨rfl, hl.1⟩, by omega, by omega⟩)
    | ok d =>
      have h3 := h1 d rfl
      have hz : znum c.b c.n (.ok d) lo hi = (lo, ZX.bad 1 d.p) := if_pos h3.1
      rw [hz] at h
      exact h lo g' r hr h3.2 (fun _ => rfl) (fun _ => ⟨Or.inl ⟨rfl, hl.1⟩, by omega, by omega⟩)
/-- the same, for bounds within a number -/
theorem q_numb {K : Int} {S : Nat} {g r : ab_H} {c : Cx} {X : ZX} {lo hi : Int} (P : Int → ab_H → ab_H → Prop) (hr : SI r) (hK : 186 ≤ K) (hc : CxOk c) (hx : CR c X g r) (hl : 0 ≤ lo ∧ lo ≤ 9999) (hh : 0 ≤ hi ∧ hi ≤ 99999) (h : ∀ g' r' : ab_H, SI r' → CR c (znum c.b c.n X lo hi).2 g' r' → P (znum c.b c.n X lo hi).1 g' r') : ab_RI m_Pa_takeNumber [(2, 2), (0, lo), (0, hi)] K S g r P := by
  apply q_num _ hr hK hc hx hl ⟨hh.1, Or.inl hh.2⟩
  intro v g' r' hs hg hv _
  rw [if_neg (by omega)] at hg
  rw [hv hh.2]
  exact h g' r' hs hg
