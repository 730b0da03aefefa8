/-! SPECS, part zzi: text, the TOKEN at a place as functions of the place. -/
theorem WI_uniq {b : Int → Int} {p q v w : Int} : ∀ (m i : Nat), WI b p q m i v → WI b p q m i w → v = w := by
  intro m
  induction m with
  | zero => intro i h k; exact Eq.trans h (Eq.symm k)
  | succ m ih =>
    intro i h k
    rcases h with ⟨h1, h2⟩ | ⟨h1, h2⟩
    · rcases k with ⟨k1, k2⟩ | ⟨k1, k2⟩
      · exact Eq.trans h2 (Eq.symm k2)
      · exact absurd h1 k1
    · rcases k with ⟨k1, k2⟩ | ⟨k1, k2⟩
      · exact absurd k1 h1
      · exact ih (i + 1) h2 k2
noncomputable def wi (b : Int → Int) (p q : Int) (m i : Nat) : Int := Classical.choose (WI_ex (b := b) (p := p) (q := q) m i)
theorem wi_WI {b : Int → Int} {p q w : Int} (m i : Nat) (h : WI b p q m i w) : w = wi b p q m i := WI_uniq m i h (Classical.choose_spec (WI_ex (b := b) (p := p) (q := q) m i))
theorem wi_in {b : Int → Int} {p q : Int} : ∀ (m i : Nat), wi b p q m i = -1 ∨ ((i : Int) ≤ wi b p q m i ∧ wi b p q m i < i + m) := by
  intro m i
  obtain ⟨w, hw⟩ := WI_ex (b := b) (p := p) (q := q) m i
  rw [← wi_WI m i hw]
  exact WI_in m i hw
def tq (b : Int → Int) (n p : Int) : Int := if fS (hx b n p) = true then scan fS b n (n - p).toNat p else if fD (hx b n p) = true then scan fD b n (n - p).toNat p else if hx b n p = -1 then p else p + 1
noncomputable def tw (b : Int → Int) (n p : Int) : Int := wi b p (scan fS b n (n - p).toNat p) 17 0
noncomputable def tki (b : Int → Int) (n p : Int) : Int := if fS (hx b n p) = true then (if tw b n p ≠ -1 then 0 else if scan fS b n (n - p).toNat p - p ≤ 6 then 1 else 5) else if fD (hx b n p) = true then 2 else if hx b n p = -1 then 4 else if hx b n p = 59 then 3 else 5
noncomputable def tv (b : Int → Int) (n p : Int) : Int := if fS (hx b n p) = true then (if tw b n p ≠ -1 then tw b n p else nm b p (scan fS b n (n - p).toNat p) 6 0 0) else num b n (n - p).toNat p 0
def nxp (b : Int → Int) (n p : Int) : Int := scan fB b n (n - tq b n p).toNat (tq b n p)
theorem Tk1_fn {b : Int → Int} {n p q k v : Int} (h : Tk1 b n p q k v) : q = tq b n p ∧ k = tki b n p ∧ (k ≤ 2 → v = tv b n p) := by
  unfold tq tki tv
  rcases h with ⟨h1, h2, w, h3, h4⟩ | ⟨h1, h2, h3, h4, h5⟩ | ⟨h1, h2, h3⟩ | ⟨h1, h2, h3⟩ | ⟨⟨h1, h2, h3, h4⟩, h5, h6⟩
  · rw [h2] at h3 h4
    have hw : tw b n p = w := (wi_WI 17 0 h3).symm
    rw [if_pos h1, if_pos h1, if_pos h1, hw]
    refine ⟨h2, ?_⟩
    rcases h4 with ⟨a, e, f⟩ | ⟨a, e, f, l⟩ | ⟨a, e, f, l⟩
    · rw [if_pos a, if_pos a]; exact ⟨e, fun _ => f⟩
    · rw [if_neg (fun x => x a), if_pos e, if_neg (fun x => x a)]; exact ⟨f, fun _ => l⟩
    · rw [if_neg (fun x => x a), if_neg (by omega)]; exact ⟨f, fun _ => by omega⟩
  · rw [if_neg h1, if_neg h1, if_neg h1, if_pos h2, if_pos h2]; exact ⟨h3, h4, fun _ => h5⟩
  · have n1 : fS (hx b n p) ≠ true := by rw [h1]; decide
    have n2 : fD (hx b n p) ≠ true := by rw [h1]; decide
    rw [if_neg n1, if_neg n1, if_neg n1, if_neg n2, if_neg n2, if_pos h1, if_pos h1]; exact ⟨h2, h3, fun _ => by omega⟩
  · have n1 : fS (hx b n p) ≠ true := by rw [h1]; decide
    have n2 : fD (hx b n p) ≠ true := by rw [h1]; decide
    rw [if_neg n1, if_neg n1, if_neg n1, if_neg n2, if_neg n2, if_neg (by omega), if_neg (by omega), if_pos h1]; exact ⟨h2, h3, fun _ => by omega⟩
  · rw [if_neg h1, if_neg h1, if_neg h1, if_neg h2, if_neg h2, if_neg h3, if_neg h3, if_neg h4]; exact ⟨h5, h6, fun _ => by omega⟩
theorem num_b {b : Int → Int} {n : Int} : ∀ (m : Nat) (p v : Int), 0 ≤ v ∧ v ≤ 999999 → 0 ≤ num b n m p v ∧ num b n m p v ≤ 999999 := by
  intro m
  induction m with
  | zero => intro p v h; exact h
  | succ m ih =>
    intro p v h
    show 0 ≤ (if fD (hx b n p) = true then num b n m (p + 1) (if v ≤ 99999 then 10 * v + hx b n p - 48 else v) else v) ∧ (if fD (hx b n p) = true then num b n m (p + 1) (if v ≤ 99999 then 10 * v + hx b n p - 48 else v) else v) ≤ 999999
    by_cases hd : fD (hx b n p) = true
    · rw [if_pos hd]
      have h1 : 48 ≤ hx b n p ∧ hx b n p ≤ 57 := of_decide_eq_true hd
      refine ih (p + 1) _ ?_
      by_cases hv : v ≤ 99999
      · rw [if_pos hv]; omega
      · rw [if_neg hv]; exact h
    · rw [if_neg hd]; exact h
theorem num2_b {b : Int → Int} {n : Int} : ∀ (m : Nat) (p v : Int), 0 ≤ v ∧ v ≤ 9999999 → 0 ≤ num2 b n m p v ∧ num2 b n m p v ≤ 9999999 := by
  intro m
  induction m with
  | zero => intro p v h; exact h
  | succ m ih =>
    intro p v h
    show 0 ≤ (if fD (hx b n p) = true then num2 b n m (p + 1) (if v < 1000000 then 10 * v + hx b n p - 48 else v) else v) ∧ (if fD (hx b n p) = true then num2 b n m (p + 1) (if v < 1000000 then 10 * v + hx b n p - 48 else v) else v) ≤ 9999999
    by_cases hd : fD (hx b n p) = true
    · rw [if_pos hd]
      have h1 : 48 ≤ hx b n p ∧ hx b n p ≤ 57 := of_decide_eq_true hd
      refine ih (p + 1) _ ?_
      by_cases hv : v < 1000000
      · rw [if_pos hv]; omega
      · rw [if_neg hv]; exact h
    · rw [if_neg hd]; exact h
theorem nm_b {b : Int → Int} {p q : Int} (hl : ∀ j : Int, p ≤ j → j < q → 97 ≤ b j ∧ b j ≤ 122) : ∀ (m i : Nat) (v : Int), 0 ≤ v ∧ v < pw i → 0 ≤ nm b p q m i v ∧ nm b p q m i v < pw (i + m) := by
  intro m
  induction m with
  | zero => intro i v h; exact h
  | succ m ih =>
    intro i v h
    have e : i + (m + 1) = (i + 1) + m := by omega
    rw [e]
    refine ih (i + 1) _ ?_
    have e2 : pw (i + 1) = 32 * pw i := rfl
    rw [e2]
    by_cases hc : p + (i : Int) < q
    · have h1 := hl (p + i) (by omega) hc
      rw [if_pos hc]; omega
    · rw [if_neg hc]; omega
theorem scan_all {f : Int → Bool} {b : Int → Int} {n : Int} : ∀ (m : Nat) (p : Int), p + m ≤ n → ∀ j : Int, p ≤ j → j < scan f b n m p → f (b j) = true := by
  intro m
  induction m with
  | zero => intro p _ j h1 h2; exact absurd h2 (by show ¬ (j < p); omega)
  | succ m ih =>
    intro p hp j h1 h2
    have e : scan f b n (m + 1) p = if f (hx b n p) = true then scan f b n m (p + 1) else p := rfl
    have hxp : hx b n p = b p := if_pos (by omega)
    rw [e] at h2
    by_cases hd : f (hx b n p) = true
    · rw [if_pos hd] at h2
      by_cases hj : j = p
      · rw [hj, ← hxp]; exact hd
      · exact ih (p + 1) (by omega) j (by omega) h2
    · rw [if_neg hd] at h2; omega
theorem scan_pos {f : Int → Bool} {b : Int → Int} {n p : Int} (hp : p < n) (hf : f (hx b n p) = true) : p < scan f b n (n - p).toNat p := by
  obtain ⟨m, hm⟩ : ∃ m : Nat, (n - p).toNat = m + 1 := ⟨(n - p).toNat - 1, by omega⟩
  rw [hm]
  show p < if f (hx b n p) = true then scan f b n m (p + 1) else p
  rw [if_pos hf]
  have := (scan_in (f := f) (b := b) (n := n) m (p + 1)).1
  omega
theorem hx_ne {b : Int → Int} {n p : Int} (hb : TxB b n) (hp : 0 ≤ p) : hx b n p ≠ -1 ↔ p < n := by
  unfold hx
  by_cases h : p < n
  · rw [if_pos h]
    have := hb.2 p hp h
    exact ⟨fun _ => h, fun _ => by omega⟩
  · rw [if_neg h]; exact ⟨fun x => absurd rfl x, fun x => absurd x h⟩
theorem tk_b {b : Int → Int} {n p : Int} (hb : TxB b n) (hp : 0 ≤ p ∧ p ≤ n) : (p ≤ tq b n p ∧ tq b n p ≤ n) ∧ (tki b n p ≠ 4 → p < tq b n p) ∧ (0 ≤ tki b n p ∧ tki b n p ≤ 5) ∧ (tki b n p = 0 → 0 ≤ tv b n p ∧ tv b n p < 17) ∧ (tki b n p = 1 → 0 ≤ tv b n p ∧ tv b n p ≤ 1073741823) ∧ (tki b n p = 2 → 0 ≤ tv b n p ∧ tv b n p ≤ 999999) ∧ (tki b n p = 4 → p = n) := by
  have hne := hx_ne hb hp.1
  have s1 := scan_in (f := fS) (b := b) (n := n) (n - p).toNat p
  have s2 := scan_in (f := fD) (b := b) (n := n) (n - p).toNat p
  unfold tq tki tv
  by_cases h1 : fS (hx b n p) = true
  · have hpn : p < n := hne.mp (fun e => by rw [e] at h1; exact absurd h1 (by decide))
    have s3 := scan_pos hpn h1
    rw [if_pos h1, if_pos h1, if_pos h1]
    refine ⟨by omega, fun _ => s3, ?_⟩
    by_cases hw : tw b n p ≠ -1
    · rw [if_pos hw, if_pos hw]
      refine ⟨by omega, fun _ => ?_, fun e => by omega, fun e => by omega, fun e => by omega⟩
      rcases wi_in (b := b) (p := p) (q := scan fS b n (n - p).toNat p) 17 0 with h | h
      · exact absurd h hw
      · unfold tw; omega
    · rw [if_neg hw, if_neg hw]
      have hl : ∀ j : Int, p ≤ j → j < scan fS b n (n - p).toNat p → 97 ≤ b j ∧ b j ≤ 122 := fun j a c => of_decide_eq_true (scan_all (f := fS) (n - p).toNat p (by omega) j a c)
      have h6 := nm_b hl 6 0 0 (by decide)
      have e6 : pw (0 + 6) = 1073741824 := by decide
      rw [e6] at h6
      by_cases h5 : scan fS b n (n - p).toNat p - p ≤ 6
      · rw [if_pos h5]; exact ⟨by omega, fun e => by omega, fun _ => by omega, fun e => by omega, fun e => by omega⟩
      · rw [if_neg h5]; exact ⟨by omega, fun e => by omega, fun e => by omega, fun e => by omega, fun e => by omega⟩
  · rw [if_neg h1, if_neg h1, if_neg h1]
    by_cases h2 : fD (hx b n p) = true
    · have hpn : p < n := hne.mp (fun e => by rw [e] at h2; exact absurd h2 (by decide))
      have s3 := scan_pos hpn h2
      have h6 := num_b (b := b) (n := n) (n - p).toNat p 0 (by omega)
      rw [if_pos h2, if_pos h2]
      exact ⟨by omega, fun _ => s3, by omega, fun e => by omega, fun e => by omega, fun _ => h6, fun e => by omega⟩
    · rw [if_neg h2, if_neg h2]
      by_cases h3 : hx b n p = -1
      · rw [if_pos h3, if_pos h3]
        have : ¬ (p < n) := fun h => absurd h3 (hne.mpr h)
        exact ⟨by omega, fun e => by omega, by omega, fun e => by omega, fun e => by omega, fun e => by omega, fun _ => by omega⟩
      · have hpn : p < n := hne.mp h3
        rw [if_neg h3, if_neg h3]
        by_cases h4 : hx b n p = 59
        · rw [if_pos h4]; exact ⟨by omega, fun e => by omega, by omega, fun e => by omega, fun e => by omega, fun e => by omega, fun e => by omega⟩
        · rw [if_neg h4]; exact ⟨by omega, fun e => by omega, by omega, fun e => by omega, fun e => by omega, fun e => by omega, fun e => by omega⟩
theorem nxp_b {b : Int → Int} {n p : Int} (hb : TxB b n) (hp : 0 ≤ p ∧ p ≤ n) : (p ≤ nxp b n p ∧ nxp b n p ≤ n) ∧ (tki b n p ≠ 4 → p < nxp b n p) := by
  have h1 := tk_b hb hp
  have s1 := scan_in (f := fB) (b := b) (n := n) (n - tq b n p).toNat (tq b n p)
  unfold nxp
  exact ⟨by omega, fun e => by have := h1.2.1 e; omega⟩
/-- the class's TOKEN at a place -/
def TokC (b : Int → Int) (n p : Int) (g r : ab_H) : Prop := g 4 4 = p ∧ g 4 2 = tq b n p ∧ (tki b n p = 0 → g 4 3 = 1 ∧ r 4 5 = -5 - (cw (tv b n p).toNat : Int)) ∧ (tki b n p = 1 → g 4 3 = 2 ∧ g 4 6 = tv b n p) ∧ (tki b n p = 2 → g 4 3 = 3 ∧ NumR (tv b n p) (g 4 7) ∧ 0 ≤ g 4 7 ∧ g 4 7 ≤ 9999999) ∧ (tki b n p = 3 → g 4 3 = 4) ∧ (tki b n p = 4 → g 4 3 = 0) ∧ (tki b n p = 5 → g 4 3 = 5)
theorem Tk2_fn {b : Int → Int} {n p : Int} {g g' r r' : ab_H} (h : Tk2 b n p g g' r r') : CKr g g' ∧ TokC b n p g' r' ∧ (r' = r ∨ ∃ k : Nat, k < 17 ∧ r' = ab_up r 4 5 (-5 - (k : Int))) := by
  unfold TokC tq tki tv
  rcases h with ⟨h1, w, h2, h3⟩ | ⟨⟨h1, h2, h3⟩, h4⟩
  · have hw : tw b n p = w := (wi_WI 17 0 h2).symm
    have hwin := WI_in 17 0 h2
    rw [if_pos h1, if_pos h1, if_pos h1, hw]
    obtain ⟨k1, k2, k3, k4, k5⟩ := h3
    refine ⟨k3, ⟨k4, k5, ?_⟩, ?_⟩
    · by_cases hn : w ≠ -1
      · rw [if_pos hn, if_pos hn]
        have k6 := k2 hn
        exact ⟨fun _ => ⟨k6.1, by rw [k6.2, up_s]⟩, fun e => by omega, fun e => by omega, fun e => by omega, fun e => by omega, fun e => by omega⟩
      · rw [if_neg hn, if_neg hn]
        have k6 := k1 (by omega)
        by_cases h5 : scan fS b n (n - p).toNat p - p ≤ 6
        · rw [if_pos h5]; exact ⟨fun e => by omega, fun _ => k6.2.1 h5, fun e => by omega, fun e => by omega, fun e => by omega, fun e => by omega⟩
        · rw [if_neg h5]; exact ⟨fun e => by omega, fun e => by omega, fun e => by omega, fun e => by omega, fun e => by omega, fun _ => k6.2.2 (by omega)⟩
    · by_cases hn : w = -1
      · exact Or.inl (k1 hn).1
      · refine Or.inr ⟨cw w.toNat, ?_, (k2 hn).2⟩
        exact (cw_at (by omega)).1
  · refine ⟨h2, ?_, Or.inl h1⟩
    rcases h4 with ⟨n1, n2, h5, h6, h7⟩ | ⟨h5, h6, h7⟩ | ⟨h5, h6, h7⟩ | ⟨⟨n1, n2, n3, n4⟩, h6, h7⟩
    · rw [if_neg n1, if_neg n1, if_neg n1, if_pos n2, if_pos n2]
      have nb := num2_b (b := b) (n := n) (n - p).toNat p 0 (by omega)
      exact ⟨h3, h5, fun e => by omega, fun e => by omega, fun _ => ⟨h6, by rw [h7]; exact num_rel _ _ _ _ (Or.inl ⟨rfl, by omega⟩), by rw [h7]; exact nb⟩, fun e => by omega, fun e => by omega, fun e => by omega⟩
    · have n1 : fS (hx b n p) ≠ true := by rw [h5]; decide
      have n2 : fD (hx b n p) ≠ true := by rw [h5]; decide
      rw [if_neg n1, if_neg n1, if_neg n1, if_neg n2, if_neg n2, if_pos h5, if_pos h5]
      exact ⟨h3, h6, fun e => by omega, fun e => by omega, fun e => by omega, fun e => by omega, fun _ => h7, fun e => by omega⟩
    · have n1 : fS (hx b n p) ≠ true := by rw [h5]; decide
      have n2 : fD (hx b n p) ≠ true := by rw [h5]; decide
      rw [if_neg n1, if_neg n1, if_neg n1, if_neg n2, if_neg n2, if_neg (by omega), if_neg (by omega), if_pos h5]
      exact ⟨h3, h6, fun e => by omega, fun e => by omega, fun e => by omega, fun _ => h7, fun e => by omega, fun e => by omega⟩
    · rw [if_neg n1, if_neg n1, if_neg n1, if_neg n2, if_neg n2, if_neg n3, if_neg n3, if_neg n4]
      exact ⟨h3, h6, fun e => by omega, fun e => by omega, fun e => by omega, fun e => by omega, fun e => by omega, fun _ => h7⟩
theorem s_To_advance {K : Int} {S : Nat} {g r : ab_H} {b : Int → Int} {n q : Int} (P : ab_H → ab_H → Prop) (hr : SI r) (hK : 186 ≤ K) (h40 : r 4 0 = 1) (hb : TxB b n) (ht : TcV g b n) (hq : 0 ≤ q ∧ q ≤ n) (hgq : g 4 2 = q) (h : ∀ g' r' : ab_H, SI r' → CKr g g' → TokC b n (scan fB b n (n - q).toNat q) g' r' → (r' = r ∨ ∃ k : Nat, k < 17 ∧ r' = ab_up r 4 5 (-5 - (k : Int))) → P g' r') : ab_RV m_To_advance [(2, 4)] K S g r P := by
  apply v_To_advance _ hr hK
  refine l_To_adv P hr hK h40 hb (n - q).toNat q g ht hq.1 (by omega) hgq ?_
  intro g' r' hs h2
  obtain ⟨a, c, e⟩ := Tk2_fn h2
  exact h g' r' hs a c e
