/-! SPECS, part d: LIFTED; class and reference. T = (nst, sop, sfd, snm): how many STEPS of a KIND and SHAPE, their ops (8 ..), FIELDS, numbers. -/
abbrev TT : Type := (Int → Int) × (Int → Int) × (Int → Int) × (Int → Int)
def lstep (T : TT) (q : Int) (l : Int → Int) : Int → Int :=
  fu l (T.2.2.1 q - 1) (if T.2.1 q - 8 = 0 then T.2.2.2 q else if T.2.1 q - 8 = 1 then l (T.2.2.1 q - 1) * T.2.2.2 q else if T.2.1 q - 8 = 2 then l (T.2.2.1 q - 1) + T.2.2.2 q else l (T.2.2.2 q - 1))
def lrun (T : TT) : Nat → Int → (Int → Int) → (Int → Int) × Int
  | 0, _, l => (l, 0)
  | n + 1, q, l => if 1000000 < lstep T q l (T.2.2.1 q - 1) then (lstep T q l, 1) else lrun T n (q + 1) (lstep T q l)
def lcnt (T : TT) (k pk ps sh : Int) : Int := if k = pk ∧ sh = ps then 0 else T.1 (2 * k + sh - 1)
def lshp (T : TT) (k pk ps : Int) : Nat → Int → (Int → Int) → (Int → Int) × Int
  | 0, _, l => (l, 0)
  | n + 1, sh, l => if (lrun T (lcnt T k pk ps sh).toNat (4 * (2 * k + sh - 1)) l).2 ≠ 0 then lrun T (lcnt T k pk ps sh).toNat (4 * (2 * k + sh - 1)) l else lshp T k pk ps n (sh + 1) (lrun T (lcnt T k pk ps sh).toNat (4 * (2 * k + sh - 1)) l).1
def fl (s : Int → Int) (e : Int) : Int → Int := fun f => s (9 * e + 5 + (if f = 0 then 0 else if f = 1 then 1 else 2))
theorem fl_eq {s : Int → Int} {e f : Int} (h0 : 0 ≤ f) (h1 : f < 3) : fl s e f = s (9 * e + 5 + f) := by
  unfold fl
  by_cases h2 : f = 0
  · rw [if_pos h2, h2]
  · by_cases h3 : f = 1
    · rw [if_neg h2, if_pos h3, h3]
    · rw [if_neg h2, if_neg h3, show f = 2 by omega]
def lft (T : TT) (s : Int → Int) (pk ps e : Int) : (Int → Int) × Int := lshp T (s (9 * e + 0)) pk ps (3 - s (9 * e + 4)).toNat (s (9 * e + 4)) (fl s e)
def LF (T : TT) (s : Int → Int) (pk ps : Int) : Int → Int → Int := fun e f => (lft T s pk ps e).1 f
def BF (T : TT) (s : Int → Int) (pk ps : Int) : Int → Int := fun e => (lft T s pk ps e).2
/-- the STEPS are such as a TEXT tells -/
def TOk (T : TT) : Prop := ∀ i : Int, 0 ≤ i → i < 14 → (0 ≤ T.1 i ∧ T.1 i ≤ 4) ∧ ∀ k : Int, 0 ≤ k → k < T.1 i → (8 ≤ T.2.1 (4 * i + k) ∧ T.2.1 (4 * i + k) ≤ 11) ∧ (1 ≤ T.2.2.1 (4 * i + k) ∧ T.2.2.1 (4 * i + k) ≤ 3) ∧ (0 ≤ T.2.2.2 (4 * i + k) ∧ T.2.2.2 (4 * i + k) ≤ 999) ∧ (T.2.1 (4 * i + k) = 11 → 1 ≤ T.2.2.2 (4 * i + k) ∧ T.2.2.2 (4 * i + k) ≤ 3)
def L3 (l : Int → Int) (b : Int) : Prop := ∀ f : Int, 0 ≤ f → f < 3 → 0 ≤ l f ∧ l f ≤ b
theorem mul_bnd {x y : Int} (hx : 0 ≤ x ∧ x ≤ 1000000) (hy : 0 ≤ y ∧ y ≤ 999) : 0 ≤ x * y ∧ x * y ≤ 999000000 := by
  have h1 := Int.mul_nonneg hx.1 hy.1
  have h2 := Int.mul_le_mul hx.2 hy.2 hy.1 (by omega : (0 : Int) ≤ 1000000)
  omega
theorem lstep_in {T : TT} {q : Int} {l : Int → Int} (ho : 8 ≤ T.2.1 q ∧ T.2.1 q ≤ 11) (hf : 1 ≤ T.2.2.1 q ∧ T.2.2.1 q ≤ 3) (hn : 0 ≤ T.2.2.2 q ∧ T.2.2.2 q ≤ 999) (hc : T.2.1 q = 11 → 1 ≤ T.2.2.2 q ∧ T.2.2.2 q ≤ 3) (hl : L3 l 1000000) : ∀ f : Int, 0 ≤ f → f < 3 → (0 ≤ lstep T q l f ∧ lstep T q l f ≤ 999000000) ∧ (f ≠ T.2.2.1 q - 1 → lstep T q l f ≤ 1000000) := by
  intro f h0 h1
  have h2 := hl f h0 h1
  have h3 := hl (T.2.2.1 q - 1) (by omega) (by omega)
  have h4 := mul_bnd h3 hn
  have h5 : T.2.1 q = 11 → 0 ≤ l (T.2.2.2 q - 1) ∧ l (T.2.2.2 q - 1) ≤ 1000000 := fun h => hl _ (by have := hc h; omega) (by have := hc h; omega)
  unfold lstep fu
  repeat' split
  all_goals omega
theorem lrun_in {T : TT} {i : Int} (hT : TOk T) (hi : 0 ≤ i ∧ i < 14) : ∀ (n : Nat) (k : Int) (l : Int → Int), 0 ≤ k → k + n ≤ T.1 i → L3 l 1000000 → ((lrun T n (4 * i + k) l).2 = 0 ∨ (lrun T n (4 * i + k) l).2 = 1) ∧ L3 (lrun T n (4 * i + k) l).1 999000000 ∧ ((lrun T n (4 * i + k) l).2 = 0 → L3 (lrun T n (4 * i + k) l).1 1000000)
  | 0, k, l, _, _, hl => ⟨Or.inl rfl, fun f h0 h1 => by have := hl f h0 h1; show 0 ≤ l f ∧ l f ≤ _; omega, fun _ => hl⟩
  | n + 1, k, l, h0, h1, hl => by
    have h2 := (hT i hi.1 hi.2).2 k h0 (by omega)
    have h3 := lstep_in h2.1 h2.2.1 h2.2.2.1 h2.2.2.2 hl
    show ((if 1000000 < lstep T (4 * i + k) l (T.2.2.1 (4 * i + k) - 1) then (lstep T (4 * i + k) l, 1) else lrun T n (4 * i + k + 1) (lstep T (4 * i + k) l)).2 = 0 ∨ (if 1000000 < lstep T (4 * i + k) l (T.2.2.1 (4 * i + k) - 1) then (lstep T (4 * i + k) l, (1 : Int)) else lrun T n (4 * i + k + 1) (lstep T (4 * i + k) l)).2 = 1) ∧ L3 (if 1000000 < lstep T (4 * i + k) l (T.2.2.1 (4 * i + k) - 1) then (lstep T (4 * i + k) l, (1 : Int)) else lrun T n (4 * i + k + 1) (lstep T (4 * i + k) l)).1 999000000 ∧ ((if 1000000 < lstep T (4 * i + k) l (T.2.2.1 (4 * i + k) - 1) then (lstep T (4 * i + k) l, (1 : Int)) else lrun T n (4 * i + k + 1) (lstep T (4 * i + k) l)).2 = 0 → L3 (if 1000000 < lstep T (4 * i + k) l (T.2.2.1 (4 * i + k) - 1) then (lstep T (4 * i + k) l, (1 : Int)) else lrun T n (4 * i + k + 1) (lstep T (4 * i + k) l)).1 1000000)
    split
    · exact ⟨Or.inr rfl, fun f h4 h5 => (h3 f h4 h5).1, fun h => absurd h (by show ¬ (1 : Int) = 0; omega)⟩
    · rename_i h4
      rw [show 4 * i + k + 1 = 4 * i + (k + 1) by omega]
      refine lrun_in hT hi n (k + 1) _ (by omega) (by omega) (fun f h5 h6 => ?_)
      have h7 := h3 f h5 h6
      by_cases h8 : f = T.2.2.1 (4 * i + k) - 1
      · rw [← h8] at h4; omega
      · have := h7.2 h8; omega
theorem lcnt_in {T : TT} {k pk ps sh : Int} (hT : TOk T) (hk : 0 ≤ k ∧ k ≤ 6) (hs : 1 ≤ sh ∧ sh ≤ 2) : 0 ≤ lcnt T k pk ps sh ∧ lcnt T k pk ps sh ≤ T.1 (2 * k + sh - 1) := by
  have h1 := (hT (2 * k + sh - 1) (by omega) (by omega)).1
  unfold lcnt
  split <;> omega
theorem lshp_in {T : TT} {k pk ps : Int} (hT : TOk T) (hk : 0 ≤ k ∧ k ≤ 6) : ∀ (n : Nat) (sh : Int) (l : Int → Int), 1 ≤ sh → sh + n ≤ 3 → L3 l 1000000 → ((lshp T k pk ps n sh l).2 = 0 ∨ (lshp T k pk ps n sh l).2 = 1) ∧ L3 (lshp T k pk ps n sh l).1 999000000 ∧ ((lshp T k pk ps n sh l).2 = 0 → L3 (lshp T k pk ps n sh l).1 1000000)
  | 0, sh, l, _, _, hl => ⟨Or.inl rfl, fun f h0 h1 => by have := hl f h0 h1; show 0 ≤ l f ∧ l f ≤ _; omega, fun _ => hl⟩
  | n + 1, sh, l, h0, h1, hl => by
    have h2 := lcnt_in (pk := pk) (ps := ps) hT hk (sh := sh) ⟨h0, by omega⟩
    have h3 := lrun_in hT (i := 2 * k + sh - 1) (by omega) (lcnt T k pk ps sh).toNat 0 l (by omega) (by omega) hl
    rw [show 4 * (2 * k + sh - 1) + 0 = 4 * (2 * k + sh - 1) by omega] at h3
    by_cases h4 : (lrun T (lcnt T k pk ps sh).toNat (4 * (2 * k + sh - 1)) l).2 ≠ 0
    · have h5 : lshp T k pk ps (n + 1) sh l = lrun T (lcnt T k pk ps sh).toNat (4 * (2 * k + sh - 1)) l := if_pos h4
      rw [h5]; exact h3
    · have h5 : lshp T k pk ps (n + 1) sh l = lshp T k pk ps n (sh + 1) (lrun T (lcnt T k pk ps sh).toNat (4 * (2 * k + sh - 1)) l).1 := if_neg h4
      rw [h5]
      exact lshp_in hT hk n (sh + 1) _ (by omega) (by omega) (h3.2.2 (by omega))
theorem LfOk_lft {T : TT} {s : Int → Int} {n pk ps : Int} (hT : TOk T) (hE : EvOk s n) : LfOk s (LF T s pk ps) (BF T s pk ps) n := by
  intro e h0 h1 h7
  have h2 := hE e h0 h1
  have h3 := h2.2.1 h7
  have h4 := lshp_in (k := s (9 * e + 0)) (pk := pk) (ps := ps) hT (by omega) (3 - s (9 * e + 4)).toNat (s (9 * e + 4)) (fl s e) (by omega) (by omega) (fun f h5 h6 => by have := h3.2.2 f h5 h6; rw [fl_eq h5 h6]; omega)
  exact ⟨h4.1, fun f h5 h6 => ⟨h4.2.1 f h5 h6, fun hb => (h4.2.2 hb f h5 h6).2⟩⟩
theorem fl_ext {s s' : Int → Int} {e : Int} (h : ∀ f : Int, 0 ≤ f → f < 3 → s (9 * e + 5 + f) = s' (9 * e + 5 + f)) : fl s e = fl s' e := by
  funext f
  unfold fl
  split
  · exact h 0 (by omega) (by omega)
  · split
    · exact h 1 (by omega) (by omega)
    · exact h 2 (by omega) (by omega)
theorem lft_ext {T : TT} {s s' : Int → Int} {pk ps e : Int} (h0 : s (9 * e + 0) = s' (9 * e + 0)) (h4 : s (9 * e + 4) = s' (9 * e + 4)) (h : ∀ f : Int, 0 ≤ f → f < 3 → s (9 * e + 5 + f) = s' (9 * e + 5 + f)) : lft T s pk ps e = lft T s' pk ps e := by
  unfold lft
  rw [h0, h4, fl_ext h]
theorem LF_ext {T : TT} {s s' : Int → Int} {pk ps e : Int} (h0 : s (9 * e + 0) = s' (9 * e + 0)) (h4 : s (9 * e + 4) = s' (9 * e + 4)) (h : ∀ f : Int, 0 ≤ f → f < 3 → s (9 * e + 5 + f) = s' (9 * e + 5 + f)) : LF T s pk ps e = LF T s' pk ps e ∧ BF T s pk ps e = BF T s' pk ps e := by
  unfold LF BF
  rw [lft_ext h0 h4 h]
  exact ⟨rfl, rfl⟩
