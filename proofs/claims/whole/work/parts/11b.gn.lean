/-! A PIECE of a method's run: from a place to another, for the law's own body. -/
theorem ab_sp_mono {n k i : Nat} {L : ab_F} {st : List ab_V} {w : ab_W} {q : Nat × ab_F × List ab_V × ab_W} (hs : ab_sp (fun k' L' w' => ab_run n k' 0 L' [] w') k i L st w = some q) : w.1 ≤ q.2.2.2.1 ∧ w.2.1 ≤ q.2.2.2.2.1 := by
  unfold ab_sp at hs
  cases ho : ab_nth (ab_cod k) i with
  | none => rw [ho] at hs; cases hs
  | some o =>
    rw [ho] at hs
    dsimp only at hs
    split at hs
    · split at hs
      · split at hs
        · cases hs
        · rename_i y hy
          split at hs
          · have h9 := ab_run_mono _ _ _ hy
            cases hs
            exact h9
          · cases hs
      · cases hs
    · exact ab_ex_mono hs
theorem ab_stepW (l : Launch) {D : va_G} {cA : Nat → ClassId} {bnd : Nat} {aS : Int → Nat} {SL : Nat} {xs : Nat → Int32} {n k i : Nat} {L : ab_F} {st : List ab_V} {w : ab_W} {q : Nat × ab_F × List ab_V × ab_W} (hs : ab_sp (fun k' L' w' => ab_run n k' 0 L' [] w') k i L st w = some q)
    {p : Program} {e : Env} {R : Room} {s : State} {m : MethodId} {args : Array Value} {below : List Frame} {meth : Method} {c : Code} {Q : State → Prop} {K0 : Int} {S0 : Nat} (C : ab_Cx D cA bnd aS SL xs k p R s m args meth c) (hk0 : K0 ≤ w.1) (hs0 : S0 ≤ w.2.1) (hr1 : (q.2.2.2.1 - K0).toNat ≤ R.cells) (hr2 : q.2.2.2.2.1 - S0 ≤ R.slots)
    (kk : ab_WW p l e R s m args below meth c Q D cA bnd aS SL xs K0 S0 k q.1 q.2.1 q.2.2.1 q.2.2.2) : ab_WW p l e R s m args below meth c Q D cA bnd aS SL xs K0 S0 k i L st w := by
  unfold ab_sp at hs
  cases ho : ab_nth (ab_cod k) i with
  | none => rw [ho] at hs; cases hs
  | some o =>
    obtain ⟨op, a, b, nx⟩ := o
    rw [ho] at hs
    dsimp only at hs
    split at hs
    · split at hs
      · rename_i hc
        simp only [Bool.and_eq_true] at hc
        split at hs
        · cases hs
        · rename_i y hy
          split at hs
          · rename_i hnt
            cases hs
            obtain ⟨g1, g2⟩ := ab_run_mono _ _ _ hy
            have hok := hc.1
            simp only [ab_okc, Bool.and_eq_true] at hok
            have hk1 : a < 245 := ab_blt hok.1.1.1.1
            have hcm : ab_cat (st.take b.toNat).reverse ≤ ab_mxl a := by rw [ab_cat_rev]; exact Nat.le_of_ble_eq_true hok.1.1.1.2
            dsimp only at hr1 hr2 kk
            refine ab_p1 C ho hc.1 hc.2 hnt (ab_met l hk1 hcm (fun p e s m args below meth c C2 hlocks hret => ?_)) g1 g2 hk0 hs0 hr1 hr2 kk
            exact ab_sound l _ _ _ _ _ _ _ _ hy C2 (Int.le_refl _) (Nat.le_refl _) (Nat.le_refl _) (Nat.le_refl _) (fun i' L' st' hrt => ab_rt_W C2 hlocks hret hrt hnt)
          · cases hs
      · cases hs
    · exact ab_ex_ok C ho hs hk0 hs0 hr1 hr2 kk
theorem ab_it_mono {n k : Nat} : ∀ (t : Nat) {q x : Nat × ab_F × List ab_V × ab_W}, ab_it n k t q = some x → q.2.2.2.1 ≤ x.2.2.2.1 ∧ q.2.2.2.2.1 ≤ x.2.2.2.2.1 := by
  intro t
  induction t with
  | zero => intro q x h; cases h; exact ⟨Int.le_refl _, Nat.le_refl _⟩
  | succ t ih =>
    intro q x h
    rw [ab_it] at h
    split at h
    · cases h
    · rename_i y hy
      have h1 := ab_sp_mono hy
      have h2 := ih h
      exact ⟨Int.le_trans h1.1 h2.1, Nat.le_trans h1.2 h2.2⟩
theorem ab_itW (l : Launch) {D : va_G} {cA : Nat → ClassId} {bnd : Nat} {aS : Int → Nat} {SL : Nat} {xs : Nat → Int32} {n k : Nat} {p : Program} {e : Env} {R : Room} {s : State} {m : MethodId} {args : Array Value} {below : List Frame} {meth : Method} {c : Code} {Q : State → Prop} {K0 : Int} {S0 : Nat} (C : ab_Cx D cA bnd aS SL xs k p R s m args meth c) :
    ∀ (t : Nat) {q x : Nat × ab_F × List ab_V × ab_W}, ab_it n k t q = some x → K0 ≤ q.2.2.2.1 → S0 ≤ q.2.2.2.2.1 → (x.2.2.2.1 - K0).toNat ≤ R.cells → x.2.2.2.2.1 - S0 ≤ R.slots → ab_WW p l e R s m args below meth c Q D cA bnd aS SL xs K0 S0 k x.1 x.2.1 x.2.2.1 x.2.2.2 → ab_WW p l e R s m args below meth c Q D cA bnd aS SL xs K0 S0 k q.1 q.2.1 q.2.2.1 q.2.2.2 := by
  intro t
  induction t with
  | zero => intro q x h _ _ _ _ kk; cases h; exact kk
  | succ t ih =>
    intro q x h hk0 hs0 hr1 hr2 kk
    rw [ab_it] at h
    split at h
    · cases h
    · rename_i y hy
      have h1 := ab_sp_mono hy
      have h2 := ab_it_mono t h
      exact ab_stepW l hy C hk0 hs0 (by omega) (by omega) (ih h (Int.le_trans hk0 h1.1) (Nat.le_trans hs0 h1.2) hr1 hr2 kk)
theorem ab_it_more {n m k : Nat} (hnm : n ≤ m) : ∀ (t : Nat) {q x : Nat × ab_F × List ab_V × ab_W}, ab_it n k t q = some x → ab_it m k t q = some x := by
  intro t
  induction t with
  | zero => intro q x h; exact h
  | succ t ih =>
    intro q x h
    rw [ab_it] at h ⊢
    split at h
    · cases h
    · rename_i y hy
      rw [ab_sp_more (rn' := fun k' L' w' => ab_run m k' 0 L' [] w') (fun k L w x hx => ab_run_more hnm hx) hy]
      exact ih h
/-- from that place on the run comes to a place, with locals, stack and world that satisfy T -/
def ab_Gn (k i : Nat) (L : ab_F) (st : List ab_V) (w : ab_W) (T : Nat → ab_F → List ab_V → ab_W → Prop) : Prop := ∃ (n t : Nat) (q : Nat × ab_F × List ab_V × ab_W), ab_it n k t (i, L, st, w) = some q ∧ T q.1 q.2.1 q.2.2.1 q.2.2.2
theorem Gn_done {k i : Nat} {L : ab_F} {st : List ab_V} {w : ab_W} {T : Nat → ab_F → List ab_V → ab_W → Prop} (h : T i L st w) : ab_Gn k i L st w T := ⟨0, 0, (i, L, st, w), rfl, h⟩
theorem Gn_sp {n k i : Nat} {L : ab_F} {st : List ab_V} {w : ab_W} {T : Nat → ab_F → List ab_V → ab_W → Prop} {q : Nat × ab_F × List ab_V × ab_W} (hs : ab_sp (fun k' L' w' => ab_run n k' 0 L' [] w') k i L st w = some q) (h : ab_Gn k q.1 q.2.1 q.2.2.1 q.2.2.2 T) : ab_Gn k i L st w T := by
  obtain ⟨n2, t, q2, hi, hT⟩ := h
  refine ⟨max n n2, t + 1, q2, ?_, hT⟩
  rw [ab_it]
  dsimp only
  rw [ab_sp_more (rn' := fun k' L' w' => ab_run (max n n2) k' 0 L' [] w') (fun k L w x hx => ab_run_more (Nat.le_max_left n n2) hx) hs]
  exact ab_it_more (Nat.le_max_right n n2) t hi
theorem Gn_ex {k i op a nx : Nat} {b : Int} {L : ab_F} {st : List ab_V} {w : ab_W} {T : Nat → ab_F → List ab_V → ab_W → Prop} {q : Nat × ab_F × List ab_V × ab_W} (ho : ab_nth (ab_cod k) i = some (op, a, b, nx)) (h1 : op ≠ 1) (hx : ab_ex (op, a, b, nx) L st w = some q) (h : ab_Gn k q.1 q.2.1 q.2.2.1 q.2.2.2 T) : ab_Gn k i L st w T :=
  Gn_sp (n := 0) (by rw [ab_sp_ex ho h1]; exact hx) h
theorem Gn_pure {k : Nat} {w : ab_W} {T : Nat → ab_F → List ab_V → ab_W → Prop} : ∀ (n : Nat) {i i' : Nat} {L L' : ab_F} {st st' : List ab_V}, ab_psn n k i L st = some (i', L', st') → ab_Gn k i' L' st' w T → ab_Gn k i L st w T := by
  intro n
  induction n with
  | zero =>
    intro i i' L L' st st' h kk
    simp only [ab_psn, Option.some.injEq, Prod.mk.injEq] at h
    obtain ⟨rfl, rfl, rfl⟩ := h
    exact kk
  | succ n ih =>
    intro i i' L L' st st' h kk
    rw [ab_psn] at h
    cases ho : ab_nth (ab_cod k) i with
    | none => rw [ho] at h; cases h
    | some o =>
      rw [ho] at h
      dsimp only at h
      cases hp : ab_ps o L st with
      | none => rw [hp] at h; cases h
      | some q =>
        rw [hp] at h
        have hop := ab_ps_op hp
        obtain ⟨op, a, b, nx⟩ := o
        exact Gn_ex ho hop.2.1 (ab_ps_ex hp) (ih h kk)
theorem Gn_W (l : Launch) {D : va_G} {cA : Nat → ClassId} {bnd : Nat} {aS : Int → Nat} {SL : Nat} {xs : Nat → Int32} {k i : Nat} {L : ab_F} {st : List ab_V} {w : ab_W} {T : Nat → ab_F → List ab_V → ab_W → Prop} (h : ab_Gn k i L st w T)
    {p : Program} {e : Env} {R : Room} {s : State} {m : MethodId} {args : Array Value} {below : List Frame} {meth : Method} {c : Code} {Q : State → Prop} {K0 : Int} {S0 : Nat} (C : ab_Cx D cA bnd aS SL xs k p R s m args meth c) (hk0 : K0 ≤ w.1) (hs0 : S0 ≤ w.2.1)
    (kk : ∀ (i' : Nat) (L' : ab_F) (st' : List ab_V) (w' : ab_W), T i' L' st' w' → (w'.1 - K0).toNat ≤ R.cells ∧ w'.2.1 - S0 ≤ R.slots ∧ ab_WW p l e R s m args below meth c Q D cA bnd aS SL xs K0 S0 k i' L' st' w') : ab_WW p l e R s m args below meth c Q D cA bnd aS SL xs K0 S0 k i L st w := by
  obtain ⟨n, t, q, hi, hT⟩ := h
  obtain ⟨h1, h2, h3⟩ := kk _ _ _ _ hT
  exact ab_itW l C t hi hk0 hs0 h1 h2 h3
theorem WW_weak {p : Program} {l : Launch} {e : Env} {R : Room} {s : State} {m : MethodId} {args : Array Value} {below : List Frame} {meth : Method} {c : Code} {Q : State → Prop} {D : va_G} {cA : Nat → ClassId} {bnd : Nat} {aS : Int → Nat} {SL : Nat} {xs : Nat → Int32} {K0 : Int} {S0 k i : Nat} {L L' : ab_F} {st : List ab_V} {w : ab_W} (hle : ∀ (j : Nat) (v : ab_V), ab_lk L' j = some v → ab_lk L j = some v)
    (h : ab_WW p l e R s m args below meth c Q D cA bnd aS SL xs K0 S0 k i L' st w) : ab_WW p l e R s m args below meth c Q D cA bnd aS SL xs K0 S0 k i L st w := by
  intro H locs ls hw hS hl
  refine h H locs ls hw hS (ab_has_sub hl (fun q hq => ?_))
  obtain ⟨j, v, rfl, hj⟩ := ab_al_of hq
  exact ab_al_in (hle j v hj)
section GnRules
variable {k i a nx : Nat} {b : Int} {L : ab_F} {st : List ab_V} {T : Nat → ab_F → List ab_V → ab_W → Prop} {K : Int} {S : Nat} {g r : ab_H}
theorem Gn_lald {x j n : Int} (ho : ab_nth (ab_cod k) i = some (46, a, b, nx)) (hx : ab_AR K x 103 n) (hj : 0 ≤ j ∧ j < n) (kk : ab_Gn k nx L ((1, g x j) :: st) (K, S, g, r) T) : ab_Gn k i L ((0, j) :: (2, x) :: st) (K, S, g, r) T :=
  Gn_ex ho (by decide) (by show (if _ then _ else none) = _; exact if_pos ⟨ab_AR_c hx, ab_AR_n hx hj⟩) kk
theorem Gn_sld {j : Int} (ho : ab_nth (ab_cod k) i = some (67, a, b, nx)) (hj : 0 ≤ j ∧ j < r (-2) (-1)) (kk : ab_Gn k nx L ((0, g (-2) j) :: st) (K, S, g, r) T) : ab_Gn k i L ((0, j) :: (2, -2) :: st) (K, S, g, r) T :=
  Gn_ex ho (by decide) (by show (if _ then _ else none) = _; exact if_pos ⟨rfl, hj⟩) kk
theorem Gn_slen (ho : ab_nth (ab_cod k) i = some (68, a, b, nx)) (kk : ab_Gn k nx L ((0, r (-2) (-1)) :: st) (K, S, g, r) T) : ab_Gn k i L ((2, -2) :: st) (K, S, g, r) T :=
  Gn_ex ho (by decide) (by show (if (-2 : Int) = -2 then _ else none) = _; exact if_pos rfl) kk
theorem Gn_if {x : Int} (ho : ab_nth (ab_cod k) i = some (32, a, b, nx)) (kk : ab_Gn k (if ab_cB b x 0 then a else nx) L st (K, S, g, r) T) : ab_Gn k i L ((0, x) :: st) (K, S, g, r) T :=
  Gn_ex ho (by decide) rfl kk
theorem Gn_ic {x y : Int} (ho : ab_nth (ab_cod k) i = some (33, a, b, nx)) (kk : ab_Gn k (if ab_cB b x y then a else nx) L st (K, S, g, r) T) : ab_Gn k i L ((0, y) :: (0, x) :: st) (K, S, g, r) T :=
  Gn_ex ho (by decide) rfl kk
theorem Gn_ts {x : Int} (ho : ab_nth (ab_cod k) i = some (34, a, b, nx)) (kk : ab_Gn k (ab_ts a x) L st (K, S, g, r) T) : ab_Gn k i L ((0, x) :: st) (K, S, g, r) T :=
  Gn_ex ho (by decide) rfl kk
theorem Gn_call {k' : Nat} {w : ab_W} (av rest : List ab_V) (ho : ab_nth (ab_cod k) i = some (1, k', b, nx)) (h1 : (st.take b.toNat).reverse = av) (h2 : st.drop b.toNat = rest) (hok : ab_okc k k' b.toNat rest st = true) (hrv : ab_rvB k' av w.1 = true)
    (h : ab_Rn k' 0 (ab_en k' av) [] w (fun v w' => ab_nt v = true ∧ ab_Gn k nx L (v ++ rest) w' T)) : ab_Gn k i L st w T := by
  obtain ⟨n1, v, w1, hr1, hnt, hG⟩ := h
  refine Gn_sp (n := n1) (q := (nx, L, v ++ rest, w1)) ?_ hG
  rw [ab_sp_call ho rfl]
  dsimp only
  rw [h2, h1, if_pos (by rw [hok, hrv]; rfl), hr1]
  dsimp only
  rw [if_pos hnt]
theorem Gn_callI {k' : Nat} (av rest : List ab_V) (ho : ab_nth (ab_cod k) i = some (1, k', b, nx)) (h1 : (st.take b.toNat).reverse = av) (h2 : st.drop b.toNat = rest) (hok : ab_okc k k' b.toNat rest st = true) (hrv : ab_rvB k' av K = true)
    (h : ab_RI k' av K S g r (fun x g' r' => ab_Gn k nx L ((0, x) :: rest) (K, S, g', r') T)) : ab_Gn k i L st (K, S, g, r) T := by
  refine Gn_call av rest ho h1 h2 hok hrv ?_
  obtain ⟨n, v, w', hr, x, g', r', rfl, rfl, h3⟩ := h
  exact ⟨n, _, _, hr, rfl, h3⟩
end GnRules
