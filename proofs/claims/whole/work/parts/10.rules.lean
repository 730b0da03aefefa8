/-! RULES of the abstract machine. -/
theorem ab_rt_none {k i : Nat} {o : ab_O} {st : List ab_V} (h : ab_nth (ab_cod k) i = some o) (h0 : o.1 ≠ 0) (h1 : o.1 ≠ 72) : ab_rt k i st = none := by
  unfold ab_rt
  rw [h]
  dsimp only
  split <;> first | rfl | (exfalso; omega) | (simp_all)
theorem ab_sp_ex {rn : Nat → ab_F → ab_W → Option (List ab_V × ab_W)} {k i : Nat} {o : ab_O} {L : ab_F} {st : List ab_V} {w : ab_W} (h : ab_nth (ab_cod k) i = some o) (h1 : o.1 ≠ 1) : ab_sp rn k i L st w = ab_ex o L st w := by
  unfold ab_sp
  rw [h]
  dsimp only
  split
  · exact absurd (by assumption) h1
  · rfl
theorem ab_sp_call {rn : Nat → ab_F → ab_W → Option (List ab_V × ab_W)} {k i : Nat} {o : ab_O} {L : ab_F} {st : List ab_V} {w : ab_W} (h : ab_nth (ab_cod k) i = some o) (h1 : o.1 = 1) : ab_sp rn k i L st w =
    (if ab_okc k o.2.1 o.2.2.1.toNat (st.drop o.2.2.1.toNat) st && ab_rvB o.2.1 (st.take o.2.2.1.toNat).reverse w.1 then
        match rn o.2.1 (ab_en o.2.1 (st.take o.2.2.1.toNat).reverse) w with
        | none => none
        | some q => if ab_nt q.1 then some (o.2.2.2, L, q.1 ++ st.drop o.2.2.1.toNat, q.2) else none
      else none) := by
  obtain ⟨op, a, b, nx⟩ := o
  obtain rfl : op = 1 := h1
  unfold ab_sp
  rw [h]
  rfl
theorem ab_sp_more {rn rn' : Nat → ab_F → ab_W → Option (List ab_V × ab_W)} (hr : ∀ k L w x, rn k L w = some x → rn' k L w = some x) {k i : Nat} {L : ab_F} {st : List ab_V} {w : ab_W} {q : Nat × ab_F × List ab_V × ab_W} (h : ab_sp rn k i L st w = some q) : ab_sp rn' k i L st w = some q := by
  cases ho : ab_nth (ab_cod k) i with
  | none => unfold ab_sp at h; rw [ho] at h; cases h
  | some o =>
    by_cases h1 : o.1 = 1
    · rw [ab_sp_call ho h1] at h ⊢
      split at h
      · rename_i hc
        rw [if_pos hc]
        split at h
        · cases h
        · rename_i x hx
          rw [hr _ _ _ _ hx]
          exact h
      · cases h
    · rw [ab_sp_ex ho h1] at h ⊢
      exact h
theorem ab_run_succ : ∀ (n k i : Nat) (L : ab_F) (st : List ab_V) (w : ab_W) (x : List ab_V × ab_W), ab_run n k i L st w = some x → ab_run (n + 1) k i L st w = some x := by
  intro n
  induction n with
  | zero => intro k i L st w x h; simp [ab_run] at h
  | succ n ih =>
    intro k i L st w x h
    rw [ab_run] at h ⊢
    split at h
    · exact h
    · split at h
      · cases h
      · rename_i q hq
        have h2 := ab_sp_more (rn' := fun k' L' w' => ab_run (n + 1) k' 0 L' [] w') (fun k L w x hx => ih k 0 L [] w x hx) hq
        rw [h2]
        exact ih _ _ _ _ _ _ h
theorem ab_run_more {n m k i : Nat} {L : ab_F} {st : List ab_V} {w : ab_W} {x : List ab_V × ab_W} (hnm : n ≤ m) (h : ab_run n k i L st w = some x) : ab_run m k i L st w = some x := by
  induction hnm with
  | refl => exact h
  | step _ ih => exact ab_run_succ _ _ _ _ _ _ _ ih
theorem Rn_ex {k i op a nx : Nat} {b : Int} {L : ab_F} {st : List ab_V} {w : ab_W} {Q : List ab_V → ab_W → Prop} {q : Nat × ab_F × List ab_V × ab_W} (ho : ab_nth (ab_cod k) i = some (op, a, b, nx)) (h0 : op ≠ 0) (h1 : op ≠ 1) (h2 : op ≠ 72) (hx : ab_ex (op, a, b, nx) L st w = some q) (h : ab_Rn k q.1 q.2.1 q.2.2.1 q.2.2.2 Q) : ab_Rn k i L st w Q := by
  obtain ⟨n, v, w', hr, hq⟩ := h
  refine ⟨n + 1, v, w', ?_, hq⟩
  rw [ab_run, ab_rt_none ho h0 h2, ab_sp_ex ho h1, hx]
  exact hr
theorem ab_ps_ex {o : ab_O} {L : ab_F} {st : List ab_V} {w : ab_W} {q : Nat × ab_F × List ab_V} (h : ab_ps o L st = some q) : ab_ex o L st w = some (q.1, q.2.1, q.2.2, w) := by
  obtain ⟨op, a, b, nx⟩ := o
  unfold ab_ex
  dsimp only
  split <;> first
    | (rw [h]; done)
    | (simp [ab_ps] at h; done)
theorem ab_ps_op {o : ab_O} {L : ab_F} {st : List ab_V} {q : Nat × ab_F × List ab_V} (h : ab_ps o L st = some q) : o.1 ≠ 0 ∧ o.1 ≠ 1 ∧ o.1 ≠ 72 := by
  refine ⟨fun h0 => ?_, fun h0 => ?_, fun h0 => ?_⟩ <;> (unfold ab_ps at h; rw [h0] at h; simp at h)
/-- fewer locals known -/
def ab_fle : ab_F → ab_F → Prop
  | [], [] => True
  | none :: t, _ :: t' => ab_fle t t'
  | some a :: t, some b :: t' => a = b ∧ ab_fle t t'
  | _, _ => False
theorem ab_le_lk : ∀ {L L' : ab_F} {i : Nat} {v : ab_V}, ab_fle L L' → ab_lk L i = some v → ab_lk L' i = some v := by
  intro L
  induction L with
  | nil => intro L' i v _ h; simp [ab_lk, ab_nth] at h
  | cons a t ih =>
    intro L' i v hle h
    cases L' with
    | nil => cases a <;> simp [ab_fle] at hle
    | cons a' t' =>
      cases a with
      | none =>
        cases i with
        | zero => cases h
        | succ i =>
          have h2 : ab_lk t i = some v := h
          show ab_lk t' i = some v
          exact ih (show ab_fle t t' from hle) h2
      | some u =>
        cases a' with
        | none => simp [ab_fle] at hle
        | some u' =>
          obtain ⟨rfl, hle2⟩ := (show u = u' ∧ ab_fle t t' from hle)
          cases i with
          | zero => exact h
          | succ i =>
            have h2 : ab_lk t i = some v := h
            show ab_lk t' i = some v
            exact ih hle2 h2
theorem ab_le_rfl : ∀ (L : ab_F), ab_fle L L := by
  intro L
  induction L with
  | nil => trivial
  | cons a t ih => cases a with
    | none => exact ih
    | some u => exact ⟨rfl, ih⟩
theorem ab_le_set : ∀ {L L' : ab_F} {i : Nat} {o o' : Option ab_V}, ab_fle L L' → (o = none ∨ o = o') → ab_fle (ab_set L i o) (ab_set L' i o') := by
  intro L
  induction L with
  | nil => intro L' i o o' h _; cases L' with
    | nil => trivial
    | cons => cases h
  | cons a t ih =>
    intro L' i o o' hle ho
    cases L' with
    | nil => cases a <;> simp [ab_fle] at hle
    | cons a' t' =>
      have ht : ab_fle t t' := by
        cases a with
        | none => exact hle
        | some u => cases a' with
          | none => simp [ab_fle] at hle
          | some u' => exact hle.2
      cases i with
      | zero =>
        show ab_fle (o :: t) (o' :: t')
        rcases ho with rfl | rfl
        · exact ht
        · cases o with
          | none => exact ht
          | some u => exact ⟨rfl, ht⟩
      | succ i =>
        show ab_fle (a :: ab_set t i o) (a' :: ab_set t' i o')
        have h2 := ih (i := i) ht ho
        cases a with
        | none => exact h2
        | some u => cases a' with
          | none => simp [ab_fle] at hle
          | some u' => exact ⟨hle.1, h2⟩
theorem ab_le_kl {L L' : ab_F} {i : Nat} (h : ab_fle L L') : ab_fle (ab_kl L i) (ab_kl L' i) := by
  cases i with
  | zero => exact h
  | succ j =>
    unfold ab_kl
    dsimp only
    split
    · rename_i x hx
      rw [ab_le_lk h hx]
      exact ab_le_set h (Or.inl rfl)
    · split
      · rename_i _ hn _ x hx
        -- L has nothing there that is long: what L' forgets
        have key : ∀ {L L' : ab_F} {j : Nat}, ab_fle L L' → (∀ x, ab_lk L j = some (1, x) → False) → ∀ {x : Int}, ab_lk L' j = some (1, x) → ab_fle L (ab_set L' j none) := by
          intro L
          induction L with
          | nil => intro L' j h _ _ _; cases L' with
            | nil => trivial
            | cons => cases h
          | cons a t ih =>
            intro L' j hle hno x hx
            cases L' with
            | nil => cases a <;> simp [ab_fle] at hle
            | cons a' t' =>
              cases j with
              | zero =>
                have ha' : a' = some (1, x) := hx
                subst ha'
                cases a with
                | none => exact hle
                | some u =>
                  obtain ⟨rfl, -⟩ := (show u = (1, x) ∧ ab_fle t t' from hle)
                  exact (hno x rfl).elim
              | succ j =>
                cases a with
                | none => exact ih (show ab_fle t t' from hle) (fun x h => hno x h) hx
                | some u => cases a' with
                  | none => simp [ab_fle] at hle
                  | some u' => exact ⟨hle.1, ih hle.2 (fun x h => hno x h) hx⟩
        exact key h (fun x h => hn x h) hx
      · exact h
theorem ab_le_s1 {L L' : ab_F} {i : Nat} {v : ab_V} (h : ab_fle L L') : ab_fle (ab_s1 L i v) (ab_s1 L' i v) := ab_le_set (ab_le_kl h) (Or.inr rfl)
theorem ab_le_s2 {L L' : ab_F} {i : Nat} {v : ab_V} (h : ab_fle L L') : ab_fle (ab_s2 L i v) (ab_s2 L' i v) := ab_le_set (ab_le_set (ab_le_kl h) (Or.inr rfl)) (Or.inl rfl)
theorem ab_ps_le {o : ab_O} {L L' : ab_F} {st : List ab_V} {q : Nat × ab_F × List ab_V} (hle : ab_fle L L') (h : ab_ps o L st = some q) : ∃ L1, ab_ps o L' st = some (q.1, L1, q.2.2) ∧ ab_fle q.2.1 L1 := by
  obtain ⟨op, a, b, nx⟩ := o
  unfold ab_ps at h
  dsimp only at h
  split at h
  all_goals first
    | (cases h; exact ⟨_, rfl, ab_le_s1 hle⟩)
    | (cases h; exact ⟨_, rfl, ab_le_s2 hle⟩)
    | (cases h; exact ⟨_, rfl, hle⟩)
    | (cases h; done)
    | (split at h
       · rename_i hc
         cases h
         subst hc
         exact ⟨L', rfl, hle⟩
       · cases h; done)
    | (cases hk : ab_lk L a with
       | none => rw [hk] at h; cases h
       | some v =>
         have hk2 := ab_le_lk hle hk
         rw [hk] at h
         obtain ⟨t, x⟩ := v
         unfold ab_ps
         dsimp only
         rw [hk2]
         rcases t with _ | _ | _ | t <;> first
           | (cases h; exact ⟨_, rfl, hle⟩)
           | (cases h; exact ⟨_, rfl, ab_le_s1 hle⟩)
           | (cases h; done))
theorem ab_ex_le {o : ab_O} {L L' : ab_F} {st : List ab_V} {w : ab_W} {q : Nat × ab_F × List ab_V × ab_W} (hle : ab_fle L L') (h : ab_ex o L st w = some q) : ∃ L1, ab_ex o L' st w = some (q.1, L1, q.2.2.1, q.2.2.2) ∧ ab_fle q.2.1 L1 := by
  cases hp : ab_ps o L st with
  | some q2 =>
    have h2 := ab_ps_ex (w := w) hp
    rw [h] at h2
    cases h2
    obtain ⟨L1, h3, h4⟩ := ab_ps_le hle hp
    exact ⟨L1, ab_ps_ex h3, h4⟩
  | none =>
    refine ⟨L', ?_, ?_⟩
    · unfold ab_ex at h ⊢
      split at h
      all_goals first
        | (rw [hp] at h; cases h; done)
        | (split at h
           · rename_i hc
             cases h
             simp only [if_pos hc]
             done
           · cases h; done)
        | (split at h
           · cases h; done
           · rename_i hc
             cases h
             simp only [if_neg hc]
             done)
        | (cases h; rfl)
    · unfold ab_ex at h
      split at h
      all_goals first
        | (rw [hp] at h; cases h; done)
        | (split at h
           · cases h
             exact hle
           · cases h; done)
        | (split at h
           · cases h; done
           · cases h
             exact hle)
        | (cases h; exact hle)
theorem ab_run_le : ∀ (n k i : Nat) {L L' : ab_F} {st : List ab_V} {w : ab_W} {x : List ab_V × ab_W}, ab_fle L L' → ab_run n k i L st w = some x → ab_run n k i L' st w = some x := by
  intro n
  induction n with
  | zero => intro k i L L' st w x _ h; simp [ab_run] at h
  | succ n ih =>
    intro k i L L' st w x hle h
    rw [ab_run] at h ⊢
    split at h
    · exact h
    · cases hs : ab_sp (fun k' L' w' => ab_run n k' 0 L' [] w') k i L st w with
      | none => rw [hs] at h; cases h
      | some q =>
        rw [hs] at h
        have h2 : ∃ L1, ab_sp (fun k' L' w' => ab_run n k' 0 L' [] w') k i L' st w = some (q.1, L1, q.2.2.1, q.2.2.2) ∧ ab_fle q.2.1 L1 := by
          cases ho : ab_nth (ab_cod k) i with
          | none => unfold ab_sp at hs; rw [ho] at hs; cases hs
          | some o =>
            by_cases h1 : o.1 = 1
            · rw [ab_sp_call ho h1] at hs ⊢
              split at hs
              · rename_i hc
                rw [if_pos hc]
                split at hs
                · cases hs
                · rename_i y hy
                  try rw [hy]
                  try dsimp only
                  split at hs
                  · rename_i hnt
                    cases hs
                    exact ⟨L', by rw [if_pos hnt], hle⟩
                  · cases hs
              · cases hs
            · rw [ab_sp_ex ho h1] at hs ⊢
              exact ab_ex_le hle hs
        obtain ⟨L1, h3, h4⟩ := h2
        rw [h3]
        exact ih _ _ h4 h
theorem Rn_weak {k i : Nat} {L L' : ab_F} {st : List ab_V} {w : ab_W} {Q : List ab_V → ab_W → Prop} (hle : ab_fle L' L) (h : ab_Rn k i L' st w Q) : ab_Rn k i L st w Q := by
  obtain ⟨n, v, w', hr, hq⟩ := h
  exact ⟨n, v, w', ab_run_le n k i hle hr, hq⟩
/-- so many steps that touch locals and stack alone -/
def ab_psn : Nat → Nat → Nat → ab_F → List ab_V → Option (Nat × ab_F × List ab_V)
  | 0, _, i, L, st => some (i, L, st)
  | n + 1, k, i, L, st => match ab_nth (ab_cod k) i with
    | none => none
    | some o => match ab_ps o L st with
      | none => none
      | some q => ab_psn n k q.1 q.2.1 q.2.2
theorem Rn_pure {k : Nat} {w : ab_W} {Q : List ab_V → ab_W → Prop} : ∀ (n : Nat) {i i' : Nat} {L L' : ab_F} {st st' : List ab_V}, ab_psn n k i L st = some (i', L', st') → ab_Rn k i' L' st' w Q → ab_Rn k i L st w Q := by
  intro n
  induction n with
  | zero =>
    intro i i' L L' st st' h kk
    simp only [ab_psn, Option.some.injEq, Prod.mk.injEq] at h
    obtain ⟨rfl, rfl, rfl⟩ := h
    exact kk
  | succ n ih =>
    intro i i' L L' st st' h kk
    rw [ab_psn] at h
    cases ho : ab_nth (ab_cod k) i with
    | none => rw [ho] at h; cases h
    | some o =>
      rw [ho] at h
      dsimp only at h
      cases hp : ab_ps o L st with
      | none => rw [hp] at h; cases h
      | some q =>
        rw [hp] at h
        have hop := ab_ps_op hp
        obtain ⟨op, a, b, nx⟩ := o
        exact Rn_ex ho hop.1 hop.2.1 hop.2.2 (ab_ps_ex hp) (ih h kk)
section RnRules
variable {k i a nx : Nat} {b : Int} {L : ab_F} {st : List ab_V} {Q : List ab_V → ab_W → Prop} {K : Int} {S : Nat} {g r : ab_H}

theorem ab_AR_c {K x t n : Int} (h : ab_AR K x t n) : (ab_kd x).1 = t ∧ 0 ≤ x ∧ ab_po x < K := ⟨by rw [h.1], h.2.1, po_lt h.2.2 h.2.1⟩
theorem ab_OB_c {K x c : Int} (h : ab_OB K x c) : (ab_kd x).1 = c ∧ 0 ≤ x ∧ ab_po x < K := ⟨h.1, h.2.1, po_lt h.2.2 h.2.1⟩
theorem ab_AR_n {K x t n j : Int} (h : ab_AR K x t n) (hj : 0 ≤ j ∧ j < n) : 0 ≤ j ∧ j < (ab_kd x).2 := by rw [h.1]; exact hj
theorem Rn_rem {x y : Int} (ho : ab_nth (ab_cod k) i = some (19, a, b, nx)) (hy : ¬ wr y = 0) (kk : ab_Rn k nx L ((0, ab_rem x y) :: st) (K, S, g, r) Q) : ab_Rn k i L ((0, y) :: (0, x) :: st) (K, S, g, r) Q :=
  Rn_ex ho (by decide) (by decide) (by decide) (by show (if _ then none else _) = _; exact if_neg hy) kk
theorem Rn_getI {x : Int} (ho : ab_nth (ab_cod k) i = some (35, a, b, nx)) (hx : ab_OB K x b) (kk : ab_Rn k nx L ((0, g x a) :: st) (K, S, g, r) Q) : ab_Rn k i L ((2, x) :: st) (K, S, g, r) Q :=
  Rn_ex ho (by decide) (by decide) (by decide) (by show (if _ then _ else none) = _; exact if_pos (ab_OB_c hx)) kk
theorem Rn_getR {x y : Int} (ho : ab_nth (ab_cod k) i = some (37, a, b, nx)) (hx : ab_OB K x b) (hy : r x a = y) (hn : y ≠ -1) (kk : ab_Rn k nx L ((2, y) :: st) (K, S, g, r) Q) : ab_Rn k i L ((2, x) :: st) (K, S, g, r) Q := by
  subst hy
  exact Rn_ex ho (by decide) (by decide) (by decide) (by show (if _ then _ else none) = _; exact if_pos ⟨ab_OB_c hx, hn⟩) kk
theorem Rn_putI {x v : Int} (ho : ab_nth (ab_cod k) i = some (38, a, b, nx)) (hx : ab_OB K x b) (kk : ∀ g' : ab_H, g' = ab_up g x a v → ab_Rn k nx L st (K, S, g', r) Q) : ab_Rn k i L ((0, v) :: (2, x) :: st) (K, S, g, r) Q :=
  Rn_ex ho (by decide) (by decide) (by decide) (by show (if _ then _ else none) = _; exact if_pos (ab_OB_c hx)) (kk _ rfl)
theorem Rn_putZ {x v : Int} (ho : ab_nth (ab_cod k) i = some (39, a, b, nx)) (hx : ab_OB K x b) (hv : v = 0 ∨ v = 1) (kk : ∀ g' : ab_H, g' = ab_up g x a v → ab_Rn k nx L st (K, S, g', r) Q) : ab_Rn k i L ((0, v) :: (2, x) :: st) (K, S, g, r) Q :=
  Rn_ex ho (by decide) (by decide) (by decide) (by show (if _ then _ else none) = _; exact if_pos ⟨ab_OB_c hx, hv⟩) (kk _ rfl)
theorem Rn_putR {x v : Int} (ho : ab_nth (ab_cod k) i = some (40, a, b, nx)) (hx : ab_OB K x b) (hv : v ≠ -1) (kk : ∀ r' : ab_H, r' = ab_up r x a v → ab_Rn k nx L st (K, S, g, r') Q) : ab_Rn k i L ((2, v) :: (2, x) :: st) (K, S, g, r) Q :=
  Rn_ex ho (by decide) (by decide) (by decide) (by show (if _ then _ else none) = _; exact if_pos ⟨ab_OB_c hx, hv⟩) (kk _ rfl)
theorem Rn_putF {x v : Int} (ho : ab_nth (ab_cod k) i = some (41, a, b, nx)) (hx : ab_OB K x b) (hv : v ≠ -1) (kk : ∀ r' : ab_H, r' = ab_up r x a v → ab_Rn k nx L st (K, S, g, r') Q) : ab_Rn k i L ((2, v) :: (2, x) :: st) (K, S, g, r) Q :=
  Rn_ex ho (by decide) (by decide) (by decide) (by show (if _ then _ else none) = _; exact if_pos ⟨ab_OB_c hx, hv⟩) (kk _ rfl)
theorem Rn_iald {x j n : Int} (ho : ab_nth (ab_cod k) i = some (43, a, b, nx)) (hx : ab_AR K x 100 n) (hj : 0 ≤ j ∧ j < n) (kk : ab_Rn k nx L ((0, g x j) :: st) (K, S, g, r) Q) : ab_Rn k i L ((0, j) :: (2, x) :: st) (K, S, g, r) Q :=
  Rn_ex ho (by decide) (by decide) (by decide) (by show (if _ then _ else none) = _; exact if_pos ⟨ab_AR_c hx, ab_AR_n hx hj⟩) kk
theorem Rn_bald {x j n : Int} (ho : ab_nth (ab_cod k) i = some (44, a, b, nx)) (hx : ab_AR K x 101 n) (hj : 0 ≤ j ∧ j < n) (kk : ab_Rn k nx L ((0, g x j) :: st) (K, S, g, r) Q) : ab_Rn k i L ((0, j) :: (2, x) :: st) (K, S, g, r) Q :=
  Rn_ex ho (by decide) (by decide) (by decide) (by show (if _ then _ else none) = _; exact if_pos ⟨ab_AR_c hx, ab_AR_n hx hj⟩) kk
theorem Rn_zald {x j n : Int} (ho : ab_nth (ab_cod k) i = some (45, a, b, nx)) (hx : ab_AR K x 102 n) (hj : 0 ≤ j ∧ j < n) (kk : ab_Rn k nx L ((0, g x j) :: st) (K, S, g, r) Q) : ab_Rn k i L ((0, j) :: (2, x) :: st) (K, S, g, r) Q :=
  Rn_ex ho (by decide) (by decide) (by decide) (by show (if _ then _ else none) = _; exact if_pos ⟨ab_AR_c hx, ab_AR_n hx hj⟩) kk
theorem Rn_lald {x j n : Int} (ho : ab_nth (ab_cod k) i = some (46, a, b, nx)) (hx : ab_AR K x 103 n) (hj : 0 ≤ j ∧ j < n) (kk : ab_Rn k nx L ((1, g x j) :: st) (K, S, g, r) Q) : ab_Rn k i L ((0, j) :: (2, x) :: st) (K, S, g, r) Q :=
  Rn_ex ho (by decide) (by decide) (by decide) (by show (if _ then _ else none) = _; exact if_pos ⟨ab_AR_c hx, ab_AR_n hx hj⟩) kk
theorem Rn_aald {x j n y : Int} (ho : ab_nth (ab_cod k) i = some (47, a, b, nx)) (hx : ab_AR K x 104 n) (hj : 0 ≤ j ∧ j < n) (hy : r x j = y) (hn : y ≠ -1) (kk : ab_Rn k nx L ((2, y) :: st) (K, S, g, r) Q) : ab_Rn k i L ((0, j) :: (2, x) :: st) (K, S, g, r) Q := by
  subst hy
  exact Rn_ex ho (by decide) (by decide) (by decide) (by show (if _ then _ else none) = _; exact if_pos ⟨⟨ab_AR_c hx, ab_AR_n hx hj⟩, hn⟩) kk
theorem Rn_iast {x j n v : Int} (ho : ab_nth (ab_cod k) i = some (48, a, b, nx)) (hx : ab_AR K x 100 n) (hj : 0 ≤ j ∧ j < n)  (kk : ∀ g' : ab_H, g' = ab_up g x j v → ab_Rn k nx L st (K, S, g', r) Q) : ab_Rn k i L ((0, v) :: (0, j) :: (2, x) :: st) (K, S, g, r) Q :=
  Rn_ex ho (by decide) (by decide) (by decide) (by show (if _ then _ else none) = _; exact if_pos ⟨ab_AR_c hx, ab_AR_n hx hj⟩) (kk _ rfl)
theorem Rn_bast {x j n v : Int} (ho : ab_nth (ab_cod k) i = some (49, a, b, nx)) (hx : ab_AR K x 101 n) (hj : 0 ≤ j ∧ j < n)  (kk : ∀ g' : ab_H, g' = ab_up g x j (ab_i2b v) → ab_Rn k nx L st (K, S, g', r) Q) : ab_Rn k i L ((0, v) :: (0, j) :: (2, x) :: st) (K, S, g, r) Q :=
  Rn_ex ho (by decide) (by decide) (by decide) (by show (if _ then _ else none) = _; exact if_pos ⟨ab_AR_c hx, ab_AR_n hx hj⟩) (kk _ rfl)
theorem Rn_zast {x j n v : Int} (ho : ab_nth (ab_cod k) i = some (50, a, b, nx)) (hx : ab_AR K x 102 n) (hj : 0 ≤ j ∧ j < n) (hv : v = 0 ∨ v = 1) (kk : ∀ g' : ab_H, g' = ab_up g x j v → ab_Rn k nx L st (K, S, g', r) Q) : ab_Rn k i L ((0, v) :: (0, j) :: (2, x) :: st) (K, S, g, r) Q :=
  Rn_ex ho (by decide) (by decide) (by decide) (by show (if _ then _ else none) = _; exact if_pos ⟨⟨ab_AR_c hx, ab_AR_n hx hj⟩, hv⟩) (kk _ rfl)
theorem Rn_last {x j n v : Int} (ho : ab_nth (ab_cod k) i = some (51, a, b, nx)) (hx : ab_AR K x 103 n) (hj : 0 ≤ j ∧ j < n)  (kk : ∀ g' : ab_H, g' = ab_up g x j v → ab_Rn k nx L st (K, S, g', r) Q) : ab_Rn k i L ((1, v) :: (0, j) :: (2, x) :: st) (K, S, g, r) Q :=
  Rn_ex ho (by decide) (by decide) (by decide) (by show (if _ then _ else none) = _; exact if_pos ⟨ab_AR_c hx, ab_AR_n hx hj⟩) (kk _ rfl)
theorem Rn_aast {x j n v : Int} (ho : ab_nth (ab_cod k) i = some (60, a, b, nx)) (hx : ab_AR K x 104 n) (hj : 0 ≤ j ∧ j < n) (hv : ab_OB K v 5) (kk : ∀ r' : ab_H, r' = ab_up r x j v → ab_Rn k nx L st (K, S, g, r') Q) : ab_Rn k i L ((2, v) :: (0, j) :: (2, x) :: st) (K, S, g, r) Q :=
  Rn_ex ho (by decide) (by decide) (by decide) (by show (if _ then _ else none) = _; exact if_pos ⟨⟨ab_AR_c hx, ab_AR_n hx hj⟩, ab_OB_c hv⟩) (kk _ rfl)
theorem Rn_alen {x n : Int} (ho : ab_nth (ab_cod k) i = some (61, a, b, nx)) (hx : ab_AR K x (100 + (a : Int)) n) (kk : ab_Rn k nx L ((0, n) :: st) (K, S, g, r) Q) : ab_Rn k i L ((2, x) :: st) (K, S, g, r) Q := by
  have h1 : (ab_kd x).2 = n := by rw [hx.1]
  rw [← h1] at kk
  exact Rn_ex ho (by decide) (by decide) (by decide) (by show (if _ then _ else none) = _; exact if_pos (ab_AR_c hx)) kk
theorem Rn_max {x y : Int} (ho : ab_nth (ab_cod k) i = some (55, a, b, nx)) (hc : ab_cat st ≤ 8) (kk : ab_Rn k nx L ((0, ab_max x y) :: st) (K, S, g, r) Q) : ab_Rn k i L ((0, y) :: (0, x) :: st) (K, S, g, r) Q :=
  Rn_ex ho (by decide) (by decide) (by decide) (by show (if _ then _ else none) = _; exact if_pos hc) kk
theorem Rn_min {x y : Int} (ho : ab_nth (ab_cod k) i = some (56, a, b, nx)) (hc : ab_cat st ≤ 8) (kk : ab_Rn k nx L ((0, ab_min x y) :: st) (K, S, g, r) Q) : ab_Rn k i L ((0, y) :: (0, x) :: st) (K, S, g, r) Q :=
  Rn_ex ho (by decide) (by decide) (by decide) (by show (if _ then _ else none) = _; exact if_pos hc) kk
theorem Rn_copy {x y n sp dp n0 n1 : Int} (ho : ab_nth (ab_cod k) i = some (57, a, b, nx)) (hx : ab_AR K x 100 n0) (hy : ab_AR K y 100 n1) (hc : ab_cat st ≤ 8) (hK : 187 ≤ K) (hxy : x ≠ y) (hn : 0 ≤ n ∧ 0 ≤ sp ∧ 0 ≤ dp ∧ sp + n ≤ n0 ∧ dp + n ≤ n1) (kk : ∀ g' : ab_H, g' = ab_cpy g x sp y dp n → ab_Rn k nx L st (K, S, g', r) Q) : ab_Rn k i L ((0, n) :: (0, dp) :: (2, y) :: (0, sp) :: (2, x) :: st) (K, S, g, r) Q :=
  Rn_ex ho (by decide) (by decide) (by decide) (by show (if _ then _ else none) = _; exact if_pos ⟨⟨ab_AR_c hx, ab_AR_c hy⟩, hc, hxy, hK, hn.1, hn.2.1, hn.2.2.1, by rw [hx.1]; exact hn.2.2.2.1, by rw [hy.1]; exact hn.2.2.2.2⟩) (kk _ rfl)
theorem Rn_obji {x : Int} (ho : ab_nth (ab_cod k) i = some (58, a, b, nx)) (hc : ab_cat st ≤ 8) (kk : ab_Rn k nx L (st) (K, S, g, r) Q) : ab_Rn k i L ((2, x) :: st) (K, S, g, r) Q :=
  Rn_ex ho (by decide) (by decide) (by decide) (by show (if _ then _ else none) = _; exact if_pos hc) kk
theorem Rn_wald {j : Int} (ho : ab_nth (ab_cod k) i = some (63, a, b, nx)) (hj : 0 ≤ j ∧ j < 17) (kk : ab_Rn k nx L ((2, -5 - j) :: st) (K, S, g, r) Q) : ab_Rn k i L ((0, j) :: (2, -3) :: st) (K, S, g, r) Q :=
  Rn_ex ho (by decide) (by decide) (by decide) (by show (if _ then _ else none) = _; exact if_pos ⟨rfl, hj⟩) kk
theorem Rn_swld {j : Int} (ho : ab_nth (ab_cod k) i = some (64, a, b, nx)) (hj : 0 ≤ j ∧ j < 17) (kk : ab_Rn k nx L ((0, (ab_nth ab_swm j.toNat).getD 0) :: st) (K, S, g, r) Q) : ab_Rn k i L ((0, j) :: (2, -4) :: st) (K, S, g, r) Q :=
  Rn_ex ho (by decide) (by decide) (by decide) (by show (if _ then _ else none) = _; exact if_pos ⟨rfl, hj⟩) kk
theorem Rn_wcode {x : Int} (ho : ab_nth (ab_cod k) i = some (65, 1, b, nx)) (hx : x ≤ -5 ∧ -21 ≤ x) (kk : ab_Rn k nx L ((1, ((ab_nth ab_wt (-5 - x).toNat).getD (0, 0, 0)).1) :: st) (K, S, g, r) Q) : ab_Rn k i L ((2, x) :: st) (K, S, g, r) Q :=
  Rn_ex ho (by decide) (by decide) (by decide) (by show (if _ then _ else none) = _; exact if_pos hx) kk
theorem Rn_wkind {x : Int} (ho : ab_nth (ab_cod k) i = some (65, 2, b, nx)) (hx : x ≤ -5 ∧ -21 ≤ x) (kk : ab_Rn k nx L ((0, ((ab_nth ab_wt (-5 - x).toNat).getD (0, 0, 0)).2.1) :: st) (K, S, g, r) Q) : ab_Rn k i L ((2, x) :: st) (K, S, g, r) Q :=
  Rn_ex ho (by decide) (by decide) (by decide) (by show (if _ then _ else none) = _; exact if_pos hx) kk
theorem Rn_wop {x : Int} (ho : ab_nth (ab_cod k) i = some (65, 3, b, nx)) (hx : x ≤ -5 ∧ -21 ≤ x) (kk : ab_Rn k nx L ((0, ((ab_nth ab_wt (-5 - x).toNat).getD (0, 0, 0)).2.2) :: st) (K, S, g, r) Q) : ab_Rn k i L ((2, x) :: st) (K, S, g, r) Q :=
  Rn_ex ho (by decide) (by decide) (by decide) (by show (if _ then _ else none) = _; exact if_pos hx) kk
theorem Rn_word {x : Int} (ho : ab_nth (ab_cod k) i = some (66, a, b, nx)) (hc : ab_cat st ≤ 8) (hx : x ≤ -5 ∧ -21 ≤ x) (kk : ab_Rn k nx L ((0, -5 - x) :: st) (K, S, g, r) Q) : ab_Rn k i L ((2, x) :: st) (K, S, g, r) Q :=
  Rn_ex ho (by decide) (by decide) (by decide) (by show (if _ then _ else none) = _; exact if_pos ⟨hc, hx⟩) kk
theorem Rn_sld {j : Int} (ho : ab_nth (ab_cod k) i = some (67, a, b, nx)) (hj : 0 ≤ j ∧ j < r (-2) (-1)) (kk : ab_Rn k nx L ((0, g (-2) j) :: st) (K, S, g, r) Q) : ab_Rn k i L ((0, j) :: (2, -2) :: st) (K, S, g, r) Q :=
  Rn_ex ho (by decide) (by decide) (by decide) (by show (if _ then _ else none) = _; exact if_pos ⟨rfl, hj⟩) kk
theorem Rn_slen  (ho : ab_nth (ab_cod k) i = some (68, a, b, nx))  (kk : ab_Rn k nx L ((0, r (-2) (-1)) :: st) (K, S, g, r) Q) : ab_Rn k i L ((2, -2) :: st) (K, S, g, r) Q :=
  Rn_ex ho (by decide) (by decide) (by decide) (by show (if (-2 : Int) = -2 then _ else none) = _; exact if_pos rfl) kk
theorem Rn_strlen  (ho : ab_nth (ab_cod k) i = some (69, a, b, nx)) (hc : ab_cat st ≤ 8) (kk : ab_Rn k nx L ((0, 86) :: st) (K, S, g, r) Q) : ab_Rn k i L ((2, -22) :: st) (K, S, g, r) Q :=
  Rn_ex ho (by decide) (by decide) (by decide) (by show (if _ then _ else none) = _; exact if_pos ⟨hc, rfl⟩) kk
theorem Rn_char {j : Int} (ho : ab_nth (ab_cod k) i = some (70, a, b, nx)) (hc : ab_cat st ≤ 8) (hj : 0 ≤ j ∧ j < 86) (kk : ab_Rn k nx L ((0, (ab_nth ab_str j.toNat).getD 0) :: st) (K, S, g, r) Q) : ab_Rn k i L ((0, j) :: (2, -22) :: st) (K, S, g, r) Q :=
  Rn_ex ho (by decide) (by decide) (by decide) (by show (if _ then _ else none) = _; exact if_pos ⟨hc, rfl, hj⟩) kk
theorem Rn_ifeq {x : Int} (ho : ab_nth (ab_cod k) i = some (32, a, 0, nx)) (ht : wr x = wr 0 → ab_Rn k a L st (K, S, g, r) Q) (hf : ¬ wr x = wr 0 → ab_Rn k nx L st (K, S, g, r) Q) : ab_Rn k i L ((0, x) :: st) (K, S, g, r) Q := by
  refine Rn_ex ho (by decide) (by decide) (by decide) rfl ?_
  show ab_Rn k (if ab_cB 0 x 0 then a else nx) L st (K, S, g, r) Q
  by_cases hc : wr x = wr 0
  · rw [show ab_cB 0 x 0 = true by simp [ab_cB, hc]]
    exact ht hc
  · rw [show ab_cB 0 x 0 = false by simp [ab_cB, hc]]
    exact hf (by first | exact hc | omega)
theorem Rn_iceq {x y : Int} (ho : ab_nth (ab_cod k) i = some (33, a, 0, nx)) (ht : wr x = wr y → ab_Rn k a L st (K, S, g, r) Q) (hf : ¬ wr x = wr y → ab_Rn k nx L st (K, S, g, r) Q) : ab_Rn k i L ((0, y) :: (0, x) :: st) (K, S, g, r) Q := by
  refine Rn_ex ho (by decide) (by decide) (by decide) rfl ?_
  show ab_Rn k (if ab_cB 0 x y then a else nx) L st (K, S, g, r) Q
  by_cases hc : wr x = wr y
  · rw [show ab_cB 0 x y = true by simp [ab_cB, hc]]
    exact ht hc
  · rw [show ab_cB 0 x y = false by simp [ab_cB, hc]]
    exact hf (by first | exact hc | omega)
theorem Rn_ifne {x : Int} (ho : ab_nth (ab_cod k) i = some (32, a, 1, nx)) (ht : ¬ wr x = wr 0 → ab_Rn k a L st (K, S, g, r) Q) (hf : wr x = wr 0 → ab_Rn k nx L st (K, S, g, r) Q) : ab_Rn k i L ((0, x) :: st) (K, S, g, r) Q := by
  refine Rn_ex ho (by decide) (by decide) (by decide) rfl ?_
  show ab_Rn k (if ab_cB 1 x 0 then a else nx) L st (K, S, g, r) Q
  by_cases hc : wr x = wr 0
  · rw [show ab_cB 1 x 0 = false by simp [ab_cB, hc]]
    exact hf hc
  · rw [show ab_cB 1 x 0 = true by simp [ab_cB, hc]]
    exact ht hc
theorem Rn_icne {x y : Int} (ho : ab_nth (ab_cod k) i = some (33, a, 1, nx)) (ht : ¬ wr x = wr y → ab_Rn k a L st (K, S, g, r) Q) (hf : wr x = wr y → ab_Rn k nx L st (K, S, g, r) Q) : ab_Rn k i L ((0, y) :: (0, x) :: st) (K, S, g, r) Q := by
  refine Rn_ex ho (by decide) (by decide) (by decide) rfl ?_
  show ab_Rn k (if ab_cB 1 x y then a else nx) L st (K, S, g, r) Q
  by_cases hc : wr x = wr y
  · rw [show ab_cB 1 x y = false by simp [ab_cB, hc]]
    exact hf hc
  · rw [show ab_cB 1 x y = true by simp [ab_cB, hc]]
    exact ht hc
theorem Rn_iflt {x : Int} (ho : ab_nth (ab_cod k) i = some (32, a, 2, nx)) (ht : wr x < wr 0 → ab_Rn k a L st (K, S, g, r) Q) (hf : wr 0 ≤ wr x → ab_Rn k nx L st (K, S, g, r) Q) : ab_Rn k i L ((0, x) :: st) (K, S, g, r) Q := by
  refine Rn_ex ho (by decide) (by decide) (by decide) rfl ?_
  show ab_Rn k (if ab_cB 2 x 0 then a else nx) L st (K, S, g, r) Q
  by_cases hc : wr x < wr 0
  · rw [show ab_cB 2 x 0 = true by simp [ab_cB, hc]]
    exact ht hc
  · rw [show ab_cB 2 x 0 = false by simp [ab_cB, hc]]
    exact hf (by first | exact hc | omega)
theorem Rn_iclt {x y : Int} (ho : ab_nth (ab_cod k) i = some (33, a, 2, nx)) (ht : wr x < wr y → ab_Rn k a L st (K, S, g, r) Q) (hf : wr y ≤ wr x → ab_Rn k nx L st (K, S, g, r) Q) : ab_Rn k i L ((0, y) :: (0, x) :: st) (K, S, g, r) Q := by
  refine Rn_ex ho (by decide) (by decide) (by decide) rfl ?_
  show ab_Rn k (if ab_cB 2 x y then a else nx) L st (K, S, g, r) Q
  by_cases hc : wr x < wr y
  · rw [show ab_cB 2 x y = true by simp [ab_cB, hc]]
    exact ht hc
  · rw [show ab_cB 2 x y = false by simp [ab_cB, hc]]
    exact hf (by first | exact hc | omega)
theorem Rn_ifge {x : Int} (ho : ab_nth (ab_cod k) i = some (32, a, 3, nx)) (ht : wr 0 ≤ wr x → ab_Rn k a L st (K, S, g, r) Q) (hf : wr x < wr 0 → ab_Rn k nx L st (K, S, g, r) Q) : ab_Rn k i L ((0, x) :: st) (K, S, g, r) Q := by
  refine Rn_ex ho (by decide) (by decide) (by decide) rfl ?_
  show ab_Rn k (if ab_cB 3 x 0 then a else nx) L st (K, S, g, r) Q
  by_cases hc : wr 0 ≤ wr x
  · rw [show ab_cB 3 x 0 = true by simp [ab_cB, hc]]
    exact ht hc
  · rw [show ab_cB 3 x 0 = false by simp [ab_cB, hc]]
    exact hf (by first | exact hc | omega)
theorem Rn_icge {x y : Int} (ho : ab_nth (ab_cod k) i = some (33, a, 3, nx)) (ht : wr y ≤ wr x → ab_Rn k a L st (K, S, g, r) Q) (hf : wr x < wr y → ab_Rn k nx L st (K, S, g, r) Q) : ab_Rn k i L ((0, y) :: (0, x) :: st) (K, S, g, r) Q := by
  refine Rn_ex ho (by decide) (by decide) (by decide) rfl ?_
  show ab_Rn k (if ab_cB 3 x y then a else nx) L st (K, S, g, r) Q
  by_cases hc : wr y ≤ wr x
  · rw [show ab_cB 3 x y = true by simp [ab_cB, hc]]
    exact ht hc
  · rw [show ab_cB 3 x y = false by simp [ab_cB, hc]]
    exact hf (by first | exact hc | omega)
theorem Rn_ifgt {x : Int} (ho : ab_nth (ab_cod k) i = some (32, a, 4, nx)) (ht : wr 0 < wr x → ab_Rn k a L st (K, S, g, r) Q) (hf : wr x ≤ wr 0 → ab_Rn k nx L st (K, S, g, r) Q) : ab_Rn k i L ((0, x) :: st) (K, S, g, r) Q := by
  refine Rn_ex ho (by decide) (by decide) (by decide) rfl ?_
  show ab_Rn k (if ab_cB 4 x 0 then a else nx) L st (K, S, g, r) Q
  by_cases hc : wr 0 < wr x
  · rw [show ab_cB 4 x 0 = true by simp [ab_cB, hc]]
    exact ht hc
  · rw [show ab_cB 4 x 0 = false by simp [ab_cB, hc]]
    exact hf (by first | exact hc | omega)
theorem Rn_icgt {x y : Int} (ho : ab_nth (ab_cod k) i = some (33, a, 4, nx)) (ht : wr y < wr x → ab_Rn k a L st (K, S, g, r) Q) (hf : wr x ≤ wr y → ab_Rn k nx L st (K, S, g, r) Q) : ab_Rn k i L ((0, y) :: (0, x) :: st) (K, S, g, r) Q := by
  refine Rn_ex ho (by decide) (by decide) (by decide) rfl ?_
  show ab_Rn k (if ab_cB 4 x y then a else nx) L st (K, S, g, r) Q
  by_cases hc : wr y < wr x
  · rw [show ab_cB 4 x y = true by simp [ab_cB, hc]]
    exact ht hc
  · rw [show ab_cB 4 x y = false by simp [ab_cB, hc]]
    exact hf (by first | exact hc | omega)
theorem Rn_ifle {x : Int} (ho : ab_nth (ab_cod k) i = some (32, a, 5, nx)) (ht : wr x ≤ wr 0 → ab_Rn k a L st (K, S, g, r) Q) (hf : wr 0 < wr x → ab_Rn k nx L st (K, S, g, r) Q) : ab_Rn k i L ((0, x) :: st) (K, S, g, r) Q := by
  refine Rn_ex ho (by decide) (by decide) (by decide) rfl ?_
  show ab_Rn k (if ab_cB 5 x 0 then a else nx) L st (K, S, g, r) Q
  by_cases hc : wr x ≤ wr 0
  · rw [show ab_cB 5 x 0 = true by simp [ab_cB, hc]]
    exact ht hc
  · rw [show ab_cB 5 x 0 = false by simp [ab_cB, hc]]
    exact hf (by first | exact hc | omega)
theorem Rn_icle {x y : Int} (ho : ab_nth (ab_cod k) i = some (33, a, 5, nx)) (ht : wr x ≤ wr y → ab_Rn k a L st (K, S, g, r) Q) (hf : wr y < wr x → ab_Rn k nx L st (K, S, g, r) Q) : ab_Rn k i L ((0, y) :: (0, x) :: st) (K, S, g, r) Q := by
  refine Rn_ex ho (by decide) (by decide) (by decide) rfl ?_
  show ab_Rn k (if ab_cB 5 x y then a else nx) L st (K, S, g, r) Q
  by_cases hc : wr x ≤ wr y
  · rw [show ab_cB 5 x y = true by simp [ab_cB, hc]]
    exact ht hc
  · rw [show ab_cB 5 x y = false by simp [ab_cB, hc]]
    exact hf (by first | exact hc | omega)
theorem Rn_ts {x : Int} (ho : ab_nth (ab_cod k) i = some (34, a, b, nx)) (kk : ab_Rn k (ab_ts a x) L st (K, S, g, r) Q) : ab_Rn k i L ((0, x) :: st) (K, S, g, r) Q :=
  Rn_ex ho (by decide) (by decide) (by decide) rfl kk
theorem ab_ts_in {x lo : Int} {d t j : Nat} {tg : List Nat} (hT : ab_nth ab_tsL a = some (lo, d, tg)) (hx : wr x = lo + j) (hj : ab_nth tg j = some t) : ab_ts a x = t := by
  unfold ab_ts
  rw [hT]
  dsimp only
  rw [if_neg (by omega), show (wr x - lo).toNat = j by omega, hj]
  rfl
theorem ab_ts_out {x lo : Int} {d n : Nat} {tg : List Nat} (hT : ab_nth ab_tsL a = some (lo, d, tg)) (hn : tg.length = n) (hx : wr x < lo ∨ lo + n ≤ wr x) : ab_ts a x = d := by
  unfold ab_ts
  rw [hT]
  dsimp only
  by_cases h : wr x < lo
  · rw [if_pos h]
  · rw [if_neg h]
    have : ab_nth tg (wr x - lo).toNat = none := by
      rw [ab_nth_get, List.getElem?_eq_none_iff]; omega
    rw [this]
    rfl
/-- what a method answers, where it makes nothing: a number -/
def ab_Qi (K : Int) (S : Nat) (P : Int → ab_H → ab_H → Prop) : List ab_V → ab_W → Prop := fun v w' => ∃ x g' r', v = [(0, x)] ∧ w' = (K, S, g', r') ∧ P x g' r'
def ab_Qv (K : Int) (S : Nat) (P : ab_H → ab_H → Prop) : List ab_V → ab_W → Prop := fun v w' => ∃ g' r', v = [] ∧ w' = (K, S, g', r') ∧ P g' r'
def ab_RI (k : Nat) (av : List ab_V) (K : Int) (S : Nat) (g r : ab_H) (P : Int → ab_H → ab_H → Prop) : Prop := ab_Rn k 0 (ab_en k av) [] (K, S, g, r) (ab_Qi K S P)
def ab_RV (k : Nat) (av : List ab_V) (K : Int) (S : Nat) (g r : ab_H) (P : ab_H → ab_H → Prop) : Prop := ab_Rn k 0 (ab_en k av) [] (K, S, g, r) (ab_Qv K S P)
theorem ab_RI.mono {av : List ab_V} {P P' : Int → ab_H → ab_H → Prop} (h : ab_RI k av K S g r P) (hp : ∀ x g' r', P x g' r' → P' x g' r') : ab_RI k av K S g r P' := by
  obtain ⟨n, v, w', hr, x, g', r', h1, h2, h3⟩ := h
  exact ⟨n, v, w', hr, x, g', r', h1, h2, hp _ _ _ h3⟩
theorem ab_RV.mono {av : List ab_V} {P P' : ab_H → ab_H → Prop} (h : ab_RV k av K S g r P) (hp : ∀ g' r', P g' r' → P' g' r') : ab_RV k av K S g r P' := by
  obtain ⟨n, v, w', hr, g', r', h1, h2, h3⟩ := h
  exact ⟨n, v, w', hr, g', r', h1, h2, hp _ _ h3⟩
theorem Rn_ret0 (ho : ab_nth (ab_cod k) i = some (0, 0, b, nx)) {P : ab_H → ab_H → Prop} (h : P g r) : ab_Rn k i L [] (K, S, g, r) (ab_Qv K S P) := by
  refine ⟨1, [], (K, S, g, r), ?_, g, r, rfl, rfl, h⟩
  rw [ab_run, show ab_rt k i [] = some [] by unfold ab_rt; rw [ho]; rfl]
theorem Rn_ret1 {x : Int} (ho : ab_nth (ab_cod k) i = some (0, 1, b, nx)) {P : Int → ab_H → ab_H → Prop} (h : P x g r) : ab_Rn k i L [(0, x)] (K, S, g, r) (ab_Qi K S P) := by
  refine ⟨1, [(0, x)], (K, S, g, r), ?_, x, g, r, rfl, rfl, h⟩
  rw [ab_run, show ab_rt k i [(0, x)] = some [(0, x)] by unfold ab_rt; rw [ho]; rfl]
theorem Rn_ret2 {x : Int} (ho : ab_nth (ab_cod k) i = some (0, 2, b, nx)) (hx : x = 0 ∨ x = 1) {P : Int → ab_H → ab_H → Prop} (h : P x g r) : ab_Rn k i L [(0, x)] (K, S, g, r) (ab_Qi K S P) := by
  refine ⟨1, [(0, x)], (K, S, g, r), ?_, x, g, r, rfl, rfl, h⟩
  rw [ab_run, show ab_rt k i [(0, x)] = some [(0, x)] by unfold ab_rt; rw [ho]; exact if_pos hx]
theorem ab_rvB_of {k' : Nat} {x : Int} {t : List ab_V} {c : Int} (hc : ab_rcv k' = c) (hx : ab_OB K x c) : ab_rvB k' ((2, x) :: t) K = true := by
  unfold ab_rvB
  rw [hc]
  simp only [Bool.or_eq_true, decide_eq_true_eq]
  exact Or.inr (ab_OB_c hx)
theorem Rn_call {k' : Nat} {w : ab_W} (av rest : List ab_V) (ho : ab_nth (ab_cod k) i = some (1, k', b, nx)) (h1 : (st.take b.toNat).reverse = av) (h2 : st.drop b.toNat = rest) (hok : ab_okc k k' b.toNat rest st = true) (hrv : ab_rvB k' av w.1 = true)
    (h : ab_Rn k' 0 (ab_en k' av) [] w (fun v w' => ab_nt v = true ∧ ab_Rn k nx L (v ++ rest) w' Q)) : ab_Rn k i L st w Q := by
  obtain ⟨n1, v, w1, hr1, hnt, n2, v2, w2, hr2, hq⟩ := h
  refine ⟨max n1 n2 + 1, v2, w2, ?_, hq⟩
  have hs : ab_sp (fun k' L' w' => ab_run (max n1 n2) k' 0 L' [] w') k i L st w = some (nx, L, v ++ rest, w1) := by
    rw [ab_sp_call ho rfl]
    dsimp only
    rw [h2, h1, if_pos (by rw [hok, hrv]; rfl), ab_run_more (Nat.le_max_left n1 n2) hr1]
    dsimp only
    rw [if_pos hnt]
  rw [ab_run, ab_rt_none ho (by show (1 : Nat) ≠ 0; decide) (by show (1 : Nat) ≠ 72; decide), hs]
  exact ab_run_more (Nat.le_max_right n1 n2) hr2
theorem Rn_callI {k' : Nat} (av rest : List ab_V) (ho : ab_nth (ab_cod k) i = some (1, k', b, nx)) (h1 : (st.take b.toNat).reverse = av) (h2 : st.drop b.toNat = rest) (hok : ab_okc k k' b.toNat rest st = true) (hrv : ab_rvB k' av K = true)
    (h : ab_RI k' av K S g r (fun x g' r' => ab_Rn k nx L ((0, x) :: rest) (K, S, g', r') Q)) : ab_Rn k i L st (K, S, g, r) Q := by
  refine Rn_call av rest ho h1 h2 hok hrv ?_
  obtain ⟨n, v, w', hr, x, g', r', rfl, rfl, h3⟩ := h
  exact ⟨n, _, _, hr, rfl, h3⟩
theorem Rn_callV {k' : Nat} (av rest : List ab_V) (ho : ab_nth (ab_cod k) i = some (1, k', b, nx)) (h1 : (st.take b.toNat).reverse = av) (h2 : st.drop b.toNat = rest) (hok : ab_okc k k' b.toNat rest st = true) (hrv : ab_rvB k' av K = true)
    (h : ab_RV k' av K S g r (fun g' r' => ab_Rn k nx L rest (K, S, g', r') Q)) : ab_Rn k i L st (K, S, g, r) Q := by
  refine Rn_call av rest ho h1 h2 hok hrv ?_
  obtain ⟨n, v, w', hr, g', r', rfl, rfl, h3⟩ := h
  exact ⟨n, _, _, hr, rfl, h3⟩
end RnRules
