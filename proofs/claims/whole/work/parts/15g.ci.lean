/-! CONSTRUCTORS: a run whose writes are kept as a list, so that it can be reckoned out. -/
/-- (cell, place (none: the whole new cell), value) -/
def ci_ap (e : Int × Option Int × Int) (g : ab_H) : ab_H := match e.2.1 with
  | none => ab_new g e.1 e.2.2
  | some k => ab_up g e.1 k e.2.2
def ci_H : List (Int × Option Int × Int) → ab_H → ab_H
  | [], g => g
  | e :: t, g => ci_ap e (ci_H t g)
def ci_lk : List (Int × Option Int × Int) → Int → Int → Option Int
  | [], _, _ => none
  | e :: t, a, k => match e.2.1 with
    | none => if e.1 = a then some e.2.2 else ci_lk t a k
    | some j => if e.1 = a ∧ j = k then some e.2.2 else ci_lk t a k
theorem ci_lk_ok (g : ab_H) {a k v : Int} : ∀ {t : List (Int × Option Int × Int)}, ci_lk t a k = some v → ci_H t g a k = v := by
  intro t
  induction t with
  | nil => intro h; cases h
  | cons e t ih =>
    obtain ⟨b, o, x⟩ := e
    intro h
    cases o with
    | none =>
      have h : (if b = a then some x else ci_lk t a k) = some v := h
      show ab_new (ci_H t g) b x a k = v
      unfold ab_new
      by_cases hb : b = a
      · rw [if_pos hb] at h; cases h; rw [if_pos hb.symm]
      · rw [if_neg hb] at h; rw [if_neg (fun e => hb e.symm)]; exact ih h
    | some j =>
      have h : (if b = a ∧ j = k then some x else ci_lk t a k) = some v := h
      show ab_up (ci_H t g) b j x a k = v
      unfold ab_up
      by_cases hb : b = a ∧ j = k
      · rw [if_pos hb] at h; cases h; rw [if_pos ⟨hb.1.symm, hb.2.symm⟩]
      · rw [if_neg hb] at h; rw [if_neg (fun e => hb ⟨e.1.symm, e.2.symm⟩)]; exact ih h
/-- what no entry of the list speaks of -/
theorem ci_off (g : ab_H) {a : Int} : ∀ {t : List (Int × Option Int × Int)}, (∀ e ∈ t, e.1 ≠ a) → ci_H t g a = g a := by
  intro t
  induction t with
  | nil => intro _; rfl
  | cons e t ih =>
    intro h
    obtain ⟨b, o, x⟩ := e
    have hb : b ≠ a := h _ List.mem_cons_self
    have h2 := ih (fun e he => h e (List.mem_cons_of_mem _ he))
    funext k
    cases o with
    | none =>
      show ab_new (ci_H t g) b x a k = g a k
      rw [ab_new_ne hb.symm, h2]
    | some j =>
      show ab_up (ci_H t g) b j x a k = g a k
      rw [ab_up_ne hb.symm, h2]
/-- a cell whose every entry is z, one of them the cell's making -/
theorem ci_all (g : ab_H) {a z : Int} : ∀ {t : List (Int × Option Int × Int)}, (∀ e ∈ t, e.1 = a → e.2.2 = z) → (∃ e ∈ t, e.1 = a ∧ e.2.1 = none) → ∀ k : Int, ci_H t g a k = z := by
  intro t
  induction t with
  | nil => intro _ h; obtain ⟨e, he, -⟩ := h; cases he
  | cons e t ih =>
    intro h hn k
    obtain ⟨b, o, x⟩ := e
    by_cases hb : b = a
    · have hx : x = z := h (b, o, x) List.mem_cons_self hb
      cases o with
      | none =>
        show ab_new (ci_H t g) b x a k = z
        rw [hb, ab_new_at, hx]
      | some j =>
        show ab_up (ci_H t g) b j x a k = z
        rw [hb]
        by_cases hk : k = j
        · rw [hk, ab_up_at, hx]
        · rw [ab_up_k hk]
          obtain ⟨e2, he2, h3, h4⟩ := hn
          rcases List.mem_cons.mp he2 with rfl | he2
          · cases h4
          · exact ih (fun e he => h e (List.mem_cons_of_mem _ he)) ⟨e2, he2, h3, h4⟩ k
    · obtain ⟨e2, he2, h3, h4⟩ := hn
      have h5 : ∃ e ∈ t, e.1 = a ∧ e.2.1 = none := by
        rcases List.mem_cons.mp he2 with rfl | he2
        · exact absurd h3 hb
        · exact ⟨e2, he2, h3, h4⟩
      have h6 := ih (fun e he => h e (List.mem_cons_of_mem _ he)) h5 k
      cases o with
      | none =>
        show ab_new (ci_H t g) b x a k = z
        rw [ab_new_ne (fun e => hb e.symm), h6]
      | some j =>
        show ab_up (ci_H t g) b j x a k = z
        rw [ab_up_ne (fun e => hb e.symm), h6]
abbrev ci_W : Type := Int × Nat × List (Int × Option Int × Int) × List (Int × Option Int × Int)
def ci_c (w : ci_W) (g r : ab_H) : ab_W := (w.1, w.2.1, ci_H w.2.2.1 g, ci_H w.2.2.2 r)
def ci_ex (o : ab_O) (L : ab_F) (st : List ab_V) (w : ci_W) : Option (Nat × ab_F × List ab_V × ci_W) :=
  match o.1, st with
  | 33, (0, y) :: (0, x) :: st => some (if ab_cB o.2.2.1 x y then o.2.1 else o.2.2.2, L, st, w)
  | 35, (2, a) :: st => if (ab_kd a).1 = o.2.2.1 ∧ 0 ≤ a ∧ ab_po a < w.1 then (match ci_lk w.2.2.1 a o.2.1 with
    | some v => some (o.2.2.2, L, (0, v) :: st, w)
    | none => none) else none
  | 37, (2, a) :: st => if (ab_kd a).1 = o.2.2.1 ∧ 0 ≤ a ∧ ab_po a < w.1 then (match ci_lk w.2.2.2 a o.2.1 with
    | some v => if v ≠ -1 then some (o.2.2.2, L, (2, v) :: st, w) else none
    | none => none) else none
  | 38, (0, x) :: (2, a) :: st => if (ab_kd a).1 = o.2.2.1 ∧ 0 ≤ a ∧ ab_po a < w.1 then some (o.2.2.2, L, st, (w.1, w.2.1, (a, some (o.2.1 : Int), x) :: w.2.2.1, w.2.2.2)) else none
  | 40, (2, x) :: (2, a) :: st => if ((ab_kd a).1 = o.2.2.1 ∧ 0 ≤ a ∧ ab_po a < w.1) ∧ x ≠ -1 then some (o.2.2.2, L, st, (w.1, w.2.1, w.2.2.1, (a, some (o.2.1 : Int), x) :: w.2.2.2)) else none
  | 41, (2, x) :: (2, a) :: st => if ((ab_kd a).1 = o.2.2.1 ∧ 0 ≤ a ∧ ab_po a < w.1) ∧ x ≠ -1 then some (o.2.2.2, L, st, (w.1, w.2.1, w.2.2.1, (a, some (o.2.1 : Int), x) :: w.2.2.2)) else none
  | 52, st => if ab_kd (ab_nm w.1) = ((o.2.1 : Int), (ab_nF o.2.1 : Int)) ∧ 0 ≤ w.1 ∧ w.1 < 187 then some (o.2.2.2, L, (2, ab_nm w.1) :: st, (w.1 + 1, w.2.1 + ab_nF o.2.1, (ab_nm w.1, none, 0) :: w.2.2.1, (ab_nm w.1, none, -1) :: w.2.2.2)) else none
  | 53, (0, n) :: st => if ab_kd (ab_nm w.1) = (100 + (o.2.1 : Int), n) ∧ 0 ≤ w.1 ∧ w.1 < 187 ∧ 0 ≤ n ∧ n < 100000 then some (o.2.2.2, L, (2, ab_nm w.1) :: st, (w.1 + 1, w.2.1 + n.toNat, (ab_nm w.1, none, 0) :: w.2.2.1, (ab_nm w.1, none, -1) :: w.2.2.2)) else none
  | 54, (0, n) :: st => if ab_kd (ab_nm w.1) = (104, n) ∧ 0 ≤ w.1 ∧ w.1 < 187 ∧ 0 ≤ n ∧ n < 100000 then some (o.2.2.2, L, (2, ab_nm w.1) :: st, (w.1 + 1, w.2.1 + n.toNat, (ab_nm w.1, none, 0) :: w.2.2.1, (ab_nm w.1, none, -1) :: w.2.2.2)) else none
  | 58, (2, _) :: st => if ab_cat st ≤ 8 then some (o.2.2.2, L, st, w) else none
  | 60, (2, x) :: (0, j) :: (2, a) :: st => if (((ab_kd a).1 = 104 ∧ 0 ≤ a ∧ ab_po a < w.1) ∧ 0 ≤ j ∧ j < (ab_kd a).2) ∧ ((ab_kd x).1 = 5 ∧ 0 ≤ x ∧ ab_po x < w.1) then some (o.2.2.2, L, st, (w.1, w.2.1, w.2.2.1, (a, some j, x) :: w.2.2.2)) else none
  | _, st => match ab_ps o L st with
    | some q => some (q.1, q.2.1, q.2.2, w)
    | none => none
theorem ci_ex_ok (g r : ab_H) {o : ab_O} {L : ab_F} {st : List ab_V} {w : ci_W} {q : Nat × ab_F × List ab_V × ci_W} (h : ci_ex o L st w = some q) : ab_ex o L st (ci_c w g r) = some (q.1, q.2.1, q.2.2.1, ci_c q.2.2.2 g r) := by
  obtain ⟨op, a, b, nx⟩ := o
  obtain ⟨K, S, eg, er⟩ := w
  unfold ci_ex at h
  dsimp only at h
  split at h
  · cases h; rfl
  · split at h
    · rename_i hg
      split at h
      · rename_i v hv
        cases h
        have h1 := ci_lk_ok g hv
        refine Eq.trans (show (if _ then _ else none) = _ from if_pos hg) ?_
        show some (nx, L, (0, ci_H eg g _ a) :: _, _) = _
        rw [h1]
      · cases h
    · cases h
  · split at h
    · rename_i hg
      split at h
      · rename_i v hv
        split at h
        · rename_i hn
          cases h
          have h1 := ci_lk_ok r hv
          refine Eq.trans (show (if _ then _ else none) = _ from if_pos ⟨hg, by show ci_H er r _ a ≠ -1; rw [h1]; exact hn⟩) ?_
          show some (nx, L, (2, ci_H er r _ a) :: _, _) = _
          rw [h1]
        · cases h
      · cases h
    · cases h
  all_goals first
    | (split at h
       · rename_i hg
         cases h
         show (if _ then _ else none) = _
         exact if_pos hg
       · cases h)
    | (split at h
       · rename_i q0 hp
         cases h
         exact ab_ps_ex hp
       · cases h)
def ci_sp (rn : Nat → ab_F → ci_W → Option (List ab_V × ci_W)) (k i : Nat) (L : ab_F) (st : List ab_V) (w : ci_W) : Option (Nat × ab_F × List ab_V × ci_W) :=
  match ab_nth (ab_cod k) i with
  | none => none
  | some o => match o.1 with
    | 1 =>
      if ab_okc k o.2.1 o.2.2.1.toNat (st.drop o.2.2.1.toNat) st && ab_rvB o.2.1 (st.take o.2.2.1.toNat).reverse w.1 then
        match rn o.2.1 (ab_en o.2.1 (st.take o.2.2.1.toNat).reverse) w with
        | none => none
        | some q => if ab_nt q.1 then some (o.2.2.2, L, q.1 ++ st.drop o.2.2.1.toNat, q.2) else none
      else none
    | _ => ci_ex o L st w
def ci_run : Nat → Nat → Nat → ab_F → List ab_V → ci_W → Option (List ab_V × ci_W)
  | 0, _, _, _, _, _ => none
  | n + 1, k, i, L, st, w =>
    match ab_rt k i st with
    | some v => some (v, w)
    | none => match ci_sp (fun k' L' w' => ci_run n k' 0 L' [] w') k i L st w with
      | none => none
      | some q => ci_run n k q.1 q.2.1 q.2.2.1 q.2.2.2
theorem ci_sp_ok (g r : ab_H) {rn : Nat → ab_F → ci_W → Option (List ab_V × ci_W)} {rn' : Nat → ab_F → ab_W → Option (List ab_V × ab_W)} (hr : ∀ k L w x, rn k L w = some x → rn' k L (ci_c w g r) = some (x.1, ci_c x.2 g r)) {k i : Nat} {L : ab_F} {st : List ab_V} {w : ci_W} {q : Nat × ab_F × List ab_V × ci_W} (h : ci_sp rn k i L st w = some q) : ab_sp rn' k i L st (ci_c w g r) = some (q.1, q.2.1, q.2.2.1, ci_c q.2.2.2 g r) := by
  cases ho : ab_nth (ab_cod k) i with
  | none => unfold ci_sp at h; rw [ho] at h; cases h
  | some o =>
    unfold ci_sp at h
    rw [ho] at h
    dsimp only at h
    split at h
    · rename_i h1
      rw [ab_sp_call ho h1]
      split at h
      · rename_i hc
        have hc2 : (ab_okc k o.2.1 o.2.2.1.toNat (st.drop o.2.2.1.toNat) st && ab_rvB o.2.1 (st.take o.2.2.1.toNat).reverse (ci_c w g r).1) = true := hc
        rw [if_pos hc2]
        split at h
        · cases h
        · rename_i x hx
          rw [hr _ _ _ _ hx]
          dsimp only
          split at h
          · rename_i hn
            cases h
            rw [if_pos hn]
          · cases h
      · cases h
    · rename_i h1
      rw [ab_sp_ex ho h1]
      exact ci_ex_ok g r h
theorem ci_run_ok (g r : ab_H) : ∀ (n k i : Nat) {L : ab_F} {st : List ab_V} {w : ci_W} {x : List ab_V × ci_W}, ci_run n k i L st w = some x → ab_run n k i L st (ci_c w g r) = some (x.1, ci_c x.2 g r) := by
  intro n
  induction n with
  | zero => intro k i L st w x h; simp [ci_run] at h
  | succ n ih =>
    intro k i L st w x h
    rw [ci_run] at h
    rw [ab_run]
    split at h
    · rename_i v hv
      cases h
      rw [hv]
    · rename_i hv
      rw [hv]
      dsimp only
      split at h
      · cases h
      · rename_i q hq
        rw [ci_sp_ok g r (rn' := fun k' L' w' => ab_run n k' 0 L' [] w') (fun k L w x hx => ih k 0 hx) hq]
        exact ih _ _ h
def ci_it (n : Nat) (k : Nat) : Nat → (Nat × ab_F × List ab_V × ci_W) → Option (Nat × ab_F × List ab_V × ci_W)
  | 0, q => some q
  | t + 1, q => match ci_sp (fun k' L' w' => ci_run n k' 0 L' [] w') k q.1 q.2.1 q.2.2.1 q.2.2.2 with
    | none => none
    | some q' => ci_it n k t q'
theorem ci_it_ok (g r : ab_H) {n k : Nat} : ∀ (t : Nat) {q x : Nat × ab_F × List ab_V × ci_W}, ci_it n k t q = some x → ab_it n k t (q.1, q.2.1, q.2.2.1, ci_c q.2.2.2 g r) = some (x.1, x.2.1, x.2.2.1, ci_c x.2.2.2 g r) := by
  intro t
  induction t with
  | zero => intro q x h; cases h; rfl
  | succ t ih =>
    intro q x h
    rw [ci_it] at h
    rw [ab_it]
    split at h
    · cases h
    · rename_i q2 hq
      dsimp only
      rw [ci_sp_ok g r (rn' := fun k' L' w' => ab_run n k' 0 L' [] w') (fun k L w x hx => ci_run_ok g r n k 0 hx) hq]
      exact ih h
/-- a piece of a run, and then what it does from there on -/
theorem ab_sp_rt {rn : Nat → ab_F → ab_W → Option (List ab_V × ab_W)} {k i : Nat} {L : ab_F} {st : List ab_V} {w : ab_W} {q : Nat × ab_F × List ab_V × ab_W} (h : ab_sp rn k i L st w = some q) : ab_rt k i st = none := by
  cases ho : ab_nth (ab_cod k) i with
  | none => unfold ab_rt; rw [ho]
  | some o =>
    by_cases h1 : o.1 = 1
    · exact ab_rt_none ho (by rw [h1]; decide) (by rw [h1]; decide)
    · rw [ab_sp_ex ho h1] at h
      refine ab_rt_none ho (fun h0 => ?_) (fun h0 => ?_) <;> (obtain ⟨op, a, b, nx⟩ := o; dsimp only at h0; subst h0; cases h)
theorem Rn_it {n k : Nat} {Q : List ab_V → ab_W → Prop} : ∀ (t : Nat) {q x : Nat × ab_F × List ab_V × ab_W}, ab_it n k t q = some x → ab_Rn k x.1 x.2.1 x.2.2.1 x.2.2.2 Q → ab_Rn k q.1 q.2.1 q.2.2.1 q.2.2.2 Q := by
  intro t
  induction t with
  | zero => intro q x h kk; cases h; exact kk
  | succ t ih =>
    intro q x h kk
    rw [ab_it] at h
    split at h
    · cases h
    · rename_i q2 hq
      obtain ⟨n2, v, w', hr, hQ⟩ := ih h kk
      refine ⟨max n n2 + 1, v, w', ?_, hQ⟩
      rw [ab_run, ab_sp_rt hq]
      dsimp only
      rw [ab_sp_more (rn' := fun k' L' w' => ab_run (max n n2) k' 0 L' [] w') (fun k L w x hx => ab_run_more (Nat.le_max_left n n2) hx) hq]
      exact ab_run_more (Nat.le_max_right n n2) hr
