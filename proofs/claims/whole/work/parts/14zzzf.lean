/-! SPECS, part zzzf: text, STEPS that are the same where they are told; the relation behind a TEXT with a FAULT. -/
def TEq (T T' : TT) : Prop := ∀ i : Int, 0 ≤ i → i < 14 → T'.1 i = T.1 i ∧ ∀ k : Int, 0 ≤ k → k < T.1 i → T'.2.1 (4 * i + k) = T.2.1 (4 * i + k) ∧ T'.2.2.1 (4 * i + k) = T.2.2.1 (4 * i + k) ∧ T'.2.2.2 (4 * i + k) = T.2.2.2 (4 * i + k)
theorem TOk_T {T T' : TT} (h : TEq T T') (hT : TOk T) : TOk T' := by
  intro i a b
  obtain ⟨h1, h2⟩ := h i a b
  obtain ⟨t1, t2⟩ := hT i a b
  rw [h1]
  refine ⟨t1, fun k p q => ?_⟩
  obtain ⟨e1, e2, e3⟩ := h2 k p q
  rw [e1, e2, e3]; exact t2 k p q
theorem TeV_T {T T' : TT} {g : ab_H} {o : Int} (h : TEq T T') (hT : TeV g o T) : TeV g o T' := by
  intro i a b
  obtain ⟨h1, h2⟩ := h i a b
  obtain ⟨t1, t2⟩ := hT i a b
  rw [h1]
  refine ⟨t1, fun k p q => ?_⟩
  obtain ⟨e1, e2, e3⟩ := h2 k p q
  rw [e1, e2, e3]; exact t2 k p q
theorem lrun_T {T T' : TT} : ∀ (m : Nat) (q : Int) (l : Int → Int), (∀ j : Int, q ≤ j → j < q + m → T'.2.1 j = T.2.1 j ∧ T'.2.2.1 j = T.2.2.1 j ∧ T'.2.2.2 j = T.2.2.2 j) → lrun T' m q l = lrun T m q l := by
  intro m
  induction m with
  | zero => intro q l _; rfl
  | succ m ih =>
    intro q l h
    obtain ⟨h1, h2, h3⟩ := h q (by omega) (by omega)
    have e : lstep T' q l = lstep T q l := by unfold lstep; rw [h1, h2, h3]
    show (if 1000000 < lstep T' q l (T'.2.2.1 q - 1) then (lstep T' q l, 1) else lrun T' m (q + 1) (lstep T' q l)) = (if 1000000 < lstep T q l (T.2.2.1 q - 1) then (lstep T q l, 1) else lrun T m (q + 1) (lstep T q l))
    rw [e, h2, ih (q + 1) _ (fun j a b => h j (by omega) (by omega))]
theorem lshp_T {T T' : TT} {k pk ps : Int} (h : TEq T T') (hk : 0 ≤ k ∧ k ≤ 6) : ∀ (m : Nat) (sh : Int) (l : Int → Int), 1 ≤ sh → sh + m ≤ 3 → lshp T' k pk ps m sh l = lshp T k pk ps m sh l := by
  intro m
  induction m with
  | zero => intro sh l _ _; rfl
  | succ m ih =>
    intro sh l h1 h2
    obtain ⟨e1, e2⟩ := h (2 * k + sh - 1) (by omega) (by omega)
    have ec : lcnt T' k pk ps sh = lcnt T k pk ps sh := by unfold lcnt; rw [e1]
    have er : lrun T' (lcnt T k pk ps sh).toNat (4 * (2 * k + sh - 1)) l = lrun T (lcnt T k pk ps sh).toNat (4 * (2 * k + sh - 1)) l := lrun_T _ _ _ (fun j a b => by
      have e3 := e2 (j - 4 * (2 * k + sh - 1)) (by omega) (by
        unfold lcnt at b
        by_cases hc : k = pk ∧ sh = ps
        · rw [if_pos hc] at b; omega
        · rw [if_neg hc] at b; omega)
      rw [show 4 * (2 * k + sh - 1) + (j - 4 * (2 * k + sh - 1)) = j by omega] at e3
      exact e3)
    show (if (lrun T' (lcnt T' k pk ps sh).toNat (4 * (2 * k + sh - 1)) l).2 ≠ 0 then lrun T' (lcnt T' k pk ps sh).toNat (4 * (2 * k + sh - 1)) l else lshp T' k pk ps m (sh + 1) (lrun T' (lcnt T' k pk ps sh).toNat (4 * (2 * k + sh - 1)) l).1) = (if (lrun T (lcnt T k pk ps sh).toNat (4 * (2 * k + sh - 1)) l).2 ≠ 0 then lrun T (lcnt T k pk ps sh).toNat (4 * (2 * k + sh - 1)) l else lshp T k pk ps m (sh + 1) (lrun T (lcnt T k pk ps sh).toNat (4 * (2 * k + sh - 1)) l).1)
    rw [ec, er, ih (sh + 1) _ (by omega) (by omega)]
theorem LF_T {T T' : TT} {s : Int → Int} {pk ps e n : Int} (h : TEq T T') (hE : EvOk s n) (he : 0 ≤ e ∧ e < n) (h7 : s (9 * e + 0) ≠ 7) : LF T' s pk ps e = LF T s pk ps e ∧ BF T' s pk ps e = BF T s pk ps e := by
  have h1 := hE e he.1 he.2
  have h2 := h1.2.1 h7
  have : lft T' s pk ps e = lft T s pk ps e := by
    unfold lft
    exact lshp_T h (by omega) _ _ _ (by omega) (by omega)
  constructor
  · show (fun f => (lft T' s pk ps e).1 f) = fun f => (lft T s pk ps e).1 f
    rw [this]
  · show (lft T' s pk ps e).2 = (lft T s pk ps e).2
    rw [this]
theorem rep_T {T T' : TT} {s : Int → Int} {pk ps but vo n : Int} (h : TEq T T') (hE : EvOk s n) (hn : 0 ≤ n) : rep s (LF T' s pk ps) (BF T' s pk ps) but vo n = rep s (LF T s pk ps) (BF T s pk ps) but vo n := by
  have key : ∀ m : Nat, (m : Int) ≤ n → repN s (LF T' s pk ps) (BF T' s pk ps) but vo m = repN s (LF T s pk ps) (BF T s pk ps) but vo m := by
    intro m
    induction m with
    | zero => intro _; rfl
    | succ m ih =>
      intro hm
      show rstep s (LF T' s pk ps) (BF T' s pk ps) but vo (repN s (LF T' s pk ps) (BF T' s pk ps) but vo m) m = rstep s (LF T s pk ps) (BF T s pk ps) but vo (repN s (LF T s pk ps) (BF T s pk ps) but vo m) m
      rw [ih (by omega)]
      by_cases h7 : s (9 * (m : Int) + 0) = 7
      · unfold rstep
        rw [if_pos (Or.inl h7), if_pos (Or.inl h7)]
      · obtain ⟨h1, h2⟩ := LF_T (pk := pk) (ps := ps) h hE (e := m) ⟨by omega, by omega⟩ h7
        exact rstep_ext (fun f _ _ => rfl) h1 h2
  exact key n.toNat (by omega)
theorem TyOk_T {T T' : TT} {tf tf' x : Int → Int} (h : TEq T T') (hE : EvOk x (x 1080)) (hn : x 1080 ≤ 120) (hf : ∀ t : Int, 0 ≤ t → t < 4 → tf' t = tf t) (hx : TyOk T tf x) : TyOk T' tf' x := by
  intro t a b
  obtain ⟨h1, h2, h3⟩ := hx t a b
  refine ⟨h1, h2, fun e c d => ?_⟩
  rcases h3 e c d with h4 | ⟨h4, h5, h6⟩
  · exact Or.inl h4
  · refine Or.inr ⟨h4, h5, ?_⟩
    rw [hf t a b]
    show tcx x t e = LF T' x (-1) (-1) e (tf t - 1) + 1
    rw [(LF_T h hE ⟨c, by omega⟩ h4.2).1]
    exact h6
theorem GoodS_T {T T' : TT} {tf tf' x : Int → Int} {nA : Int} (h : TEq T T') (hf : ∀ t : Int, 0 ≤ t → t < 4 → tf' t = tf t) (hx : GoodS T tf nA x) : GoodS T' tf' nA x :=
  ⟨hx.1, hx.2.1, hx.2.2.1, hx.2.2.2.1, hx.2.2.2.2.1, hx.2.2.2.2.2.1, hx.2.2.2.2.2.2.1, TyOk_T h hx.2.1 hx.1.2 hf hx.2.2.2.2.2.2.2⟩
theorem LgL_T {g : ab_H} {o n : Int} {T T' : TT} {s : Int → Int} (h : TEq T T') (hE : EvOk s n) (hl : LgL g o s (LF T s (-1) (-1)) (BF T s (-1) (-1)) n) : LgL g o s (LF T' s (-1) (-1)) (BF T' s (-1) (-1)) n := by
  intro e a b h7
  obtain ⟨h1, h2⟩ := LF_T (pk := -1) (ps := -1) h hE ⟨a, b⟩ h7
  rw [h1, h2]
  exact hl e a b h7
/-- all but what a TEXT with a FAULT leaves behind is as it was -/
theorem Rel_txt {g r g2 r2 : ab_H} (R : Rel g r) (hr2 : SI r2) (hP : RelP g2) (hc : ∀ c j : Int, c ≤ 160 → ¬ (c = 0 ∧ j = 1) → c ≠ 2 → c ≠ 3 → c ≠ 4 → ¬ (r 0 4 ≤ c ∧ c ≤ r 0 4 + 8) → ¬ (r 0 6 ≤ c ∧ c ≤ r 0 6 + 10) → g2 c j = g c j) (hrr : ∀ c j : Int, ¬ (c = 2 ∧ (j = 2 ∨ j = 3)) → ¬ (c = 4 ∧ (j = 0 ∨ j = 5)) → r2 c j = r c j) (h161 : ∀ j : Int, j = 30 ∨ j = 31 ∨ j = 34 ∨ j = 35 → g2 161 j = g 161 j) (h163 : ∀ j : Int, j < 6 → g2 163 j = g 163 j) (h164 : ∀ j : Int, j < 8 → g2 164 j = g 164 j) (h165 : ∀ c j : Int, 165 ≤ c → c ≤ 167 → j < 4 → g2 c j = g c j) (h168 : ∀ j : Int, j < 14 → g2 168 j = g 168 j) (h169 : ∀ c j : Int, 169 ≤ c → c ≤ 171 → j < 56 → g2 c j = g c j) (h174 : g2 174 = g 174) (h176 : g2 176 = g 176) (h177 : g2 177 = g 177) (hw : isWd (r2 4 5)) (h0 : g2 (r 0 6 + 10) 0 = 0) : Rel g2 r2 := by
  have hR := R.1
  have hr5 := hR.2.2.1
  have hr3 := hR.2.1
  have hT := R.2.2.1
  have eT : TEq (tt g) (tt g2) := by
    intro i a b
    have t1 := (hT.1 i a b).1
    refine ⟨h168 i b, fun k p q => ⟨h169 169 _ (by omega) (by omega) ?_, h169 170 _ (by omega) (by omega) ?_, h169 171 _ (by omega) (by omega) ?_⟩⟩ <;> omega
  have eF : ∀ t : Int, 0 ≤ t → t < 4 → g2 167 t = g 167 t := fun t a b => h165 167 t (by omega) (by omega) b
  have eA : g2 163 0 = g 163 0 := h163 0 (by omega)
  have ess : ss g2 = ss g := by unfold ss; rw [h174]
  have esj : ∀ j : Int, sj g2 j = sj g j := fun j => by unfold sj; rw [h177]
  have esi : si g2 = si g := by unfold si; rw [h176]
  have r0 : ∀ j : Int, r2 0 j = r 0 j := fun j => hrr 0 j (by omega) (by omega)
  have r65 : r2 65 = r 65 := by funext j; exact hrr 65 j (by omega) (by omega)
  refine ⟨⟨hr2, by rw [r0, r0]; exact hR.2.1, by rw [r0, r0]; exact hR.2.2.1, by rw [r65]; exact hR.2.2.2.1, by rw [r65]; exact hR.2.2.2.2⟩, hP, ?_, ?_, ?_, ?_, by rw [h161 34 (by omega)]; exact R.2.2.2.2.2.2.1, by rw [h161 35 (by omega)]; exact R.2.2.2.2.2.2.2.1, hw, by rw [r0]; exact h0⟩
  · rw [r0]
    have f : ∀ c j : Int, r 0 3 ≤ c → c ≤ r 0 3 + 8 → g2 c j = g c j := fun c j a b => hc c j (by omega) (by omega) (by omega) (by omega) (by omega) (by omega) (by omega)
    refine ⟨TOk_T eT hT.1, TeV_T eT (TeV_mono hT.2.1 f), ?_, ?_, ?_, ?_, ?_⟩
    · rw [f _ _ (by omega) (by omega), eA]; exact hT.2.2.1
    · intro i a b
      rw [eA] at b
      have hb := hT.2.2.1
      rw [f _ _ (by omega) (by omega), h164 i (by omega)]; exact hT.2.2.2.1 i a b
    · rw [f _ _ (by omega) (by omega), h163 1 (by omega)]; exact hT.2.2.2.2.1
    · intro t a b
      rw [h163 1 (by omega)] at b
      have hb := hT.2.2.2.2.1
      rw [f (r 0 3 + 2) t (by omega) (by omega), f (r 0 3 + 3) t (by omega) (by omega), f (r 0 3 + 4) t (by omega) (by omega), h165 165 t (by omega) (by omega) (by omega), h165 166 t (by omega) (by omega) (by omega), h165 167 t (by omega) (by omega) (by omega)]; exact hT.2.2.2.2.2.1 t a b
    · rw [f _ _ (by omega) (by omega), h163 4 (by omega)]; exact hT.2.2.2.2.2.2
  · have S1 := R.2.2.2.1
    have G := S1.1
    have f : ∀ c j : Int, r 0 5 ≤ c → c ≤ r 0 5 + 10 → g2 c j = g c j := fun c j a b => hc c j (by omega) (by omega) (by omega) (by omega) (by omega) (by omega) (by omega)
    unfold RelS LL BB
    rw [r0, ess, eA]
    refine ⟨GoodS_T eT eF G, LgV_mono S1.2.1 f, LgL_T eT G.2.1 (LgL_mono S1.2.2.1 f), ?_, ShV_mono S1.2.2.2.2.1 (fun c i a b => hc c i (by omega) (by omega) (by omega) (by omega) (by omega) (by omega) (by omega)), ?_, TaP_mono S1.2.2.2.2.2.2 (fun c i a b => hc c i (by omega) (by omega) (by omega) (by omega) (by omega) (by omega) (by omega))⟩
    · rw [hc 57 2 (by omega) (by omega) (by omega) (by omega) (by omega) (by omega) (by omega), hc 57 3 (by omega) (by omega) (by omega) (by omega) (by omega) (by omega) (by omega)]
      exact S1.2.2.2.1
    · rw [rep_T eT G.2.1 G.1.1]
      exact StV_mono S1.2.2.2.2.2.1 (fun c i a b => hc c i (by omega) (by omega) (by omega) (by omega) (by omega) (by omega) (by omega))
  · have U := R.2.2.2.2.1
    have hU := U.1
    unfold RelU
    rw [h161 30 (by omega), hc 0 14 (by omega) (by omega) (by omega) (by omega) (by omega) (by omega) (by omega), ess, eA, r65]
    refine ⟨hU, fun j a b => ?_, fun i j a b c => by rw [esj, esj]; exact U.2.2 i j a b c⟩
    have h2 := U.2.1 j a b
    have hm2 := (hR.2.2.2.1 j a (by omega)).1
    unfold isMk at hm2
    rw [esj]
    exact ⟨GoodS_T eT eF h2.1, MkV_mono h2.2.1 (fun c i x y => hc c i (by omega) (by omega) (by omega) (by omega) (by omega) (by omega) (by omega)), h2.2.2⟩
  · have I := R.2.2.2.2.2.1
    unfold RelI LL BB
    rw [h161 31 (by omega), hc 0 17 (by omega) (by omega) (by omega) (by omega) (by omega) (by omega) (by omega), esi, eA]
    refine ⟨I.1, fun h1 => ?_⟩
    obtain ⟨i1, i2, i3, i4⟩ := I.2 h1
    have f : ∀ c j : Int, 66 ≤ c → c ≤ 80 → g2 c j = g c j := fun c j a b => hc c j (by omega) (by omega) (by omega) (by omega) (by omega) (by omega) (by omega)
    exact ⟨GoodS_T eT eF i1, LgV_mono i2 (fun c j a b => f c j (by omega) (by omega)), LgL_T eT i1.2.1 (LgL_mono i3 (fun c j a b => f c j (by omega) (by omega))), MkV_mono i4 (fun c j a b => f c j (by omega) (by omega))⟩
