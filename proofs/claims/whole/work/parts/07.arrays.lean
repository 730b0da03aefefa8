/-! THE ABSTRACT MACHINE IS SOUND, part 4: arrays, what is made, branches, the statics. -/
section AbArr
variable {p : Program} {l : Launch} {e : Env} {R : Room} {s : State} {m : MethodId} {args : Array Value} {below : List Frame} {meth : Method} {c : Code} {Q : State → Prop} {D : va_G} {cA : Nat → ClassId} {bnd : Nat} {aS : Int → Nat} {SL : Nat} {xs : Nat → Int32} {K0 : Int} {S0 : Nat} {k : Nat}
theorem ab_p43 {i a nx : Nat} {b : Int} {L : ab_F} {st : List ab_V} {w : ab_W} {x j : Int} (C : ab_Cx D cA bnd aS SL xs k p R s m args meth c) (ho : ab_nth (ab_cod k) i = some (43, a, b, nx)) (hx : (ab_kd x).1 = 100 ∧ 0 ≤ x ∧ ab_po x < w.1) (hj : 0 ≤ j ∧ j < (ab_kd x).2) (kk : ab_WW p l e R s m args below meth c Q D cA bnd aS SL xs K0 S0 k nx L ((0, w.2.2.1 x j) :: st) w) : ab_WW p l e R s m args below meth c Q D cA bnd aS SL xs K0 S0 k i L ((0, j) :: (2, x) :: st) w := by
  intro H locs ls hw hS hl
  obtain ⟨hd, hsc, hp⟩ := ab_dec1 ho (by decide) rfl rfl
  have kk := kk H locs ls hw hS hl
  rw [hp] at kk
  have hat := hw.1 x hx.2.1 hx.2.2
  rw [ab_ce_ar (t := 0) (by rw [hx.1]; rfl) (by decide)] at hat
  obtain ⟨e1, e2⟩ := ab_ix hj.1 hj.2 (ab_kd_in (a := x)).2.2.1
  refine va_iald (D := D) (cl := ab_clsK) (tys := ab_tys cA) C.1 C.2.1 C.2.2.2.2.2.2.2.2.2.2.1 (ab_P1 hat) 0 0 rfl rfl e2 hd ?_
  exact W.eq (by simp only [e1, Int.toNat_of_nonneg hj.1, List.map_cons, ab_cv]) kk
theorem ab_p44 {i a nx : Nat} {b : Int} {L : ab_F} {st : List ab_V} {w : ab_W} {x j : Int} (C : ab_Cx D cA bnd aS SL xs k p R s m args meth c) (ho : ab_nth (ab_cod k) i = some (44, a, b, nx)) (hx : (ab_kd x).1 = 101 ∧ 0 ≤ x ∧ ab_po x < w.1) (hj : 0 ≤ j ∧ j < (ab_kd x).2) (kk : ab_WW p l e R s m args below meth c Q D cA bnd aS SL xs K0 S0 k nx L ((0, w.2.2.1 x j) :: st) w) : ab_WW p l e R s m args below meth c Q D cA bnd aS SL xs K0 S0 k i L ((0, j) :: (2, x) :: st) w := by
  intro H locs ls hw hS hl
  obtain ⟨hd, hsc, hp⟩ := ab_dec1 ho (by decide) rfl rfl
  have kk := kk H locs ls hw hS hl
  rw [hp] at kk
  have hat := hw.1 x hx.2.1 hx.2.2
  rw [ab_ce_ar (t := 1) (by rw [hx.1]; rfl) (by decide)] at hat
  obtain ⟨e1, e2⟩ := ab_ix hj.1 hj.2 (ab_kd_in (a := x)).2.2.1
  refine va_bald (D := D) (cl := ab_clsK) (tys := ab_tys cA) C.1 C.2.1 C.2.2.2.2.2.2.2.2.2.2.1 (ab_P1 hat) 0 1 rfl rfl e2 hd ?_
  exact W.eq (by simp only [e1, Int.toNat_of_nonneg hj.1, List.map_cons, ab_cv]) kk
theorem ab_p45 {i a nx : Nat} {b : Int} {L : ab_F} {st : List ab_V} {w : ab_W} {x j : Int} (C : ab_Cx D cA bnd aS SL xs k p R s m args meth c) (ho : ab_nth (ab_cod k) i = some (45, a, b, nx)) (hx : (ab_kd x).1 = 102 ∧ 0 ≤ x ∧ ab_po x < w.1) (hj : 0 ≤ j ∧ j < (ab_kd x).2) (kk : ab_WW p l e R s m args below meth c Q D cA bnd aS SL xs K0 S0 k nx L ((0, w.2.2.1 x j) :: st) w) : ab_WW p l e R s m args below meth c Q D cA bnd aS SL xs K0 S0 k i L ((0, j) :: (2, x) :: st) w := by
  intro H locs ls hw hS hl
  obtain ⟨hd, hsc, hp⟩ := ab_dec1 ho (by decide) rfl rfl
  have kk := kk H locs ls hw hS hl
  rw [hp] at kk
  have hat := hw.1 x hx.2.1 hx.2.2
  rw [ab_ce_ar (t := 2) (by rw [hx.1]; rfl) (by decide)] at hat
  obtain ⟨e1, e2⟩ := ab_ix hj.1 hj.2 (ab_kd_in (a := x)).2.2.1
  refine va_zald (D := D) (cl := ab_clsK) (tys := ab_tys cA) C.1 C.2.1 C.2.2.2.2.2.2.2.2.2.2.1 (ab_P1 hat) 0 2 rfl rfl e2 hd ?_
  exact W.eq (by simp only [e1, Int.toNat_of_nonneg hj.1, List.map_cons, ab_cv]) kk
theorem ab_p46 {i a nx : Nat} {b : Int} {L : ab_F} {st : List ab_V} {w : ab_W} {x j : Int} (C : ab_Cx D cA bnd aS SL xs k p R s m args meth c) (ho : ab_nth (ab_cod k) i = some (46, a, b, nx)) (hx : (ab_kd x).1 = 103 ∧ 0 ≤ x ∧ ab_po x < w.1) (hj : 0 ≤ j ∧ j < (ab_kd x).2) (kk : ab_WW p l e R s m args below meth c Q D cA bnd aS SL xs K0 S0 k nx L ((1, w.2.2.1 x j) :: st) w) : ab_WW p l e R s m args below meth c Q D cA bnd aS SL xs K0 S0 k i L ((0, j) :: (2, x) :: st) w := by
  intro H locs ls hw hS hl
  obtain ⟨hd, hsc, hp⟩ := ab_dec1 ho (by decide) rfl rfl
  have kk := kk H locs ls hw hS hl
  rw [hp] at kk
  have hat := hw.1 x hx.2.1 hx.2.2
  rw [ab_ce_al hx.1] at hat
  obtain ⟨e1, e2⟩ := ab_ix hj.1 hj.2 (ab_kd_in (a := x)).2.2.1
  refine va_lald (D := D) (cl := ab_clsK) (tys := ab_tys cA) C.1 C.2.1 C.2.2.2.2.2.2.2.2.2.2.1 (ab_P1 hat) 0 3 rfl rfl e2 hd ?_
  exact W.eq (by simp only [e1, Int.toNat_of_nonneg hj.1, List.map_cons, ab_cv]) kk
theorem ab_p47 {i a nx : Nat} {b : Int} {L : ab_F} {st : List ab_V} {w : ab_W} {x j : Int} (C : ab_Cx D cA bnd aS SL xs k p R s m args meth c) (ho : ab_nth (ab_cod k) i = some (47, a, b, nx)) (hx : (ab_kd x).1 = 104 ∧ 0 ≤ x ∧ ab_po x < w.1) (hj : 0 ≤ j ∧ j < (ab_kd x).2) (hn : w.2.2.2 x j ≠ -1) (kk : ab_WW p l e R s m args below meth c Q D cA bnd aS SL xs K0 S0 k nx L ((2, w.2.2.2 x j) :: st) w) : ab_WW p l e R s m args below meth c Q D cA bnd aS SL xs K0 S0 k i L ((0, j) :: (2, x) :: st) w := by
  intro H locs ls hw hS hl
  obtain ⟨hd, hsc, hp⟩ := ab_dec1 ho (by decide) rfl rfl
  have kk := kk H locs ls hw hS hl
  rw [hp] at kk
  have hat := hw.1 x hx.2.1 hx.2.2
  rw [ab_ce_aq hx.1] at hat
  obtain ⟨e1, e2⟩ := ab_ix hj.1 hj.2 (ab_kd_in (a := x)).2.2.1
  refine va_aldq (D := D) (cl := ab_clsK) (tys := ab_tys cA) C.1 C.2.1 C.2.2.2.2.2.2.2.2.2.2.1 (ab_P1 hat) 0 4 rfl rfl e2 hd ?_
  exact W.eq (by simp only [e1, Int.toNat_of_nonneg hj.1, List.map_cons, ab_cv, if_neg hn, va_rf]) kk
theorem ab_p48 {i a nx : Nat} {b : Int} {L : ab_F} {st : List ab_V} {w : ab_W} {x j v : Int} (C : ab_Cx D cA bnd aS SL xs k p R s m args meth c) (ho : ab_nth (ab_cod k) i = some (48, a, b, nx)) (hx : (ab_kd x).1 = 100 ∧ 0 ≤ x ∧ ab_po x < w.1) (hj : 0 ≤ j ∧ j < (ab_kd x).2)  (kk : ab_WW p l e R s m args below meth c Q D cA bnd aS SL xs K0 S0 k nx L st (w.1, w.2.1, ab_up w.2.2.1 x j v, w.2.2.2)) : ab_WW p l e R s m args below meth c Q D cA bnd aS SL xs K0 S0 k i L ((0, v) :: (0, j) :: (2, x) :: st) w := by
  intro H locs ls hw hS hl
  obtain ⟨hd, hsc, hp⟩ := ab_dec1 ho (by decide) rfl rfl
  have hat := hw.1 x hx.2.1 hx.2.2
  rw [ab_ce_ar (t := 0) (by rw [hx.1]; rfl) (by decide)] at hat
  obtain ⟨e1, e2⟩ := ab_ix hj.1 hj.2 (ab_kd_in (a := x)).2.2.1
  refine W.iast C.1 C.2.1 hat ((C.2.2.2.2.2.2.2.2.2.2.1.2 0 _ rfl).1 _ (fun i => .int (Int32.ofInt (w.2.2.1 x i)))) (fun q => by cases q) (by show ¬ (_ < 0 ∨ (arrV _ _ _).slots.size ≤ _); rw [arrV_size]; exact e2) rfl rfl hd fun H1 ee z oq => ?_
  have hw1 : ab_HW D cA bnd aS SL xs (w.1, w.2.1, ab_up w.2.2.1 x j v, w.2.2.2) H1 := by
    refine ab_hw_set hw hx.2.1 z oq ?_ (fun q hq => ab_up_ne hq) (fun q hq => rfl)
    rw [ab_ce_ar (t := 0) (by rw [hx.1]; rfl) (by decide)]
    show H1[_]? = some (vp_cell _ _)
    rw [ee]
    rw [vp_cell_i, vp_cell_i, arrV_store]
    congr 2
    funext q
    by_cases hq : q = (Int32.ofInt j).toNatClampNeg
    · subst hq
      simp [updV, ab_up, e1, Int.toNat_of_nonneg hj.1]
    · have hq2 : ((q : Nat) : Int) ≠ j := by rw [e1] at hq; omega
      simp [updV, hq, ab_up, hq2]
  have hba : bnd ≤ ab_ad bnd aS x := by rw [ab_ad_nn hx.2.1]; omega
  have kk := kk H1 (locs ++ [⟨ab_ad bnd aS x, (Int32.ofInt j).toNatClampNeg⟩]) ls hw1 (ab_S_put hS z oq hba) hl
  rwa [hp] at kk
theorem ab_narb (v : Int) : narrow .byte (.int (Int32.ofInt v)) = .int (Int32.ofInt (ab_i2b v)) := by
  rw [ab_i2b, Int32.ofInt_toInt]
  rfl
theorem ab_p49 {i a nx : Nat} {b : Int} {L : ab_F} {st : List ab_V} {w : ab_W} {x j v : Int} (C : ab_Cx D cA bnd aS SL xs k p R s m args meth c) (ho : ab_nth (ab_cod k) i = some (49, a, b, nx)) (hx : (ab_kd x).1 = 101 ∧ 0 ≤ x ∧ ab_po x < w.1) (hj : 0 ≤ j ∧ j < (ab_kd x).2)  (kk : ab_WW p l e R s m args below meth c Q D cA bnd aS SL xs K0 S0 k nx L st (w.1, w.2.1, ab_up w.2.2.1 x j (ab_i2b v), w.2.2.2)) : ab_WW p l e R s m args below meth c Q D cA bnd aS SL xs K0 S0 k i L ((0, v) :: (0, j) :: (2, x) :: st) w := by
  intro H locs ls hw hS hl
  obtain ⟨hd, hsc, hp⟩ := ab_dec1 ho (by decide) rfl rfl
  have hat := hw.1 x hx.2.1 hx.2.2
  rw [ab_ce_ar (t := 1) (by rw [hx.1]; rfl) (by decide)] at hat
  obtain ⟨e1, e2⟩ := ab_ix hj.1 hj.2 (ab_kd_in (a := x)).2.2.1
  refine W.bast C.1 C.2.1 hat ((C.2.2.2.2.2.2.2.2.2.2.1.2 1 _ rfl).1 _ (fun i => .int (Int32.ofInt (w.2.2.1 x i)))) (fun q => by cases q) (by show ¬ (_ < 0 ∨ (arrV _ _ _).slots.size ≤ _); rw [arrV_size]; exact e2) rfl rfl hd fun H1 ee z oq => ?_
  have hw1 : ab_HW D cA bnd aS SL xs (w.1, w.2.1, ab_up w.2.2.1 x j (ab_i2b v), w.2.2.2) H1 := by
    refine ab_hw_set hw hx.2.1 z oq ?_ (fun q hq => ab_up_ne hq) (fun q hq => rfl)
    rw [ab_ce_ar (t := 1) (by rw [hx.1]; rfl) (by decide)]
    show H1[_]? = some (vp_cell _ _)
    rw [ee]
    rw [vp_cell_i, vp_cell_i, arrV_store]
    congr 2
    funext q
    by_cases hq : q = (Int32.ofInt j).toNatClampNeg
    · subst hq
      simp [updV, ab_up, e1, Int.toNat_of_nonneg hj.1, ab_narb]
    · have hq2 : ((q : Nat) : Int) ≠ j := by rw [e1] at hq; omega
      simp [updV, hq, ab_up, hq2]
  have hba : bnd ≤ ab_ad bnd aS x := by rw [ab_ad_nn hx.2.1]; omega
  have kk := kk H1 (locs ++ [⟨ab_ad bnd aS x, (Int32.ofInt j).toNatClampNeg⟩]) ls hw1 (ab_S_put hS z oq hba) hl
  rwa [hp] at kk
theorem ab_narz {v : Int} (h : v = 0 ∨ v = 1) : narrow .boolean (.int (Int32.ofInt v)) = .int (Int32.ofInt v) := by
  rcases h with rfl | rfl <;> rfl
theorem ab_p50 {i a nx : Nat} {b : Int} {L : ab_F} {st : List ab_V} {w : ab_W} {x j v : Int} (C : ab_Cx D cA bnd aS SL xs k p R s m args meth c) (ho : ab_nth (ab_cod k) i = some (50, a, b, nx)) (hx : (ab_kd x).1 = 102 ∧ 0 ≤ x ∧ ab_po x < w.1) (hj : 0 ≤ j ∧ j < (ab_kd x).2) (hv : v = 0 ∨ v = 1) (kk : ab_WW p l e R s m args below meth c Q D cA bnd aS SL xs K0 S0 k nx L st (w.1, w.2.1, ab_up w.2.2.1 x j v, w.2.2.2)) : ab_WW p l e R s m args below meth c Q D cA bnd aS SL xs K0 S0 k i L ((0, v) :: (0, j) :: (2, x) :: st) w := by
  intro H locs ls hw hS hl
  obtain ⟨hd, hsc, hp⟩ := ab_dec1 ho (by decide) rfl rfl
  have hat := hw.1 x hx.2.1 hx.2.2
  rw [ab_ce_ar (t := 2) (by rw [hx.1]; rfl) (by decide)] at hat
  obtain ⟨e1, e2⟩ := ab_ix hj.1 hj.2 (ab_kd_in (a := x)).2.2.1
  refine W.zast C.1 C.2.1 hat ((C.2.2.2.2.2.2.2.2.2.2.1.2 2 _ rfl).1 _ (fun i => .int (Int32.ofInt (w.2.2.1 x i)))) (fun q => by cases q) (by show ¬ (_ < 0 ∨ (arrV _ _ _).slots.size ≤ _); rw [arrV_size]; exact e2) rfl rfl hd fun H1 ee z oq => ?_
  have hw1 : ab_HW D cA bnd aS SL xs (w.1, w.2.1, ab_up w.2.2.1 x j v, w.2.2.2) H1 := by
    refine ab_hw_set hw hx.2.1 z oq ?_ (fun q hq => ab_up_ne hq) (fun q hq => rfl)
    rw [ab_ce_ar (t := 2) (by rw [hx.1]; rfl) (by decide)]
    show H1[_]? = some (vp_cell _ _)
    rw [ee]
    rw [vp_cell_i, vp_cell_i, arrV_store]
    congr 2
    funext q
    by_cases hq : q = (Int32.ofInt j).toNatClampNeg
    · subst hq
      simp [updV, ab_up, e1, Int.toNat_of_nonneg hj.1, ab_narz hv]
    · have hq2 : ((q : Nat) : Int) ≠ j := by rw [e1] at hq; omega
      simp [updV, hq, ab_up, hq2]
  have hba : bnd ≤ ab_ad bnd aS x := by rw [ab_ad_nn hx.2.1]; omega
  have kk := kk H1 (locs ++ [⟨ab_ad bnd aS x, (Int32.ofInt j).toNatClampNeg⟩]) ls hw1 (ab_S_put hS z oq hba) hl
  rwa [hp] at kk
theorem ab_p51 {i a nx : Nat} {b : Int} {L : ab_F} {st : List ab_V} {w : ab_W} {x j v : Int} (C : ab_Cx D cA bnd aS SL xs k p R s m args meth c) (ho : ab_nth (ab_cod k) i = some (51, a, b, nx)) (hx : (ab_kd x).1 = 103 ∧ 0 ≤ x ∧ ab_po x < w.1) (hj : 0 ≤ j ∧ j < (ab_kd x).2)  (kk : ab_WW p l e R s m args below meth c Q D cA bnd aS SL xs K0 S0 k nx L st (w.1, w.2.1, ab_up w.2.2.1 x j v, w.2.2.2)) : ab_WW p l e R s m args below meth c Q D cA bnd aS SL xs K0 S0 k i L ((1, v) :: (0, j) :: (2, x) :: st) w := by
  intro H locs ls hw hS hl
  obtain ⟨hd, hsc, hp⟩ := ab_dec1 ho (by decide) rfl rfl
  have hat := hw.1 x hx.2.1 hx.2.2
  rw [ab_ce_al hx.1] at hat
  obtain ⟨e1, e2⟩ := ab_ix hj.1 hj.2 (ab_kd_in (a := x)).2.2.1
  refine W.last C.1 C.2.1 hat ((C.2.2.2.2.2.2.2.2.2.2.1.2 3 _ rfl).1 _ (fun i => .long (Int64.ofInt (w.2.2.1 x i)))) (fun q => by cases q) (by show ¬ (_ < 0 ∨ (arrV _ _ _).slots.size ≤ _); rw [arrV_size]; exact e2) rfl rfl hd fun H1 ee z oq => ?_
  have hw1 : ab_HW D cA bnd aS SL xs (w.1, w.2.1, ab_up w.2.2.1 x j v, w.2.2.2) H1 := by
    refine ab_hw_set hw hx.2.1 z oq ?_ (fun q hq => ab_up_ne hq) (fun q hq => rfl)
    rw [ab_ce_al hx.1]
    show H1[_]? = some (vp_cell _ _)
    rw [ee]
    rw [vp_cell_l, vp_cell_l, arrV_store]
    congr 2
    funext q
    by_cases hq : q = (Int32.ofInt j).toNatClampNeg
    · subst hq
      simp [updV, ab_up, e1, Int.toNat_of_nonneg hj.1]
    · have hq2 : ((q : Nat) : Int) ≠ j := by rw [e1] at hq; omega
      simp [updV, hq, ab_up, hq2]
  have hba : bnd ≤ ab_ad bnd aS x := by rw [ab_ad_nn hx.2.1]; omega
  have kk := kk H1 (locs ++ [⟨ab_ad bnd aS x, (Int32.ofInt j).toNatClampNeg⟩]) ls hw1 (ab_S_put hS z oq hba) hl
  rwa [hp] at kk
theorem ab_p60 {i a nx : Nat} {b : Int} {L : ab_F} {st : List ab_V} {w : ab_W} {x j v : Int} (C : ab_Cx D cA bnd aS SL xs k p R s m args meth c) (ho : ab_nth (ab_cod k) i = some (60, a, b, nx)) (hx : (ab_kd x).1 = 104 ∧ 0 ≤ x ∧ ab_po x < w.1) (hj : 0 ≤ j ∧ j < (ab_kd x).2) (hv : (ab_kd v).1 = 5 ∧ 0 ≤ v ∧ ab_po v < w.1) (kk : ab_WW p l e R s m args below meth c Q D cA bnd aS SL xs K0 S0 k nx L st (w.1, w.2.1, w.2.2.1, ab_up w.2.2.2 x j v)) : ab_WW p l e R s m args below meth c Q D cA bnd aS SL xs K0 S0 k i L ((2, v) :: (0, j) :: (2, x) :: st) w := by
  intro H locs ls hw hS hl
  obtain ⟨hd, hsc, hp⟩ := ab_dec1 ho (by decide) rfl rfl
  have hat := hw.1 x hx.2.1 hx.2.2
  rw [ab_ce_aq hx.1] at hat
  have hat2 := hw.1 v hv.2.1 hv.2.2
  rw [ab_ce_ob (c := 5) hv.1 (by decide)] at hat2
  obtain ⟨e1, e2⟩ := ab_ix hj.1 hj.2 (ab_kd_in (a := x)).2.2.1
  have hlt : (Int32.ofInt j).toNatClampNeg < (ab_kd x).2.toNat := Nat.not_le.mp fun q => e2 (Or.inr q)
  obtain ⟨r', hr', cellV, g1, g2, g3, -⟩ := hat2
  have hr5 : r' = ((ab_cls 5).1, ab_T 5, ab_nF 5) := Option.some.inj (hr'.symm.trans (ab_clsK_at (c := 5) (by decide)))
  have hcls := (C.2.2.2.2.2.2.2.2.2.2.1.1 5 _ (ab_clsK_at (by decide))).2
  obtain ⟨kA, comp, k1, k2, k3, -⟩ := (C.2.2.2.2.2.2.2.2.2.2.1.2 4 _ rfl).2
  have hcomp : comp = D.1 5 := Option.some.inj (k3.symm.trans hcls.1)
  subst hcomp
  obtain ⟨kC, hkC, -⟩ := hcls.2
  refine W.aast C.1 C.2.1 hat (fun q h => by cases h) (fun h => by cases h) k1 k2 rfl hkC ⟨fun q => e2 (Or.inl q), by show _ < (arrV _ _ _).slots.size; rw [arrV_size]; exact hlt⟩ g1 (fun q h => by rw [g3] at h; cases h) (by rw [g2]; exact hkC) (by rw [g2]; exact va_assign hcls) rfl rfl hd fun H1 ee z oq => ?_
  have hw1 : ab_HW D cA bnd aS SL xs (w.1, w.2.1, w.2.2.1, ab_up w.2.2.2 x j v) H1 := by
    refine ab_hw_set hw hx.2.1 z oq ?_ (fun q hq => rfl) (fun q hq => ab_up_ne hq)
    rw [ab_ce_aq hx.1]
    show H1[_]? = some (vp_cell _ _)
    rw [ee]
    rw [vp_cell_q, vp_cell_q, arrV_store]
    congr 2
    funext q
    by_cases hq : q = (Int32.ofInt j).toNatClampNeg
    · subst hq
      have hv1 : v ≠ -1 := by omega
      simp [updV, ab_up, e1, Int.toNat_of_nonneg hj.1, hv1, va_rf]
    · have hq2 : ((q : Nat) : Int) ≠ j := by rw [e1] at hq; omega
      simp [updV, hq, ab_up, hq2]
  have hba : bnd ≤ ab_ad bnd aS x := by rw [ab_ad_nn hx.2.1]; omega
  have kk := kk H1 (locs ++ [⟨ab_ad bnd aS x, (Int32.ofInt j).toNatClampNeg⟩]) ls hw1 (ab_S_put hS z oq hba) hl
  rwa [hp] at kk
theorem ab_p61 {i a nx : Nat} {b : Int} {L : ab_F} {st : List ab_V} {w : ab_W} {x : Int} (C : ab_Cx D cA bnd aS SL xs k p R s m args meth c) (ho : ab_nth (ab_cod k) i = some (61, a, b, nx)) (hx : (ab_kd x).1 = 100 + (a : Int) ∧ 0 ≤ x ∧ ab_po x < w.1) (kk : ab_WW p l e R s m args below meth c Q D cA bnd aS SL xs K0 S0 k nx L ((0, (ab_kd x).2) :: st) w) : ab_WW p l e R s m args below meth c Q D cA bnd aS SL xs K0 S0 k i L ((2, x) :: st) w := by
  intro H locs ls hw hS hl
  obtain ⟨hd, hsc, hp⟩ := ab_dec1 ho (by decide) rfl rfl
  have kk := kk H locs ls hw hS hl
  rw [hp] at kk
  have ha4 : a < 4 := ab_blt hsc
  have hat := hw.1 x hx.2.1 hx.2.2
  have hv : Int32.ofNat (ab_kd x).2.toNat = Int32.ofInt (ab_kd x).2 := by
    rw [← Int32.ofInt_eq_ofNat, Int.toNat_of_nonneg (ab_kd_in (a := x)).2.1]
  by_cases h3 : a = 3
  · subst h3
    rw [ab_ce_al hx.1] at hat
    exact va_alen (D := D) (cl := ab_clsK) (tys := ab_tys cA) C.1 C.2.1 C.2.2.2.2.2.2.2.2.2.2.1 (ab_P1 hat) 0 3 rfl rfl hv hd kk
  · rw [ab_ce_ar (t := a) hx.1 (by omega)] at hat
    have ht : ∃ ty, (ab_tys cA)[a]? = some (cA a, ty) := by
      match a, (show a < 3 by omega) with
      | 0, _ => exact ⟨_, rfl⟩
      | 1, _ => exact ⟨_, rfl⟩
      | 2, _ => exact ⟨_, rfl⟩
    obtain ⟨ty, ht⟩ := ht
    exact va_alen (D := D) (cl := ab_clsK) (tys := ab_tys cA) C.1 C.2.1 C.2.2.2.2.2.2.2.2.2.2.1 (ab_P1 hat) 0 a rfl ht hv hd kk
theorem ab_defC : (List.range 10).all (fun c => (List.range (ab_nF c)).all (fun k => decide (defaultValue (ab_ty c k) = ab_fv (fun _ => 0) (ab_fld c k).2.2.2 0 (-1)))) = true := by decide +kernel
theorem ab_fv0 (ad : Int → Nat) (t : Nat) : ab_fv ad t 0 (-1) = ab_fv (fun _ => 0) t 0 (-1) := by
  unfold ab_fv
  split <;> rfl
theorem ab_def_ok {c j : Nat} (hc : c < 10) (hj : j < ab_nF c) (ad : Int → Nat) (g r : ab_H) (K : Int) : defaultValue (ab_ty c j) = vp_V (ab_fs ad (ab_new g K 0) (ab_new r K (-1)) c K) j := by
  have h1 := List.all_eq_true.mp (List.all_eq_true.mp ab_defC c (List.mem_range.mpr hc)) j (List.mem_range.mpr hj)
  rw [of_decide_eq_true h1]
  have h2 := ab_fs_at (ad := ad) (g := ab_new g K 0) (r := ab_new r K (-1)) (c := c) (a := K) hj
  unfold vp_V
  rw [List.getD_eq_getElem?_getD, h2, ab_new_at, ab_new_at, ab_fv0]
  rfl
/-- a cell more, behind all others -/
theorem ab_hw_new {w : ab_W} {H H1 : Heap} {n : Nat} (hw : ab_HW D cA bnd aS SL xs w H) (h186 : w.1 < 187) (z : H1.size = bnd + w.1.toNat + 1) (o1 : ∀ q : Nat, q < bnd + w.1.toNat → H1[q]? = H[q]?)
    (hon : va_at D ab_clsK (bnd + w.1.toNat, ab_ce (ab_ad bnd aS) cA (ab_new w.2.2.1 (ab_nm w.1) 0) (ab_new w.2.2.2 (ab_nm w.1) (-1)) (ab_nm w.1)) H1) : ab_HW D cA bnd aS SL xs (w.1 + 1, w.2.1 + n, ab_new w.2.2.1 (ab_nm w.1) 0, ab_new w.2.2.2 (ab_nm w.1) (-1)) H1 := by
  obtain ⟨h1, h2, h3, h4, h5, h6, h7⟩ := hw
  refine ⟨fun b hb0 hb1 => ?_, fun h => ?_, by omega, by show 0 ≤ w.1 + 1; omega, by show w.1 + 1 ≤ 187; omega, ?_, ?_⟩
  · by_cases hb : b = ab_nm w.1
    · rw [hb, ab_ad_nn (nm_nn h4), po_nm h4 h186]; exact hon
    · have hb1 : ab_po b < w.1 + 1 := hb1
      have hb2 := po_ne hb
      rw [po_nm h4 h186] at hb2
      have hb3 := po_nn hb0
      show va_at D ab_clsK (_, ab_ce _ _ (ab_new w.2.2.1 (ab_nm w.1) 0) (ab_new w.2.2.2 (ab_nm w.1) (-1)) b) H1
      rw [ab_ce_congr (ab_new_ne hb) (ab_new_ne hb)]
      refine (h1 b hb0 (by omega)).kept (o1 _ ?_)
      rw [ab_ad_nn hb0]
      omega
  · have h : w.1 + 1 < 187 := h
    show H1.size = bnd + (w.1 + 1).toNat
    omega
  · intro j hj
    show Int32.ofInt (ab_new w.2.2.1 (ab_nm w.1) 0 (-2) j) = xs j
    rw [ab_new_ne (by have := nm_nn h4; omega)]
    exact h6 j hj
  · show ab_new w.2.2.2 (ab_nm w.1) (-1) (-2) (-1) = SL
    rw [ab_new_ne (by have := nm_nn h4; omega)]
    exact h7
theorem ab_S_new {H0 H H1 : Heap} {locs : List Loc} {n : Nat} (h : va_S (fun q => bnd ≤ q) H0 H locs) (hz : H.size = n) (z : H1.size = n + 1) (o1 : ∀ q : Nat, q < n → H1[q]? = H[q]?) : va_S (fun q => bnd ≤ q) H0 H1 locs := by
  have h1 := h.1
  refine ⟨by omega, fun q h2 h3 => ?_, h.2.2⟩
  rw [o1 q (by omega)]
  exact h.2.1 q h2 h3
theorem ab_p52 {i a nx : Nat} {b : Int} {L : ab_F} {st : List ab_V} {w : ab_W}  (C : ab_Cx D cA bnd aS SL xs k p R s m args meth c) (ho : ab_nth (ab_cod k) i = some (52, a, b, nx)) (hkd : ab_kd (ab_nm w.1) = ((a : Int), (ab_nF a : Int))) (h0 : 0 ≤ w.1) (h186 : w.1 < 187) (hr1 : (w.1 + 1 - K0).toNat ≤ R.cells) (hr2 : w.2.1 + ab_nF a - S0 ≤ R.slots) (hk0 : K0 ≤ w.1) (hs0 : S0 ≤ w.2.1) (kk : ab_WW p l e R s m args below meth c Q D cA bnd aS SL xs K0 S0 k nx L ((2, ab_nm w.1) :: st) (w.1 + 1, w.2.1 + ab_nF a, ab_new w.2.2.1 (ab_nm w.1) 0, ab_new w.2.2.2 (ab_nm w.1) (-1))) : ab_WW p l e R s m args below meth c Q D cA bnd aS SL xs K0 S0 k i L st w := by
  intro H locs ls hw hS hl
  obtain ⟨hd, hsc, hp⟩ := ab_dec1 ho (by decide) rfl rfl
  have ha : a < 10 := ab_blt hsc
  have hwd : ∀ q ∈ ab_nw k i (52, a, b, nx), ab_isN q.2 = false → q.2 ∈ ab_TB := fun q hq hn => (ab_nw_ok ho hq).elim (fun h => h.2) (fun h => absurd h.1 (by rw [hn]; decide))
  have hsz := hw.2.1 h186
  have hKn := C.2.2.2.2.2.2.2.2.2.2.1.1 a _ (ab_clsK_at ha)
  refine W.newcK C.1 C.2.1 C.2.2.2.1 (C.2.2.2.2.1 _ (hwd _ (List.mem_cons_self) rfl)) (C.2.2.2.2.1 _ (hwd _ (List.mem_cons_of_mem _ List.mem_cons_self) rfl)) (C.2.2.2.2.1 _ (hwd _ (List.mem_cons_of_mem _ (List.mem_cons_of_mem _ List.mem_cons_self)) rfl)) rfl hd (by omega) (by show w.2.1 - S0 + ab_nF a ≤ _; omega) hKn.2.1 hsz fun H1 kC hkC e1 z1 o1 => ?_
  have hw1 := ab_hw_new (n := ab_nF a) hw h186 z1 o1 (by
    rw [ab_ce_ob (c := a) (by rw [hkd]) ha]
    exact ⟨_, ab_clsK_at ha, (u_born (ab_ty a) C.2.2.2.2.1 (ab_lays ha) hKn hkC e1 (ab_tys_ok ha)).to (fun j hj => ab_def_ok ha hj _ _ _ _)⟩)
  have kk := kk H1 locs ls hw1 (ab_S_new hS hsz z1 o1) hl
  rw [hp] at kk
  dsimp only at kk
  rw [show (w.1 + 1 - K0).toNat = (w.1 - K0).toNat + 1 by omega, show w.2.1 + ab_nF a - S0 = w.2.1 - S0 + ab_nF a by omega] at kk
  simp only [List.map_cons, ab_cv, ab_ad_nn (nm_nn h0), po_nm h0 h186] at kk
  exact kk
theorem ab_ac0 : ab_gw ab_p_ac_int = some (.arrayClass .int) := rfl
theorem ab_ac1 : ab_gw ab_p_ac_byte = some (.arrayClass .byte) := rfl
theorem ab_ac2 : ab_gw ab_p_ac_bool = some (.arrayClass .boolean) := rfl
theorem ab_ac3 : ab_gw ab_p_ac_long = some (.arrayClass .long) := rfl
theorem ab_p53_0 {i nx : Nat} {b : Int} {L : ab_F} {st : List ab_V} {w : ab_W} {n : Int} (C : ab_Cx D cA bnd aS SL xs k p R s m args meth c) (ho : ab_nth (ab_cod k) i = some (53, 0, b, nx)) (hkd : ab_kd (ab_nm w.1) = (100 + ((0 : Nat) : Int), n)) (h0 : 0 ≤ w.1) (h186 : w.1 < 187) (hn0 : 0 ≤ n) (hn1 : n < 100000) (hr1 : (w.1 + 1 - K0).toNat ≤ R.cells) (hr2 : w.2.1 + n.toNat - S0 ≤ R.slots) (hk0 : K0 ≤ w.1) (hs0 : S0 ≤ w.2.1) (kk : ab_WW p l e R s m args below meth c Q D cA bnd aS SL xs K0 S0 k nx L ((2, ab_nm w.1) :: st) (w.1 + 1, w.2.1 + n.toNat, ab_new w.2.2.1 (ab_nm w.1) 0, ab_new w.2.2.2 (ab_nm w.1) (-1))) : ab_WW p l e R s m args below meth c Q D cA bnd aS SL xs K0 S0 k i L ((0, n) :: st) w := by
  intro H locs ls hw hS hl
  obtain ⟨hd, hsc, hp⟩ := ab_dec1 ho (by decide) rfl rfl
  have hsz := hw.2.1 h186
  have hni : (Int32.ofInt n).toInt = n := by rw [ab_i32, wr_of (by omega) (by omega)]
  have hnc : (Int32.ofInt n).toNatClampNeg = n.toNat := by show (Int32.ofInt n).toInt.toNat = _; rw [hni]
  have hn2 : ¬ Int32.ofInt n < 0 := by rw [Int32.lt_iff_toInt_lt, hni]; show ¬ n < 0; omega
  refine va_newaK (atype := .int) C.1 C.2.1 (C.2.2.2.2.1 _ (ab_in_TB ab_ac0 rfl)) rfl hd rfl hn2 hnc (by show n.toNat * componentBytes .int ≤ 536870912; simp only [componentBytes]; omega) (by omega) (by show w.2.1 - S0 + n.toNat ≤ _; omega) hsz fun H1 cA1 e1 z1 o1 hAr hNm => ?_
  have hcA : cA1 = cA 0 := by
    have h9 : s.vm.findClass ("[" ++ (FieldType.int).toString) = some (cA 0) := (C.2.2.2.2.2.2.2.2.2.2.1.2 0 _ rfl).2
    exact Option.some.inj (hNm.symm.trans h9)
  subst hcA
  have hw1 := ab_hw_new (n := n.toNat) hw h186 z1 o1 (by
    rw [ab_ce_ar (t := 0) (by rw [hkd]) (by decide)]
    show H1[_]? = some (vp_cell _ _)
    rw [e1, hkd]
    simp only [vp_cell_i, ab_new_at]
    try rfl)
  have kk := kk H1 locs ls hw1 (ab_S_new hS hsz z1 o1) hl
  rw [hp] at kk
  dsimp only at kk
  rw [show (w.1 + 1 - K0).toNat = (w.1 - K0).toNat + 1 by omega, show w.2.1 + n.toNat - S0 = w.2.1 - S0 + n.toNat by omega] at kk
  simp only [List.map_cons, ab_cv, ab_ad_nn (nm_nn h0), po_nm h0 h186] at kk
  exact kk
theorem ab_p53_1 {i nx : Nat} {b : Int} {L : ab_F} {st : List ab_V} {w : ab_W} {n : Int} (C : ab_Cx D cA bnd aS SL xs k p R s m args meth c) (ho : ab_nth (ab_cod k) i = some (53, 1, b, nx)) (hkd : ab_kd (ab_nm w.1) = (100 + ((1 : Nat) : Int), n)) (h0 : 0 ≤ w.1) (h186 : w.1 < 187) (hn0 : 0 ≤ n) (hn1 : n < 100000) (hr1 : (w.1 + 1 - K0).toNat ≤ R.cells) (hr2 : w.2.1 + n.toNat - S0 ≤ R.slots) (hk0 : K0 ≤ w.1) (hs0 : S0 ≤ w.2.1) (kk : ab_WW p l e R s m args below meth c Q D cA bnd aS SL xs K0 S0 k nx L ((2, ab_nm w.1) :: st) (w.1 + 1, w.2.1 + n.toNat, ab_new w.2.2.1 (ab_nm w.1) 0, ab_new w.2.2.2 (ab_nm w.1) (-1))) : ab_WW p l e R s m args below meth c Q D cA bnd aS SL xs K0 S0 k i L ((0, n) :: st) w := by
  intro H locs ls hw hS hl
  obtain ⟨hd, hsc, hp⟩ := ab_dec1 ho (by decide) rfl rfl
  have hsz := hw.2.1 h186
  have hni : (Int32.ofInt n).toInt = n := by rw [ab_i32, wr_of (by omega) (by omega)]
  have hnc : (Int32.ofInt n).toNatClampNeg = n.toNat := by show (Int32.ofInt n).toInt.toNat = _; rw [hni]
  have hn2 : ¬ Int32.ofInt n < 0 := by rw [Int32.lt_iff_toInt_lt, hni]; show ¬ n < 0; omega
  refine va_newaK (atype := .byte) C.1 C.2.1 (C.2.2.2.2.1 _ (ab_in_TB ab_ac1 rfl)) rfl hd rfl hn2 hnc (by show n.toNat * componentBytes .byte ≤ 536870912; simp only [componentBytes]; omega) (by omega) (by show w.2.1 - S0 + n.toNat ≤ _; omega) hsz fun H1 cA1 e1 z1 o1 hAr hNm => ?_
  have hcA : cA1 = cA 1 := by
    have h9 : s.vm.findClass ("[" ++ (FieldType.byte).toString) = some (cA 1) := (C.2.2.2.2.2.2.2.2.2.2.1.2 1 _ rfl).2
    exact Option.some.inj (hNm.symm.trans h9)
  subst hcA
  have hw1 := ab_hw_new (n := n.toNat) hw h186 z1 o1 (by
    rw [ab_ce_ar (t := 1) (by rw [hkd]) (by decide)]
    show H1[_]? = some (vp_cell _ _)
    rw [e1, hkd]
    simp only [vp_cell_i, ab_new_at]
    try rfl)
  have kk := kk H1 locs ls hw1 (ab_S_new hS hsz z1 o1) hl
  rw [hp] at kk
  dsimp only at kk
  rw [show (w.1 + 1 - K0).toNat = (w.1 - K0).toNat + 1 by omega, show w.2.1 + n.toNat - S0 = w.2.1 - S0 + n.toNat by omega] at kk
  simp only [List.map_cons, ab_cv, ab_ad_nn (nm_nn h0), po_nm h0 h186] at kk
  exact kk
theorem ab_p53_2 {i nx : Nat} {b : Int} {L : ab_F} {st : List ab_V} {w : ab_W} {n : Int} (C : ab_Cx D cA bnd aS SL xs k p R s m args meth c) (ho : ab_nth (ab_cod k) i = some (53, 2, b, nx)) (hkd : ab_kd (ab_nm w.1) = (100 + ((2 : Nat) : Int), n)) (h0 : 0 ≤ w.1) (h186 : w.1 < 187) (hn0 : 0 ≤ n) (hn1 : n < 100000) (hr1 : (w.1 + 1 - K0).toNat ≤ R.cells) (hr2 : w.2.1 + n.toNat - S0 ≤ R.slots) (hk0 : K0 ≤ w.1) (hs0 : S0 ≤ w.2.1) (kk : ab_WW p l e R s m args below meth c Q D cA bnd aS SL xs K0 S0 k nx L ((2, ab_nm w.1) :: st) (w.1 + 1, w.2.1 + n.toNat, ab_new w.2.2.1 (ab_nm w.1) 0, ab_new w.2.2.2 (ab_nm w.1) (-1))) : ab_WW p l e R s m args below meth c Q D cA bnd aS SL xs K0 S0 k i L ((0, n) :: st) w := by
  intro H locs ls hw hS hl
  obtain ⟨hd, hsc, hp⟩ := ab_dec1 ho (by decide) rfl rfl
  have hsz := hw.2.1 h186
  have hni : (Int32.ofInt n).toInt = n := by rw [ab_i32, wr_of (by omega) (by omega)]
  have hnc : (Int32.ofInt n).toNatClampNeg = n.toNat := by show (Int32.ofInt n).toInt.toNat = _; rw [hni]
  have hn2 : ¬ Int32.ofInt n < 0 := by rw [Int32.lt_iff_toInt_lt, hni]; show ¬ n < 0; omega
  refine va_newaK (atype := .boolean) C.1 C.2.1 (C.2.2.2.2.1 _ (ab_in_TB ab_ac2 rfl)) rfl hd rfl hn2 hnc (by show n.toNat * componentBytes .boolean ≤ 536870912; simp only [componentBytes]; omega) (by omega) (by show w.2.1 - S0 + n.toNat ≤ _; omega) hsz fun H1 cA1 e1 z1 o1 hAr hNm => ?_
  have hcA : cA1 = cA 2 := by
    have h9 : s.vm.findClass ("[" ++ (FieldType.boolean).toString) = some (cA 2) := (C.2.2.2.2.2.2.2.2.2.2.1.2 2 _ rfl).2
    exact Option.some.inj (hNm.symm.trans h9)
  subst hcA
  have hw1 := ab_hw_new (n := n.toNat) hw h186 z1 o1 (by
    rw [ab_ce_ar (t := 2) (by rw [hkd]) (by decide)]
    show H1[_]? = some (vp_cell _ _)
    rw [e1, hkd]
    simp only [vp_cell_i, ab_new_at]
    try rfl)
  have kk := kk H1 locs ls hw1 (ab_S_new hS hsz z1 o1) hl
  rw [hp] at kk
  dsimp only at kk
  rw [show (w.1 + 1 - K0).toNat = (w.1 - K0).toNat + 1 by omega, show w.2.1 + n.toNat - S0 = w.2.1 - S0 + n.toNat by omega] at kk
  simp only [List.map_cons, ab_cv, ab_ad_nn (nm_nn h0), po_nm h0 h186] at kk
  exact kk
theorem ab_p53_3 {i nx : Nat} {b : Int} {L : ab_F} {st : List ab_V} {w : ab_W} {n : Int} (C : ab_Cx D cA bnd aS SL xs k p R s m args meth c) (ho : ab_nth (ab_cod k) i = some (53, 3, b, nx)) (hkd : ab_kd (ab_nm w.1) = (100 + ((3 : Nat) : Int), n)) (h0 : 0 ≤ w.1) (h186 : w.1 < 187) (hn0 : 0 ≤ n) (hn1 : n < 100000) (hr1 : (w.1 + 1 - K0).toNat ≤ R.cells) (hr2 : w.2.1 + n.toNat - S0 ≤ R.slots) (hk0 : K0 ≤ w.1) (hs0 : S0 ≤ w.2.1) (kk : ab_WW p l e R s m args below meth c Q D cA bnd aS SL xs K0 S0 k nx L ((2, ab_nm w.1) :: st) (w.1 + 1, w.2.1 + n.toNat, ab_new w.2.2.1 (ab_nm w.1) 0, ab_new w.2.2.2 (ab_nm w.1) (-1))) : ab_WW p l e R s m args below meth c Q D cA bnd aS SL xs K0 S0 k i L ((0, n) :: st) w := by
  intro H locs ls hw hS hl
  obtain ⟨hd, hsc, hp⟩ := ab_dec1 ho (by decide) rfl rfl
  have hsz := hw.2.1 h186
  have hni : (Int32.ofInt n).toInt = n := by rw [ab_i32, wr_of (by omega) (by omega)]
  have hnc : (Int32.ofInt n).toNatClampNeg = n.toNat := by show (Int32.ofInt n).toInt.toNat = _; rw [hni]
  have hn2 : ¬ Int32.ofInt n < 0 := by rw [Int32.lt_iff_toInt_lt, hni]; show ¬ n < 0; omega
  refine va_newaK (atype := .long) C.1 C.2.1 (C.2.2.2.2.1 _ (ab_in_TB ab_ac3 rfl)) rfl hd rfl hn2 hnc (by show n.toNat * componentBytes .long ≤ 536870912; simp only [componentBytes]; omega) (by omega) (by show w.2.1 - S0 + n.toNat ≤ _; omega) hsz fun H1 cA1 e1 z1 o1 hAr hNm => ?_
  have hcA : cA1 = cA 3 := by
    have h9 : s.vm.findClass ("[" ++ (FieldType.long).toString) = some (cA 3) := (C.2.2.2.2.2.2.2.2.2.2.1.2 3 _ rfl).2
    exact Option.some.inj (hNm.symm.trans h9)
  subst hcA
  have hw1 := ab_hw_new (n := n.toNat) hw h186 z1 o1 (by
    rw [ab_ce_al (by rw [hkd]; rfl)]
    show H1[_]? = some (vp_cell _ _)
    rw [e1, hkd]
    simp only [vp_cell_l, ab_new_at]
    try rfl)
  have kk := kk H1 locs ls hw1 (ab_S_new hS hsz z1 o1) hl
  rw [hp] at kk
  dsimp only at kk
  rw [show (w.1 + 1 - K0).toNat = (w.1 - K0).toNat + 1 by omega, show w.2.1 + n.toNat - S0 = w.2.1 - S0 + n.toNat by omega] at kk
  simp only [List.map_cons, ab_cv, ab_ad_nn (nm_nn h0), po_nm h0 h186] at kk
  exact kk
theorem ab_p54 {i a nx : Nat} {b : Int} {L : ab_F} {st : List ab_V} {w : ab_W} {n : Int} (C : ab_Cx D cA bnd aS SL xs k p R s m args meth c) (ho : ab_nth (ab_cod k) i = some (54, a, b, nx)) (hkd : ab_kd (ab_nm w.1) = (104, n)) (h0 : 0 ≤ w.1) (h186 : w.1 < 187) (hn0 : 0 ≤ n) (hn1 : n < 100000) (hr1 : (w.1 + 1 - K0).toNat ≤ R.cells) (hr2 : w.2.1 + n.toNat - S0 ≤ R.slots) (hk0 : K0 ≤ w.1) (hs0 : S0 ≤ w.2.1) (kk : ab_WW p l e R s m args below meth c Q D cA bnd aS SL xs K0 S0 k nx L ((2, ab_nm w.1) :: st) (w.1 + 1, w.2.1 + n.toNat, ab_new w.2.2.1 (ab_nm w.1) 0, ab_new w.2.2.2 (ab_nm w.1) (-1))) : ab_WW p l e R s m args below meth c Q D cA bnd aS SL xs K0 S0 k i L ((0, n) :: st) w := by
  intro H locs ls hw hS hl
  obtain ⟨hd, hsc, hp⟩ := ab_dec1 ho (by decide) rfl rfl
  have hwd : ∀ q ∈ ab_nw k i (54, a, b, nx), ab_isN q.2 = false → q.2 ∈ ab_TB := fun q hq hn => (ab_nw_ok ho hq).elim (fun h => h.2) (fun h => absurd h.1 (by rw [hn]; decide))
  have hsz := hw.2.1 h186
  have hni : (Int32.ofInt n).toInt = n := by rw [ab_i32, wr_of (by omega) (by omega)]
  have hnc : (Int32.ofInt n).toNatClampNeg = n.toNat := by show (Int32.ofInt n).toInt.toNat = _; rw [hni]
  have hn2 : ¬ Int32.ofInt n < 0 := by rw [Int32.lt_iff_toInt_lt, hni]; show ¬ n < 0; omega
  refine W.anew C.1 C.2.1 C.2.2.2.1 (C.2.2.2.2.1 _ (hwd _ List.mem_cons_self rfl)) (va_AO.use C.2.2.2.2.2.2.2.2.2.2.2.1) rfl hd rfl hn2 (by rw [hnc]; omega) (by omega) (by rw [hnc]; show w.2.1 - S0 + n.toNat ≤ _; omega) fun cA1 kA comp f1 f2 f3 f4 => ?_
  generalize hH1 : H.push ({ cls := cA1, slots := Array.replicate (Int32.ofInt n).toNatClampNeg .null, vm := .none } : Cell) = H1
  have z1 : H1.size = bnd + w.1.toNat + 1 := by rw [← hH1, Array.size_push, hsz]
  have e1 : H1[bnd + w.1.toNat]? = some (arrV cA1 n.toNat (fun _ => .null)) := by rw [← hH1, ← hsz, Array.getElem?_push_size, ← arrV_new, hnc]
  have o1 : ∀ q : Nat, q < bnd + w.1.toNat → H1[q]? = H[q]? := fun q hq => by rw [← hH1, Array.getElem?_push, if_neg (by omega)]
  have hcA : cA1 = cA 4 := by
    obtain ⟨kA9, comp9, -, -, -, h9⟩ := (C.2.2.2.2.2.2.2.2.2.2.1.2 4 _ rfl).2
    exact Option.some.inj (f1.symm.trans h9)
  subst hcA
  have hw1 := ab_hw_new (n := n.toNat) hw h186 z1 o1 (by
    rw [ab_ce_aq (by rw [hkd])]
    show H1[_]? = some (vp_cell _ _)
    rw [e1, hkd]
    simp only [vp_cell_q, ab_new_at]
    rfl)
  have kk := kk H1 locs ls hw1 (ab_S_new hS hsz z1 o1) hl
  rw [hp] at kk
  dsimp only at kk
  rw [show (w.1 + 1 - K0).toNat = (w.1 - K0).toNat + 1 by omega, show w.2.1 + n.toNat - S0 = w.2.1 - S0 + n.toNat by omega] at kk
  simp only [List.map_cons, ab_cv, ab_ad_nn (nm_nn h0), po_nm h0 h186] at kk
  rw [hsz, hnc]
  exact kk
end AbArr
