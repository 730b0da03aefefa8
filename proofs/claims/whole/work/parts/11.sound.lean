/-! THE ABSTRACT MACHINE IS SOUND, part 7: any run. -/
section AbSound
variable {p : Program} {l : Launch} {e : Env} {R : Room} {s : State} {m : MethodId} {args : Array Value} {below : List Frame} {meth : Method} {c : Code} {Q : State → Prop} {D : va_G} {cA : Nat → ClassId} {bnd : Nat} {aS : Int → Nat} {SL : Nat} {xs : Nat → Int32} {K0 : Int} {S0 : Nat} {k : Nat}
theorem ab_ps_ok {i op a nx : Nat} {b : Int} {L : ab_F} {st : List ab_V} {w : ab_W} {q : Nat × ab_F × List ab_V} (C : ab_Cx D cA bnd aS SL xs k p R s m args meth c) (ho : ab_nth (ab_cod k) i = some (op, a, b, nx)) (h : ab_ps (op, a, b, nx) L st = some q) (kk : ab_WW p l e R s m args below meth c Q D cA bnd aS SL xs K0 S0 k q.1 q.2.1 q.2.2 w) : ab_WW p l e R s m args below meth c Q D cA bnd aS SL xs K0 S0 k i L st w := by
  unfold ab_ps at h
  dsimp only at h
  split at h
  · cases h
    exact ab_p2 C ho kk
  · split at h
    · rename_i x hx
      cases h
      exact ab_p3 C ho hx kk
    · cases h
  · split at h
    · rename_i x hx
      cases h
      exact ab_p4 C ho hx kk
    · cases h
  · split at h
    · rename_i x hx
      cases h
      exact ab_p5 C ho hx kk
    · cases h
  · cases h
    exact ab_p6 C ho kk
  · cases h
    exact ab_p7 C ho kk
  · cases h
    exact ab_p8 C ho kk
  · split at h
    · rename_i x hx
      cases h
      exact ab_p9 C ho hx kk
    · cases h
  · cases h
    exact ab_p10 C ho kk
  · cases h
    exact ab_p11 C ho kk
  · cases h
    exact ab_p12 C ho kk
  · cases h
    exact ab_p13 C ho kk
  · cases h
    exact ab_p14 C ho kk
  · cases h
    exact ab_p15 C ho kk
  · cases h
    exact ab_p16 C ho kk
  · cases h
    exact ab_p17 C ho kk
  · cases h
    exact ab_p18 C ho kk
  · cases h
    exact ab_p20 C ho kk
  · cases h
    exact ab_p21 C ho kk
  · cases h
    exact ab_p22 C ho kk
  · cases h
    exact ab_p23 C ho kk
  · cases h
    exact ab_p24 C ho kk
  · cases h
    exact ab_p25 C ho kk
  · cases h
    exact ab_p26 C ho kk
  · cases h
    exact ab_p27 C ho kk
  · cases h
    exact ab_p28 (Or.inl rfl) C ho kk
  · cases h
    exact ab_p28 (Or.inr rfl) C ho kk
  · cases h
    exact ab_p29 C ho kk
  · cases h
    exact ab_p30 C ho kk
  · cases h
    exact ab_p31 C ho kk
  · cases h
    exact ab_p42 C ho kk
  · split at h
    · rename_i hc
      cases h
      subst hc
      exact ab_p62 C ho kk
    · cases h
  · cases h
    exact ab_p71 C ho kk
  · cases h
theorem ab_ex_ok {i op a nx : Nat} {b : Int} {L : ab_F} {st : List ab_V} {w : ab_W} {q : Nat × ab_F × List ab_V × ab_W} (C : ab_Cx D cA bnd aS SL xs k p R s m args meth c) (ho : ab_nth (ab_cod k) i = some (op, a, b, nx)) (h : ab_ex (op, a, b, nx) L st w = some q) (hk0 : K0 ≤ w.1) (hs0 : S0 ≤ w.2.1) (hr1 : (q.2.2.2.1 - K0).toNat ≤ R.cells) (hr2 : q.2.2.2.2.1 - S0 ≤ R.slots) (kk : ab_WW p l e R s m args below meth c Q D cA bnd aS SL xs K0 S0 k q.1 q.2.1 q.2.2.1 q.2.2.2) : ab_WW p l e R s m args below meth c Q D cA bnd aS SL xs K0 S0 k i L st w := by
  unfold ab_ex at h
  dsimp only at h
  split at h
  · split at h
    · cases h
    · rename_i hc
      cases h
      exact ab_p19 C ho hc kk
  · cases h
    exact ab_p32 C ho kk
  · cases h
    exact ab_p33 C ho kk
  · cases h
    exact ab_p34 C ho kk
  · split at h
    · rename_i hc
      cases h
      exact ab_p35 C ho hc kk
    · cases h
  · split at h
    · rename_i hc
      cases h
      exact ab_p37 C ho hc.1 hc.2 kk
    · cases h
  · split at h
    · rename_i hc
      cases h
      exact ab_p38 C ho hc kk
    · cases h
  · split at h
    · rename_i hc
      cases h
      exact ab_p39 C ho hc.1 hc.2 kk
    · cases h
  · split at h
    · rename_i hc
      cases h
      exact ab_p40 C ho hc.1 hc.2 kk
    · cases h
  · split at h
    · rename_i hc
      cases h
      exact ab_p41 C ho hc.1 hc.2 kk
    · cases h
  · split at h
    · rename_i hc
      cases h
      exact ab_p43 C ho hc.1 hc.2 kk
    · cases h
  · split at h
    · rename_i hc
      cases h
      exact ab_p44 C ho hc.1 hc.2 kk
    · cases h
  · split at h
    · rename_i hc
      cases h
      exact ab_p45 C ho hc.1 hc.2 kk
    · cases h
  · split at h
    · rename_i hc
      cases h
      exact ab_p46 C ho hc.1 hc.2 kk
    · cases h
  · split at h
    · rename_i hc
      cases h
      exact ab_p47 C ho hc.1.1 hc.1.2 hc.2 kk
    · cases h
  · split at h
    · rename_i hc
      cases h
      exact ab_p48 C ho hc.1 hc.2 kk
    · cases h
  · split at h
    · rename_i hc
      cases h
      exact ab_p49 C ho hc.1 hc.2 kk
    · cases h
  · split at h
    · rename_i hc
      cases h
      exact ab_p50 C ho hc.1.1 hc.1.2 hc.2 kk
    · cases h
  · split at h
    · rename_i hc
      cases h
      exact ab_p51 C ho hc.1 hc.2 kk
    · cases h
  · split at h
    · rename_i hc
      cases h
      exact ab_p52 C ho hc.1 hc.2.1 hc.2.2 hr1 hr2 hk0 hs0 kk
    · cases h
  · split at h
    · rename_i hc
      cases h
      exact ab_p53 C ho hc.1 hc.2.1 hc.2.2.1 hc.2.2.2.1 hc.2.2.2.2 hr1 hr2 hk0 hs0 kk
    · cases h
  · split at h
    · rename_i hc
      cases h
      exact ab_p54 C ho hc.1 hc.2.1 hc.2.2.1 hc.2.2.2.1 hc.2.2.2.2 hr1 hr2 hk0 hs0 kk
    · cases h
  · split at h
    · rename_i hc
      cases h
      exact ab_p55 C ho hc ⟨hr1, hr2⟩ kk
    · cases h
  · split at h
    · rename_i hc
      cases h
      exact ab_p56 C ho hc ⟨hr1, hr2⟩ kk
    · cases h
  · split at h
    · rename_i hc
      cases h
      exact ab_p57 C ho hc.1.1 hc.1.2 hc.2.1 hc.2.2.1 hc.2.2.2.1 hc.2.2.2.2.1 hc.2.2.2.2.2.1 hc.2.2.2.2.2.2.1 hc.2.2.2.2.2.2.2.1 hc.2.2.2.2.2.2.2.2 kk
    · cases h
  · split at h
    · rename_i hc
      cases h
      exact ab_p58 C ho hc kk
    · cases h
  · split at h
    · rename_i hc
      cases h
      exact ab_p60 C ho hc.1.1 hc.1.2 hc.2 kk
    · cases h
  · split at h
    · rename_i hc
      cases h
      exact ab_p61 C ho hc kk
    · cases h
  · split at h
    · rename_i hc
      cases h
      obtain ⟨rfl, hj⟩ := hc; exact ab_p63 C ho hj kk
    · cases h
  · split at h
    · rename_i hc
      cases h
      obtain ⟨rfl, hj⟩ := hc; exact ab_p64 C ho hj kk
    · cases h
  · split at h
    · rename_i hc
      cases h
      exact ab_p65 C ho hc kk
    · cases h
  · split at h
    · rename_i hc
      cases h
      exact ab_p66 C ho hc.1 hc.2 ⟨hr1, hr2⟩ kk
    · cases h
  · split at h
    · rename_i hc
      cases h
      obtain ⟨rfl, hj⟩ := hc; exact ab_p67 C ho hj kk
    · cases h
  · split at h
    · rename_i hc
      cases h
      obtain rfl := hc; exact ab_p68 C ho kk
    · cases h
  · split at h
    · rename_i hc
      cases h
      obtain ⟨hcat, rfl⟩ := hc; exact ab_p69 C ho hcat ⟨hr1, hr2⟩ kk
    · cases h
  · split at h
    · rename_i hc
      cases h
      obtain ⟨hcat, rfl, hj⟩ := hc; exact ab_p70 C ho hcat hj ⟨hr1, hr2⟩ kk
    · cases h
  · split at h
    · rename_i q2 hq2
      cases h
      exact ab_ps_ok C ho hq2 kk
    · cases h
theorem ab_ex_mono {o : ab_O} {L : ab_F} {st : List ab_V} {w : ab_W} {q : Nat × ab_F × List ab_V × ab_W} (h : ab_ex o L st w = some q) : w.1 ≤ q.2.2.2.1 ∧ w.2.1 ≤ q.2.2.2.2.1 := by
  unfold ab_ex at h
  split at h
  all_goals first
    | (cases h; exact ⟨Int.le_refl _, Nat.le_refl _⟩)
    | (split at h
       · cases h
         first
           | exact ⟨Int.le_refl _, Nat.le_refl _⟩
           | exact ⟨by dsimp only; omega, Nat.le_add_right _ _⟩
       · cases h)
    | (split at h
       · cases h
       · cases h
         exact ⟨Int.le_refl _, Nat.le_refl _⟩)
theorem ab_run_mono : ∀ (n k i : Nat) {L : ab_F} {st : List ab_V} {w : ab_W} {x : List ab_V × ab_W}, ab_run n k i L st w = some x → w.1 ≤ x.2.1 ∧ w.2.1 ≤ x.2.2.1 := by
  intro n
  induction n with
  | zero => intro k i L st w x h; simp [ab_run] at h
  | succ n ih =>
    intro k i L st w x h
    rw [ab_run] at h
    split at h
    · cases h; exact ⟨Int.le_refl _, Nat.le_refl _⟩
    · cases hs : ab_sp (fun k' L' w' => ab_run n k' 0 L' [] w') k i L st w with
      | none => rw [hs] at h; cases h
      | some q =>
        rw [hs] at h
        have h2 := ih _ _ h
        have h3 : w.1 ≤ q.2.2.2.1 ∧ w.2.1 ≤ q.2.2.2.2.1 := by
          unfold ab_sp at hs
          cases ho : ab_nth (ab_cod k) i with
          | none => rw [ho] at hs; cases hs
          | some o =>
            rw [ho] at hs
            dsimp only at hs
            split at hs
            · split at hs
              · split at hs
                · cases hs
                · rename_i y hy
                  split at hs
                  · have h9 := ih _ _ hy
                    cases hs
                    exact h9
                  · cases hs
              · cases hs
            · exact ab_ex_mono hs
        exact ⟨Int.le_trans h3.1 h2.1, Nat.le_trans h3.2 h2.2⟩
theorem ab_cat_app : ∀ (x y : List ab_V), ab_cat (x ++ y) = ab_cat x + ab_cat y := by
  intro x
  induction x with
  | nil => intro y; simp [ab_cat]
  | cons v t ih => intro y; simp only [List.cons_append, ab_cat, ih]; omega
theorem ab_cat_rev : ∀ (x : List ab_V), ab_cat x.reverse = ab_cat x := by
  intro x
  induction x with
  | nil => rfl
  | cons v t ih => rw [List.reverse_cons, ab_cat_app, ih]; simp only [ab_cat]; omega
theorem ab_rt_W {i : Nat} {L : ab_F} {st : List ab_V} {w : ab_W} {v : List ab_V} (C : ab_Cx D cA bnd aS SL xs k p R s m args meth c) (hlocks : meth.locks = false) (hret : meth.sig.returnType = ab_rty k) (h : ab_rt k i st = some v) (hnt : ab_nt v = true) :
    ab_WW p l e R s m args below meth c (MQ below (ab_Qc D cA bnd aS SL xs v w) args s (w.1 - K0).toNat (w.2.1 - S0) (fun q => bnd ≤ q)) D cA bnd aS SL xs K0 S0 k i L st w := by
  intro H locs ls hw hS hl
  cases ho : ab_nth (ab_cod k) i with
  | none => unfold ab_rt at h; rw [ho] at h; cases h
  | some o =>
    obtain ⟨op, a, b, nx⟩ := o
    unfold ab_rt at h
    rw [ho] at h
    dsimp only at h
    split at h
    · cases h
      obtain ⟨q, hq, hd, hsc, -⟩ := ab_dec ho (show (0 : Nat) < 72 by decide)
      cases List.mem_singleton.mp (show q ∈ [(Instr.return_, 1, decide (ab_rty k = none))] from hq)
      exact W.vret C.1 C.2.1 (hret.trans (of_decide_eq_true hsc)) (fun t ht hW => ⟨rfl, by rw [ht]; exact hw, hS.F ht⟩) hS.2.2 hd (hlocks := hlocks)
    · cases h
      obtain ⟨q, hq, hd, hsc, -⟩ := ab_dec ho (show (0 : Nat) < 72 by decide)
      cases List.mem_singleton.mp (show q ∈ [(Instr.ireturn, 1, decide (ab_rty k = some .int))] from hq)
      exact W.iret C.1 C.2.1 (hret.trans (of_decide_eq_true hsc)) (fun t ht hW => ⟨rfl, by rw [ht]; exact hw, hS.F ht⟩) hS.2.2 hd (hlocks := hlocks)
    · split at h
      · rename_i hx
        cases h
        obtain ⟨q, hq, hd, hsc, -⟩ := ab_dec ho (show (0 : Nat) < 72 by decide)
        cases List.mem_singleton.mp (show q ∈ [(Instr.ireturn, 1, decide (ab_rty k = some .boolean))] from hq)
        exact W.zret C.1 C.2.1 (hret.trans (of_decide_eq_true hsc)) (ab_narz hx) (fun t ht hW => ⟨rfl, by rw [ht]; exact hw, hS.F ht⟩) hS.2.2 hd (hlocks := hlocks)
      · cases h
    · cases h
      simp [ab_nt, Nat.blt] at hnt
    · cases h
end AbSound
/-- what the abstract machine says, the machine does -/
theorem ab_sound (l : Launch) {D : va_G} {cA : Nat → ClassId} {bnd : Nat} {aS : Int → Nat} {SL : Nat} {xs : Nat → Int32} : ∀ (n k i : Nat) (L : ab_F) (st : List ab_V) (w : ab_W) (v : List ab_V) (w' : ab_W), ab_run n k i L st w = some (v, w') →
    ∀ {p : Program} {e : Env} {R : Room} {s : State} {m : MethodId} {args : Array Value} {below : List Frame} {meth : Method} {c : Code} {Q : State → Prop} {K0 : Int} {S0 : Nat}, ab_Cx D cA bnd aS SL xs k p R s m args meth c → K0 ≤ w.1 → S0 ≤ w.2.1 → (w'.1 - K0).toNat ≤ R.cells → w'.2.1 - S0 ≤ R.slots →
    (∀ (i' : Nat) (L' : ab_F) (st' : List ab_V), ab_rt k i' st' = some v → ab_WW p l e R s m args below meth c Q D cA bnd aS SL xs K0 S0 k i' L' st' w') → ab_WW p l e R s m args below meth c Q D cA bnd aS SL xs K0 S0 k i L st w := by
  intro n
  induction n with
  | zero => intro k i L st w v w' h; simp [ab_run] at h
  | succ n ih =>
    intro k i L st w v w' h p e R s m args below meth c Q K0 S0 C hk0 hs0 hr1 hr2 hE
    rw [ab_run] at h
    split at h
    · rename_i v0 hv0
      cases h
      exact hE _ _ _ hv0
    · cases hs : ab_sp (fun k' L' w' => ab_run n k' 0 L' [] w') k i L st w with
      | none => rw [hs] at h; cases h
      | some q =>
        rw [hs] at h
        obtain ⟨hm1, hm2⟩ := ab_run_mono _ _ _ h
        dsimp only at hm1 hm2
        unfold ab_sp at hs
        cases ho : ab_nth (ab_cod k) i with
        | none => rw [ho] at hs; cases hs
        | some o =>
          obtain ⟨op, a, b, nx⟩ := o
          rw [ho] at hs
          dsimp only at hs
          split at hs
          · split at hs
            · rename_i hc
              simp only [Bool.and_eq_true] at hc
              split at hs
              · cases hs
              · rename_i y hy
                split at hs
                · rename_i hnt
                  cases hs
                  obtain ⟨g1, g2⟩ := ab_run_mono _ _ _ hy
                  have hok := hc.1
                  simp only [ab_okc, Bool.and_eq_true] at hok
                  have hk1 : a < 245 := ab_blt hok.1.1.1.1
                  have hcm : ab_cat (st.take b.toNat).reverse ≤ ab_mxl a := by rw [ab_cat_rev]; exact Nat.le_of_ble_eq_true hok.1.1.1.2
                  dsimp only at hm1 hm2 h
                  refine ab_p1 C ho hc.1 hc.2 hnt (ab_met l hk1 hcm (fun p e s m args below meth c C2 hlocks hret => ?_)) g1 g2 hk0 hs0 (by omega) (by omega) (ih _ _ _ _ _ _ _ h C (Int.le_trans hk0 g1) (Nat.le_trans hs0 g2) hr1 hr2 hE)
                  exact ih _ _ _ _ _ _ _ hy C2 (Int.le_refl _) (Nat.le_refl _) (Nat.le_refl _) (Nat.le_refl _) (fun i' L' st' hrt => ab_rt_W C2 hlocks hret hrt hnt)
                · cases hs
            · cases hs
          · have hm := ab_ex_mono hs
            exact ab_ex_ok C ho hs hk0 hs0 (by omega) (by omega) (ih _ _ _ _ _ _ _ h C (Int.le_trans hk0 hm.1) (Nat.le_trans hs0 hm.2) hr1 hr2 hE)
