/-! of() AND THE LAW'S OWN of(): what throws, what catches. -/
def xc_ps1 : List Nat := [20, 3230, 3239, 4002, 4005, 4007, 3231, 3232, 31, 32, 3233, 3238, 4003, 4023, 3220, 4024, 3222, 4025, 3224, 3234, 3236, 3226, 4019, 4020, 4022, 3226, 4010, 4011, 4012, 4013, 3212, 4013, 4014, 4015, 4016, 3214, 4016, 4017, 4018, 4019, 3216, 4009, 3209, 3210, 3217, 3218, 3219, 3221, 3223, 3225, 3229, 3228, 3227]
def xc_ps2 : List Nat := [20, 3230, 3239, 4002, 4005, 4007, 3231, 3232, 31, 32, 3233, 3238, 4003, 4023, 3220, 4024, 3222, 4025, 3224, 3234, 3236, 3226, 4019, 4020, 4022, 3226, 4045, 4046, 4047, 4013, 3212, 4013, 4014, 4015, 4016, 3214, 4016, 4017, 4018, 4019, 3216, 4044, 4035, 4036, 4037, 4001, 4038, 4039, 4040, 4041, 3229, 3228, 4042]
def xc_E1 : String := "java/lang/IndexOutOfBoundsException"
def xc_E2 : String := "java/util/NoSuchElementException"
def xc_R : String := "java/lang/RuntimeException"
def xc_at1 : List Cond := (xc_atoms "EventLedger" 180 xc_E1 xc_R 7 prog_19_method_2_code ["java/lang/Exception"]).filter vx_no
def xc_at2 : List Cond := (xc_atoms "EventLedger" 209 xc_E2 xc_R 13 prog_29_method_4_code ["java/lang/Exception"]).filter vx_no
theorem xc_eq1 : xc_at1 = xc_ps1.filterMap ab_gw := by decide +kernel
theorem xc_eq2 : xc_at2 = xc_ps2.filterMap ab_gw := by decide +kernel
def xc_bad : List Cond := [.castable xc_E1 xc_E1, .castable xc_E2 xc_E2, .declares (Bundle.initS xc_R), .declares (Bundle.initS "java/lang/Exception"), .declares (Bundle.initS Bundle.tN)]
theorem xc_bad_on : ∀ z ∈ xc_bad, z.onTables = true := by decide +kernel
theorem xc_gd1 : xc_at1.all (fun w => goodWord w || xc_bad.any (fun z => decide (w = z))) = true := by decide +kernel
theorem xc_gd2 : xc_at2.all (fun w => goodWord w || xc_bad.any (fun z => decide (w = z))) = true := by decide +kernel
theorem xc_in {ws : List Cond} {ps : List Nat} (he : ws = ps.filterMap ab_gw) (hg : ws.all (fun w => goodWord w || xc_bad.any (fun z => decide (w = z))) = true) : ∀ w ∈ ws, w ∈ ab_TB ∨ w ∈ xc_bad := by
  intro w hw
  have h1 := List.all_eq_true.mp hg w hw
  rw [he] at hw
  obtain ⟨i, -, hi⟩ := List.mem_filterMap.mp hw
  simp only [Bool.or_eq_true, List.any_eq_true, decide_eq_true_eq] at h1
  rcases h1 with h1 | ⟨z, hz, h1⟩
  · exact Or.inl (ab_in_TB hi h1)
  · exact Or.inr (h1 ▸ hz)
theorem xc_wk1 : Cond.classLink "EventLedger" 176 xc_E1 ∈ ab_TB := ab_in_TB (pl := 3208) rfl rfl
theorem xc_wk2 : Cond.classLink "EventLedger" 205 xc_E2 ∈ ab_TB := ab_in_TB (pl := 4034) rfl rfl
theorem xc_wi1 : Cond.initialized xc_E1 ∈ ab_TB := ab_in_TB (pl := 23) rfl rfl
theorem xc_wi2 : Cond.initialized xc_E2 ∈ ab_TB := ab_in_TB (pl := 24) rfl rfl
theorem xc_wl1 : Cond.classLink "EventLedgerLaw" 13 xc_E1 ∈ ab_TB := ab_in_TB (pl := 3202) rfl rfl
theorem xc_wl2 : Cond.classLink "EventLedgerLaw" 15 xc_E2 ∈ ab_TB := ab_in_TB (pl := 3203) rfl rfl
theorem xc_fit1 : Bundle.fit xc_E1 = true := by decide +kernel
theorem xc_fit2 : Bundle.fit xc_E2 = true := by decide +kernel
theorem xc_fitR : Bundle.fit xc_R = true := by decide +kernel
theorem xc_fitN : ∀ n ∈ ["java/lang/Exception"], Bundle.fit n = true := by decide +kernel
theorem xc_vot {ws : List Cond} (h : ∀ w ∈ ws, w ∈ ab_TB ∨ w ∈ xc_bad) : ∀ w ∈ ws, vx_ot w = true := fun w hw => by
  unfold vx_ot
  rcases h w hw with h | h
  · rw [(List.mem_filter.mp h).2, Bool.or_true]
  · rw [xc_bad_on w h, Bool.true_or]
theorem xc_bad_warm {s U : State} (hW : s.WarmedH U.vm) : ∀ z ∈ xc_bad, va_Nw z s → va_Nw z U := by
  intro z hz h
  simp only [xc_bad, List.mem_cons, List.not_mem_nil, or_false] at hz
  rcases hz with rfl | rfl | rfl | rfl | rfl
  · exact va_Nw.warmC hW h
  · exact va_Nw.warmC hW h
  · exact va_tabs rfl (rfl : (s.setVm U.vm).vm = U.vm) (by rw [Cond.declares_setVm hW.alike]; exact h)
  · exact va_tabs rfl (rfl : (s.setVm U.vm).vm = U.vm) (by rw [Cond.declares_setVm hW.alike]; exact h)
  · exact va_tabs rfl (rfl : (s.setVm U.vm).vm = U.vm) (by rw [Cond.declares_setVm hW.alike]; exact h)
/-- what a throw reads of the start: two statics of Throwable; the texts; that the one is no kind of the other -/
def xc_F (bnd : Nat) (U : State) (H : Heap) : Prop := vx_Zq Bundle.tN "UNASSIGNED_STACK" Bundle.steD (fun q => bnd ≤ q) U H ∧ vx_Zq Bundle.tN "SUPPRESSED_SENTINEL" Bundle.listD (fun q => bnd ≤ q) U H
theorem xc_F.moved {bnd : Nat} {u U : State} {H : Heap} (hvm : u.vm.Alike U.vm) (h : xc_F bnd u H) : xc_F bnd U H := ⟨vx_Zq.moved hvm h.1, vx_Zq.moved hvm h.2⟩
theorem xc_F.kept {bnd : Nat} {U : State} {H H1 : Heap} (h : xc_F bnd U H) (hq : ∀ a : Nat, a < H.size → ¬ bnd ≤ a → H1[a]? = H[a]?) : xc_F bnd U H1 := ⟨vx_Zq.kept h.1 hq, vx_Zq.kept h.2 hq⟩
def xc_V (U : State) : Prop := (∃ (t : String) (a : Nat), vk_R "EventLedger" 178 t a U) ∧ (∃ (t : String) (a : Nat), vk_R "EventLedger" 207 t a U) ∧ va_Nc xc_E2 xc_E1 U ∧ ∀ z ∈ xc_bad, va_Nw z U
theorem xc_V.same {u U : State} (hv : U.vm = u.vm) (h : xc_V u) : xc_V U := by
  obtain ⟨⟨t1, a1, h1⟩, ⟨t2, a2, h2⟩, h3, h4⟩ := h
  exact ⟨⟨t1, a1, h1.same hv⟩, ⟨t2, a2, h2.same hv⟩, va_Nc.moved (by rw [hv]; exact Vm.Alike.refl _) h3, fun z hz => va_Nw.same (xc_bad_on z hz) hv.symm (h4 z hz)⟩
theorem xc_V.warm {s U : State} (hW : s.WarmedH U.vm) (h : xc_V s) : xc_V U := by
  obtain ⟨⟨t1, a1, h1⟩, ⟨t2, a2, h2⟩, h3, h4⟩ := h
  exact ⟨⟨t1, a1, h1.warm hW⟩, ⟨t2, a2, h2.warm hW⟩, va_Nc.moved hW.alike h3, fun z hz => xc_bad_warm hW z hz (h4 z hz)⟩
def xc_P (D : va_G) (cA : Nat → ClassId) (bnd : Nat) (aS : Int → Nat) (SL : Nat) (xs : Nat → Int32) (av : List ab_V) (w : ab_W) : Array Value → State → Prop := fun a U => ab_Pc D cA bnd aS SL xs av w a U ∧ xc_F bnd U U.heap ∧ xc_V U
theorem xc_blind {D : va_G} {cA : Nat → ClassId} {bnd : Nat} {aS : Int → Nat} {SL : Nat} {xs : Nat → Int32} {av : List ab_V} {w : ab_W} : FrameBlind (xc_P D cA bnd aS SL xs av w) := by
  intro a U g mk h
  exact ⟨ab_blind a U g mk h.1, xc_F.moved (u := U) (U := U.calling g mk a) (Vm.Alike.refl U.vm) h.2.1, xc_V.same (u := U) rfl h.2.2⟩
def xc_Q (D : va_G) (cA : Nat → ClassId) (bnd : Nat) (aS : Int → Nat) (SL : Nat) (xs : Nat → Int32) (v : List ab_V) (w : ab_W) : Array Value → State → Outcome → State → Prop := fun a st o t => (∃ x : Int, v = [(0, x)]) ∧ ab_Qc D cA bnd aS SL xs v w a st o t
def xc_X (D : va_G) (cA : Nat → ClassId) (bnd : Nat) (aS : Int → Nat) (SL : Nat) (xs : Nat → Int32) (v : List ab_V) (w : ab_W) : String → State → State → Prop := fun E st t => ((v = [(9, 1)] ∧ E = xc_E1) ∨ (v = [(9, 2)] ∧ E = xc_E2)) ∧ ab_HW D cA bnd aS SL xs w t.heap ∧ va_F (fun q => bnd ≤ q) st t
def xc_rm : Room := { frames := 8, cells := 1, slots := 6, locals := 400 }
theorem xc_hw {D : va_G} {cA : Nat → ClassId} {bnd : Nat} {aS : Int → Nat} {SL : Nat} {xs : Nat → Int32} {w : ab_W} {H H1 : Heap} (h186 : w.1 = 187) (h : ab_HW D cA bnd aS SL xs w H) (hz : H.size ≤ H1.size) (hq : ∀ q : Nat, q < H.size → H1[q]? = H[q]?) : ab_HW D cA bnd aS SL xs w H1 := by
  obtain ⟨h1, h2, h3, h4, h5, h6⟩ := h
  refine ⟨fun a ha0 ha1 => ?_, fun hlt => absurd hlt (by omega), Nat.le_trans h3 hz, h4, h5, h6⟩
  have h8 := h1 a ha0 ha1
  exact h8.kept (hq _ h8.lt)
theorem xc_thrC : (List.range (ab_cod 8).length).all (fun i => match ab_nth (ab_cod 8) i with
    | some o => !Nat.beq o.1 72 || (Nat.beq i 5 && Nat.beq o.2.1 1) || (Nat.beq i 92 && Nat.beq o.2.1 2)
    | none => true) = true := by decide +kernel
theorem xc_thr {i c nx : Nat} {b : Int} (h : ab_nth (ab_cod 8) i = some (72, c, b, nx)) : (i = 5 ∧ c = 1) ∨ (i = 92 ∧ c = 2) := by
  have h1 := List.all_eq_true.mp xc_thrC i (List.mem_range.mpr (ab_nth_lt h))
  rw [h] at h1
  simp only [Bool.or_eq_true, Bool.and_eq_true, Bool.not_eq_true'] at h1
  rcases h1 with (h1 | h1) | h1
  · cases h1
  · exact Or.inl ⟨Nat.eq_of_beq_eq_true h1.1, Nat.eq_of_beq_eq_true h1.2⟩
  · exact Or.inr ⟨Nat.eq_of_beq_eq_true h1.1, Nat.eq_of_beq_eq_true h1.2⟩
/-- of() returns, or throws -/
theorem xc_met8 (l : Launch) (hst : l.stackTraces = false) {D : va_G} {cA : Nat → ClassId} {bnd : Nat} {aS : Int → Nat} {SL : Nat} {xs : Nat → Int32} {av v : List ab_V} {w w' : ab_W} {n : Nat} (hcat : ab_cat av ≤ ab_mxl 8) (hrun : ab_run n 8 0 (ab_en 8 av) [] w = some (v, w')) (hK1 : w'.1 = w.1) (hS1 : w'.2.1 = w.2.1) (h186 : w'.1 = 187) :
    vx_Met l (ab_yn 8) (ab_ws 8) xc_rm (xc_P D cA bnd aS SL xs av w) (xc_Q D cA bnd aS SL xs v w') (xc_X D cA bnd aS SL xs v w') 1 6 (fun q => bnd ≤ q) := by
  have hmk := ab_mk_ok (k := 8) (by omega)
  simp only [ab_mk, Bool.and_eq_true, decide_eq_true_eq] at hmk
  refine vx_ofW (cc := ab_bts 8) (maxL := ab_mxl 8) (ret := ab_rty 8) hmk.1.2 rfl ?_
  intro p e s m args below meth c s₁ B hml htab hv
  obtain ⟨⟨rfl, hw, hN, hK, hO, hF, hSL⟩, hxF, hxV⟩ := hv
  have hts := atoms_spec (ws := ab_ws 8) B.pre
  have hTB : ∀ z ∈ ab_TB, z.before (av.map (ab_cv (ab_ad bnd aS))).toArray s = true := fun z hz => hts z (List.mem_cons_of_mem _ hz)
  have hin := (name_of_methodNamed B.named B.method).1
  have C : ab_Cx D cA bnd aS SL xs 8 p xc_rm s m (av.map (ab_cv (ab_ad bnd aS))).toArray meth c :=
    ⟨B.exec, B.bytes, hml, findClass_of_methodNamed B.named, hTB, hN, fun h => by rw [hin]; exact h, hw.2.2.1, by decide +kernel, by decide +kernel, hK, hO, hF, hSL⟩
  have hlv := lv_entry (av.map (ab_cv (ab_ad bnd aS))) (n := ab_mxl 8) (by rw [ab_sl]; exact hcat)
  rw [lg_entry_eq]
  generalize (lg_sl (av.map (ab_cv (ab_ad bnd aS))) ++ List.replicate (ab_mxl 8 - (lg_sl (av.map (ab_cv (ab_ad bnd aS)))).length) Slot.unset).toArray = ls at hlv ⊢
  have hlv := ab_has_sub hlv (l' := ab_al (ab_ad bnd aS) 0 (ab_en 8 av)) (fun q hq => ab_args _ av 0 (ab_al_pad hq))
  have hown : s.vm.findClass "EventLedger" = some m.cls := C.2.2.2.1
  have h := ab_sound l n 8 0 (ab_en 8 av) [] w v w' hrun (Q := vx_MQ below (xc_Q D cA bnd aS SL xs v w') (xc_X D cA bnd aS SL xs v w') (av.map (ab_cv (ab_ad bnd aS))).toArray s 1 6 (fun q => bnd ≤ q)) (p := p) (e := e) (below := below) (K0 := w.1) (S0 := w.2.1) C (Int.le_refl _) (Nat.le_refl _) (by rw [hK1]; show (w.1 - w.1).toNat ≤ 1; omega) (by rw [hS1]; show w.2.1 - w.2.1 ≤ 6; omega) (fun i' L' st' hrt => ?_) s.heap [] ls hw va_S.rf hlv
  · rw [ab_pc0 (by omega), show (w.1 - w.1).toNat = 0 by omega, show w.2.1 - w.2.1 = 0 by omega] at h
    exact h
  · intro H locs ls hw hS hl
    rw [hK1, hS1, show (w.1 - w.1).toNat = 0 by omega, show w.2.1 - w.2.1 = 0 by omega]
    cases ho : ab_nth (ab_cod 8) i' with
    | none => unfold ab_rt at hrt; rw [ho] at hrt; cases hrt
    | some o =>
      obtain ⟨op, a, b, nx⟩ := o
      unfold ab_rt at hrt
      rw [ho] at hrt
      dsimp only at hrt
      split at hrt
      · obtain ⟨q, hq, hd, hsc, -⟩ := ab_dec ho (show (0 : Nat) < 72 by decide)
        cases List.mem_singleton.mp (show q ∈ [(Instr.return_, 1, decide (ab_rty 8 = none))] from hq)
        exact absurd (show decide (ab_rty 8 = none) = true from hsc) (by decide +kernel)
      · cases hrt
        obtain ⟨q, hq, hd, hsc, -⟩ := ab_dec ho (show (0 : Nat) < 72 by decide)
        cases List.mem_singleton.mp (show q ∈ [(Instr.ireturn, 1, decide (ab_rty 8 = some .int))] from hq)
        refine vx_ret (W.widen (k := 1) (n := 6) (by omega) (by omega) ?_)
        exact W.iret C.1 C.2.1 (B.returns.trans (of_decide_eq_true hsc)) (fun t ht hW => ⟨⟨_, rfl⟩, rfl, by rw [ht]; exact hw, hS.F ht⟩) hS.2.2 hd (hlocks := B.notSynchronized)
      · obtain ⟨q, hq, hd, hsc, -⟩ := ab_dec ho (show (0 : Nat) < 72 by decide)
        cases List.mem_singleton.mp (show q ∈ [(Instr.ireturn, 1, decide (ab_rty 8 = some .boolean))] from hq)
        exact absurd (show decide (ab_rty 8 = some .boolean) = true from hsc) (by decide +kernel)
      · cases hrt
        obtain ⟨⟨t1, a1, hx1⟩, ⟨t2, a2, hx2⟩, -, hx4⟩ := hxV
        rcases xc_thr ho with ⟨rfl, rfl⟩ | ⟨rfl, rfl⟩
        · exact xc_throw (own := "EventLedger") (cls := xc_E1) (Y0 := xc_R) (names := ["java/lang/Exception"]) (ik := 176) (is := 178) (ic := 180) (index := 7) (bytes := prog_19_method_2_code) (rest := []) C.1 C.2.1 hst hown xc_fit1 xc_fitR xc_fitN (by decide +kernel) (by decide +kernel) (by decide +kernel) (by decide +kernel) (hTB _ xc_wk1) (hTB _ xc_wi1) hx1 (fun z hz => (xc_in xc_eq1 xc_gd1 z hz).elim (hTB z) (fun e9 => va_Nw.use (xc_bad_on z e9) (hx4 z e9)))
            (xc_vot (fun z hz => by
              rcases List.mem_cons.mp hz with rfl | hz
              · exact Or.inl xc_wk1
              · rcases List.mem_cons.mp hz with rfl | hz
                · exact Or.inl xc_wi1
                · exact xc_in xc_eq1 xc_gd1 z hz)) hxF.1 hxF.2 hS (hl.1.trans hml.symm) (by decide +kernel) (by decide +kernel) (by decide +kernel) (by decide +kernel) (by decide +kernel) (fun x hx => absurd (htab x hx) id)
            (by decide) (by decide) (by decide) (by decide) B.notSynchronized (fun t hA hz hq => ⟨Or.inl ⟨rfl, rfl⟩, xc_hw h186 hw hz hq, ⟨Nat.le_trans hS.1 hz, fun q h1 h2 => by rw [hq q (Nat.lt_of_lt_of_le h1 hS.1)]; exact hS.2.1 q h1 h2⟩⟩) hS.2.2 (Nat.le_refl _) (Nat.le_refl _)
        · exact xc_throw (own := "EventLedger") (cls := xc_E2) (Y0 := xc_R) (names := ["java/lang/Exception"]) (ik := 205) (is := 207) (ic := 209) (index := 13) (bytes := prog_29_method_4_code) (rest := []) C.1 C.2.1 hst hown xc_fit2 xc_fitR xc_fitN (by decide +kernel) (by decide +kernel) (by decide +kernel) (by decide +kernel) (hTB _ xc_wk2) (hTB _ xc_wi2) hx2 (fun z hz => (xc_in xc_eq2 xc_gd2 z hz).elim (hTB z) (fun e9 => va_Nw.use (xc_bad_on z e9) (hx4 z e9)))
            (xc_vot (fun z hz => by
              rcases List.mem_cons.mp hz with rfl | hz
              · exact Or.inl xc_wk2
              · rcases List.mem_cons.mp hz with rfl | hz
                · exact Or.inl xc_wi2
                · exact xc_in xc_eq2 xc_gd2 z hz)) hxF.1 hxF.2 hS (hl.1.trans hml.symm) (by decide +kernel) (by decide +kernel) (by decide +kernel) (by decide +kernel) (by decide +kernel) (fun x hx => absurd (htab x hx) id)
            (by decide) (by decide) (by decide) (by decide) B.notSynchronized (fun t hA hz hq => ⟨Or.inr ⟨rfl, rfl⟩, xc_hw h186 hw hz hq, ⟨Nat.le_trans hS.1 hz, fun q h1 h2 => by rw [hq q (Nat.lt_of_lt_of_le h1 hS.1)]; exact hS.2.1 q h1 h2⟩⟩) hS.2.2 (Nat.le_refl _) (Nat.le_refl _)
      · cases hrt
