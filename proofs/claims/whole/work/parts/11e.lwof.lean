/-! THE LAW'S OWN of(): it catches what of() throws. -/
def xc_rm2 : Room := { frames := 11, cells := 1, slots := 6, locals := 460 }
def xc_hh : List (Nat × Nat × Nat × Nat) := [(0, 10, 13, 13), (0, 10, 17, 15)]
theorem xc_wcw : Cond.codeWith (ab_yn 245) (ab_bts 245) (ab_mxl 245) (ab_rty 245) xc_hh ∈ ab_TB := ab_in_TB (pl := 3201) rfl rfl
theorem xc_wst : Cond.static (ab_yn 245) ∈ ab_TB := ab_in_TB (pl := 3200) rfl rfl
theorem xc_wml : Cond.methodLink "EventLedgerLaw" 52 (ab_yn 245) ∈ ab_TB := ab_in_TB (pl := 3199) rfl rfl
theorem xc_wm8 : Cond.methodLink "EventLedgerLaw" 7 (ab_yn 8) ∈ ab_TB := ab_in_TB (pl := 3204) rfl rfl
theorem xc_win : Cond.initialized "EventLedgerLaw" ∈ ab_TB := ab_in_TB (pl := 0) rfl rfl
def xc_ws2 : List Cond := Cond.codeWith (ab_yn 245) (ab_bts 245) (ab_mxl 245) (ab_rty 245) xc_hh :: ab_TB
def xc_Q2 (D : va_G) (cA : Nat → ClassId) (bnd : Nat) (aS : Int → Nat) (SL : Nat) (xs : Nat → Int32) (v : List ab_V) (w : ab_W) : Array Value → State → Outcome → State → Prop := fun _ st oc t =>
  ((∃ x : Int, v = [(0, x)] ∧ oc = .returned (some (.int (Int32.ofInt 0))) ∧ ab_HW D cA bnd aS SL xs (w.1, w.2.1, ab_up w.2.2.1 185 0 (wr x), w.2.2.2) t.heap) ∨
    ∃ cn : Int, v = [(9, cn)] ∧ oc = .returned (some (.int (Int32.ofInt cn))) ∧ ab_HW D cA bnd aS SL xs w t.heap) ∧ va_F (fun q => bnd ≤ q) st t
theorem xc_goodTB : GoodIn ab_TB ab_TB := fun w hw => ⟨hw, good_of_word (List.mem_filter.mp hw).2⟩
theorem xc_good2 : GoodIn ab_TB xc_ws2 := by
  intro w hw
  have h1 : w ∈ ab_TB := by
    rcases List.mem_cons.mp hw with rfl | hw
    · exact xc_wcw
    · exact hw
  exact xc_goodTB w h1
theorem xc_cat185 : (ab_kd 185).1 = 103 ∧ (ab_kd 185).2 = 1 := by decide +kernel
/-- from the value of of() on, the law's own of() -/
theorem xc_rest {S : Nat} {g r : ab_H} {p0 p1 x : Int} {T : Nat → ab_F → List ab_V → ab_W → Prop} (h : T 16 [some (2, 0), some (0, p0), some (0, p1), some (2, 185), none] [(0, 0)] (187, S, ab_up g 185 0 (wr x), r)) :
    ab_Gn 245 6 [some (2, 0), some (0, p0), some (0, p1), some (2, 185), none] [(0, x), (0, 0), (2, 185)] (187, S, g, r) T := by
  refine Gn_pure 1 (i' := 7) (L' := [some (2, 0), some (0, p0), some (0, p1), some (2, 185), none]) (st' := [(1, wr x), (0, 0), (2, 185)]) rfl ?_
  refine Gn_ex (q := (8, [some (2, 0), some (0, p0), some (0, p1), some (2, 185), none], [], (187, S, ab_up g 185 0 (wr x), r))) (show ab_nth (ab_cod 245) 7 = some (51, 0, 0, 8) from rfl) (by decide) (by
    show (if ((ab_kd 185).1 = 103 ∧ (0 : Int) ≤ 185 ∧ ab_po 185 < 187) ∧ (0 : Int) ≤ 0 ∧ (0 : Int) < (ab_kd 185).2 then _ else none) = _
    exact if_pos ⟨⟨xc_cat185.1, by omega, by decide⟩, by omega, by rw [xc_cat185.2]; omega⟩) ?_
  refine Gn_pure 2 (i' := 16) (L' := [some (2, 0), some (0, p0), some (0, p1), some (2, 185), none]) (st' := [(0, 0)]) rfl ?_
  exact Gn_done h
theorem xc_lw (l : Launch) (hst : l.stackTraces = false) {D : va_G} {cA : Nat → ClassId} {bnd : Nat} {aS : Int → Nat} {SL : Nat} {xs : Nat → Int32} {S n : Nat} {g r g1 r1 : ab_H} {p0 p1 : Int} {v : List ab_V} (hrun : ab_run n 8 0 (ab_en 8 [(2, 0), (0, p0), (0, p1)]) [] (187, S, g, r) = some (v, (187, S, g1, r1))) :
    Met l (ab_yn 245) xc_ws2 xc_rm2 (xc_P D cA bnd aS SL xs [(2, 0), (0, p0), (0, p1), (2, 185)] (187, S, g, r)) (xc_Q2 D cA bnd aS SL xs v (187, S + 6, g1, r1)) 1 6 (fun q => bnd ≤ q) := by
  refine va_MetW (cc := ab_bts 245) (maxL := ab_mxl 245) (ret := ab_rty 245) (hh := xc_hh) (by decide +kernel) rfl ?_
  intro p e s m args below meth c s₁ B hml hv
  obtain ⟨⟨rfl, hw, hN, hK, hO, hF, hSL⟩, hxF, hxV⟩ := hv
  have hts := atoms_spec (ws := xc_ws2) B.pre
  have hTB : ∀ z ∈ ab_TB, z.before ([(2, 0), (0, p0), (0, p1), (2, 185)].map (ab_cv (ab_ad bnd aS))).toArray s = true := fun z hz => hts z (List.mem_cons_of_mem _ hz)
  have htab := vx_table (x := ab_yn 245) B (hTB _ xc_wcw)
  have hin := (name_of_methodNamed B.named B.method).1
  have C : ab_Cx D cA bnd aS SL xs 245 p xc_rm2 s m ([(2, 0), (0, p0), (0, p1), (2, 185)].map (ab_cv (ab_ad bnd aS))).toArray meth c :=
    ⟨B.exec, B.bytes, hml, findClass_of_methodNamed B.named, hTB, hN, fun h => by rw [hin]; exact h, hw.2.2.1, by decide +kernel, by decide +kernel, hK, hO, hF, hSL⟩
  have hlv := lv_entry ([(2, 0), (0, p0), (0, p1), (2, 185)].map (ab_cv (ab_ad bnd aS))) (n := ab_mxl 245) (by rw [ab_sl]; show 4 ≤ 5; omega)
  rw [lg_entry_eq]
  generalize (lg_sl ([(2, 0), (0, p0), (0, p1), (2, 185)].map (ab_cv (ab_ad bnd aS))) ++ List.replicate (ab_mxl 245 - (lg_sl ([(2, 0), (0, p0), (0, p1), (2, 185)].map (ab_cv (ab_ad bnd aS)))).length) Slot.unset).toArray = ls at hlv ⊢
  have hlv := ab_has_sub hlv (l' := ab_al (ab_ad bnd aS) 0 [some (2, 0), some (0, p0), some (0, p1), some (2, 185), none]) (fun q hq => ab_args _ [(2, 0), (0, p0), (0, p1), (2, 185)] 0 (ab_al_pad (n := 5) hq))
  have hown : s.vm.findClass "EventLedgerLaw" = some m.cls := C.2.2.2.1
  have S1 : CallFix p m c (ab_bts 245) (ab_mxl 245) s ([(2, 0), (0, p0), (0, p1), (2, 185)].map (ab_cv (ab_ad bnd aS))).toArray ab_TB "EventLedgerLaw" := ⟨C.1, C.2.1, C.2.2.1, hown, hTB⟩
  have hG : ab_Gn 245 0 [some (2, 0), some (0, p0), some (0, p1), some (2, 185), none] [] (187, S, g, r) (fun i' L' st' w' => i' = 5 ∧ L' = [some (2, 0), some (0, p0), some (0, p1), some (2, 185), none] ∧ st' = [(0, p1), (0, p0), (2, 0), (0, 0), (2, 185)] ∧ w' = (187, S, g, r)) :=
    Gn_pure 5 (i' := 5) (L' := [some (2, 0), some (0, p0), some (0, p1), some (2, 185), none]) (st' := [(0, p1), (0, p0), (2, 0), (0, 0), (2, 185)]) rfl (Gn_done ⟨rfl, rfl, rfl, rfl⟩)
  have h := Gn_W l hG (Q := MQ below (xc_Q2 D cA bnd aS SL xs v (187, S + 6, g1, r1)) ([(2, 0), (0, p0), (0, p1), (2, 185)].map (ab_cv (ab_ad bnd aS))).toArray s 1 6 (fun q => bnd ≤ q)) (p := p) (e := e) (below := below) (K0 := 187) (S0 := S) C (Int.le_refl _) (Nat.le_refl _) (fun i' L' st' w' hT => ?_) s.heap [] ls hw va_S.rf hlv
  · rw [ab_pc0 (by omega), show ((187 : Int) - 187).toNat = 0 by omega, show S - S = 0 by omega] at h
    exact h
  · obtain ⟨rfl, rfl, rfl, rfl⟩ := hT
    refine ⟨by show (187 - 187 : Int).toNat ≤ 1; omega, by show S - S ≤ 6; omega, ?_⟩
    intro H locs ls hw hS hl
    rw [show (((187, S, g, r) : ab_W).1 - 187).toNat = 0 by show ((187 : Int) - 187).toNat = 0; omega, show ((187, S, g, r) : ab_W).2.1 - S = 0 by show S - S = 0; omega]
    have hmw : ∀ z ∈ ab_mw 8, z.2.before ([(2, 0), (0, p0), (0, p1), (2, 185)].map (ab_cv (ab_ad bnd aS))).toArray s = true := fun z hz => hTB _ (ab_mw_ok (k := 8) (by omega) hz).2
    have hini : (Cond.initialized (ab_yn 8).cls).before ([(2, 0), (0, p0), (0, p1), (2, 185)].map (ab_cv (ab_ad bnd aS))).toArray s = true := hmw ((ab_m 8).2.2.2.2.2.2.2.2, .initialized (ab_m 8).1) (by unfold ab_mw; exact List.mem_append_left _ (List.mem_cons_of_mem _ List.mem_cons_self))
    have hinst : (Cond.instanceMethod (ab_yn 8)).before ([(2, 0), (0, p0), (0, p1), (2, 185)].map (ab_cv (ab_ad bnd aS))).toArray s = true := hmw ((ab_m 8).2.2.2.2.2.2.1, .instanceMethod (ab_yn 8)) (List.mem_append_right _ List.mem_cons_self)
    have hsel : (Cond.selects (ab_yn 8).cls (ab_yn 8) (ab_yn 8)).before ([(2, 0), (0, p0), (0, p1), (2, 185)].map (ab_cv (ab_ad bnd aS))).toArray s = true := hmw ((ab_m 8).2.2.2.2.2.2.2.1, .selects (ab_yn 8).cls (ab_yn 8) (ab_yn 8)) (List.mem_append_right _ (List.mem_cons_of_mem _ List.mem_cons_self))
    have hat := hw.1 0 (by omega) (by show ab_po 0 < 187; decide)
    rw [ab_ce_ob (c := 0) rfl (by omega)] at hat
    have hrc := va_recv (D := D) (cl := ab_clsK) (tys := ab_tys cA) hK (ab_P1 hat) (ab_clsK_at (c := 0) (by omega)) (q0 := 0) rfl
    have hrc : ∃ cell : Cell, H[ab_ad bnd aS 0]? = some cell ∧ cell.vm.isStatics = false ∧ s.vm.findClass (ab_yn 8).cls = some cell.cls := hrc
    have hPU : ∀ U : State, U.heap = H → s.WarmedH U.vm → xc_P D cA bnd aS SL xs [(2, 0), (0, p0), (0, p1)] (187, S, g, r) ([(2, 0), (0, p0), (0, p1)].map (ab_cv (ab_ad bnd aS))).toArray U := by
      intro U hU hWm
      refine ⟨⟨rfl, by rw [hU]; exact hw, ⟨ab_NW_warm hWm hN.1, hN.2.warm hWm⟩, va_K.moved hWm.alike hK, va_AO.moved hWm.alike hO, ?_, hSL⟩, ?_, hxV.warm hWm⟩
      · rw [hU]
        exact ab_SF_moved hWm.alike (ab_SF_kept C.2.2.2.2.2.2.2.1 hF hS.2.1)
      · rw [hU]
        exact (hxF.kept hS.2.1).moved hWm.alike
    have hpl := ab_mk_ok (k := 8) (by omega)
    simp only [ab_mk, Bool.and_eq_true, decide_eq_true_eq] at hpl
    have hr := vx_runV (n := 2) (As := [.int (Int32.ofInt p0), .int (Int32.ofInt p1)]) (rest := [.int (Int32.ofInt 0), .ref (ab_ad bnd aS 185)]) (b := ab_ad bnd aS 0) (l := l) (e := e) (below := below) (meth := meth) (H := H) (locs := locs) (cells := 0) (slots := 0)
      (g := F0 m (ab_pc 245 5) ls [.int (Int32.ofInt p1), .int (Int32.ofInt p0), .ref (ab_ad bnd aS 0), .int (Int32.ofInt 0), .ref (ab_ad bnd aS 185)]) (R := xc_rm2) (index := 7) S1 (xc_met8 l hst (av := [(2, 0), (0, p0), (0, p1)]) (show 3 ≤ ab_mxl 8 by decide +kernel) hrun rfl rfl rfl)
      ⟨callB_of 2 hTB (ab_goodIn (k := 8) (by omega)) rfl rfl rfl hini (hTB _ xc_wm8) ⟨hpl.1.1.1.1.1, hpl.1.1.1.1.2, hpl.1.1.1.2⟩ ⟨by decide, by decide +kernel⟩, hinst, hsel⟩
      ⟨xc_blind, hrc, fun U hU hWm => hPU U hU hWm⟩ rfl rfl hl.1 rfl (lv_room (show 2 ≤ 8 by omega)) (show decode (ab_bts 245) (ab_pc 245 5) = .ok (.invokevirtual 7, 3) by decide +kernel) ⟨by decide, by decide⟩
    intro T hT X
    rcases hr T hT X with ⟨v1, st₀, t, T', L, h0, X', hL, e1, e2, hq, stp⟩ | ⟨q, st₀, t, T', L, E, ce, h0, X', hL, e1, e2, hq, hce, hcv, hcl, stp⟩
    · obtain ⟨⟨x, rfl⟩, hv1, hw1, hF1⟩ := hq
      cases hv1
      obtain ⟨-, -, hS1⟩ := vx_keep (A0 := fun q => bnd ≤ q) (A1 := fun q => bnd ≤ q) h0 e1 hS (fun _ _ h => h) (fun _ h => h) hL hF1
      have hw1 : ab_HW D cA bnd aS SL xs (187, S + 6, g1, r1) T'.heap := by rw [e1]; exact hw1
      have kk := Gn_W l (xc_rest (S := S + 6) (g := g1) (r := r1) (p0 := p0) (p1 := p1) (x := x) (T := fun i' L' st' w' => i' = 16 ∧ st' = [(0, 0)] ∧ w' = (187, S + 6, ab_up g1 185 0 (wr x), r1)) ⟨rfl, rfl, rfl⟩)
        (Q := MQ below (xc_Q2 D cA bnd aS SL xs [(0, x)] (187, S + 6, g1, r1)) ([(2, 0), (0, p0), (0, p1), (2, 185)].map (ab_cv (ab_ad bnd aS))).toArray s 1 6 (fun q => bnd ≤ q)) (p := p) (e := e) (below := below) (K0 := 186) (S0 := S) C (by show (186 : Int) ≤ 187; omega) (by show S ≤ S + 6; omega) (fun i' L' st' w' hT => by
          obtain ⟨rfl, rfl, rfl⟩ := hT
          refine ⟨by show (187 - 186 : Int).toNat ≤ 1; omega, by show S + 6 - S ≤ 6; omega, ?_⟩
          intro H2 locs2 ls2 hw2 hS2 hl2
          rw [show (((187, S + 6, ab_up g1 185 0 (wr x), r1) : ab_W).1 - 186).toNat = 1 by show ((187 : Int) - 186).toNat = 1; omega, show ((187, S + 6, ab_up g1 185 0 (wr x), r1) : ab_W).2.1 - S = 6 by show S + 6 - S = 6; omega]
          exact W.iret C.1 C.2.1 (B.returns.trans (by decide +kernel)) (fun t ht hW => ⟨Or.inl ⟨x, rfl, rfl, by rw [ht]; exact hw2⟩, hS2.F ht⟩) hS2.2.2 (by decide +kernel) (hlocks := B.notSynchronized)) T'.heap (locs ++ L) ls hw1 hS1 hl
      rw [show (((187, S + 6, g1, r1) : ab_W).1 - 186).toNat = 1 by show ((187 : Int) - 186).toNat = 1; omega, show ((187, S + 6, g1, r1) : ab_W).2.1 - S = 6 by show S + 6 - S = 6; omega] at kk
      obtain ⟨t2, a1, b1⟩ := kk T' rfl X'
      exact ⟨t2, stp t2 a1, b1⟩
    · obtain ⟨hE, hw1, hF1⟩ := hq
      obtain ⟨-, -, hS1⟩ := vx_keep (A0 := fun q => bnd ≤ q) (A1 := fun q => bnd ≤ q) h0 e1 hS (fun _ _ h => h) (fun _ h => h) hL hF1
      have hw1 : ab_HW D cA bnd aS SL xs (187, S + 6, g1, r1) T'.heap := by rw [e1]; exact hw1
      have hce : T'.heap[q]? = some ce := by rw [e1]; exact hce
      rcases hE with ⟨rfl, rfl⟩ | ⟨rfl, rfl⟩
      · have kk : vx_W p l e xc_rm2 s m ([(2, 0), (0, p0), (0, p1), (2, 185)].map (ab_cv (ab_ad bnd aS))).toArray below meth c T'.heap (locs ++ L) 1 6 (MQ below (xc_Q2 D cA bnd aS SL xs [(9, 1)] (187, S + 6, g1, r1)) ([(2, 0), (0, p0), (0, p1), (2, 185)].map (ab_cv (ab_ad bnd aS))).toArray s 1 6 (fun q => bnd ≤ q)) (F0 m (ab_pc 245 5) ls [.int (Int32.ofInt 0), .ref (ab_ad bnd aS 185)]) q := by
          refine vx_catch (name := xc_E1) hown [] ⟨0, 10, 13, 13⟩ [⟨0, 10, 17, 15⟩] htab (fun z hz => by cases hz) (by decide +kernel) (by decide) (hTB _ xc_wl1) (va_Nw.use rfl (hxV.2.2.2 _ (by simp [xc_bad]))) hce hcv hcl ?_
          refine lv_astore C.1 C.2.1 (i := 4) (by decide +kernel) hl (by decide +kernel) rfl (fun ls2 hl2 => ?_)
          refine lv_iconst (n := 1) (v := 1) C.1 C.2.1 (by decide +kernel) rfl ?_
          exact W.iret C.1 C.2.1 (B.returns.trans (by decide +kernel)) (fun t ht hW => ⟨Or.inr ⟨1, rfl, rfl, by rw [ht]; exact hw1⟩, hS1.F ht⟩) hS1.2.2 (by decide +kernel) (hlocks := B.notSynchronized)
        obtain ⟨t2, a1, b1⟩ := kk T' rfl X'
        exact ⟨t2, stp.trans a1, b1⟩
      · have kk : vx_W p l e xc_rm2 s m ([(2, 0), (0, p0), (0, p1), (2, 185)].map (ab_cv (ab_ad bnd aS))).toArray below meth c T'.heap (locs ++ L) 1 6 (MQ below (xc_Q2 D cA bnd aS SL xs [(9, 2)] (187, S + 6, g1, r1)) ([(2, 0), (0, p0), (0, p1), (2, 185)].map (ab_cv (ab_ad bnd aS))).toArray s 1 6 (fun q => bnd ≤ q)) (F0 m (ab_pc 245 5) ls [.int (Int32.ofInt 0), .ref (ab_ad bnd aS 185)]) q := by
          refine vx_catch (name := xc_E2) hown [⟨0, 10, 13, 13⟩] ⟨0, 10, 17, 15⟩ [] htab (fun z hz => by
            cases List.mem_singleton.mp hz
            exact Or.inr ⟨by decide, xc_E1, hTB _ xc_wl1, hxV.2.2.1⟩) (by decide +kernel) (by decide) (hTB _ xc_wl2) (va_Nw.use rfl (hxV.2.2.2 _ (by simp [xc_bad]))) hce hcv hcl ?_
          refine lv_astore C.1 C.2.1 (i := 4) (by decide +kernel) hl (by decide +kernel) rfl (fun ls2 hl2 => ?_)
          refine lv_iconst (n := 2) (v := 2) C.1 C.2.1 (by decide +kernel) rfl ?_
          exact W.iret C.1 C.2.1 (B.returns.trans (by decide +kernel)) (fun t ht hW => ⟨Or.inr ⟨2, rfl, rfl, by rw [ht]; exact hw1⟩, hS1.F ht⟩) hS1.2.2 (by decide +kernel) (hlocks := B.notSynchronized)
        obtain ⟨t2, a1, b1⟩ := kk T' rfl X'
        exact ⟨t2, stp.trans a1, b1⟩
/-- the law's step 73 -/
theorem ab_p73 {p : Program} {l : Launch} {e : Env} {R : Room} {s : State} {m : MethodId} {args : Array Value} {below : List Frame} {meth : Method} {c : Code} {Q : State → Prop} {D : va_G} {cA : Nat → ClassId} {bnd : Nat} {aS : Int → Nat} {SL : Nat} {xs : Nat → Int32} {K0 : Int} {S n : Nat} {g r g1 r1 : ab_H} {p0 p1 : Int} {v : List ab_V} {L : ab_F}
    (hst : l.stackTraces = false) (C : ab_Cx D cA bnd aS SL xs 246 p R s m args meth c) (hxF : xc_F bnd s s.heap) (hxV : xc_V s) (hRf : 12 ≤ R.frames ∧ 484 ≤ R.locals) (hrun : ab_run n 8 0 (ab_en 8 [(2, 0), (0, p0), (0, p1)]) [] (187, S, g, r) = some (v, (187, S, g1, r1))) (hv : (∃ x, v = [(0, x)]) ∨ ∃ cn, v = [(9, cn)])
    (hk0 : K0 ≤ 187) (hr1 : (187 - K0).toNat + 1 ≤ R.cells) (hr2 : S + 6 ≤ R.slots)
    (k1 : ∀ x, v = [(0, x)] → ab_WW p l e R s m args below meth c Q D cA bnd aS SL xs (K0 - 1) 0 246 307 L [(0, 0)] (187, S + 6, ab_up g1 185 0 (wr x), r1))
    (k2 : ∀ cn, v = [(9, cn)] → ab_WW p l e R s m args below meth c Q D cA bnd aS SL xs (K0 - 1) 0 246 307 L [(0, cn)] (187, S + 6, g1, r1)) :
    ab_WW p l e R s m args below meth c Q D cA bnd aS SL xs K0 0 246 306 L [(2, 185), (0, p1), (0, p0), (2, 0)] (187, S, g, r) := by
  intro H locs ls hw hS hl
  have hown : s.vm.findClass "EventLedgerLaw" = some m.cls := C.2.2.2.1
  have hTB := C.2.2.2.2.1
  have S1 : CallFix p m c (ab_bts 246) (ab_mxl 246) s args ab_TB "EventLedgerLaw" := ⟨C.1, C.2.1, C.2.2.1, hown, hTB⟩
  have hPU : ∀ U : State, U.heap = H → s.WarmedH U.vm → xc_P D cA bnd aS SL xs [(2, 0), (0, p0), (0, p1), (2, 185)] (187, S, g, r) ([(2, 0), (0, p0), (0, p1), (2, 185)].map (ab_cv (ab_ad bnd aS))).toArray U := by
    intro U hU hWm
    refine ⟨⟨rfl, by rw [hU]; exact hw, ⟨ab_NW_warm hWm C.2.2.2.2.2.1.1, C.2.2.2.2.2.1.2.warm hWm⟩, va_K.moved hWm.alike C.2.2.2.2.2.2.2.2.2.2.1, va_AO.moved hWm.alike C.2.2.2.2.2.2.2.2.2.2.2.1, ?_, C.2.2.2.2.2.2.2.2.2.2.2.2.2⟩, ?_, hxV.warm hWm⟩
    · rw [hU]
      exact ab_SF_moved hWm.alike (ab_SF_kept C.2.2.2.2.2.2.2.1 C.2.2.2.2.2.2.2.2.2.2.2.2.1 hS.2.1)
    · rw [hU]
      exact (hxF.kept hS.2.1).moved hWm.alike
  have hT : GoodIn ab_TB (va_wsS "EventLedgerLaw" 52 (ab_yn 245) xc_ws2) := by
    intro z hz
    rcases List.mem_append.mp hz with h | h
    · have h1 : z ∈ ab_TB := by
        simp only [List.mem_cons, List.not_mem_nil, or_false] at h
        rcases h with rfl | rfl | rfl
        · exact xc_wml
        · exact xc_wst
        · exact xc_win
      exact xc_goodTB z h1
    · exact xc_good2 z h
  have hr := vx_runSW (n := 4) (hh := xc_hh) (As := [.ref (ab_ad bnd aS 0), .int (Int32.ofInt p0), .int (Int32.ofInt p1), .ref (ab_ad bnd aS 185)]) (rest := []) (l := l) (e := e) (below := below) (meth := meth) (H := H) (locs := locs) (cells := (187 - K0).toNat) (slots := S) (R := R) (index := 52)
    (g := F0 m (ab_pc 246 306) ls [.ref (ab_ad bnd aS 185), .int (Int32.ofInt p1), .int (Int32.ofInt p0), .ref (ab_ad bnd aS 0)]) S1 (xc_lw l hst hrun)
    (vx_cwSW 4 hTB hT rfl rfl rfl ⟨by decide +kernel, by decide +kernel, by decide +kernel⟩ ⟨by show 11 + 1 ≤ R.frames; omega, by show 8 + (ab_mxl 245 + 11) + 460 ≤ R.locals; rw [show ab_mxl 245 = 5 by decide +kernel]; omega⟩)
    ⟨xc_blind, fun U hU hWm => hPU U hU hWm⟩ rfl rfl hl.1 rfl (lv_room (show 0 ≤ 8 by omega)) (show decode (ab_bts 246) (ab_pc 246 306) = .ok (.invokestatic 52, 3) by decide +kernel) ⟨hr1, hr2⟩
  refine ab_callG hr hS (fun _ h => h) (fun _ _ _ h => h.2) (fun v1 st₀ t H1 locs1 h0 hq hH1 hS1 => ?_)
  obtain ⟨hq, -⟩ := hq
  rcases hq with ⟨x, hx, ho, hw1⟩ | ⟨cn, hx, ho, hw1⟩
  · cases ho
    rw [hH1] at hw1
    have kk := k1 x hx H1 locs1 ls hw1 hS1 hl
    rw [show ab_pc 246 307 = ab_pc 246 306 + 3 by decide +kernel, show (((187, S + 6, ab_up g1 185 0 (wr x), r1) : ab_W).1 - (K0 - 1)).toNat = (187 - K0).toNat + 1 by show ((187 : Int) - (K0 - 1)).toNat = _; omega] at kk
    exact kk
  · cases ho
    rw [hH1] at hw1
    have kk := k2 cn hx H1 locs1 ls hw1 hS1 hl
    rw [show ab_pc 246 307 = ab_pc 246 306 + 3 by decide +kernel, show (((187, S + 6, g1, r1) : ab_W).1 - (K0 - 1)).toNat = (187 - K0).toNat + 1 by show ((187 : Int) - (K0 - 1)).toNat = _; omega] at kk
    exact kk
