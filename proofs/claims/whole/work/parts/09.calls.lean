/-! THE ABSTRACT MACHINE IS SOUND, part 6: calls. -/
def ab_ws (k : Nat) : List Cond := .code (ab_yn k) (ab_bts k) (ab_mxl k) (ab_rty k) :: ab_TB
def ab_rm (k mc ms : Nat) : Room := { frames := ab_dep k, cells := mc, slots := ms, locals := 38 * ab_dep k + 2 }
def ab_Pc (D : va_G) (cA : Nat → ClassId) (bnd : Nat) (aS : Int → Nat) (SL : Nat) (xs : Nat → Int32) (av : List ab_V) (w : ab_W) : Array Value → State → Prop := fun a U =>
  a = (av.map (ab_cv (ab_ad bnd aS))).toArray ∧ ab_HW D cA bnd aS SL xs w U.heap ∧ ((∀ z ∈ ab_NW, va_Nw z U) ∧ ab_SR aS U) ∧ va_K D ab_clsK (ab_tys cA) U ∧ va_AO "EventLedger$Mark" U ∧ ab_SF bnd aS SL xs U U.heap ∧ SL < 1000000
def ab_Qc (D : va_G) (cA : Nat → ClassId) (bnd : Nat) (aS : Int → Nat) (SL : Nat) (xs : Nat → Int32) (v : List ab_V) (w : ab_W) : Array Value → State → Outcome → State → Prop := fun _ st oc t =>
  oc = .returned (v.map (ab_cv (ab_ad bnd aS))).head? ∧ ab_HW D cA bnd aS SL xs w t.heap ∧ va_F (fun q => bnd ≤ q) st t
theorem ab_SF_moved {bnd : Nat} {aS : Int → Nat} {SL : Nat} {xs : Nat → Int32} {u U : State} {H : Heap} (hvm : u.vm.Alike U.vm) (h : ab_SF bnd aS SL xs u H) : ab_SF bnd aS SL xs U H := by
  obtain ⟨h1, h2, h3, h4, h5, h6, h7, h8, h9⟩ := h
  exact ⟨h1.moved hvm, h2.moved hvm, h3.moved hvm, h4.moved hvm, h5.moved hvm, fun j hj => ⟨(h6 j hj).1.moved hvm, (h6 j hj).2.1.moved hvm, (h6 j hj).2.2.1.moved hvm, (h6 j hj).2.2.2.1.moved hvm, (h6 j hj).2.2.2.2.moved hvm⟩, h7.moved hvm, h8, h9.moved hvm⟩
theorem ab_SF_kept {bnd : Nat} {aS : Int → Nat} {SL : Nat} {xs : Nat → Int32} {U : State} {H H1 : Heap} (hb : bnd ≤ H.size) (h : ab_SF bnd aS SL xs U H) (hq : ∀ a : Nat, a < H.size → ¬ bnd ≤ a → H1[a]? = H[a]?) : ab_SF bnd aS SL xs U H1 := by
  obtain ⟨h1, h2, h3, h4, h5, h6, h7, h8, h9⟩ := h
  exact ⟨h1.kept hq, h2.kept hq, h3.kept hq, h4.kept hq, h5.kept hq, fun j hj => ⟨(h6 j hj).1.kept hq, (h6 j hj).2.1.kept hq, (h6 j hj).2.2.1.kept hq, (h6 j hj).2.2.2.1.kept hq, (h6 j hj).2.2.2.2.kept hq⟩, h7.kept (hq _ (by omega) (by omega)), h8, h9.kept hq⟩
theorem ab_NW_same {u U : State} (h : u.vm = U.vm) (hN : ∀ z ∈ ab_NW, va_Nw z u) : ∀ z ∈ ab_NW, va_Nw z U := by
  intro z hz
  have h1 := (List.mem_filter.mp hz).2
  cases z <;> first
    | exact va_Nw.same rfl h (hN _ hz)
    | (simp [ab_isN] at h1)
theorem ab_NW_warm {s U : State} (h : s.WarmedH U.vm) (hN : ∀ z ∈ ab_NW, va_Nw z s) : ∀ z ∈ ab_NW, va_Nw z U := by
  intro z hz
  have h1 := (List.mem_filter.mp hz).2
  cases z <;> first
    | exact va_Nw.warmF h (hN _ hz)
    | exact va_Nw.warmM h (hN _ hz)
    | (simp [ab_isN] at h1)
theorem ab_blind {D : va_G} {cA : Nat → ClassId} {bnd : Nat} {aS : Int → Nat} {SL : Nat} {xs : Nat → Int32} {av : List ab_V} {w : ab_W} : FrameBlind (ab_Pc D cA bnd aS SL xs av w) := by
  intro a U g mk h
  obtain ⟨h1, h2, h3, h4, h5, h6, h7⟩ := h
  exact ⟨h1, h2, ⟨ab_NW_same (u := U) (U := U.calling g mk a) rfl h3.1, h3.2.same rfl⟩, va_K.moved (u := U) (U := U.calling g mk a) (Vm.Alike.refl U.vm) h4, va_AO.moved (u := U) (U := U.calling g mk a) (Vm.Alike.refl U.vm) h5, ab_SF_moved (u := U) (U := U.calling g mk a) (Vm.Alike.refl U.vm) h6, h7⟩
theorem ab_goodIn {k : Nat} (hk : k < 245) : GoodIn ab_TB (ab_ws k) := by
  intro w hw
  rcases List.mem_cons.mp hw with rfl | hw
  · have h := ab_mw_ok hk (q := ((ab_m k).2.2.2.2.2.1, .code (ab_yn k) (ab_bts k) (ab_mxl k) (ab_rty k))) (by unfold ab_mw; exact List.mem_append_left _ List.mem_cons_self)
    exact ⟨h.2, good_of_word h.1⟩
  · exact ⟨hw, good_of_word (List.mem_filter.mp hw).2⟩
theorem ab_pc0C : (List.range 247).all (fun k => Nat.beq (ab_pc k 0) 0) = true := by decide +kernel
theorem ab_pc0 {k : Nat} (hk : k < 247) : ab_pc k 0 = 0 := Nat.eq_of_beq_eq_true (List.all_eq_true.mp ab_pc0C k (List.mem_range.mpr hk))
theorem ab_al_pad {ad : Int → Nat} : ∀ {n : Nat} {L : ab_F} {j : Nat} {q : Nat × Value}, q ∈ ab_al ad j (ab_pad n L) → q ∈ ab_al ad j L := by
  intro n
  induction n with
  | zero => intro L j q h; exact h
  | succ n ih =>
    intro L j q h
    cases L with
    | nil => exact ih (L := []) (j := j + 1) h
    | cons a t =>
      cases a with
      | none => exact ih (L := t) (j := j + 1) h
      | some u =>
        rcases List.mem_cons.mp h with rfl | h
        · exact List.mem_cons_self
        · exact List.mem_cons_of_mem _ (ih (L := t) (j := j + 1) h)
theorem ab_args (ad : Int → Nat) : ∀ (av : List ab_V) (j : Nat) {q : Nat × Value}, q ∈ ab_al ad j (ab_e0 av) → q ∈ lv_args j (av.map (ab_cv ad)) := by
  intro av
  induction av with
  | nil => intro j q h; cases h
  | cons v t ih =>
    intro j q h
    have hc := ab_cat2 ad v
    unfold ab_e0 at h
    simp only [List.map_cons, lv_args]
    cases hb : Nat.beq v.1 1 with
    | true =>
      rw [hb] at h
      have h1 : v.1 = 1 := Nat.eq_of_beq_eq_true hb
      rw [if_pos (hc.mpr h1)]
      rcases List.mem_cons.mp h with rfl | h
      · exact List.mem_cons_self
      · exact List.mem_cons_of_mem _ (ih (j + 2) h)
    | false =>
      rw [hb] at h
      have h1 : ¬ v.1 = 1 := fun h1 => by rw [h1] at hb; cases hb
      rw [if_neg (fun h2 => h1 (hc.mp h2))]
      rcases List.mem_cons.mp h with rfl | h
      · exact List.mem_cons_self
      · exact List.mem_cons_of_mem _ (ih (j + 1) h)
theorem ab_sl (ad : Int → Nat) : ∀ av : List ab_V, (lg_sl (av.map (ab_cv ad))).length = ab_cat av := by
  intro av
  induction av with
  | nil => rfl
  | cons v t ih =>
    have h := ab_cat_cv ad v
    unfold lg_sl at ih ⊢
    simp only [List.map_cons, List.flatMap_cons, List.length_append, ih, ab_cat]
    congr 1
    cases hb : Nat.beq v.1 1 with
    | true =>
      rw [hb] at h
      rw [if_pos (by simpa using h)]
      rfl
    | false =>
      rw [hb] at h
      rw [if_neg (by simpa using h)]
      rfl
/-- a method's contract out of the run of its code -/
theorem ab_met (l : Launch) {D : va_G} {cA : Nat → ClassId} {bnd : Nat} {aS : Int → Nat} {SL : Nat} {xs : Nat → Int32} {k : Nat} (hk : k < 245) {av v : List ab_V} {w w' : ab_W} (hcat : ab_cat av ≤ ab_mxl k)
    (hW : ∀ (p : Program) (e : Env) (s : State) (m : MethodId) (args : Array Value) (below : List Frame) (meth : Method) (c : Code), ab_Cx D cA bnd aS SL xs k p (ab_rm k (w'.1 - w.1).toNat (w'.2.1 - w.2.1)) s m args meth c → meth.locks = false → meth.sig.returnType = ab_rty k →
      ab_WW p l e (ab_rm k (w'.1 - w.1).toNat (w'.2.1 - w.2.1)) s m args below meth c (MQ below (ab_Qc D cA bnd aS SL xs v w') args s (w'.1 - w.1).toNat (w'.2.1 - w.2.1) (fun q => bnd ≤ q)) D cA bnd aS SL xs w.1 w.2.1 k 0 (ab_en k av) [] w) :
    Met l (ab_yn k) (ab_ws k) (ab_rm k (w'.1 - w.1).toNat (w'.2.1 - w.2.1)) (ab_Pc D cA bnd aS SL xs av w) (ab_Qc D cA bnd aS SL xs v w') (w'.1 - w.1).toNat (w'.2.1 - w.2.1) (fun q => bnd ≤ q) := by
  have hmk := ab_mk_ok hk
  simp only [ab_mk, Bool.and_eq_true, decide_eq_true_eq] at hmk
  refine Met.ofW (cc := ab_bts k) (maxL := ab_mxl k) (ret := ab_rty k) hmk.1.2 rfl ?_
  intro p e s m args below meth c s₁ B hml hv
  obtain ⟨rfl, hw, hN, hK, hO, hF, hSL⟩ := hv
  have hts := atoms_spec (ws := ab_ws k) B.pre
  have hin := (name_of_methodNamed B.named B.method).1
  have C : ab_Cx D cA bnd aS SL xs k p (ab_rm k (w'.1 - w.1).toNat (w'.2.1 - w.2.1)) s m (av.map (ab_cv (ab_ad bnd aS))).toArray meth c :=
    ⟨B.exec, B.bytes, hml, findClass_of_methodNamed B.named, fun z hz => hts z (List.mem_cons_of_mem _ hz), hN, fun h => by rw [hin]; exact h, hw.2.2.1, Nat.le_refl _, Nat.le_refl _, hK, hO, hF, hSL⟩
  have hl := lv_entry (av.map (ab_cv (ab_ad bnd aS))) (n := ab_mxl k) (by rw [ab_sl]; exact hcat)
  rw [lg_entry_eq]
  generalize (lg_sl (av.map (ab_cv (ab_ad bnd aS))) ++ List.replicate (ab_mxl k - (lg_sl (av.map (ab_cv (ab_ad bnd aS)))).length) Slot.unset).toArray = ls at hl ⊢
  have hl := ab_has_sub hl (l' := ab_al (ab_ad bnd aS) 0 (ab_en k av)) (fun q hq => ab_args _ av 0 (ab_al_pad hq))
  have h := hW p e s m _ below meth c C B.notSynchronized B.returns s.heap [] ls hw va_S.rf hl
  rw [ab_pc0 (by omega), show (w.1 - w.1).toNat = 0 by omega, show w.2.1 - w.2.1 = 0 by omega] at h
  exact h
section AbCall
variable {p : Program} {l : Launch} {e : Env} {R : Room} {s : State} {m : MethodId} {args : Array Value} {below : List Frame} {meth : Method} {c : Code} {Q : State → Prop} {D : va_G} {cA : Nat → ClassId} {bnd : Nat} {aS : Int → Nat} {SL : Nat} {xs : Nat → Int32} {K0 : Int} {S0 : Nat} {k : Nat}

theorem ab_callG {H : Heap} {locs : List Loc} {cells slots mc ms pc : Nat} {ls : Array Slot} {st0 rest : List Value} {Qa : State → Outcome → State → Prop} {free : Addr → Prop} (hr : va_Run p l e R s m args below meth c H locs cells slots mc ms (F0 m pc ls st0) rest Qa free) (hS : va_S (fun q => bnd ≤ q) s.heap H locs) (hf : ∀ q, free q → bnd ≤ q)
    (hF : ∀ st₀ o t, Qa st₀ o t → va_F (fun q => bnd ≤ q) st₀ t)
    (kk : ∀ (v : Option Value) (st₀ t : State) (H1 : Heap) (locs1 : List Loc), st₀.heap = H → Qa st₀ (.returned v) t → t.heap = H1 → va_S (fun q => bnd ≤ q) s.heap H1 locs1 → W p l e R s m args below meth c H1 locs1 (cells + mc) (slots + ms) Q (F0 m (pc + 3) ls (v.toList ++ rest))) : W p l e R s m args below meth c H locs cells slots Q (F0 m pc ls st0) := by
  intro T hT X
  obtain ⟨v, st₀, t, T', L, h0, X', hL, e1, e2, hq, st⟩ := hr T hT X
  obtain ⟨hz, hk⟩ := hF _ _ _ hq
  rw [h0] at hz hk
  obtain ⟨t2, a1, b1⟩ := kk v st₀ t T'.heap (locs ++ L) h0 hq e1.symm
    ⟨Nat.le_trans hS.1 (by rw [e1]; exact hz), fun q h1 h2 => by rw [e1, hk q (Nat.lt_of_lt_of_le h1 hS.1) h2]; exact hS.2.1 q h1 h2, fun q hq => by
      rcases List.mem_append.mp hq with h | h
      · exact hS.2.2 q h
      · exact hf _ (hL q h)⟩ T' rfl X'
  exact ⟨t2, st t2 a1, b1⟩
theorem ab_p1 {i k' nx : Nat} {b : Int} {L : ab_F} {st : List ab_V} {w w1 : ab_W} {v : List ab_V} (C : ab_Cx D cA bnd aS SL xs k p R s m args meth c) (ho : ab_nth (ab_cod k) i = some (1, k', b, nx))
    (hok : ab_okc k k' b.toNat (st.drop b.toNat) st = true) (hrv : ab_rvB k' (st.take b.toNat).reverse w.1 = true) (hnt : ab_nt v = true)
    (hM : Met l (ab_yn k') (ab_ws k') (ab_rm k' (w1.1 - w.1).toNat (w1.2.1 - w.2.1)) (ab_Pc D cA bnd aS SL xs (st.take b.toNat).reverse w) (ab_Qc D cA bnd aS SL xs v w1) (w1.1 - w.1).toNat (w1.2.1 - w.2.1) (fun q => bnd ≤ q))
    (hm1 : w.1 ≤ w1.1) (hm2 : w.2.1 ≤ w1.2.1) (hk0 : K0 ≤ w.1) (hs0 : S0 ≤ w.2.1) (hr1 : (w1.1 - K0).toNat ≤ R.cells) (hr2 : w1.2.1 - S0 ≤ R.slots) (kk : ab_WW p l e R s m args below meth c Q D cA bnd aS SL xs K0 S0 k nx L (v ++ st.drop b.toNat) w1) : ab_WW p l e R s m args below meth c Q D cA bnd aS SL xs K0 S0 k i L st w := by
  intro H locs ls hw hS hl
  simp only [ab_okc, Bool.and_eq_true] at hok
  obtain ⟨⟨⟨⟨hk1, hcm⟩, hdp⟩, hcr⟩, hln⟩ := hok
  have hk1 : k' < 245 := ab_blt hk1
  have hdp : ab_dep k' < ab_dep k := ab_blt hdp
  have hcr : ab_cat (st.drop b.toNat) ≤ 8 := Nat.le_of_ble_eq_true hcr
  have hln : b.toNat ≤ st.length := Nat.le_of_ble_eq_true hln
  obtain ⟨q, hq, hd, hsc, hp⟩ := ab_dec ho (show 1 < 72 by decide)
  have hp := hp.resolve_left (show ¬ ab_jmp 1 = true by decide)
  have hmk := ab_mk_ok hk1
  simp only [ab_mk, Bool.and_eq_true, decide_eq_true_eq] at hmk
  obtain ⟨⟨⟨⟨⟨hmh, hvh⟩, hpar⟩, hmx⟩, hpl⟩, hknd⟩ := hmk
  have hmx : ab_mxl k' ≤ 19 := Nat.le_of_ble_eq_true hmx
  have hts := C.2.2.2.2.1
  have hfr := C.2.2.2.2.2.2.2.2.1
  have hlo := C.2.2.2.2.2.2.2.2.2.1
  have hst : st.map (ab_cv (ab_ad bnd aS)) = (((st.take b.toNat).reverse.map (ab_cv (ab_ad bnd aS))).reverse) ++ (st.drop b.toNat).map (ab_cv (ab_ad bnd aS)) := by
    rw [← List.map_reverse, List.reverse_reverse, ← List.map_append, List.take_append_drop]
  have hlen : (st.take b.toNat).reverse.length = b.toNat := by simp [hln]
  have hmw : ∀ z ∈ ab_mw k', z.2.before args s = true := fun z hz => hts _ (ab_mw_ok hk1 hz).2
  have hini : (Cond.initialized (ab_yn k').cls).before args s = true := hmw ((ab_m k').2.2.2.2.2.2.2.2, .initialized (ab_m k').1) (by unfold ab_mw; exact List.mem_append_left _ (List.mem_cons_of_mem _ List.mem_cons_self))
  have hword := ab_nw_ok ho List.mem_cons_self
  have hR : (ab_rm k' (w1.1 - w.1).toNat (w1.2.1 - w.2.1)).frames + 1 ≤ R.frames ∧ 8 + (ab_mxl k' + 11) + (ab_rm k' (w1.1 - w.1).toNat (w1.2.1 - w.2.1)).locals ≤ R.locals := by
    constructor
    · show ab_dep k' + 1 ≤ R.frames; omega
    · show 8 + (ab_mxl k' + 11) + (38 * ab_dep k' + 2) ≤ R.locals; omega
  have hPU : ∀ U : State, U.heap = H → s.WarmedH U.vm → ab_Pc D cA bnd aS SL xs (st.take b.toNat).reverse w (((st.take b.toNat).reverse.map (ab_cv (ab_ad bnd aS))).toArray) U := by
    intro U hU hWm
    refine ⟨rfl, by rw [hU]; exact hw, ⟨ab_NW_warm hWm C.2.2.2.2.2.1.1, C.2.2.2.2.2.1.2.warm hWm⟩, va_K.moved hWm.alike C.2.2.2.2.2.2.2.2.2.2.1, va_AO.moved hWm.alike C.2.2.2.2.2.2.2.2.2.2.2.1, ?_, C.2.2.2.2.2.2.2.2.2.2.2.2.2⟩
    rw [hU]
    exact ab_SF_moved hWm.alike (ab_SF_kept C.2.2.2.2.2.2.2.1 C.2.2.2.2.2.2.2.2.2.2.2.2.1 hS.2.1)
  have hcells : (w.1 - K0).toNat + (w1.1 - w.1).toNat ≤ R.cells ∧ w.2.1 - S0 + (w1.2.1 - w.2.1) ≤ R.slots := ⟨by omega, by omega⟩
  have hroom : ∀ rest0 : List Value, 2 * (F0 m (ab_pc k i) ls rest0).monitorRoom + (((st.drop b.toNat).map (ab_cv (ab_ad bnd aS))).map fun v => v.category).sum ≤ 8 := fun rest0 => lv_room (by rw [ab_cat_map]; exact hcr)
  have fin : va_Run p l e R s m args below meth c H locs (w.1 - K0).toNat (w.2.1 - S0) (w1.1 - w.1).toNat (w1.2.1 - w.2.1) (F0 m (ab_pc k i) ls (st.map (ab_cv (ab_ad bnd aS)))) ((st.drop b.toNat).map (ab_cv (ab_ad bnd aS))) (ab_Qc D cA bnd aS SL xs v w1 (((st.take b.toNat).reverse.map (ab_cv (ab_ad bnd aS))).toArray)) (fun q => bnd ≤ q) → q.2.1 = 3 → W p l e R s m args below meth c H locs (w.1 - K0).toNat (w.2.1 - S0) Q (F0 m (ab_pc k i) ls (st.map (ab_cv (ab_ad bnd aS)))) := by
    intro hr hq3
    refine ab_callG hr hS (fun _ h => h) (fun _ _ _ h => h.2.2) (fun v1 st₀ t H1 locs1 h0 hqc hH1 hS1 => ?_)
    obtain ⟨hv, hw1, -⟩ := hqc
    cases hv
    rw [hH1] at hw1
    have kk := kk H1 locs1 ls hw1 hS1 hl
    rw [hp, hq3, show (w1.1 - K0).toNat = (w.1 - K0).toNat + (w1.1 - w.1).toNat by omega, show w1.2.1 - S0 = w.2.1 - S0 + (w1.2.1 - w.2.1) by omega, List.map_append] at kk
    have hv2 : (v.map (ab_cv (ab_ad bnd aS))).head?.toList = v.map (ab_cv (ab_ad bnd aS)) := by
      match v, hnt with
      | [], _ => rfl
      | [x], _ => rfl
      | _ :: _ :: _, h => cases h
    rw [hv2]
    exact kk
  have S1 : CallFix p m c (ab_bts k) (ab_mxl k) s args ab_TB (ab_own k) := ⟨C.1, C.2.1, C.2.2.1, C.2.2.2.1, hts⟩
  have hal : ab_alt k i (1, k', b, nx) = match ab_knd k' with
    | 0 => [(.invokestatic (ab_ax k i).2.1, 3, Nat.beq b.toNat (ab_nar k') && Nat.blt k' 245 && Nat.beq (ab_ax k i).2.2.2 0 && Nat.beq (ab_cli k) (ab_cli k'))]
    | 1 => [(.invokespecial (ab_ax k i).2.1, 3, Nat.beq b.toNat (ab_nar k' + 1) && Nat.blt k' 245 && Nat.blt (ab_ax k i).2.2.2 2)]
    | _ => [(.invokevirtual (ab_ax k i).2.1, 3, Nat.beq b.toNat (ab_nar k' + 1) && Nat.blt k' 245 && Nat.blt (ab_ax k i).2.2.2 2)] := rfl
  rw [hal] at hq
  have hlk2 : ((ab_ax k i).2.2.2 = 0 → (Cond.methodLink (ab_own k) (ab_ax k i).2.1 (ab_yn k')).before args s = true) ∧ ((ab_ax k i).2.2.2 = 1 → va_Nw (.methodLinkNest (ab_own k) (ab_ax k i).2.1 (ab_yn k') "EventLedger") s) := by
    constructor
    · intro h0
      have hw2 : (goodWord (Cond.methodLink (ab_own k) (ab_ax k i).2.1 (ab_yn k')) = true ∧ (Cond.methodLink (ab_own k) (ab_ax k i).2.1 (ab_yn k')) ∈ ab_TB) ∨ (ab_isN (Cond.methodLink (ab_own k) (ab_ax k i).2.1 (ab_yn k')) = true ∧ (Cond.methodLink (ab_own k) (ab_ax k i).2.1 (ab_yn k')) ∈ ab_NW) := by
        dsimp only at hword
        rw [h0] at hword
        exact hword
      rcases hw2 with h | h
      · exact hts _ h.2
      · exact absurd h.1 (by simp [ab_isN])
    · intro h1
      have hw2 : (goodWord (Cond.methodLinkNest (ab_own k) (ab_ax k i).2.1 (ab_yn k') "EventLedger") = true ∧ (Cond.methodLinkNest (ab_own k) (ab_ax k i).2.1 (ab_yn k') "EventLedger") ∈ ab_TB) ∨ (ab_isN (Cond.methodLinkNest (ab_own k) (ab_ax k i).2.1 (ab_yn k') "EventLedger") = true ∧ (Cond.methodLinkNest (ab_own k) (ab_ax k i).2.1 (ab_yn k') "EventLedger") ∈ ab_NW) := by
        dsimp only at hword
        rw [h1] at hword
        exact hword
      rcases hw2 with h | h
      · exact absurd h.1 (by simp [goodWord, Cond.onTables, Cond.keeps, Cond.steady])
      · exact C.2.2.2.2.2.1.1 _ h.2
  -- the receiver, where there is one
  have hrcv : ab_rcv k' = (ab_cli k' : Int) → ab_cli k' < 10 → b.toNat = ab_nar k' + 1 → ∃ (x : Int) (As : List ab_V), (st.take b.toNat).reverse = (2, x) :: As ∧ As.length = ab_nar k' ∧ (ab_kd x).1 = (ab_cli k' : Int) ∧ 0 ≤ x ∧ ab_po x < w.1 := by
    intro h1 h2 h3
    unfold ab_rvB at hrv
    rw [h1] at hrv
    simp only [Bool.or_eq_true, decide_eq_true_eq] at hrv
    rcases hrv with hrv | hrv
    · omega
    · cases hA : (st.take b.toNat).reverse with
      | nil => rw [hA] at hlen; simp at hlen; omega
      | cons z t =>
        obtain ⟨tg, x⟩ := z
        rw [hA] at hrv hlen
        by_cases ht : tg = 2
        · subst ht
          exact ⟨x, t, rfl, by simp at hlen; omega, of_decide_eq_true hrv⟩
        · exact absurd hrv (by simp [ht])
  match hkd : ab_knd k', hq, hknd with
  | 0, hq, hknd =>
    cases List.mem_singleton.mp hq
    simp only [Bool.and_eq_true] at hsc
    have hb : b.toNat = ab_nar k' := Nat.eq_of_beq_eq_true hsc.1.1.1
    have h0 : (ab_ax k i).2.2.2 = 0 := Nat.eq_of_beq_eq_true hsc.1.2
    have hstt : (Cond.static (ab_yn k')).before args s = true := hmw ((ab_m k').2.2.2.2.2.2.1, .static (ab_yn k')) (by unfold ab_mw; rw [hkd]; exact List.mem_append_right _ List.mem_cons_self)
    refine fin ?_ rfl
    rw [hst]
    exact va_runS (n := ab_nar k') S1 hM ⟨callB_of (ab_nar k') hts (ab_goodIn hk1) rfl rfl rfl hini (hlk2.1 h0) ⟨hmh, hvh, hpar⟩ hR, hstt⟩ ⟨ab_blind, hPU⟩ rfl (by rw [List.length_map, hlen, hb]) hl.1 rfl (hroom _) hd hcells
  | 1, hq, hknd =>
    cases List.mem_singleton.mp hq
    simp only [Bool.and_eq_true, decide_eq_true_eq] at hsc hknd
    have hb : b.toNat = ab_nar k' + 1 := Nat.eq_of_beq_eq_true hsc.1.1
    have hfl : (ab_ax k i).2.2.2 < 2 := ab_blt hsc.2
    have hc10 : ab_cli k' < 10 := ab_blt hknd.1.2
    have hret : ab_rty k' = none := hknd.2
    obtain ⟨x, As, hA, hAl, hx⟩ := hrcv hknd.1.1 hc10 hb
    have hini2 := ab_ini_ok hk1 hkd
    have hinst : (Cond.instanceMethod (ab_yn k')).before args s = true := hmw ((ab_m k').2.2.2.2.2.2.1, .instanceMethod (ab_yn k')) (by unfold ab_mw; rw [hkd]; exact List.mem_append_right _ List.mem_cons_self)
    have hPS : PreS s H (ab_Pc D cA bnd aS SL xs (st.take b.toNat).reverse w) (.ref (ab_ad bnd aS x) :: As.map (ab_cv (ab_ad bnd aS))) := ⟨ab_blind, fun U hU hWm => by have h := hPU U hU hWm; rw [hA] at h ⊢; exact h⟩
    have hwsc : ab_ws k' = Cond.code (ab_yn k') (ab_bts k') (ab_mxl k') none :: ab_TB := by unfold ab_ws; rw [hret]
    refine fin ?_ rfl
    rw [hst, hA]
    by_cases h0 : (ab_ax k i).2.2.2 = 0
    · have := va_runI (n := ab_nar k') (As := As.map (ab_cv (ab_ad bnd aS))) (rest := (st.drop b.toNat).map (ab_cv (ab_ad bnd aS))) (b := ab_ad bnd aS x) (l := l) (e := e) (below := below) (meth := meth) (H := H) (locs := locs) (cells := (w.1 - K0).toNat) (slots := w.2.1 - S0) (g := F0 m (ab_pc k i) ls (((As.map (ab_cv (ab_ad bnd aS))).reverse) ++ .ref (ab_ad bnd aS x) :: (st.drop b.toNat).map (ab_cv (ab_ad bnd aS)))) S1 hM ⟨callB_of (ab_nar k') hts (ab_goodIn hk1) hwsc rfl rfl hini (hlk2.1 h0) ⟨hmh, hvh, hpar⟩ hR, hini2, hinst⟩ hPS rfl (by rw [List.length_map, hAl]) hl.1 rfl (hroom _) hd hcells
      simpa [ab_cv] using this
    · have h1 : (ab_ax k i).2.2.2 = 1 := by omega
      have := va_runIN (n := ab_nar k') (As := As.map (ab_cv (ab_ad bnd aS))) (rest := (st.drop b.toNat).map (ab_cv (ab_ad bnd aS))) (b := ab_ad bnd aS x) (l := l) (e := e) (below := below) (meth := meth) (H := H) (locs := locs) (cells := (w.1 - K0).toNat) (slots := w.2.1 - S0) (g := F0 m (ab_pc k i) ls (((As.map (ab_cv (ab_ad bnd aS))).reverse) ++ .ref (ab_ad bnd aS x) :: (st.drop b.toNat).map (ab_cv (ab_ad bnd aS)))) S1 hM ⟨va_cnB (ab_nar k') hts (ab_goodIn hk1) hwsc rfl rfl (hlk2.2 h1) hini ⟨hmh, hvh, hpar⟩ hR, hini2, hinst⟩ hPS rfl (by rw [List.length_map, hAl]) hl.1 rfl (hroom _) hd hcells
      simpa [ab_cv] using this
  | n + 2, hq, hknd =>
    cases List.mem_singleton.mp hq
    simp only [Bool.and_eq_true, decide_eq_true_eq] at hsc hknd
    have hb : b.toNat = ab_nar k' + 1 := Nat.eq_of_beq_eq_true hsc.1.1
    have hfl : (ab_ax k i).2.2.2 < 2 := ab_blt hsc.2
    have hc10 : ab_cli k' < 10 := ab_blt hknd.2
    obtain ⟨x, As, hA, hAl, hx⟩ := hrcv hknd.1 hc10 hb
    have hinst : (Cond.instanceMethod (ab_yn k')).before args s = true := hmw ((ab_m k').2.2.2.2.2.2.1, .instanceMethod (ab_yn k')) (by unfold ab_mw; rw [hkd]; exact List.mem_append_right _ List.mem_cons_self)
    have hsel : (Cond.selects (ab_yn k').cls (ab_yn k') (ab_yn k')).before args s = true := hmw ((ab_m k').2.2.2.2.2.2.2.1, .selects (ab_yn k').cls (ab_yn k') (ab_yn k')) (by unfold ab_mw; rw [hkd]; exact List.mem_append_right _ (List.mem_cons_of_mem _ List.mem_cons_self))
    have hat := hw.1 x hx.2.1 hx.2.2
    rw [ab_ce_ob (c := ab_cli k') hx.1 hc10] at hat
    have hrc := va_recv (D := D) (cl := ab_clsK) (tys := ab_tys cA) C.2.2.2.2.2.2.2.2.2.2.1 (ab_P1 hat) (ab_clsK_at hc10) (q0 := 0) rfl
    rw [show ((ab_cls (ab_cli k')).1, ab_T (ab_cli k'), ab_nF (ab_cli k')).1 = (ab_yn k').cls from ab_own_ok hk1 rfl hc10] at hrc
    have hPV : PreV s H (ab_yn k').cls (ab_ad bnd aS x) (ab_Pc D cA bnd aS SL xs (st.take b.toNat).reverse w) (As.map (ab_cv (ab_ad bnd aS))) := ⟨ab_blind, hrc, fun U hU hWm => by have h := hPU U hU hWm; rw [hA] at h ⊢; exact h⟩
    refine fin ?_ rfl
    rw [hst, hA]
    by_cases h0 : (ab_ax k i).2.2.2 = 0
    · have := va_runV (n := ab_nar k') (As := As.map (ab_cv (ab_ad bnd aS))) (rest := (st.drop b.toNat).map (ab_cv (ab_ad bnd aS))) (b := ab_ad bnd aS x) (l := l) (e := e) (below := below) (meth := meth) (H := H) (locs := locs) (cells := (w.1 - K0).toNat) (slots := w.2.1 - S0) (g := F0 m (ab_pc k i) ls (((As.map (ab_cv (ab_ad bnd aS))).reverse) ++ .ref (ab_ad bnd aS x) :: (st.drop b.toNat).map (ab_cv (ab_ad bnd aS)))) S1 hM ⟨callB_of (ab_nar k') hts (ab_goodIn hk1) rfl rfl rfl hini (hlk2.1 h0) ⟨hmh, hvh, hpar⟩ hR, hinst, hsel⟩ hPV rfl (by rw [List.length_map, hAl]) hl.1 rfl (hroom _) hd hcells
      simpa [ab_cv] using this
    · have h1 : (ab_ax k i).2.2.2 = 1 := by omega
      have := va_runVN (n := ab_nar k') (As := As.map (ab_cv (ab_ad bnd aS))) (rest := (st.drop b.toNat).map (ab_cv (ab_ad bnd aS))) (b := ab_ad bnd aS x) (l := l) (e := e) (below := below) (meth := meth) (H := H) (locs := locs) (cells := (w.1 - K0).toNat) (slots := w.2.1 - S0) (g := F0 m (ab_pc k i) ls (((As.map (ab_cv (ab_ad bnd aS))).reverse) ++ .ref (ab_ad bnd aS x) :: (st.drop b.toNat).map (ab_cv (ab_ad bnd aS)))) S1 hM ⟨va_cnB (ab_nar k') hts (ab_goodIn hk1) rfl rfl rfl (hlk2.2 h1) hini ⟨hmh, hvh, hpar⟩ hR, hinst, hsel⟩ hPV rfl (by rw [List.length_map, hAl]) hl.1 rfl (hroom _) hd hcells
      simpa [ab_cv] using this

end AbCall
