/-! THE ABSTRACT MACHINE IS SOUND, part 6b: what runs in the JDK's own classes: a word's ordinal, a text's length and characters. -/
def jd_rm (d : Nat) : Room := { frames := d, cells := 0, slots := 0, locals := 38 * d + 2 }
def jd_P (bnd : Nat) (aS : Int → Nat) (SL : Nat) (xs : Nat → Int32) (av : List Value) : Array Value → State → Prop := fun a U => a = av.toArray ∧ bnd ≤ U.heap.size ∧ ab_SF bnd aS SL xs U U.heap
def jd_Q (v : Option Value) : Array Value → State → Outcome → State → Prop := fun _ st oc t => oc = .returned v ∧ t.heap = st.heap
theorem jd_blind {bnd : Nat} {aS : Int → Nat} {SL : Nat} {xs : Nat → Int32} {av : List Value} : FrameBlind (jd_P bnd aS SL xs av) := by
  intro a U g mk h
  exact ⟨h.1, h.2.1, ab_SF_moved (u := U) (U := U.calling g mk a) (Vm.Alike.refl U.vm) h.2.2⟩
theorem jd_good {y : MethodName} {cc : ByteArray} {n : Nat} {ret : Option FieldType} (h : Cond.code y cc n ret ∈ ab_TB) : GoodIn ab_TB (Cond.code y cc n ret :: ab_TB) := by
  intro w hw
  have h1 : w ∈ ab_TB := by
    rcases List.mem_cons.mp hw with rfl | hw
    · exact h
    · exact hw
  exact ⟨h1, good_of_word (List.mem_filter.mp h1).2⟩
theorem jd_met (l : Launch) {bnd : Nat} {aS : Int → Nat} {SL : Nat} {xs : Nat → Int32} {y : MethodName} {cc : ByteArray} {n : Nat} (d : Nat) {ret : Option FieldType} {av : List Value} {v : Option Value} (hy : plainName y.cls = true) (hcat : (lg_sl av).length ≤ n)
    (hW : ∀ (p : Program) (e : Env) (s : State) (m : MethodId) (args : Array Value) (below : List Frame) (meth : Method) (c : Code) (ls : Array Slot), CallFix p m c cc n s args ab_TB y.cls → meth.locks = false → meth.sig.returnType = ret → bnd ≤ s.heap.size → ab_SF bnd aS SL xs s s.heap → lv_has ls n (lv_args 0 av) →
      W p l e (jd_rm d) s m args below meth c s.heap [] 0 0 (MQ below (jd_Q v) args s 0 0 (fun q => bnd ≤ q)) (F0 m 0 ls [])) :
    Met l y (Cond.code y cc n ret :: ab_TB) (jd_rm d) (jd_P bnd aS SL xs av) (jd_Q v) 0 0 (fun q => bnd ≤ q) := by
  refine Met.ofW (cc := cc) (maxL := n) (ret := ret) hy rfl ?_
  intro p e s m args below meth c s₁ B hml hv
  obtain ⟨rfl, hb, hF⟩ := hv
  have hts := atoms_spec (ws := Cond.code y cc n ret :: ab_TB) B.pre
  have hl := lv_entry av hcat
  rw [lg_entry_eq]
  exact hW p e s m _ below meth c _ ⟨B.exec, B.bytes, hml, findClass_of_methodNamed B.named, fun z hz => hts z (List.mem_cons_of_mem _ hz)⟩ B.notSynchronized B.returns hb hF hl
section JD
variable {p : Program} {l : Launch} {e : Env} {R : Room} {s : State} {m : MethodId} {args : Array Value} {below : List Frame} {meth : Method} {c : Code} {H : Heap} {locs : List Loc} {cells slots : Nat} {Q : State → Prop} {bnd : Nat} {aS : Int → Nat} {SL : Nat} {xs : Nat → Int32} {pc : Nat} {ls : Array Slot} {rest : List Value}
theorem jd_call {st0 : List Value} {v : Option Value} {a : Array Value} (hr : va_Run p l e R s m args below meth c H locs cells slots 0 0 (F0 m pc ls st0) rest (jd_Q v a) (fun q => bnd ≤ q)) (hS : va_S (fun q => bnd ≤ q) s.heap H locs)
    (kk : ∀ locs1 : List Loc, va_S (fun q => bnd ≤ q) s.heap H locs1 → W p l e R s m args below meth c H locs1 cells slots Q (F0 m (pc + 3) ls (v.toList ++ rest))) : W p l e R s m args below meth c H locs cells slots Q (F0 m pc ls st0) := by
  refine ab_callG hr hS (fun _ h => h) (fun st₀ o t h => ⟨by rw [h.2]; exact Nat.le_refl _, fun q _ _ => by rw [h.2]⟩) (fun v1 st₀ t H1 locs1 h0 hq hH1 hS1 => ?_)
  obtain ⟨h1, h2⟩ := hq
  cases h1
  have h3 : H1 = H := by rw [← hH1, h2, h0]
  subst h3
  exact kk locs1 hS1
theorem jd_pre (hb : bnd ≤ s.heap.size) (hF : ab_SF bnd aS SL xs s s.heap) (hS : va_S (fun q => bnd ≤ q) s.heap H locs) {av : List Value} : ∀ U : State, U.heap = H → s.WarmedH U.vm → jd_P bnd aS SL xs av av.toArray U := by
  intro U hU hW
  refine ⟨rfl, by rw [hU]; exact Nat.le_trans hb hS.1, ?_⟩
  rw [hU]
  exact ab_SF_moved hW.alike (ab_SF_kept hb hF hS.2.1)
theorem jd_V {y : MethodName} {b cc : ByteArray} {own : String} {n nL d nA index : Nat} {ret : Option FieldType} {As : List Value} {r : Nat} {v : Option Value} (S : CallFix p m c cc nL s args ab_TB own) (hM : Met l y (Cond.code y b n ret :: ab_TB) (jd_rm d) (jd_P bnd aS SL xs (.ref r :: As)) (jd_Q v) 0 0 (fun q => bnd ≤ q))
    (hc : Cond.code y b n ret ∈ ab_TB) (hini : Cond.initialized y.cls ∈ ab_TB) (hlk : Cond.methodLink own index y ∈ ab_TB) (hin : Cond.instanceMethod y ∈ ab_TB) (hse : Cond.selects y.cls y y ∈ ab_TB)
    (hd : y.cls ≠ "java/lang/invoke/MethodHandle" ∧ y.cls ≠ "java/lang/invoke/VarHandle" ∧ (parseMethodDescriptor y.desc).map (fun d => d.parameters.length) = some nA) (hR : d + 1 ≤ R.frames ∧ 8 + (n + 11) + (38 * d + 2) ≤ R.locals)
    (hrc : ∃ cell : Cell, H[r]? = some cell ∧ cell.vm.isStatics = false ∧ s.vm.findClass y.cls = some cell.cls) (hb : bnd ≤ s.heap.size) (hF : ab_SF bnd aS SL xs s s.heap) (hS : va_S (fun q => bnd ≤ q) s.heap H locs) (hn : As.length = nA) (hsz : ls.size = nL) (hcat : (rest.map fun v => v.category).sum ≤ 8)
    {st0 : List Value} (hst : st0 = As.reverse ++ .ref r :: rest) (hdg : decode cc pc = .ok (.invokevirtual index, 3)) (hf : cells ≤ R.cells ∧ slots ≤ R.slots)
    (kk : ∀ locs1 : List Loc, va_S (fun q => bnd ≤ q) s.heap H locs1 → W p l e R s m args below meth c H locs1 cells slots Q (F0 m (pc + 3) ls (v.toList ++ rest))) : W p l e R s m args below meth c H locs cells slots Q (F0 m pc ls st0) := by
  subst hst
  have ht := S.2.2.2.2
  exact jd_call (va_runV (n := nA) (As := As) (rest := rest) (b := r) (g := F0 m pc ls (As.reverse ++ .ref r :: rest)) S hM ⟨callB_of nA ht (jd_good hc) rfl rfl rfl (ht _ hini) (ht _ hlk) hd hR, ht _ hin, ht _ hse⟩ ⟨jd_blind, hrc, jd_pre hb hF hS⟩ rfl hn hsz rfl (lv_room hcat) hdg hf) hS kk
theorem jd_S {y : MethodName} {b cc : ByteArray} {own : String} {n nL d nA index : Nat} {ret : Option FieldType} {As : List Value} {v : Option Value} (S : CallFix p m c cc nL s args ab_TB own) (hM : Met l y (Cond.code y b n ret :: ab_TB) (jd_rm d) (jd_P bnd aS SL xs As) (jd_Q v) 0 0 (fun q => bnd ≤ q))
    (hc : Cond.code y b n ret ∈ ab_TB) (hini : Cond.initialized y.cls ∈ ab_TB) (hlk : Cond.methodLink own index y ∈ ab_TB) (hstt : Cond.static y ∈ ab_TB)
    (hd : y.cls ≠ "java/lang/invoke/MethodHandle" ∧ y.cls ≠ "java/lang/invoke/VarHandle" ∧ (parseMethodDescriptor y.desc).map (fun d => d.parameters.length) = some nA) (hR : d + 1 ≤ R.frames ∧ 8 + (n + 11) + (38 * d + 2) ≤ R.locals)
    (hb : bnd ≤ s.heap.size) (hF : ab_SF bnd aS SL xs s s.heap) (hS : va_S (fun q => bnd ≤ q) s.heap H locs) (hn : As.length = nA) (hsz : ls.size = nL) (hcat : (rest.map fun v => v.category).sum ≤ 8)
    {st0 : List Value} (hst : st0 = As.reverse ++ rest) (hdg : decode cc pc = .ok (.invokestatic index, 3)) (hf : cells ≤ R.cells ∧ slots ≤ R.slots)
    (kk : ∀ locs1 : List Loc, va_S (fun q => bnd ≤ q) s.heap H locs1 → W p l e R s m args below meth c H locs1 cells slots Q (F0 m (pc + 3) ls (v.toList ++ rest))) : W p l e R s m args below meth c H locs cells slots Q (F0 m pc ls st0) := by
  subst hst
  have ht := S.2.2.2.2
  exact jd_call (va_runS (n := nA) (As := As) (rest := rest) (g := F0 m pc ls (As.reverse ++ rest)) S hM ⟨callB_of nA ht (jd_good hc) rfl rfl rfl (ht _ hini) (ht _ hlk) hd hR, ht _ hstt⟩ ⟨jd_blind, jd_pre hb hF hS⟩ rfl hn hsz rfl (lv_room hcat) hdg hf) hS kk
end JD
def jd_str : List Int32 := ab_str.map Int32.ofInt
def jd_ordN : MethodName := ⟨"java/lang/Enum", "ordinal", "()I"⟩
def jd_lenN : MethodName := ⟨"java/lang/String", "length", "()I"⟩
def jd_codN : MethodName := ⟨"java/lang/String", "coder", "()B"⟩
def jd_chrN : MethodName := ⟨"java/lang/String", "charAt", "(I)C"⟩
def jd_latN : MethodName := ⟨"java/lang/String", "isLatin1", "()Z"⟩
def jd_lchN : MethodName := ⟨"java/lang/StringLatin1", "charAt", "([BI)C"⟩
def jd_chkN : MethodName := ⟨"java/lang/String", "checkIndex", "(II)V"⟩
def jd_preN : MethodName := ⟨"jdk/internal/util/Preconditions", "checkIndex", "(IILjava/util/function/BiFunction;)I"⟩
/-- the words of the JDK's calls, by their places -/
theorem jd_w1 : Cond.initialized jd_ordN.cls ∈ ab_TB := ab_in_TB (pl := 4) rfl rfl
theorem jd_w2 : Cond.initialized jd_lenN.cls ∈ ab_TB := ab_in_TB (pl := 16) rfl rfl
theorem jd_w3 : Cond.initialized jd_lchN.cls ∈ ab_TB := ab_in_TB (pl := 17) rfl rfl
theorem jd_w4 : Cond.initialized jd_preN.cls ∈ ab_TB := ab_in_TB (pl := 18) rfl rfl
theorem jd_w5 : Cond.sameMethod "EventLedger$Word" "java/lang/Enum" "ordinal" "()I" ∈ ab_TB := ab_in_TB (pl := 1200) rfl rfl
theorem jd_w6 : Cond.selects "EventLedger$Word" ⟨"EventLedger$Word", "ordinal", "()I"⟩ jd_ordN ∈ ab_TB := ab_in_TB (pl := 1202) rfl rfl
theorem jd_w7 : Cond.instanceMethod jd_ordN ∈ ab_TB := ab_in_TB (pl := 1203) rfl rfl
theorem jd_w8 : Cond.code jd_ordN prog_17_method_2_code 1 (some .int) ∈ ab_TB := ab_in_TB (pl := 1204) rfl rfl
theorem jd_w9 : Cond.fieldLink "java/lang/Enum" 7 "java/lang/Enum" "ordinal" "I" ∈ ab_TB := ab_in_TB (pl := 6208) rfl rfl
theorem jd_w10 : Cond.instanceMethod jd_lenN ∈ ab_TB := ab_in_TB (pl := 5045) rfl rfl
theorem jd_w11 : Cond.selects jd_lenN.cls jd_lenN jd_lenN ∈ ab_TB := ab_in_TB (pl := 5046) rfl rfl
theorem jd_w12 : Cond.code jd_lenN prog_22_method_54_code 1 (some .int) ∈ ab_TB := ab_in_TB (pl := 5047) rfl rfl
theorem jd_w13 : Cond.methodLink "java/lang/String" 335 jd_codN ∈ ab_TB := ab_in_TB (pl := 5048) rfl rfl
theorem jd_w14 : Cond.instanceMethod jd_codN ∈ ab_TB := ab_in_TB (pl := 5049) rfl rfl
theorem jd_w15 : Cond.selects jd_codN.cls jd_codN jd_codN ∈ ab_TB := ab_in_TB (pl := 5050) rfl rfl
theorem jd_w16 : Cond.code jd_codN prog_22_method_152_code 1 (some .byte) ∈ ab_TB := ab_in_TB (pl := 5051) rfl rfl
theorem jd_w17 : Cond.fieldLink "java/lang/String" 38 "java/lang/String" "COMPACT_STRINGS" "Z" ∈ ab_TB := ab_in_TB (pl := 5052) rfl rfl
theorem jd_w18 : Cond.instanceMethod jd_chrN ∈ ab_TB := ab_in_TB (pl := 5055) rfl rfl
theorem jd_w19 : Cond.selects jd_chrN.cls jd_chrN jd_chrN ∈ ab_TB := ab_in_TB (pl := 5056) rfl rfl
theorem jd_w20 : Cond.code jd_chrN prog_22_method_56_code 2 (some .char) ∈ ab_TB := ab_in_TB (pl := 5057) rfl rfl
theorem jd_w21 : Cond.methodLink "java/lang/String" 492 jd_latN ∈ ab_TB := ab_in_TB (pl := 5058) rfl rfl
theorem jd_w22 : Cond.instanceMethod jd_latN ∈ ab_TB := ab_in_TB (pl := 5059) rfl rfl
theorem jd_w23 : Cond.selects jd_latN.cls jd_latN jd_latN ∈ ab_TB := ab_in_TB (pl := 5060) rfl rfl
theorem jd_w24 : Cond.code jd_latN prog_22_method_154_code 1 (some .boolean) ∈ ab_TB := ab_in_TB (pl := 5061) rfl rfl
theorem jd_w25 : Cond.methodLink "java/lang/String" 495 jd_lchN ∈ ab_TB := ab_in_TB (pl := 5062) rfl rfl
theorem jd_w26 : Cond.static jd_lchN ∈ ab_TB := ab_in_TB (pl := 5063) rfl rfl
theorem jd_w27 : Cond.code jd_lchN prog_23_method_2_code 2 (some .char) ∈ ab_TB := ab_in_TB (pl := 5064) rfl rfl
theorem jd_w28 : Cond.methodLink "java/lang/StringLatin1" 9 jd_chkN ∈ ab_TB := ab_in_TB (pl := 5065) rfl rfl
theorem jd_w29 : Cond.static jd_chkN ∈ ab_TB := ab_in_TB (pl := 5066) rfl rfl
theorem jd_w30 : Cond.code jd_chkN prog_22_method_155_code 2 none ∈ ab_TB := ab_in_TB (pl := 5067) rfl rfl
theorem jd_w31 : Cond.fieldLink "java/lang/String" 1053 "jdk/internal/util/Preconditions" "SIOOBE_FORMATTER" "Ljava/util/function/BiFunction;" ∈ ab_TB := ab_in_TB (pl := 5068) rfl rfl
theorem jd_w32 : Cond.methodLink "java/lang/String" 1059 jd_preN ∈ ab_TB := ab_in_TB (pl := 5070) rfl rfl
theorem jd_w33 : Cond.static jd_preN ∈ ab_TB := ab_in_TB (pl := 5071) rfl rfl
theorem jd_w34 : Cond.code jd_preN prog_30_method_11_code 3 (some .int) ∈ ab_TB := ab_in_TB (pl := 5072) rfl rfl
theorem jd_w35 : Cond.fieldLink "java/lang/String" 9 "java/lang/String" "value" "[B" ∈ ab_TB := ab_in_TB (pl := 6211) rfl rfl
theorem jd_w36 : Cond.fieldLink "java/lang/String" 15 "java/lang/String" "coder" "B" ∈ ab_TB := ab_in_TB (pl := 6212) rfl rfl
section JM
variable {bnd : Nat} {aS : Int → Nat} {SL : Nat} {xs : Nat → Int32}
theorem jd_in {j : Int} (h0 : 0 ≤ j) (h1 : j < 86) : ¬ Int32.ofInt j < 0 ∧ Int32.ofInt j < 86 ∧ (Int32.ofInt j).toNatClampNeg = j.toNat ∧ vp_in (Int32.ofInt j) 86 := by
  have h := ab_ix h0 h1 (by omega)
  have h2 : (Int32.ofInt j).toInt = j := by rw [ab_i32, wr_of (by omega) (by omega)]
  refine ⟨?_, ?_, h.1, h.2⟩
  · rw [Int32.lt_iff_toInt_lt, h2]
    show ¬ j < 0
    omega
  · rw [Int32.lt_iff_toInt_lt, h2]
    show j < 86
    exact h1
theorem jd_JF {s : State} {H : Heap} (hF : ab_SF bnd aS SL xs s H) : ab_JF bnd aS s H := hF.2.2.2.2.2.2.2.2
/-- Preconditions.checkIndex within the bounds -/
theorem jd_mPre (l : Launch) {j : Int} (h0 : 0 ≤ j) (h1 : j < 86) {f : Value} (hf : f = .null ∨ ∃ q : Nat, f = .ref q) : Met l jd_preN (Cond.code jd_preN prog_30_method_11_code 3 (some .int) :: ab_TB) (jd_rm 0) (jd_P bnd aS SL xs [.int (Int32.ofInt j), .int 86, f]) (jd_Q (some (.int (Int32.ofInt j)))) 0 0 (fun q => bnd ≤ q) := by
  obtain ⟨k1, k2, k3, k4⟩ := jd_in h0 h1
  refine jd_met l 0 (by decide) (by rcases hf with rfl | ⟨q, rfl⟩ <;> (show 3 ≤ 3; omega)) ?_
  intro p e s m args below meth c ls S hlocks hret hb hF hl
  have l0 : ls[0]? = some (.val (.int (Int32.ofInt j))) := hl.2.2 (0, _) (by simp [lv_args, Value.category])
  have l1 : ls[1]? = some (.val (.int 86)) := hl.2.2 (1, _) (by simp [lv_args, Value.category])
  refine lv_iload_n (k := 0) (i := 0) S.1 S.2.1 (by decide +kernel) rfl l0 ?_
  refine lv_if_lt (off := 8) (tgt := 9) S.1 S.2.1 (by decide +kernel) rfl (fun h => absurd h k1) (fun _ => ?_)
  refine lv_iload_n (k := 0) (i := 0) S.1 S.2.1 (by decide +kernel) rfl l0 ?_
  refine lv_iload_n (k := 1) (i := 1) S.1 S.2.1 (by decide +kernel) rfl l1 ?_
  refine lv_icmp_lt (off := 10) (tgt := 16) S.1 S.2.1 (by decide +kernel) rfl (fun _ => ?_) (fun h => absurd k2 h)
  refine lv_iload_n (k := 0) (i := 0) S.1 S.2.1 (by decide +kernel) rfl l0 ?_
  exact W.iret S.1 S.2.1 hret (fun t ht _ => ⟨rfl, ht⟩) (fun _ h => by cases h) (by decide +kernel)
/-- String.checkIndex within the bounds -/
theorem jd_mChk (l : Launch) {j : Int} (h0 : 0 ≤ j) (h1 : j < 86) : Met l jd_chkN (Cond.code jd_chkN prog_22_method_155_code 2 none :: ab_TB) (jd_rm 1) (jd_P bnd aS SL xs [.int (Int32.ofInt j), .int 86]) (jd_Q none) 0 0 (fun q => bnd ≤ q) := by
  refine jd_met l 1 (by decide) (by show 2 ≤ 2; omega) ?_
  intro p e s m args below meth c ls S hlocks hret hb hF hl
  have l0 : ls[0]? = some (.val (.int (Int32.ofInt j))) := hl.2.2 (0, _) (by simp [lv_args, Value.category])
  have l1 : ls[1]? = some (.val (.int 86)) := hl.2.2 (1, _) (by simp [lv_args, Value.category])
  have ht := S.2.2.2.2
  obtain ⟨v, hv, hZ⟩ : ∃ v : Value, (v = .null ∨ ∃ q : Nat, v = .ref q) ∧ va_Z "jdk/internal/util/Preconditions" "SIOOBE_FORMATTER" "Ljava/util/function/BiFunction;" v (fun q => bnd ≤ q) s s.heap := by
    rcases (jd_JF hF).2.1 with h | ⟨q, h⟩
    · exact ⟨_, Or.inl rfl, h⟩
    · exact ⟨_, Or.inr ⟨q, rfl⟩, h⟩
  refine lv_iload_n (k := 0) (i := 0) S.1 S.2.1 (by decide +kernel) rfl l0 ?_
  refine lv_iload_n (k := 1) (i := 1) S.1 S.2.1 (by decide +kernel) rfl l1 ?_
  refine va_gets S.1 S.2.1 hZ va_S.rf S.2.2.2.1 (ht _ jd_w31) (fun _ h => h) (by decide +kernel) ?_
  refine jd_S (As := [.int (Int32.ofInt j), .int 86, v]) (rest := []) (d := 0) (nA := 3) S (jd_mPre l h0 h1 hv) jd_w34 jd_w4 jd_w32 jd_w33 (by decide +kernel) (by decide) hb hF va_S.rf rfl hl.1 (by decide) rfl (by decide +kernel) (by decide) (fun locs1 hS1 => ?_)
  refine lv_pop S.1 S.2.1 (by decide +kernel) rfl ?_
  exact W.vret S.1 S.2.1 hret (fun t ht _ => ⟨rfl, ht⟩) hS1.2.2 (by decide +kernel)
/-- a text's coder: Latin1 -/
theorem jd_mCod (l : Launch) : Met l jd_codN (Cond.code jd_codN prog_22_method_152_code 1 (some .byte) :: ab_TB) (jd_rm 0) (jd_P bnd aS SL xs [.ref (aS (-22))]) (jd_Q (some (.int 0))) 0 0 (fun q => bnd ≤ q) := by
  refine jd_met l 0 (by decide) (by show 1 ≤ 1; omega) ?_
  intro p e s m args below meth c ls S hlocks hret hb hF hl
  have l0 : ls[0]? = some (.val (.ref (aS (-22)))) := hl.2.2 (0, _) (by simp [lv_args])
  have ht := S.2.2.2.2
  have hJ := jd_JF hF
  have hc := (hJ.2.2.1 0 (by omega)).2.1
  refine va_gets S.1 S.2.1 hJ.1 va_S.rf S.2.2.2.1 (ht _ jd_w17) (fun _ h => h) (by decide +kernel) ?_
  refine lv_if_eq (off := 10) (tgt := 13) S.1 S.2.1 (by decide +kernel) rfl (fun h => absurd h (by decide)) (fun _ => ?_)
  refine lv_aload_n (k := 0) (i := 0) S.1 S.2.1 (by decide +kernel) rfl l0 ?_
  refine vk_getf S.1 S.2.1 hc va_S.rf S.2.2.2.1 (ht _ jd_w36) (fun _ h => h) (by decide +kernel) ?_
  refine lv_goto (off := 4) (tgt := 14) S.1 S.2.1 (by decide +kernel) rfl ?_
  exact W.zret S.1 S.2.1 hret (by decide) (fun t ht _ => ⟨rfl, ht⟩) (fun _ h => by cases h) (by decide +kernel)
/-- the text is Latin1 -/
theorem jd_mLat (l : Launch) : Met l jd_latN (Cond.code jd_latN prog_22_method_154_code 1 (some .boolean) :: ab_TB) (jd_rm 0) (jd_P bnd aS SL xs [.ref (aS (-22))]) (jd_Q (some (.int 1))) 0 0 (fun q => bnd ≤ q) := by
  refine jd_met l 0 (by decide) (by show 1 ≤ 1; omega) ?_
  intro p e s m args below meth c ls S hlocks hret hb hF hl
  have l0 : ls[0]? = some (.val (.ref (aS (-22)))) := hl.2.2 (0, _) (by simp [lv_args])
  have ht := S.2.2.2.2
  have hJ := jd_JF hF
  have hc := (hJ.2.2.1 0 (by omega)).2.1
  refine va_gets S.1 S.2.1 hJ.1 va_S.rf S.2.2.2.1 (ht _ jd_w17) (fun _ h => h) (by decide +kernel) ?_
  refine lv_if_eq (off := 14) (tgt := 17) S.1 S.2.1 (by decide +kernel) rfl (fun h => absurd h (by decide)) (fun _ => ?_)
  refine lv_aload_n (k := 0) (i := 0) S.1 S.2.1 (by decide +kernel) rfl l0 ?_
  refine vk_getf S.1 S.2.1 hc va_S.rf S.2.2.2.1 (ht _ jd_w36) (fun _ h => h) (by decide +kernel) ?_
  refine lv_if_ne (off := 7) (tgt := 17) S.1 S.2.1 (by decide +kernel) rfl (fun h => absurd rfl h) (fun _ => ?_)
  refine lv_iconst (n := 1) (v := 1) S.1 S.2.1 (by decide +kernel) rfl ?_
  refine lv_goto (off := 4) (tgt := 18) S.1 S.2.1 (by decide +kernel) rfl ?_
  exact W.zret S.1 S.2.1 hret (by decide) (fun t ht _ => ⟨rfl, ht⟩) (fun _ h => by cases h) (by decide +kernel)
theorem jd_recv {s : State} {H : Heap} {locs : List Loc} (hF : ab_SF bnd aS SL xs s s.heap) (hS : va_S (fun q => bnd ≤ q) s.heap H locs) : ∃ cell : Cell, H[aS (-22)]? = some cell ∧ cell.vm.isStatics = false ∧ s.vm.findClass "java/lang/String" = some cell.cls := vk_recv (jd_JF hF).2.2 (i := 0) (by omega) hS
/-- the text's length -/
theorem jd_mLen (l : Launch) : Met l jd_lenN (Cond.code jd_lenN prog_22_method_54_code 1 (some .int) :: ab_TB) (jd_rm 1) (jd_P bnd aS SL xs [.ref (aS (-22))]) (jd_Q (some (.int 86))) 0 0 (fun q => bnd ≤ q) := by
  refine jd_met l 1 (by decide) (by show 1 ≤ 1; omega) ?_
  intro p e s m args below meth c ls S hlocks hret hb hF hl
  have l0 : ls[0]? = some (.val (.ref (aS (-22)))) := hl.2.2 (0, _) (by simp [lv_args])
  have ht := S.2.2.2.2
  have hJ := jd_JF hF
  have hc := (hJ.2.2.1 0 (by omega)).2.2
  refine lv_aload_n (k := 0) (i := 0) S.1 S.2.1 (by decide +kernel) rfl l0 ?_
  refine vk_getf S.1 S.2.1 hc.1 va_S.rf S.2.2.2.1 (ht _ jd_w35) (fun _ h => h) (by decide +kernel) ?_
  refine va_tlen (v := 86) S.1 S.2.1 hc.2 va_S.rf rfl (by decide +kernel) ?_
  refine lv_aload_n (k := 0) (i := 0) S.1 S.2.1 (by decide +kernel) rfl l0 ?_
  refine jd_V (As := []) (rest := [.int 86]) (r := aS (-22)) (d := 0) (nA := 0) S (jd_mCod l) jd_w16 jd_w2 jd_w13 jd_w14 jd_w15 (by decide +kernel) (by decide) (jd_recv hF va_S.rf) hb hF va_S.rf rfl hl.1 (by decide) rfl (by decide +kernel) (by decide) (fun locs1 hS1 => ?_)
  refine lv_ishr S.1 S.2.1 (by decide +kernel) ?_
  exact W.iret (v := 86 >>> ((0 : Int32) &&& 31)) S.1 S.2.1 hret (fun t ht _ => ⟨by decide, ht⟩) hS1.2.2 (by decide +kernel)
theorem jd_chC : (List.range 86).all (fun j => decide (((((([ab_str.map Int32.ofInt] : List (List Int32)).getD 0 []).getD j 0) &&& 255).toUInt32 % 65536).toInt32 = Int32.ofInt ((ab_nth ab_str j).getD 0)) && decide (narrow .char (.int (Int32.ofInt ((ab_nth ab_str j).getD 0))) = .int (Int32.ofInt ((ab_nth ab_str j).getD 0)))) = true := by decide +kernel
/-- a Latin1 text's character -/
theorem jd_mLch (l : Launch) {j : Int} (h0 : 0 ≤ j) (h1 : j < 86) : Met l jd_lchN (Cond.code jd_lchN prog_23_method_2_code 2 (some .char) :: ab_TB) (jd_rm 2) (jd_P bnd aS SL xs [.ref (aS (-23)), .int (Int32.ofInt j)]) (jd_Q (some (.int (Int32.ofInt ((ab_nth ab_str j.toNat).getD 0))))) 0 0 (fun q => bnd ≤ q) := by
  obtain ⟨k1, k2, k3, k4⟩ := jd_in h0 h1
  have hch := List.all_eq_true.mp jd_chC j.toNat (List.mem_range.mpr (by omega))
  simp only [Bool.and_eq_true, decide_eq_true_eq] at hch
  refine jd_met l 2 (by decide) (by show 2 ≤ 2; omega) ?_
  intro p e s m args below meth c ls S hlocks hret hb hF hl
  have l0 : ls[0]? = some (.val (.ref (aS (-23)))) := hl.2.2 (0, _) (by simp [lv_args])
  have l1 : ls[1]? = some (.val (.int (Int32.ofInt j))) := hl.2.2 (1, _) (by simp [lv_args, Value.category])
  have ht := S.2.2.2.2
  have hJ := jd_JF hF
  have hc := (hJ.2.2.1 0 (by omega)).2.2.2
  refine lv_iload_n (k := 1) (i := 1) S.1 S.2.1 (by decide +kernel) rfl l1 ?_
  refine lv_aload_n (k := 0) (i := 0) S.1 S.2.1 (by decide +kernel) rfl l0 ?_
  refine va_tlen (v := 86) S.1 S.2.1 hc va_S.rf rfl (by decide +kernel) ?_
  refine jd_S (As := [.int (Int32.ofInt j), .int 86]) (rest := []) (d := 1) (nA := 2) S (jd_mChk l h0 h1) jd_w30 jd_w2 jd_w28 jd_w29 (by decide +kernel) (by decide) hb hF va_S.rf rfl hl.1 (by decide) rfl (by decide +kernel) (by decide) (fun locs1 hS1 => ?_)
  refine lv_aload_n (k := 0) (i := 0) S.1 S.2.1 (by decide +kernel) rfl l0 ?_
  refine lv_iload_n (k := 1) (i := 1) S.1 S.2.1 (by decide +kernel) rfl l1 ?_
  refine va_tb S.1 S.2.1 hc hS1 k4 rfl (by decide +kernel) ?_
  refine lv_sipush (n := 255) (v := 255) S.1 S.2.1 (by decide +kernel) rfl ?_
  refine lv_iand S.1 S.2.1 (by decide +kernel) ?_
  refine lv_i2c (v := Int32.ofInt ((ab_nth ab_str j.toNat).getD 0)) S.1 S.2.1 (by decide +kernel) (by rw [k3]; exact hch.1) ?_
  exact W.zret S.1 S.2.1 hret hch.2 (fun t ht _ => ⟨rfl, ht⟩) hS1.2.2 (by decide +kernel)
/-- a text's character -/
theorem jd_mChr (l : Launch) {j : Int} (h0 : 0 ≤ j) (h1 : j < 86) : Met l jd_chrN (Cond.code jd_chrN prog_22_method_56_code 2 (some .char) :: ab_TB) (jd_rm 3) (jd_P bnd aS SL xs [.ref (aS (-22)), .int (Int32.ofInt j)]) (jd_Q (some (.int (Int32.ofInt ((ab_nth ab_str j.toNat).getD 0))))) 0 0 (fun q => bnd ≤ q) := by
  have hch := List.all_eq_true.mp jd_chC j.toNat (List.mem_range.mpr (by omega))
  simp only [Bool.and_eq_true, decide_eq_true_eq] at hch
  refine jd_met l 3 (by decide) (by show 2 ≤ 2; omega) ?_
  intro p e s m args below meth c ls S hlocks hret hb hF hl
  have l0 : ls[0]? = some (.val (.ref (aS (-22)))) := hl.2.2 (0, _) (by simp [lv_args])
  have l1 : ls[1]? = some (.val (.int (Int32.ofInt j))) := hl.2.2 (1, _) (by simp [lv_args, Value.category])
  have ht := S.2.2.2.2
  have hJ := jd_JF hF
  have hc := (hJ.2.2.1 0 (by omega)).2.2.1
  refine lv_aload_n (k := 0) (i := 0) S.1 S.2.1 (by decide +kernel) rfl l0 ?_
  refine jd_V (As := []) (rest := []) (r := aS (-22)) (d := 0) (nA := 0) S (jd_mLat l) jd_w24 jd_w2 jd_w21 jd_w22 jd_w23 (by decide +kernel) (by decide) (jd_recv hF va_S.rf) hb hF va_S.rf rfl hl.1 (by decide) rfl (by decide +kernel) (by decide) (fun locs1 hS1 => ?_)
  refine lv_if_eq (off := 12) (tgt := 16) S.1 S.2.1 (by decide +kernel) rfl (fun h => absurd h (by decide)) (fun _ => ?_)
  refine lv_aload_n (k := 0) (i := 0) S.1 S.2.1 (by decide +kernel) rfl l0 ?_
  refine vk_getf S.1 S.2.1 hc hS1 S.2.2.2.1 (ht _ jd_w35) (fun _ h => h) (by decide +kernel) ?_
  refine lv_iload_n (k := 1) (i := 1) S.1 S.2.1 (by decide +kernel) rfl l1 ?_
  refine jd_S (As := [.ref (aS (-23)), .int (Int32.ofInt j)]) (rest := []) (d := 2) (nA := 2) S (jd_mLch l h0 h1) jd_w27 jd_w3 jd_w25 jd_w26 (by decide +kernel) (by decide) hb hF hS1 rfl hl.1 (by decide) rfl (by decide +kernel) (by decide) (fun locs2 hS2 => ?_)
  exact W.zret S.1 S.2.1 hret hch.2 (fun t ht _ => ⟨rfl, ht⟩) hS2.2.2 (by decide +kernel)
/-- a word's ordinal -/
theorem jd_mOrd (l : Launch) {j : Nat} (hj : j < 17) : Met l jd_ordN (Cond.code jd_ordN prog_17_method_2_code 1 (some .int) :: ab_TB) (jd_rm 0) (jd_P bnd aS SL xs [.ref (aS (-5 - j))]) (jd_Q (some (.int (Int32.ofInt j)))) 0 0 (fun q => bnd ≤ q) := by
  refine jd_met l 0 (by decide) (by show 1 ≤ 1; omega) ?_
  intro p e s m args below meth c ls S hlocks hret hb hF hl
  have l0 : ls[0]? = some (.val (.ref (aS (-5 - j)))) := hl.2.2 (0, _) (by simp [lv_args])
  have ht := S.2.2.2.2
  have hc := (hF.2.2.2.2.2.1 j hj).2.1
  refine lv_aload_n (k := 0) (i := 0) S.1 S.2.1 (by decide +kernel) rfl l0 ?_
  refine vk_getf S.1 S.2.1 hc va_S.rf S.2.2.2.1 (ht _ jd_w9) (fun _ h => h) (by decide +kernel) ?_
  exact W.iret S.1 S.2.1 hret (fun t ht _ => ⟨rfl, ht⟩) (fun _ h => by cases h) (by decide +kernel)
end JM
section AbOpen2
variable {p : Program} {l : Launch} {e : Env} {R : Room} {s : State} {m : MethodId} {args : Array Value} {below : List Frame} {meth : Method} {c : Code} {Q : State → Prop} {D : va_G} {cA : Nat → ClassId} {bnd : Nat} {aS : Int → Nat} {SL : Nat} {xs : Nat → Int32} {K0 : Int} {S0 : Nat} {k : Nat}
theorem jd_link {i : Nat} {o : ab_O} {y : MethodName} {x : Nat} (ho : ab_nth (ab_cod k) i = some o) (h : ab_nw k i o = [(x, .methodLink (ab_own k) (ab_ax k i).2.1 y)]) : Cond.methodLink (ab_own k) (ab_ax k i).2.1 y ∈ ab_TB := by
  have hq : (x, Cond.methodLink (ab_own k) (ab_ax k i).2.1 y) ∈ ab_nw k i o := by rw [h]; exact List.mem_singleton.mpr rfl
  rcases ab_nw_ok ho hq with h | h
  · exact h.2
  · exact absurd h.1 (by simp [ab_isN])
theorem ab_p66 {i a nx : Nat} {b : Int} {L : ab_F} {st : List ab_V} {w : ab_W} {x : Int} (C : ab_Cx D cA bnd aS SL xs k p R s m args meth c) (ho : ab_nth (ab_cod k) i = some (66, a, b, nx)) (hc : ab_cat st ≤ 8) (hx : x ≤ -5 ∧ -21 ≤ x) (hrm : (w.1 - K0).toNat ≤ R.cells ∧ w.2.1 - S0 ≤ R.slots) (kk : ab_WW p l e R s m args below meth c Q D cA bnd aS SL xs K0 S0 k nx L ((0, -5 - x) :: st) w) : ab_WW p l e R s m args below meth c Q D cA bnd aS SL xs K0 S0 k i L ((2, x) :: st) w := by
  intro H locs ls hw hS hl
  obtain ⟨hd, hsc, hp⟩ := ab_dec1 ho (by decide) rfl rfl
  have hsc : 1 ≤ ab_dep k := Nat.le_of_ble_eq_true hsc
  have hlk := jd_link ho (y := ⟨"EventLedger$Word", "ordinal", "()I"⟩) rfl
  obtain ⟨j, hj, rfl⟩ : ∃ j : Nat, j < 17 ∧ x = -5 - (j : Int) := ⟨(-5 - x).toNat, by omega, by omega⟩
  have hts := C.2.2.2.2.1
  have hfr := C.2.2.2.2.2.2.2.2.1
  have hlo := C.2.2.2.2.2.2.2.2.2.1
  have hb := C.2.2.2.2.2.2.2.1
  have hF := C.2.2.2.2.2.2.2.2.2.2.2.2.1
  have S : CallFix p m c (ab_bts k) (ab_mxl k) s args ab_TB (ab_own k) := ⟨C.1, C.2.1, C.2.2.1, C.2.2.2.1, hts⟩
  have hT : GoodIn ab_TB (va_wsU (ab_own k) (ab_ax k i).2.1 "EventLedger$Word" "java/lang/Enum" ⟨"EventLedger$Word", "ordinal", "()I"⟩ jd_ordN (Cond.code jd_ordN prog_17_method_2_code 1 (some .int) :: ab_TB)) := by
    intro z hz
    have h1 : z ∈ ab_TB := by
      rcases List.mem_append.mp hz with h | h
      · simp only [List.mem_cons, List.not_mem_nil, or_false] at h
        rcases h with rfl | rfl | rfl | rfl | rfl
        · exact hlk
        · exact jd_w5
        · exact jd_w6
        · exact jd_w7
        · exact jd_w1
      · exact (jd_good jd_w8 z h).1
    exact ⟨h1, good_of_word (List.mem_filter.mp h1).2⟩
  have hO := (hF.2.2.2.2.2.1 j hj).1
  have hrc : ∃ cell : Cell, H[aS (-5 - (j : Int))]? = some cell ∧ cell.vm.isStatics = false ∧ s.vm.findClass "EventLedger$Word" = some cell.cls := by
    obtain ⟨cell, h1, h2, h3, -⟩ := hO.kept hS.2.1
    exact ⟨cell, h1, h2, h3⟩
  have had : ab_ad bnd aS (-5 - (j : Int)) = aS (-5 - (j : Int)) := ab_ad_neg (by omega)
  simp only [List.map_cons]
  rw [show ab_cv (ab_ad bnd aS) (2, -5 - (j : Int)) = .ref (aS (-5 - (j : Int))) by show Value.ref _ = _; rw [had]]
  refine jd_call (va_runU (n := 0) (As := []) (rest := st.map (ab_cv (ab_ad bnd aS))) (b := aS (-5 - (j : Int))) (g := F0 m (ab_pc k i) ls (.ref (aS (-5 - (j : Int))) :: st.map (ab_cv (ab_ad bnd aS)))) S (jd_mOrd l hj) (va_cwU 0 hts hT rfl rfl rfl rfl (by decide +kernel) ⟨by show 0 + 1 ≤ R.frames; omega, by show 8 + (1 + 11) + (38 * 0 + 2) ≤ R.locals; omega⟩) ⟨jd_blind, hrc, jd_pre hb hF hS⟩ rfl rfl hl.1 rfl (lv_room (by rw [ab_cat_map]; exact hc)) hd hrm) hS (fun locs1 hS1 => ?_)
  have kk := kk H locs1 ls hw hS1 hl
  rw [hp, show -5 - (-5 - (j : Int)) = (j : Int) by omega] at kk
  exact kk
theorem ab_p69 {i a nx : Nat} {b : Int} {L : ab_F} {st : List ab_V} {w : ab_W}  (C : ab_Cx D cA bnd aS SL xs k p R s m args meth c) (ho : ab_nth (ab_cod k) i = some (69, a, b, nx)) (hc : ab_cat st ≤ 8) (hrm : (w.1 - K0).toNat ≤ R.cells ∧ w.2.1 - S0 ≤ R.slots) (kk : ab_WW p l e R s m args below meth c Q D cA bnd aS SL xs K0 S0 k nx L ((0, 86) :: st) w) : ab_WW p l e R s m args below meth c Q D cA bnd aS SL xs K0 S0 k i L ((2, -22) :: st) w := by
  intro H locs ls hw hS hl
  obtain ⟨hd, hsc, hp⟩ := ab_dec1 ho (by decide) rfl rfl
  have hsc : 2 ≤ ab_dep k := Nat.le_of_ble_eq_true hsc
  have hfr := C.2.2.2.2.2.2.2.2.1
  have hlo := C.2.2.2.2.2.2.2.2.2.1
  have hF := C.2.2.2.2.2.2.2.2.2.2.2.2.1
  have S : CallFix p m c (ab_bts k) (ab_mxl k) s args ab_TB (ab_own k) := ⟨C.1, C.2.1, C.2.2.1, C.2.2.2.1, C.2.2.2.2.1⟩
  have kk := fun locs1 hS1 => kk H locs1 ls hw hS1 hl
  rw [hp] at kk
  exact jd_V (As := []) (rest := st.map (ab_cv (ab_ad bnd aS))) (r := aS (-22)) (d := 1) (nA := 0) S (jd_mLen l) jd_w12 jd_w2 (jd_link ho rfl) jd_w10 jd_w11 (by decide +kernel) ⟨by omega, by omega⟩ (jd_recv hF hS) C.2.2.2.2.2.2.2.1 hF hS rfl hl.1 (by rw [ab_cat_map]; exact hc) rfl hd hrm kk
theorem ab_p70 {i a nx : Nat} {b : Int} {L : ab_F} {st : List ab_V} {w : ab_W} {j : Int} (C : ab_Cx D cA bnd aS SL xs k p R s m args meth c) (ho : ab_nth (ab_cod k) i = some (70, a, b, nx)) (hc : ab_cat st ≤ 8) (hj : 0 ≤ j ∧ j < 86) (hrm : (w.1 - K0).toNat ≤ R.cells ∧ w.2.1 - S0 ≤ R.slots) (kk : ab_WW p l e R s m args below meth c Q D cA bnd aS SL xs K0 S0 k nx L ((0, (ab_nth ab_str j.toNat).getD 0) :: st) w) : ab_WW p l e R s m args below meth c Q D cA bnd aS SL xs K0 S0 k i L ((0, j) :: (2, -22) :: st) w := by
  intro H locs ls hw hS hl
  obtain ⟨hd, hsc, hp⟩ := ab_dec1 ho (by decide) rfl rfl
  have hsc : 4 ≤ ab_dep k := Nat.le_of_ble_eq_true hsc
  have hfr := C.2.2.2.2.2.2.2.2.1
  have hlo := C.2.2.2.2.2.2.2.2.2.1
  have hF := C.2.2.2.2.2.2.2.2.2.2.2.2.1
  have S : CallFix p m c (ab_bts k) (ab_mxl k) s args ab_TB (ab_own k) := ⟨C.1, C.2.1, C.2.2.1, C.2.2.2.1, C.2.2.2.2.1⟩
  have kk := fun locs1 hS1 => kk H locs1 ls hw hS1 hl
  rw [hp] at kk
  exact jd_V (As := [.int (Int32.ofInt j)]) (rest := st.map (ab_cv (ab_ad bnd aS))) (r := aS (-22)) (d := 3) (nA := 1) S (jd_mChr l hj.1 hj.2) jd_w20 jd_w2 (jd_link ho rfl) jd_w18 jd_w19 (by decide +kernel) ⟨by omega, by omega⟩ (jd_recv hF hS) C.2.2.2.2.2.2.2.1 hF hS rfl hl.1 (by rw [ab_cat_map]; exact hc) rfl hd hrm kk
theorem ab_p71 {i a nx : Nat} {b : Int} {L : ab_F} {st : List ab_V} {w : ab_W}  (C : ab_Cx D cA bnd aS SL xs k p R s m args meth c) (ho : ab_nth (ab_cod k) i = some (71, a, b, nx))  (kk : ab_WW p l e R s m args below meth c Q D cA bnd aS SL xs K0 S0 k nx L ((2, -22) :: st) w) : ab_WW p l e R s m args below meth c Q D cA bnd aS SL xs K0 S0 k i L st w := by
  intro H locs ls hw hS hl
  obtain ⟨hd, hsc, hp⟩ := ab_dec1 ho (by decide) rfl rfl
  simp only [Bool.and_eq_true] at hsc
  have h1 : (ab_ax k i).2.1 = 135 := Nat.eq_of_beq_eq_true hsc.1
  have h2 : k = 65 := Nat.eq_of_beq_eq_true hsc.2
  have hown : ab_own k = "EventLedgerModel" := by rw [h2]; decide +kernel
  obtain ⟨tx, hR⟩ := C.2.2.2.2.2.1.2
  have kk := kk H locs ls hw hS hl
  rw [hp] at kk
  rw [h1] at hd
  have hf := C.2.2.2.1
  rw [hown] at hf
  exact va_ldcS C.1 C.2.1 hf hR hd kk
end AbOpen2
