/-! THE ABSTRACT MACHINE IS SOUND, part 1: what the tables say of the bytes; the world's picture; the steps that touch locals and stack alone. -/
def ab_m (k : Nat) : String × String × String × Nat × Option FieldType × Nat × Nat × Nat × Nat := (ab_nth ab_mL k).getD ("", "", "", 0, none, 0, 0, 0, 0)
def ab_own (k : Nat) : String := (ab_m k).1
def ab_yn (k : Nat) : MethodName := ⟨(ab_m k).1, (ab_m k).2.1, (ab_m k).2.2.1⟩
def ab_mxl (k : Nat) : Nat := (ab_m k).2.2.2.1
def ab_rty (k : Nat) : Option FieldType := (ab_m k).2.2.2.2.1
def ab_nar (k : Nat) : Nat := (ab_nth ab_narL k).getD 0
def ab_bts (k : Nat) : ByteArray := (ab_nth ab_btL k).getD code
def ab_ax (k i : Nat) : Nat × Nat × Nat × Nat := (ab_nth ((ab_nth ab_axL k).getD []) i).getD (0, 0, 0, 0)
def ab_pc (k i : Nat) : Nat := (ab_ax k i).1
def ab_isN : Cond → Bool
  | .fieldLinkNest .. => true
  | .methodLinkNest .. => true
  | _ => false
/-- the tables' words in pieces: a place is 1000 times the piece and the place in it -/
def ab_pce (c : Nat) : List Cond := match c with
  | 0 => tables_1_1
  | 1 => tables_1_2
  | 2 => tables_1_3
  | 3 => tables_1_4
  | 4 => tables_1_5
  | 5 => tables_1_6
  | 6 => tables_1_7
  | 7 => k2_sels lw_privs_1
  | 8 => k2_sels lw_privs_2
  | 9 => k2_sels lw_privs_3
  | 10 => k2_sels lw_privs_4
  | 11 => k2_sels lw_privs_5
  | 12 => k2_sels lw_privs_6
  | 13 => k2_sels lw_privs_7
  | 14 => k2_sels lw_privs_8
  | 15 => k2_sels lw_privs_9
  | 16 => k2_sels lw_privs_10
  | _ => []
def ab_gw (pl : Nat) : Option Cond := ab_nth (ab_pce (pl / 1000)) (pl % 1000)
theorem ab_pce_in {c : Nat} {w : Cond} (h : w ∈ ab_pce c) : w ∈ lw_tbl := by
  unfold ab_pce at h
  split at h <;> first
    | (simp only [lw_tbl, tables_1, List.mem_append]; simp only [h, true_or, or_true]; done)
    | (simp only [lw_tbl, lw_privs, k2_sels, List.map_append, List.mem_append] at h ⊢; simp only [h, true_or, or_true]; done)
    | (cases h)
def ab_TB : List Cond := lw_tbl.filter goodWord
def ab_NW : List Cond := lw_tbl.filter ab_isN
theorem ab_nth_mem {α : Type} : ∀ {l : List α} {i : Nat} {a : α}, ab_nth l i = some a → a ∈ l := by
  intro l
  induction l with
  | nil => intro i a h; simp [ab_nth] at h
  | cons x t ih =>
    intro i a h
    cases i with
    | zero => simp [ab_nth] at h; exact h ▸ List.mem_cons_self
    | succ i => exact List.mem_cons_of_mem _ (ih h)
theorem ab_in_TB {pl : Nat} {w : Cond} (h : ab_gw pl = some w) (hg : goodWord w = true) : w ∈ ab_TB := List.mem_filter.mpr ⟨ab_pce_in (ab_nth_mem h), hg⟩
theorem ab_in_NW {pl : Nat} {w : Cond} (h : ab_gw pl = some w) (hg : ab_isN w = true) : w ∈ ab_NW := List.mem_filter.mpr ⟨ab_pce_in (ab_nth_mem h), hg⟩
def ab_T (c : Nat) : u_T := fun k => ((ab_cls c).1, (ab_fld c k).1, (ab_fld c k).2.1, (ab_fld c k).2.2.1)
def ab_clsK : List vw_C := (List.range 10).map fun c => ((ab_cls c).1, ab_T c, ab_nF c)
theorem ab_clsK_at {c : Nat} (h : c < 10) : ab_clsK[c]? = some ((ab_cls c).1, ab_T c, ab_nF c) := by
  simp [ab_clsK, List.getElem?_map, List.getElem?_range, h]
def ab_ty (c k : Nat) : FieldType := (parseFieldDescriptor (ab_fld c k).2.1).getD .int
/-- a field's link: own is the name of the kind that reads it -/
def ab_lkW (own : String) (cp fl c a : Nat) : Cond := match fl with
  | 0 => .fieldLink own cp (ab_cls c).1 (ab_fld c a).1 (ab_fld c a).2.1
  | _ => .fieldLinkNest own cp (ab_cls c).1 (ab_fld c a).1 (ab_fld c a).2.1 "EventLedger"
def ab_fB (c a : Nat) (tg : List Nat) : Bool := Nat.blt c 10 && Nat.blt a (ab_nF c) && tg.contains (ab_fld c a).2.2.2
def ab_ifI (b : Int) (off : Int) : Instr := match b with
  | 0 => .ifCond .eq off
  | 1 => .ifCond .ne off
  | 2 => .ifCond .lt off
  | 3 => .ifCond .ge off
  | 4 => .ifCond .gt off
  | _ => .ifCond .le off
def ab_icI (b : Int) (off : Int) : Instr := match b with
  | 0 => .if_icmp .eq off
  | 1 => .if_icmp .ne off
  | 2 => .if_icmp .lt off
  | 3 => .if_icmp .ge off
  | 4 => .if_icmp .gt off
  | _ => .if_icmp .le off
def ab_atI (t : Nat) : ArrayType := match t with
  | 0 => .int
  | 1 => .byte
  | 2 => .boolean
  | _ => .long
/-- 0: static, 1: a constructor, 2: by its receiver -/
def ab_knd (k : Nat) : Nat := (ab_nth ab_kndL k).getD 0
def ab_cli (k : Nat) : Nat := (ab_nth ab_cliL k).getD 0
/-- a method that is called -/
def ab_mk (k : Nat) : Bool :=
  decide ((ab_yn k).cls ≠ "java/lang/invoke/MethodHandle") && decide ((ab_yn k).cls ≠ "java/lang/invoke/VarHandle") &&
  decide ((parseMethodDescriptor (ab_yn k).desc).map (fun d => d.parameters.length) = some (ab_nar k)) && Nat.ble (ab_mxl k) 19 && plainName (ab_yn k).cls &&
  (match ab_knd k with
  | 0 => decide (ab_rcv k = -1)
  | 1 => decide (ab_rcv k = (ab_cli k : Int)) && Nat.blt (ab_cli k) 10 && decide (ab_rty k = none)
  | _ => decide (ab_rcv k = (ab_cli k : Int)) && Nat.blt (ab_cli k) 10)
/-- the words of a method that is called, and where they stand -/
def ab_mw (k : Nat) : List (Nat × Cond) :=
  [((ab_m k).2.2.2.2.2.1, .code (ab_yn k) (ab_bts k) (ab_mxl k) (ab_rty k)), ((ab_m k).2.2.2.2.2.2.2.2, .initialized (ab_m k).1)] ++ (match ab_knd k with
  | 0 => [((ab_m k).2.2.2.2.2.2.1, .static (ab_yn k))]
  | 1 => [((ab_m k).2.2.2.2.2.2.1, .instanceMethod (ab_yn k))]
  | _ => [((ab_m k).2.2.2.2.2.2.1, .instanceMethod (ab_yn k)), ((ab_m k).2.2.2.2.2.2.2.1, .selects (ab_yn k).cls (ab_yn k) (ab_yn k))])
/-- what its names are -/
def ab_ms (k : Nat) : String × String := ((ab_m k).1, match ab_knd k with
  | 1 => (ab_yn k).name
  | _ => "<init>")
def ab_ms2 (k : Nat) : String × String := (match ab_cli k with
  | 10 => "EventLedgerLaw"
  | c => (ab_cls c).1, "<init>")
/-- the words of a place -/
def ab_nw (k i : Nat) (o : ab_O) : List (Nat × Cond) :=
  let x := ab_ax k i
  match o.1 with
  | 1 => [(x.2.2.1, match x.2.2.2 with
    | 0 => .methodLink (ab_own k) x.2.1 (ab_yn o.2.1)
    | _ => .methodLinkNest (ab_own k) x.2.1 (ab_yn o.2.1) "EventLedger")]
  | 2 => match x.2.2.2 with
    | 9 => [(x.2.2.1, .constant (ab_own k) x.2.1 (Int32.ofInt o.2.2.1))]
    | _ => []
  | 35 => [(x.2.2.1, ab_lkW (ab_own k) x.2.1 x.2.2.2 o.2.2.1.toNat o.2.1)]
  | 37 => [(x.2.2.1, ab_lkW (ab_own k) x.2.1 x.2.2.2 o.2.2.1.toNat o.2.1)]
  | 38 => [(x.2.2.1, ab_lkW (ab_own k) x.2.1 x.2.2.2 o.2.2.1.toNat o.2.1)]
  | 39 => [(x.2.2.1, ab_lkW (ab_own k) x.2.1 x.2.2.2 o.2.2.1.toNat o.2.1)]
  | 40 => [(x.2.2.1, ab_lkW (ab_own k) x.2.1 x.2.2.2 o.2.2.1.toNat o.2.1)]
  | 41 => [(x.2.2.1, ab_lkW (ab_own k) x.2.1 x.2.2.2 o.2.2.1.toNat o.2.1)]
  | 42 => [(x.2.2.1, match o.2.2.1, x.2.2.2 with
      | -3, 0 => .fieldLink (ab_own k) x.2.1 "EventLedger" "WORDS" "[LEventLedger$Word;"
      | -3, _ => .fieldLinkNest (ab_own k) x.2.1 "EventLedger" "WORDS" "[LEventLedger$Word;" "EventLedger"
      | -4, _ => .fieldLink (ab_own k) x.2.1 "EventLedger$1" "$SwitchMap$EventLedger$Word" "[I"
      | _, _ => .fieldLink (ab_own k) x.2.1 "EventLedger$Word" "ACCOUNT" "LEventLedger$Word;")]
  | 52 => [(x.2.2.1, .classLink (ab_own k) x.2.1 (ab_cls o.2.1).1), (((ab_nth ab_insL o.2.1).getD (0, 0)).1, .instantiable (ab_cls o.2.1).1 (ab_nF o.2.1)), (((ab_nth ab_insL o.2.1).getD (0, 0)).2, .initialized (ab_cls o.2.1).1)]
  | 54 => [(x.2.2.1, .classLink (ab_own k) x.2.1 "EventLedger$Mark")]
  | 55 => [(x.2.2.1, .methodLink (ab_own k) x.2.1 Lib.Math.max.name)]
  | 56 => [(x.2.2.1, .methodLink (ab_own k) x.2.1 Lib.Math.min.name)]
  | 57 => [(x.2.2.1, .methodLink (ab_own k) x.2.1 arraycopyName)]
  | 58 => [(x.2.2.1, .methodLink (ab_own k) x.2.1 Lib.objectInit)]
  | 65 => [(x.2.2.1, match o.2.1, x.2.2.2 with
      | 1, 0 => .fieldLink (ab_own k) x.2.1 "EventLedger$Word" "code" "J"
      | 1, _ => .fieldLinkNest (ab_own k) x.2.1 "EventLedger$Word" "code" "J" "EventLedger"
      | 2, 0 => .fieldLink (ab_own k) x.2.1 "EventLedger$Word" "kind" "I"
      | 2, _ => .fieldLinkNest (ab_own k) x.2.1 "EventLedger$Word" "kind" "I" "EventLedger"
      | _, 0 => .fieldLink (ab_own k) x.2.1 "EventLedger$Word" "op" "I"
      | _, _ => .fieldLinkNest (ab_own k) x.2.1 "EventLedger$Word" "op" "I" "EventLedger")]
  | 66 => [(x.2.2.1, .methodLink (ab_own k) x.2.1 ⟨"EventLedger$Word", "ordinal", "()I"⟩)]
  | 69 => [(x.2.2.1, .methodLink (ab_own k) x.2.1 ⟨"java/lang/String", "length", "()I"⟩)]
  | 70 => [(x.2.2.1, .methodLink (ab_own k) x.2.1 ⟨"java/lang/String", "charAt", "(I)C"⟩)]
  | _ => []
def ab_alt (k i : Nat) (o : ab_O) : List (Instr × Nat × Bool) :=
  let x := ab_ax k i
  let tg : Nat → Int := fun t => (ab_pc k t : Int) - (ab_pc k i : Int)
  match o.1 with
  | 0 => match o.2.1 with
    | 0 => [(.return_, 1, decide (ab_rty k = none))]
    | 1 => [(.ireturn, 1, decide (ab_rty k = some .int))]
    | _ => [(.ireturn, 1, decide (ab_rty k = some .boolean))]
  | 1 => match ab_knd o.2.1 with
    | 0 => [(.invokestatic x.2.1, 3, Nat.beq o.2.2.1.toNat (ab_nar o.2.1) && Nat.blt o.2.1 245 && Nat.beq x.2.2.2 0 && Nat.beq (ab_cli k) (ab_cli o.2.1))]
    | 1 => [(.invokespecial x.2.1, 3, Nat.beq o.2.2.1.toNat (ab_nar o.2.1 + 1) && Nat.blt o.2.1 245 && Nat.blt x.2.2.2 2)]
    | _ => [(.invokevirtual x.2.1, 3, Nat.beq o.2.2.1.toNat (ab_nar o.2.1 + 1) && Nat.blt o.2.1 245 && Nat.blt x.2.2.2 2)]
  | 2 => [(.iconst o.2.2.1, 1, true), (.bipush o.2.2.1, 2, decide ((Int8.ofInt o.2.2.1).toInt32 = Int32.ofInt o.2.2.1)), (.sipush o.2.2.1, 3, decide ((Int16.ofInt o.2.2.1).toInt32 = Int32.ofInt o.2.2.1)), (.ldc x.2.1, 2, Nat.beq x.2.2.2 9), (.ldc_w x.2.1, 3, Nat.beq x.2.2.2 9)]
  | 3 => [(.iload o.2.1, 2, true), (.iload_n (Fin.ofNat 4 o.2.1), 1, Nat.blt o.2.1 4)]
  | 4 => [(.lload o.2.1, 2, true), (.lload_n (Fin.ofNat 4 o.2.1), 1, Nat.blt o.2.1 4)]
  | 5 => [(.aload o.2.1, 2, true), (.aload_n (Fin.ofNat 4 o.2.1), 1, Nat.blt o.2.1 4)]
  | 6 => [(.istore o.2.1, 2, Nat.blt o.2.1 (ab_mxl k)), (.istore_n (Fin.ofNat 4 o.2.1), 1, Nat.blt o.2.1 4 && Nat.blt o.2.1 (ab_mxl k))]
  | 7 => [(.lstore o.2.1, 2, Nat.blt (o.2.1 + 1) (ab_mxl k)), (.lstore_n (Fin.ofNat 4 o.2.1), 1, Nat.blt o.2.1 4 && Nat.blt (o.2.1 + 1) (ab_mxl k))]
  | 8 => [(.astore o.2.1, 2, Nat.blt o.2.1 (ab_mxl k)), (.astore_n (Fin.ofNat 4 o.2.1), 1, Nat.blt o.2.1 4 && Nat.blt o.2.1 (ab_mxl k))]
  | 9 => [(.iinc o.2.1 o.2.2.1, 3, Nat.blt o.2.1 (ab_mxl k))]
  | 10 => [(.iadd, 1, true)]
  | 11 => [(.isub, 1, true)]
  | 12 => [(.imul, 1, true)]
  | 13 => [(.iand, 1, true)]
  | 14 => [(.ior, 1, true)]
  | 15 => [(.ixor, 1, true)]
  | 16 => [(.ishl, 1, true)]
  | 17 => [(.ishr, 1, true)]
  | 18 => [(.iushr, 1, true)]
  | 19 => [(.irem, 1, true)]
  | 20 => [(.ineg, 1, true)]
  | 21 => [(.i2b, 1, true)]
  | 22 => [(.i2l, 1, true)]
  | 23 => [(.l2i, 1, true)]
  | 24 => [(.lor, 1, true)]
  | 25 => [(.lshl, 1, true)]
  | 26 => [(.lcmp, 1, true)]
  | 27 => [(.lconst 0, 1, decide (o.2.2.1 = 0))]
  | 28 => [(.dup, 1, true)]
  | 29 => [(.dup2, 1, true)]
  | 30 => [(.pop, 1, true)]
  | 31 => [(.goto (tg o.2.1), 3, true)]
  | 32 => [(ab_ifI o.2.2.1 (tg o.2.1), 3, true)]
  | 33 => [(ab_icI o.2.2.1 (tg o.2.1), 3, true)]
  | 34 => match ab_nth ab_tsL o.2.1 with
    | some q => [(.tableswitch (tg q.2.1) q.1 (q.1 + q.2.2.length - 1) (q.2.2.map tg).toArray, 1 + (3 - ab_pc k i % 4) + 12 + 4 * q.2.2.length, decide (0 < q.2.2.length) && decide (-1000 < q.1 ∧ q.1 < 1000))]
    | none => []
  | 35 => [(.getfield x.2.1, 3, ab_fB o.2.2.1.toNat o.2.1 [0, 3] && decide (0 ≤ o.2.2.1) && Nat.blt x.2.2.2 2)]
  | 37 => [(.getfield x.2.1, 3, ab_fB o.2.2.1.toNat o.2.1 [2] && decide (0 ≤ o.2.2.1) && Nat.blt x.2.2.2 2)]
  | 38 => [(.putfield x.2.1, 3, ab_fB o.2.2.1.toNat o.2.1 [0, 3] && decide (ab_ty o.2.2.1.toNat o.2.1 = .int) && decide (0 ≤ o.2.2.1) && !(ab_fld o.2.2.1.toNat o.2.1).2.2.1 && Nat.blt x.2.2.2 2)]
  | 39 => [(.putfield x.2.1, 3, ab_fB o.2.2.1.toNat o.2.1 [3] && decide (ab_ty o.2.2.1.toNat o.2.1 = .boolean) && decide (0 ≤ o.2.2.1) && !(ab_fld o.2.2.1.toNat o.2.1).2.2.1 && Nat.blt x.2.2.2 2)]
  | 40 => [(.putfield x.2.1, 3, ab_fB o.2.2.1.toNat o.2.1 [2] && (ab_ty o.2.2.1.toNat o.2.1).isReference && decide (0 ≤ o.2.2.1) && !(ab_fld o.2.2.1.toNat o.2.1).2.2.1 && Nat.blt x.2.2.2 2)]
  | 41 => [(.putfield x.2.1, 3, ab_fB o.2.2.1.toNat o.2.1 [2] && (ab_ty o.2.2.1.toNat o.2.1).isReference && decide (0 ≤ o.2.2.1) && (ab_fld o.2.2.1.toNat o.2.1).2.2.1 && Nat.beq (ab_knd k) 1 && Nat.blt k 245 && Nat.beq (ab_cli k) o.2.2.1.toNat && Nat.beq x.2.2.2 0)]
  | 42 => [(.getstatic x.2.1, 3, (decide (o.2.2.1 = -3) && Nat.blt x.2.2.2 2) || ((decide (o.2.2.1 = -4) || decide (o.2.2.1 = -5)) && Nat.beq x.2.2.2 0))]
  | 43 => [(.iaload, 1, true)]
  | 44 => [(.baload, 1, true)]
  | 45 => [(.baload, 1, true)]
  | 46 => [(.laload, 1, true)]
  | 47 => [(.aaload, 1, true)]
  | 48 => [(.iastore, 1, true)]
  | 49 => [(.bastore, 1, true)]
  | 50 => [(.bastore, 1, true)]
  | 51 => [(.lastore, 1, true)]
  | 52 => [(.new x.2.1, 3, Nat.blt o.2.1 10)]
  | 53 => [(.newarray (ab_atI o.2.1), 2, Nat.blt o.2.1 4)]
  | 54 => [(.anewarray x.2.1, 3, true)]
  | 55 => [(.invokestatic x.2.1, 3, Nat.ble 1 (ab_dep k))]
  | 56 => [(.invokestatic x.2.1, 3, Nat.ble 1 (ab_dep k))]
  | 57 => [(.invokestatic x.2.1, 3, Nat.ble 1 (ab_dep k))]
  | 58 => [(.invokespecial x.2.1, 3, Nat.ble 1 (ab_dep k))]
  | 60 => [(.aastore, 1, true)]
  | 61 => [(.arraylength, 1, Nat.blt o.2.1 4)]
  | 62 => [(.arraylength, 1, true)]
  | 63 => [(.aaload, 1, true)]
  | 64 => [(.iaload, 1, true)]
  | 65 => [(.getfield x.2.1, 3, Nat.ble 1 o.2.1 && Nat.ble o.2.1 3 && Nat.blt x.2.2.2 2)]
  | 66 => [(.invokevirtual x.2.1, 3, Nat.ble 1 (ab_dep k))]
  | 67 => [(.iaload, 1, true)]
  | 68 => [(.arraylength, 1, true)]
  | 69 => [(.invokevirtual x.2.1, 3, Nat.ble 2 (ab_dep k))]
  | 70 => [(.invokevirtual x.2.1, 3, Nat.ble 4 (ab_dep k))]
  | 71 => [(.ldc x.2.1, 2, Nat.beq x.2.1 135 && Nat.beq k 65)]
  | _ => []
def ab_jmp (op : Nat) : Bool := Nat.beq op 0 || Nat.beq op 31 || Nat.beq op 34
def ab_ck (k i : Nat) : Bool := match ab_nth (ab_cod k) i with
  | none => true
  | some o => Nat.ble 72 o.1 || (ab_alt k i o).any fun q => decide (decode (ab_bts k) (ab_pc k i) = .ok (q.1, q.2.1)) && q.2.2 && (ab_jmp o.1 || Nat.beq (ab_pc k o.2.2.2) (ab_pc k i + q.2.1))
/-- every word of a place is of the good ones, or a nest's -/
def ab_ckw (k i : Nat) : Bool := match ab_nth (ab_cod k) i with
  | none => true
  | some o => (ab_nw k i o).all fun q => goodWord q.2 || ab_isN q.2
def ab_gwI (k i : Nat) : List (Option Cond) := match ab_nth (ab_cod k) i with
  | none => []
  | some o => (ab_nw k i o).map fun q => ab_gw q.1
def ab_ewI (k i : Nat) : List (Option Cond) := match ab_nth (ab_cod k) i with
  | none => []
  | some o => (ab_nw k i o).map fun q => some q.2
def ab_gwM (k : Nat) : List (List (Option Cond)) := (List.range (ab_cod k).length).map (ab_gwI k)
def ab_ewM (k : Nat) : List (List (Option Cond)) := (List.range (ab_cod k).length).map (ab_ewI k)

