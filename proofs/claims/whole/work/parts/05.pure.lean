/-! THE ABSTRACT MACHINE IS SOUND, part 2: numbers; the picture of the world; the steps that touch locals and stack alone. -/
theorem ab_blt {a b : Nat} (h : Nat.blt a b = true) : a < b := Nat.le_of_ble_eq_true h
theorem ab_i32 (x : Int) : (Int32.ofInt x).toInt = wr x := by
  rw [Int32.toInt_ofInt]
  unfold wr Int.bmod
  simp only [Int32.size]
  omega
theorem ab_i64 (x : Int) : (Int64.ofInt x).toInt = wl x := by
  rw [Int64.toInt_ofInt]
  unfold wl Int.bmod
  simp only [Int64.size]
  omega
theorem wr_of {x : Int} (h : -2147483648 ≤ x) (h2 : x < 2147483648) : wr x = x := by unfold wr; omega
theorem wr_in (x : Int) : -2147483648 ≤ wr x ∧ wr x < 2147483648 := by unfold wr; omega
theorem ab_ofwr (x : Int) : Int32.ofInt (wr x) = Int32.ofInt x := by rw [← ab_i32, Int32.ofInt_toInt]
theorem ab_ofwl (x : Int) : Int64.ofInt (wl x) = Int64.ofInt x := by rw [← ab_i64, Int64.ofInt_toInt]
theorem ab_lt (x y : Int) : Int32.ofInt x < Int32.ofInt y ↔ wr x < wr y := by rw [Int32.lt_iff_toInt_lt, ab_i32, ab_i32]
theorem ab_le (x y : Int) : Int32.ofInt x ≤ Int32.ofInt y ↔ wr x ≤ wr y := by rw [Int32.le_iff_toInt_le, ab_i32, ab_i32]
theorem ab_eq (x y : Int) : Int32.ofInt x = Int32.ofInt y ↔ wr x = wr y := by rw [← Int32.toInt_inj, ab_i32, ab_i32]
theorem ab_ix {j n : Int} (h0 : 0 ≤ j) (h1 : j < n) (hn : n < 1000000) : (Int32.ofInt j).toNatClampNeg = j.toNat ∧ vp_in (Int32.ofInt j) n.toNat := by
  have h2 : (Int32.ofInt j).toInt = j := by rw [ab_i32, wr_of (by omega) (by omega)]
  refine ⟨?_, ?_⟩
  · show (Int32.ofInt j).toInt.toNat = j.toNat
    rw [h2]
  · rw [vp_in_iff, h2]
    omega
theorem po_nm {o : Int} (h0 : 0 ≤ o) (h1 : o < 187) : ab_po (ab_nm o) = o := by
  unfold ab_nm
  by_cases a : o ≤ 2
  · rw [if_pos a]; unfold ab_po; rw [if_pos a]
  · rw [if_neg a]
    by_cases b : o = 3
    · rw [if_pos b, b]; decide
    · rw [if_neg b]
      by_cases c : o = 4
      · rw [if_pos c, c]; decide
      · rw [if_neg c]
        by_cases d : o = 5
        · rw [if_pos d, d]; decide
        · rw [if_neg d]
          unfold ab_po
          rw [if_neg (by omega), if_neg (by omega), if_neg (by omega), if_neg (by omega)]
          omega
theorem po_cases (a : Int) : (a ≤ 2 ∧ ab_po a = a) ∨ (a = 3 ∧ ab_po a = 5) ∨ (a = 4 ∧ ab_po a = 3) ∨ (a = 186 ∧ ab_po a = 4) ∨ (5 ≤ a ∧ a ≠ 186 ∧ ab_po a = a + 1) := by
  unfold ab_po
  by_cases h1 : a ≤ 2
  · exact Or.inl ⟨h1, if_pos h1⟩
  · rw [if_neg h1]
    by_cases h2 : a = 3
    · exact Or.inr (Or.inl ⟨h2, if_pos h2⟩)
    · rw [if_neg h2]
      by_cases h3 : a = 4
      · exact Or.inr (Or.inr (Or.inl ⟨h3, if_pos h3⟩))
      · rw [if_neg h3]
        by_cases h4 : a = 186
        · exact Or.inr (Or.inr (Or.inr (Or.inl ⟨h4, if_pos h4⟩)))
        · exact Or.inr (Or.inr (Or.inr (Or.inr ⟨by omega, h4, if_neg h4⟩)))
theorem po_nn {a : Int} (h : 0 ≤ a) : 0 ≤ ab_po a := by have := po_cases a; omega
theorem po_ne {a b : Int} (h : a ≠ b) : ab_po a ≠ ab_po b := by have := po_cases a; have := po_cases b; omega
theorem po_lt {a K : Int} (h : a + 1 < K ∧ 5 < K) (h0 : 0 ≤ a) : ab_po a < K := by have := po_cases a; omega
theorem nm_nn {o : Int} (h : 0 ≤ o) : 0 ≤ ab_nm o := by
  unfold ab_nm
  repeat' split
  all_goals omega
theorem nm_po {a : Int} (h0 : 0 ≤ a) (h1 : ab_po a < 187) : ab_nm (ab_po a) = a := by
  have h := po_cases a
  have h2 := po_nm (po_nn h0) h1
  exact Classical.byContradiction fun hc => po_ne hc h2
/-- addresses: what the law's run makes lies behind bnd, in the order of its making; what was there before has a number below 0 -/
def ab_ad (bnd : Nat) (aS : Int → Nat) (a : Int) : Nat := match a with
  | .ofNat n => bnd + (ab_po n).toNat
  | .negSucc n => aS (.negSucc n)
theorem ab_ad_nn {bnd : Nat} {aS : Int → Nat} {a : Int} (h : 0 ≤ a) : ab_ad bnd aS a = bnd + (ab_po a).toNat := by
  cases a with
  | ofNat n => rfl
  | negSucc n => exact absurd h (by omega)
theorem ab_ad_neg {bnd : Nat} {aS : Int → Nat} {a : Int} (h : a < 0) : ab_ad bnd aS a = aS a := by
  cases a with
  | ofNat n => exact absurd h (by have := Int.natCast_nonneg n; simp only [Int.ofNat_eq_natCast]; omega)
  | negSucc n => rfl
def ab_cv (ad : Int → Nat) (v : ab_V) : Value := match v.1 with
  | 0 => .int (Int32.ofInt v.2)
  | 1 => .long (Int64.ofInt v.2)
  | _ => .ref (ad v.2)
def ab_fv (ad : Int → Nat) (t : Nat) (x y : Int) : Value := match t with
  | 1 => .long (Int64.ofInt x)
  | 2 => if y = -1 then .null else .ref (ad y)
  | _ => .int (Int32.ofInt x)
def ab_fs (ad : Int → Nat) (g r : ab_H) (c : Nat) (a : Int) : List Value := (List.range (ab_nF c)).map fun k => ab_fv ad (ab_fld c k).2.2.2 (g a k) (r a k)
def ab_ce (ad : Int → Nat) (cA : Nat → ClassId) (g r : ab_H) (a : Int) : va_E :=
  if (ab_kd a).1 < 100 then .inr ((ab_kd a).1.toNat, ab_fs ad g r (ab_kd a).1.toNat a)
  else if (ab_kd a).1 = 103 then .inl (cA 3, (ab_kd a).2.toNat, .inr (.inl fun j => Int64.ofInt (g a j)))
  else if (ab_kd a).1 = 104 then .inl (cA 4, (ab_kd a).2.toNat, .inr (.inr (.inr (.inr fun j => if r a j = -1 then none else some (ad (r a j))))))
  else .inl (cA ((ab_kd a).1 - 100).toNat, (ab_kd a).2.toNat, .inl fun j => Int32.ofInt (g a j))
def ab_tys (cA : Nat → ClassId) : List (ClassId × FieldType) := [(cA 0, .int), (cA 1, .byte), (cA 2, .boolean), (cA 3, .long), (cA 4, .object "EventLedger$Mark")]
/-- the heap H holds the world w -/
def ab_HW (D : va_G) (cA : Nat → ClassId) (bnd : Nat) (aS : Int → Nat) (SL : Nat) (xs : Nat → Int32) (w : ab_W) (H : Heap) : Prop :=
  (∀ a : Int, 0 ≤ a → ab_po a < w.1 → va_at D ab_clsK (ab_ad bnd aS a, ab_ce (ab_ad bnd aS) cA w.2.2.1 w.2.2.2 a) H) ∧ (w.1 < 187 → H.size = bnd + w.1.toNat) ∧ bnd ≤ H.size ∧ 0 ≤ w.1 ∧ w.1 ≤ 187 ∧ (∀ j : Nat, j < SL → Int32.ofInt (w.2.2.1 (-2) j) = xs j) ∧ w.2.2.2 (-2) (-1) = SL
/-- what the JDK's own methods read: two statics, the words' text -/
def ab_JF (bnd : Nat) (aS : Int → Nat) (U : State) (H : Heap) : Prop := va_Z "java/lang/String" "COMPACT_STRINGS" "Z" (.int 1) (fun q => bnd ≤ q) U H ∧ va_Zq "jdk/internal/util/Preconditions" "SIOOBE_FORMATTER" "Ljava/util/function/BiFunction;" (fun q => bnd ≤ q) U H ∧ vk_S 1 [86] [ab_str.map Int32.ofInt] (fun _ => aS (-22)) (fun _ => aS (-23)) (fun q => bnd ≤ q) U H
theorem ab_JF.moved {bnd : Nat} {aS : Int → Nat} {u U : State} {H : Heap} (hvm : u.vm.Alike U.vm) (h : ab_JF bnd aS u H) : ab_JF bnd aS U H := ⟨h.1.moved hvm, h.2.1.moved hvm, h.2.2.moved hvm⟩
theorem ab_JF.kept {bnd : Nat} {aS : Int → Nat} {U : State} {H H1 : Heap} (h : ab_JF bnd aS U H) (hq : ∀ a : Nat, a < H.size → ¬ bnd ≤ a → H1[a]? = H[a]?) : ab_JF bnd aS U H1 := ⟨h.1.kept hq, h.2.1.kept hq, h.2.2.kept hq⟩
/-- the words' text stands in the pool of the model's class -/
def ab_SR (aS : Int → Nat) (U : State) : Prop := ∃ tx : String, vk_R "EventLedgerModel" 135 tx (aS (-22)) U
theorem ab_SR.same {aS : Int → Nat} {u U : State} (hv : U.vm = u.vm) (h : ab_SR aS u) : ab_SR aS U := by
  obtain ⟨tx, h⟩ := h
  exact ⟨tx, h.same hv⟩
theorem ab_SR.warm {aS : Int → Nat} {s U : State} (hW : s.WarmedH U.vm) (h : ab_SR aS s) : ab_SR aS U := by
  obtain ⟨tx, h⟩ := h
  exact ⟨tx, h.warm hW⟩
/-- what was there before the law began: the cells behind the statics -/
def ab_SF (bnd : Nat) (aS : Int → Nat) (SL : Nat) (xs : Nat → Int32) (U : State) (H : Heap) : Prop :=
  va_Z "EventLedger" "WORDS" "[LEventLedger$Word;" (.ref (aS (-3))) (fun q => bnd ≤ q) U H ∧
  va_Z "EventLedger$1" "$SwitchMap$EventLedger$Word" "[I" (.ref (aS (-4))) (fun q => bnd ≤ q) U H ∧
  va_Z "EventLedger$Word" "ACCOUNT" "LEventLedger$Word;" (.ref (aS (-5))) (fun q => bnd ≤ q) U H ∧
  va_T (.object "EventLedger$Word") (aS (-3)) 17 (fun j => .ref (aS (-5 - j))) (fun q => bnd ≤ q) U H ∧
  va_T .int (aS (-4)) 17 (fun j => .int (Int32.ofInt ((ab_nth ab_swm j).getD 0))) (fun q => bnd ≤ q) U H ∧
  (∀ j : Nat, j < 17 → va_O "EventLedger$Word" (aS (-5 - j)) (fun q => bnd ≤ q) U H ∧
    va_OF "java/lang/Enum" "ordinal" "I" (.int (Int32.ofInt j)) (aS (-5 - j)) (fun q => bnd ≤ q) U H ∧
    va_OF "EventLedger$Word" "code" "J" (.long (Int64.ofInt ((ab_nth ab_wt j).getD (0, 0, 0)).1)) (aS (-5 - j)) (fun q => bnd ≤ q) U H ∧
    va_OF "EventLedger$Word" "kind" "I" (.int (Int32.ofInt ((ab_nth ab_wt j).getD (0, 0, 0)).2.1)) (aS (-5 - j)) (fun q => bnd ≤ q) U H ∧
    va_OF "EventLedger$Word" "op" "I" (.int (Int32.ofInt ((ab_nth ab_wt j).getD (0, 0, 0)).2.2)) (aS (-5 - j)) (fun q => bnd ≤ q) U H) ∧
  (va_X (aS (-2)) SL xs U H ∧ aS (-2) < bnd ∧ ab_JF bnd aS U H)
/-- the machine's own side at a method's entry -/
def ab_Cx (D : va_G) (cA : Nat → ClassId) (bnd : Nat) (aS : Int → Nat) (SL : Nat) (xs : Nat → Int32) (k : Nat) (p : Program) (R : Room) (s : State) (m : MethodId) (args : Array Value) (meth : Method) (c : Code) : Prop :=
  p.tables.exec = Jvm.exec ∧ c.code = ab_bts k ∧ c.maxLocals = ab_mxl k ∧ s.vm.findClass (ab_own k) = some m.cls ∧ (∀ w ∈ ab_TB, w.before args s = true) ∧ ((∀ w ∈ ab_NW, va_Nw w s) ∧ ab_SR aS s) ∧ ((ab_yn k).name = "<init>" → meth.name = "<init>") ∧ bnd ≤ s.heap.size ∧ ab_dep k ≤ R.frames ∧ 38 * ab_dep k + 2 ≤ R.locals ∧ va_K D ab_clsK (ab_tys cA) s ∧ va_AO "EventLedger$Mark" s ∧ ab_SF bnd aS SL xs s s.heap ∧ SL < 1000000
section AbPure
variable {p : Program} {l : Launch} {e : Env} {R : Room} {s : State} {m : MethodId} {args : Array Value} {below : List Frame} {meth : Method} {c : Code} {Q : State → Prop} {D : va_G} {cA : Nat → ClassId} {bnd : Nat} {aS : Int → Nat} {SL : Nat} {xs : Nat → Int32} {K0 : Int} {S0 : Nat} {k : Nat}
/-- the locals as the kit has them -/
def ab_al (ad : Int → Nat) : Nat → ab_F → List (Nat × Value)
  | _, [] => []
  | j, none :: t => ab_al ad (j + 1) t
  | j, some v :: t => (j, ab_cv ad v) :: ab_al ad (j + 1) t
/-- from the place i of the method k, with these locals, this stack, this world, the machine comes to Q -/
def ab_WW (p : Program) (l : Launch) (e : Env) (R : Room) (s : State) (m : MethodId) (args : Array Value) (below : List Frame) (meth : Method) (c : Code) (Q : State → Prop) (D : va_G) (cA : Nat → ClassId) (bnd : Nat) (aS : Int → Nat) (SL : Nat) (xs : Nat → Int32) (K0 : Int) (S0 : Nat) (k : Nat) (i : Nat) (L : ab_F) (st : List ab_V) (w : ab_W) : Prop :=
  ∀ (H : Heap) (locs : List Loc) (ls : Array Slot), ab_HW D cA bnd aS SL xs w H → va_S (fun q => bnd ≤ q) s.heap H locs → lv_has ls (ab_mxl k) (ab_al (ab_ad bnd aS) 0 L) →
    W p l e R s m args below meth c H locs (w.1 - K0).toNat (w.2.1 - S0) Q (F0 m (ab_pc k i) ls (st.map (ab_cv (ab_ad bnd aS))))
theorem ab_al_in {ad : Int → Nat} : ∀ {L : ab_F} {j i : Nat} {v : ab_V}, ab_lk L i = some v → (j + i, ab_cv ad v) ∈ ab_al ad j L := by
  intro L
  induction L with
  | nil => intro j i v h; simp [ab_lk, ab_nth] at h
  | cons q t ih =>
    intro j i v h
    cases i with
    | zero =>
      have h1 : q = some v := h
      subst h1
      exact List.mem_cons_self
    | succ i =>
      have h1 : ab_lk t i = some v := h
      have h2 := ih (j := j + 1) h1
      rw [show j + (i + 1) = j + 1 + i by omega]
      cases q with
      | none => exact h2
      | some u => exact List.mem_cons_of_mem _ h2
theorem ab_al_of {ad : Int → Nat} : ∀ {L : ab_F} {j : Nat} {q : Nat × Value}, q ∈ ab_al ad j L → ∃ (i : Nat) (v : ab_V), q = (j + i, ab_cv ad v) ∧ ab_lk L i = some v := by
  intro L
  induction L with
  | nil => intro j q h; cases h
  | cons a t ih =>
    intro j q h
    cases a with
    | none =>
      obtain ⟨i, v, h1, h2⟩ := ih (j := j + 1) h
      exact ⟨i + 1, v, by rw [h1, show j + 1 + i = j + (i + 1) by omega], h2⟩
    | some u =>
      rcases List.mem_cons.mp h with rfl | h
      · exact ⟨0, u, rfl, rfl⟩
      · obtain ⟨i, v, h1, h2⟩ := ih (j := j + 1) h
        exact ⟨i + 1, v, by rw [h1, show j + 1 + i = j + (i + 1) by omega], h2⟩
theorem ab_loc {ls : Array Slot} {nL : Nat} {L : ab_F} {ad : Int → Nat} (h : lv_has ls nL (ab_al ad 0 L)) {i : Nat} {v : ab_V} (hk : ab_lk L i = some v) : ls[i]? = some (.val (ab_cv ad v)) := by
  have h1 := h.2.2 _ (ab_al_in (ad := ad) (j := 0) hk)
  rw [Nat.zero_add] at h1
  exact h1
theorem ab_lk_set : ∀ {L : ab_F} {i j : Nat} {o : Option ab_V} {v : ab_V}, ab_lk (ab_set L i o) j = some v → (j = i ∧ o = some v) ∨ (j ≠ i ∧ ab_lk L j = some v) := by
  intro L
  induction L with
  | nil => intro i j o v h; simp [ab_set, ab_lk, ab_nth] at h
  | cons a t ih =>
    intro i j o v h
    cases i with
    | zero =>
      cases j with
      | zero => exact Or.inl ⟨rfl, h⟩
      | succ j => exact Or.inr ⟨by omega, h⟩
    | succ i =>
      cases j with
      | zero => exact Or.inr ⟨by omega, h⟩
      | succ j =>
        have h1 : ab_lk (ab_set t i o) j = some v := h
        rcases ih h1 with ⟨h2, h3⟩ | ⟨h2, h3⟩
        · exact Or.inl ⟨by omega, h3⟩
        · exact Or.inr ⟨by omega, h3⟩
theorem ab_lk_kl {L : ab_F} {i j : Nat} {v : ab_V} (h : ab_lk (ab_kl L i) j = some v) : ab_lk L j = some v ∧ (j + 1 = i → v.1 ≠ 1) := by
  unfold ab_kl at h
  cases i with
  | zero => exact ⟨h, fun q => by omega⟩
  | succ n =>
    dsimp only at h
    split at h
    · rcases ab_lk_set h with ⟨-, h2⟩ | ⟨h2, h3⟩
      · cases h2
      · exact ⟨h3, fun q => absurd (by omega) h2⟩
    · rename_i hn
      refine ⟨h, fun q h1 => ?_⟩
      obtain rfl : j = n := by omega
      obtain ⟨t, x⟩ := v
      dsimp only at h1
      subst h1
      exact hn _ h
theorem ab_has_sub {ls : Array Slot} {nL : Nat} {l l' : List (Nat × Value)} (h : lv_has ls nL l) (hs : ∀ q ∈ l', q ∈ l) : lv_has ls nL l' := ⟨h.1, h.2.1, fun q hq => h.2.2 q (hs q hq)⟩
theorem ab_cat_cv (ad : Int → Nat) (v : ab_V) : ((ab_cv ad v).category == 2) = Nat.beq v.1 1 := by
  obtain ⟨t, x⟩ := v
  match t with
  | 0 => rfl
  | 1 => rfl
  | n + 2 => rfl
theorem ab_cat2 (ad : Int → Nat) (v : ab_V) : (ab_cv ad v).category = 2 ↔ v.1 = 1 := by
  obtain ⟨t, x⟩ := v
  match t with
  | 0 => exact ⟨fun h => (by cases h), fun h => (by cases h)⟩
  | 1 => exact ⟨fun _ => rfl, fun _ => rfl⟩
  | n + 2 => exact ⟨fun h => (by cases h), fun h => (by dsimp only at h; omega)⟩
theorem ab_s1_sub {ad : Int → Nat} {L : ab_F} {i : Nat} {v : ab_V} : ∀ q ∈ ab_al ad 0 (ab_s1 L i v), q ∈ (i, ab_cv ad v) :: (ab_al ad 0 L).filter (fun q => !(q.1 == i) && !(q.1 + 1 == i && q.2.category == 2)) := by
  intro q hq
  obtain ⟨j, u, rfl, hj⟩ := ab_al_of hq
  rw [Nat.zero_add]
  rcases ab_lk_set hj with ⟨h1, h2⟩ | ⟨h1, h2⟩
  · cases h2
    rw [h1]
    exact List.mem_cons_self
  · obtain ⟨h3, h4⟩ := ab_lk_kl h2
    refine List.mem_cons_of_mem _ (List.mem_filter.mpr ⟨by have := ab_al_in (ad := ad) (j := 0) h3; rwa [Nat.zero_add] at this, ?_⟩)
    simp only [Bool.and_eq_true, Bool.not_eq_true', beq_eq_false_iff_ne, ne_eq, Bool.and_eq_false_imp, beq_iff_eq]
    exact ⟨h1, fun h5 h6 => h4 h5 ((ab_cat2 ad u).mp h6)⟩
theorem ab_s2_sub {ad : Int → Nat} {L : ab_F} {i : Nat} {v : ab_V} : ∀ q ∈ ab_al ad 0 (ab_s2 L i v), q ∈ (i, ab_cv ad v) :: (ab_al ad 0 L).filter (fun q => !(q.1 == i) && (!(q.1 == i + 1) && !(q.1 + 1 == i && q.2.category == 2))) := by
  intro q hq
  obtain ⟨j, u, rfl, hj⟩ := ab_al_of hq
  rw [Nat.zero_add]
  rcases ab_lk_set hj with ⟨h1, h2⟩ | ⟨h0, h2⟩
  · cases h2
  · rcases ab_lk_set h2 with ⟨h1, h2⟩ | ⟨h1, h2⟩
    · cases h2
      rw [h1]
      exact List.mem_cons_self
    · obtain ⟨h3, h4⟩ := ab_lk_kl h2
      refine List.mem_cons_of_mem _ (List.mem_filter.mpr ⟨by have := ab_al_in (ad := ad) (j := 0) h3; rwa [Nat.zero_add] at this, ?_⟩)
      simp only [Bool.and_eq_true, Bool.not_eq_true', beq_eq_false_iff_ne, ne_eq, Bool.and_eq_false_imp, beq_iff_eq]
      exact ⟨h1, h0, fun h5 h6 => h4 h5 ((ab_cat2 ad u).mp h6)⟩
/-- what the check says of a place -/
theorem ab_dec {i : Nat} {o : ab_O} (h : ab_nth (ab_cod k) i = some o) (hop : o.1 < 72) : ∃ q ∈ ab_alt k i o, decode (ab_bts k) (ab_pc k i) = .ok (q.1, q.2.1) ∧ q.2.2 = true ∧ (ab_jmp o.1 = true ∨ ab_pc k o.2.2.2 = ab_pc k i + q.2.1) := by
  have h1 := ab_ck_ok h
  unfold ab_ck at h1
  rw [h] at h1
  have h2 : Nat.ble 72 o.1 = false := by
    cases hb : Nat.ble 72 o.1 with
    | false => rfl
    | true => exact absurd (Nat.le_of_ble_eq_true hb) (by omega)
  simp only [h2, Bool.false_or, List.any_eq_true] at h1
  obtain ⟨q, hq, h3⟩ := h1
  simp only [Bool.and_eq_true, decide_eq_true_eq, Bool.or_eq_true] at h3
  exact ⟨q, hq, h3.1.1, h3.1.2, h3.2.imp id Nat.eq_of_beq_eq_true⟩
theorem ab_dec1 {i op a nx n : Nat} {b : Int} {I : Instr} {sc : Bool} (h : ab_nth (ab_cod k) i = some (op, a, b, nx)) (hop : op < 72) (hj : ab_jmp op = false) (hal : ab_alt k i (op, a, b, nx) = [(I, n, sc)]) : decode (ab_bts k) (ab_pc k i) = .ok (I, n) ∧ sc = true ∧ ab_pc k nx = ab_pc k i + n := by
  obtain ⟨q, hq, h1, h2, h3⟩ := ab_dec h hop
  rw [hal] at hq
  cases List.mem_singleton.mp hq
  rcases h3 with h3 | h3
  · rw [hj] at h3; cases h3
  · exact ⟨h1, h2, h3⟩

theorem ab_p10 {i a nx : Nat} {b : Int} {L : ab_F} {st : List ab_V} {w : ab_W} {x y : Int} (C : ab_Cx D cA bnd aS SL xs k p R s m args meth c) (ho : ab_nth (ab_cod k) i = some (10, a, b, nx)) (kk : ab_WW p l e R s m args below meth c Q D cA bnd aS SL xs K0 S0 k nx L ((0, x + y) :: st) w) : ab_WW p l e R s m args below meth c Q D cA bnd aS SL xs K0 S0 k i L ((0, y) :: (0, x) :: st) w := by
  intro H locs ls hw hS hl
  obtain ⟨hd, -, hp⟩ := ab_dec1 ho (by decide) rfl rfl
  have kk := kk H locs ls hw hS hl
  rw [hp] at kk
  simp only [List.map_cons, ab_cv, Int32.ofInt_add] at kk ⊢
  exact lv_iadd C.1 C.2.1 hd kk
theorem ab_p11 {i a nx : Nat} {b : Int} {L : ab_F} {st : List ab_V} {w : ab_W} {x y : Int} (C : ab_Cx D cA bnd aS SL xs k p R s m args meth c) (ho : ab_nth (ab_cod k) i = some (11, a, b, nx)) (kk : ab_WW p l e R s m args below meth c Q D cA bnd aS SL xs K0 S0 k nx L ((0, x - y) :: st) w) : ab_WW p l e R s m args below meth c Q D cA bnd aS SL xs K0 S0 k i L ((0, y) :: (0, x) :: st) w := by
  intro H locs ls hw hS hl
  obtain ⟨hd, -, hp⟩ := ab_dec1 ho (by decide) rfl rfl
  have kk := kk H locs ls hw hS hl
  rw [hp] at kk
  simp only [List.map_cons, ab_cv, Int32.ofInt_sub] at kk ⊢
  exact lv_isub C.1 C.2.1 hd kk
theorem ab_p12 {i a nx : Nat} {b : Int} {L : ab_F} {st : List ab_V} {w : ab_W} {x y : Int} (C : ab_Cx D cA bnd aS SL xs k p R s m args meth c) (ho : ab_nth (ab_cod k) i = some (12, a, b, nx)) (kk : ab_WW p l e R s m args below meth c Q D cA bnd aS SL xs K0 S0 k nx L ((0, x * y) :: st) w) : ab_WW p l e R s m args below meth c Q D cA bnd aS SL xs K0 S0 k i L ((0, y) :: (0, x) :: st) w := by
  intro H locs ls hw hS hl
  obtain ⟨hd, -, hp⟩ := ab_dec1 ho (by decide) rfl rfl
  have kk := kk H locs ls hw hS hl
  rw [hp] at kk
  simp only [List.map_cons, ab_cv, Int32.ofInt_mul] at kk ⊢
  exact lv_imul C.1 C.2.1 hd kk
theorem ab_p13 {i a nx : Nat} {b : Int} {L : ab_F} {st : List ab_V} {w : ab_W} {x y : Int} (C : ab_Cx D cA bnd aS SL xs k p R s m args meth c) (ho : ab_nth (ab_cod k) i = some (13, a, b, nx)) (kk : ab_WW p l e R s m args below meth c Q D cA bnd aS SL xs K0 S0 k nx L ((0, ab_and x y) :: st) w) : ab_WW p l e R s m args below meth c Q D cA bnd aS SL xs K0 S0 k i L ((0, y) :: (0, x) :: st) w := by
  intro H locs ls hw hS hl
  obtain ⟨hd, -, hp⟩ := ab_dec1 ho (by decide) rfl rfl
  have kk := kk H locs ls hw hS hl
  rw [hp] at kk
  simp only [List.map_cons, ab_cv, ab_and, Int32.ofInt_toInt] at kk ⊢
  exact lv_iand C.1 C.2.1 hd kk
theorem ab_p14 {i a nx : Nat} {b : Int} {L : ab_F} {st : List ab_V} {w : ab_W} {x y : Int} (C : ab_Cx D cA bnd aS SL xs k p R s m args meth c) (ho : ab_nth (ab_cod k) i = some (14, a, b, nx)) (kk : ab_WW p l e R s m args below meth c Q D cA bnd aS SL xs K0 S0 k nx L ((0, ab_or x y) :: st) w) : ab_WW p l e R s m args below meth c Q D cA bnd aS SL xs K0 S0 k i L ((0, y) :: (0, x) :: st) w := by
  intro H locs ls hw hS hl
  obtain ⟨hd, -, hp⟩ := ab_dec1 ho (by decide) rfl rfl
  have kk := kk H locs ls hw hS hl
  rw [hp] at kk
  simp only [List.map_cons, ab_cv, ab_or, Int32.ofInt_toInt] at kk ⊢
  exact lv_ior C.1 C.2.1 hd kk
theorem ab_p15 {i a nx : Nat} {b : Int} {L : ab_F} {st : List ab_V} {w : ab_W} {x y : Int} (C : ab_Cx D cA bnd aS SL xs k p R s m args meth c) (ho : ab_nth (ab_cod k) i = some (15, a, b, nx)) (kk : ab_WW p l e R s m args below meth c Q D cA bnd aS SL xs K0 S0 k nx L ((0, ab_xor x y) :: st) w) : ab_WW p l e R s m args below meth c Q D cA bnd aS SL xs K0 S0 k i L ((0, y) :: (0, x) :: st) w := by
  intro H locs ls hw hS hl
  obtain ⟨hd, -, hp⟩ := ab_dec1 ho (by decide) rfl rfl
  have kk := kk H locs ls hw hS hl
  rw [hp] at kk
  simp only [List.map_cons, ab_cv, ab_xor, Int32.ofInt_toInt] at kk ⊢
  exact lv_ixor C.1 C.2.1 hd kk
theorem ab_p16 {i a nx : Nat} {b : Int} {L : ab_F} {st : List ab_V} {w : ab_W} {x y : Int} (C : ab_Cx D cA bnd aS SL xs k p R s m args meth c) (ho : ab_nth (ab_cod k) i = some (16, a, b, nx)) (kk : ab_WW p l e R s m args below meth c Q D cA bnd aS SL xs K0 S0 k nx L ((0, ab_shl x y) :: st) w) : ab_WW p l e R s m args below meth c Q D cA bnd aS SL xs K0 S0 k i L ((0, y) :: (0, x) :: st) w := by
  intro H locs ls hw hS hl
  obtain ⟨hd, -, hp⟩ := ab_dec1 ho (by decide) rfl rfl
  have kk := kk H locs ls hw hS hl
  rw [hp] at kk
  simp only [List.map_cons, ab_cv, ab_shl, Int32.ofInt_toInt] at kk ⊢
  exact lv_ishl C.1 C.2.1 hd kk
theorem ab_p17 {i a nx : Nat} {b : Int} {L : ab_F} {st : List ab_V} {w : ab_W} {x y : Int} (C : ab_Cx D cA bnd aS SL xs k p R s m args meth c) (ho : ab_nth (ab_cod k) i = some (17, a, b, nx)) (kk : ab_WW p l e R s m args below meth c Q D cA bnd aS SL xs K0 S0 k nx L ((0, ab_shr x y) :: st) w) : ab_WW p l e R s m args below meth c Q D cA bnd aS SL xs K0 S0 k i L ((0, y) :: (0, x) :: st) w := by
  intro H locs ls hw hS hl
  obtain ⟨hd, -, hp⟩ := ab_dec1 ho (by decide) rfl rfl
  have kk := kk H locs ls hw hS hl
  rw [hp] at kk
  simp only [List.map_cons, ab_cv, ab_shr, Int32.ofInt_toInt] at kk ⊢
  exact lv_ishr C.1 C.2.1 hd kk
theorem ab_p18 {i a nx : Nat} {b : Int} {L : ab_F} {st : List ab_V} {w : ab_W} {x y : Int} (C : ab_Cx D cA bnd aS SL xs k p R s m args meth c) (ho : ab_nth (ab_cod k) i = some (18, a, b, nx)) (kk : ab_WW p l e R s m args below meth c Q D cA bnd aS SL xs K0 S0 k nx L ((0, ab_ush x y) :: st) w) : ab_WW p l e R s m args below meth c Q D cA bnd aS SL xs K0 S0 k i L ((0, y) :: (0, x) :: st) w := by
  intro H locs ls hw hS hl
  obtain ⟨hd, -, hp⟩ := ab_dec1 ho (by decide) rfl rfl
  have kk := kk H locs ls hw hS hl
  rw [hp] at kk
  simp only [List.map_cons, ab_cv, ab_ush, Int32.ofInt_toInt] at kk ⊢
  exact lv_iushr C.1 C.2.1 hd rfl kk
theorem ab_p24 {i a nx : Nat} {b : Int} {L : ab_F} {st : List ab_V} {w : ab_W} {x y : Int} (C : ab_Cx D cA bnd aS SL xs k p R s m args meth c) (ho : ab_nth (ab_cod k) i = some (24, a, b, nx)) (kk : ab_WW p l e R s m args below meth c Q D cA bnd aS SL xs K0 S0 k nx L ((1, ab_lor x y) :: st) w) : ab_WW p l e R s m args below meth c Q D cA bnd aS SL xs K0 S0 k i L ((1, y) :: (1, x) :: st) w := by
  intro H locs ls hw hS hl
  obtain ⟨hd, -, hp⟩ := ab_dec1 ho (by decide) rfl rfl
  have kk := kk H locs ls hw hS hl
  rw [hp] at kk
  simp only [List.map_cons, ab_cv, ab_lor, Int64.ofInt_toInt] at kk ⊢
  exact lv_lor C.1 C.2.1 hd kk
theorem ab_p25 {i a nx : Nat} {b : Int} {L : ab_F} {st : List ab_V} {w : ab_W} {x y : Int} (C : ab_Cx D cA bnd aS SL xs k p R s m args meth c) (ho : ab_nth (ab_cod k) i = some (25, a, b, nx)) (kk : ab_WW p l e R s m args below meth c Q D cA bnd aS SL xs K0 S0 k nx L ((1, ab_lsh x y) :: st) w) : ab_WW p l e R s m args below meth c Q D cA bnd aS SL xs K0 S0 k i L ((0, y) :: (1, x) :: st) w := by
  intro H locs ls hw hS hl
  obtain ⟨hd, -, hp⟩ := ab_dec1 ho (by decide) rfl rfl
  have kk := kk H locs ls hw hS hl
  rw [hp] at kk
  simp only [List.map_cons, ab_cv, ab_lsh, Int64.ofInt_toInt] at kk ⊢
  exact lv_lshl C.1 C.2.1 hd rfl kk
theorem ab_lcmp (x y : Int) : lg_cmp (Int64.ofInt x) (Int64.ofInt y) = Int32.ofInt (ab_cmp x y) := by
  unfold lg_cmp ab_cmp
  have h1 : (Int64.ofInt x < Int64.ofInt y) ↔ wl x < wl y := by rw [Int64.lt_iff_toInt_lt, ab_i64, ab_i64]
  have h2 : (Int64.ofInt x = Int64.ofInt y) ↔ wl x = wl y := by rw [← Int64.toInt_inj, ab_i64, ab_i64]
  have h3 : (Int64.ofInt x > Int64.ofInt y) ↔ wl y < wl x := by rw [gt_iff_lt, Int64.lt_iff_toInt_lt, ab_i64, ab_i64]
  simp only [h2, h3]
  by_cases q1 : wl x < wl y
  · rw [if_neg (by omega), if_neg (by omega), if_pos q1]
    rfl
  · by_cases q2 : wl x = wl y
    · rw [if_neg (by omega), if_pos q2, if_neg q1, if_pos q2]
      rfl
    · rw [if_pos (by omega), if_neg q1, if_neg q2]
      rfl
theorem ab_p26 {i a nx : Nat} {b : Int} {L : ab_F} {st : List ab_V} {w : ab_W} {x y : Int} (C : ab_Cx D cA bnd aS SL xs k p R s m args meth c) (ho : ab_nth (ab_cod k) i = some (26, a, b, nx)) (kk : ab_WW p l e R s m args below meth c Q D cA bnd aS SL xs K0 S0 k nx L ((0, ab_cmp x y) :: st) w) : ab_WW p l e R s m args below meth c Q D cA bnd aS SL xs K0 S0 k i L ((1, y) :: (1, x) :: st) w := by
  intro H locs ls hw hS hl
  obtain ⟨hd, -, hp⟩ := ab_dec1 ho (by decide) rfl rfl
  have kk := kk H locs ls hw hS hl
  rw [hp] at kk
  simp only [List.map_cons, ab_cv, ← ab_lcmp] at kk ⊢
  exact W.lcmp C.1 C.2.1 hd kk
theorem ab_p20 {i a nx : Nat} {b : Int} {L : ab_F} {st : List ab_V} {w : ab_W} {x : Int} (C : ab_Cx D cA bnd aS SL xs k p R s m args meth c) (ho : ab_nth (ab_cod k) i = some (20, a, b, nx)) (kk : ab_WW p l e R s m args below meth c Q D cA bnd aS SL xs K0 S0 k nx L ((0, -x) :: st) w) : ab_WW p l e R s m args below meth c Q D cA bnd aS SL xs K0 S0 k i L ((0, x) :: st) w := by
  intro H locs ls hw hS hl
  obtain ⟨hd, -, hp⟩ := ab_dec1 ho (by decide) rfl rfl
  have kk := kk H locs ls hw hS hl
  rw [hp] at kk
  simp only [List.map_cons, ab_cv, Int32.ofInt_neg] at kk ⊢
  exact lv_ineg C.1 C.2.1 hd kk
theorem ab_p21 {i a nx : Nat} {b : Int} {L : ab_F} {st : List ab_V} {w : ab_W} {x : Int} (C : ab_Cx D cA bnd aS SL xs k p R s m args meth c) (ho : ab_nth (ab_cod k) i = some (21, a, b, nx)) (kk : ab_WW p l e R s m args below meth c Q D cA bnd aS SL xs K0 S0 k nx L ((0, ab_i2b x) :: st) w) : ab_WW p l e R s m args below meth c Q D cA bnd aS SL xs K0 S0 k i L ((0, x) :: st) w := by
  intro H locs ls hw hS hl
  obtain ⟨hd, -, hp⟩ := ab_dec1 ho (by decide) rfl rfl
  have kk := kk H locs ls hw hS hl
  rw [hp] at kk
  simp only [List.map_cons, ab_cv, ab_i2b, Int32.ofInt_toInt] at kk ⊢
  exact lv_i2b C.1 C.2.1 hd rfl kk
theorem ab_to64 (x : Int) : (Int32.ofInt x).toInt64 = Int64.ofInt (wr x) := by
  rw [← Int64.toInt_inj, Int32.toInt_toInt64, ab_i32, ab_i64]
  have := wr_in x
  unfold wl
  omega
theorem ab_p22 {i a nx : Nat} {b : Int} {L : ab_F} {st : List ab_V} {w : ab_W} {x : Int} (C : ab_Cx D cA bnd aS SL xs k p R s m args meth c) (ho : ab_nth (ab_cod k) i = some (22, a, b, nx)) (kk : ab_WW p l e R s m args below meth c Q D cA bnd aS SL xs K0 S0 k nx L ((1, wr x) :: st) w) : ab_WW p l e R s m args below meth c Q D cA bnd aS SL xs K0 S0 k i L ((0, x) :: st) w := by
  intro H locs ls hw hS hl
  obtain ⟨hd, -, hp⟩ := ab_dec1 ho (by decide) rfl rfl
  have kk := kk H locs ls hw hS hl
  rw [hp] at kk
  simp only [List.map_cons, ab_cv] at kk ⊢
  exact lv_i2l C.1 C.2.1 hd (ab_to64 x) kk
theorem ab_p23 {i a nx : Nat} {b : Int} {L : ab_F} {st : List ab_V} {w : ab_W} {x : Int} (C : ab_Cx D cA bnd aS SL xs k p R s m args meth c) (ho : ab_nth (ab_cod k) i = some (23, a, b, nx)) (kk : ab_WW p l e R s m args below meth c Q D cA bnd aS SL xs K0 S0 k nx L ((0, x) :: st) w) : ab_WW p l e R s m args below meth c Q D cA bnd aS SL xs K0 S0 k i L ((1, x) :: st) w := by
  intro H locs ls hw hS hl
  obtain ⟨hd, -, hp⟩ := ab_dec1 ho (by decide) rfl rfl
  have kk := kk H locs ls hw hS hl
  rw [hp] at kk
  simp only [List.map_cons, ab_cv] at kk ⊢
  exact lv_l2i C.1 C.2.1 hd Int64.toInt32_ofInt kk
theorem ab_p3 {i a nx : Nat} {b : Int} {L : ab_F} {st : List ab_V} {w : ab_W} {x : Int} (C : ab_Cx D cA bnd aS SL xs k p R s m args meth c) (ho : ab_nth (ab_cod k) i = some (3, a, b, nx)) (hk : ab_lk L a = some (0, x)) (kk : ab_WW p l e R s m args below meth c Q D cA bnd aS SL xs K0 S0 k nx L ((0, x) :: st) w) : ab_WW p l e R s m args below meth c Q D cA bnd aS SL xs K0 S0 k i L st w := by
  intro H locs ls hw hS hl
  have hv := ab_loc hl hk
  have kk := kk H locs ls hw hS hl
  obtain ⟨q, hq, hd, hsc, hp⟩ := ab_dec ho (show 3 < 72 by decide)
  have hp := hp.resolve_left (show ¬ ab_jmp 3 = true by decide)
  have hq : q ∈ [(Instr.iload a, 2, true), (Instr.iload_n (Fin.ofNat 4 a), 1, Nat.blt a 4)] := hq
  simp only [List.mem_cons, List.not_mem_nil, or_false] at hq
  simp only [List.map_cons, ab_cv] at kk hv
  rcases hq with rfl | rfl
  · rw [show ab_pc k nx = ab_pc k i + 2 from hp] at kk
    exact lv_iload C.1 C.2.1 hd hv kk
  · rw [show ab_pc k nx = ab_pc k i + 1 from hp] at kk
    have ha : a < 4 := ab_blt hsc
    exact lv_iload_n C.1 C.2.1 hd (by show a % 4 = a; omega) hv kk
theorem ab_p4 {i a nx : Nat} {b : Int} {L : ab_F} {st : List ab_V} {w : ab_W} {x : Int} (C : ab_Cx D cA bnd aS SL xs k p R s m args meth c) (ho : ab_nth (ab_cod k) i = some (4, a, b, nx)) (hk : ab_lk L a = some (1, x)) (kk : ab_WW p l e R s m args below meth c Q D cA bnd aS SL xs K0 S0 k nx L ((1, x) :: st) w) : ab_WW p l e R s m args below meth c Q D cA bnd aS SL xs K0 S0 k i L st w := by
  intro H locs ls hw hS hl
  have hv := ab_loc hl hk
  have kk := kk H locs ls hw hS hl
  obtain ⟨q, hq, hd, hsc, hp⟩ := ab_dec ho (show 4 < 72 by decide)
  have hp := hp.resolve_left (show ¬ ab_jmp 4 = true by decide)
  have hq : q ∈ [(Instr.lload a, 2, true), (Instr.lload_n (Fin.ofNat 4 a), 1, Nat.blt a 4)] := hq
  simp only [List.mem_cons, List.not_mem_nil, or_false] at hq
  simp only [List.map_cons, ab_cv] at kk hv
  rcases hq with rfl | rfl
  · rw [show ab_pc k nx = ab_pc k i + 2 from hp] at kk
    exact lv_lload C.1 C.2.1 hd hv kk
  · rw [show ab_pc k nx = ab_pc k i + 1 from hp] at kk
    have ha : a < 4 := ab_blt hsc
    exact lv_lload_n C.1 C.2.1 hd (by show a % 4 = a; omega) hv kk
theorem ab_p5 {i a nx : Nat} {b : Int} {L : ab_F} {st : List ab_V} {w : ab_W} {x : Int} (C : ab_Cx D cA bnd aS SL xs k p R s m args meth c) (ho : ab_nth (ab_cod k) i = some (5, a, b, nx)) (hk : ab_lk L a = some (2, x)) (kk : ab_WW p l e R s m args below meth c Q D cA bnd aS SL xs K0 S0 k nx L ((2, x) :: st) w) : ab_WW p l e R s m args below meth c Q D cA bnd aS SL xs K0 S0 k i L st w := by
  intro H locs ls hw hS hl
  have hv := ab_loc hl hk
  have kk := kk H locs ls hw hS hl
  obtain ⟨q, hq, hd, hsc, hp⟩ := ab_dec ho (show 5 < 72 by decide)
  have hp := hp.resolve_left (show ¬ ab_jmp 5 = true by decide)
  have hq : q ∈ [(Instr.aload a, 2, true), (Instr.aload_n (Fin.ofNat 4 a), 1, Nat.blt a 4)] := hq
  simp only [List.mem_cons, List.not_mem_nil, or_false] at hq
  simp only [List.map_cons, ab_cv] at kk hv
  rcases hq with rfl | rfl
  · rw [show ab_pc k nx = ab_pc k i + 2 from hp] at kk
    exact lv_aload C.1 C.2.1 hd hv kk
  · rw [show ab_pc k nx = ab_pc k i + 1 from hp] at kk
    have ha : a < 4 := ab_blt hsc
    exact lv_aload_n C.1 C.2.1 hd (by show a % 4 = a; omega) hv kk
theorem ab_p6 {i a nx : Nat} {b : Int} {L : ab_F} {st : List ab_V} {w : ab_W} {x : Int} (C : ab_Cx D cA bnd aS SL xs k p R s m args meth c) (ho : ab_nth (ab_cod k) i = some (6, a, b, nx)) (kk : ab_WW p l e R s m args below meth c Q D cA bnd aS SL xs K0 S0 k nx (ab_s1 L a (0, x)) st w) : ab_WW p l e R s m args below meth c Q D cA bnd aS SL xs K0 S0 k i L ((0, x) :: st) w := by
  intro H locs ls hw hS hl
  obtain ⟨q, hq, hd, hsc, hp⟩ := ab_dec ho (show 6 < 72 by decide)
  have hp := hp.resolve_left (show ¬ ab_jmp 6 = true by decide)
  have hq : q ∈ [(Instr.istore a, 2, Nat.blt a (ab_mxl k)), (Instr.istore_n (Fin.ofNat 4 a), 1, Nat.blt a 4 && Nat.blt a (ab_mxl k))] := hq
  simp only [List.mem_cons, List.not_mem_nil, or_false] at hq
  rcases hq with rfl | rfl
  · have ha : a < ab_mxl k := ab_blt hsc
    refine lv_istore C.1 C.2.1 hd hl ha rfl (fun ls2 hl2 => ?_)
    have hl2 := ab_has_sub hl2 (ab_s1_sub (ad := ab_ad bnd aS) (L := L) (i := a) (v := (0, x)))
    have kk := kk H locs ls2 hw hS hl2
    rwa [show ab_pc k nx = ab_pc k i + 2 from hp] at kk
  · have ha : a < 4 ∧ a < ab_mxl k := by
      have hsc : (Nat.blt a 4 && Nat.blt a (ab_mxl k)) = true := hsc
      simp only [Bool.and_eq_true] at hsc
      exact ⟨ab_blt hsc.1, ab_blt hsc.2⟩
    refine lv_istore_n C.1 C.2.1 hd (i := a) (by show a % 4 = a; omega) hl ha.2 rfl (fun ls2 hl2 => ?_)
    have hl2 := ab_has_sub hl2 (ab_s1_sub (ad := ab_ad bnd aS) (L := L) (i := a) (v := (0, x)))
    have kk := kk H locs ls2 hw hS hl2
    rwa [show ab_pc k nx = ab_pc k i + 1 from hp] at kk
theorem ab_p7 {i a nx : Nat} {b : Int} {L : ab_F} {st : List ab_V} {w : ab_W} {x : Int} (C : ab_Cx D cA bnd aS SL xs k p R s m args meth c) (ho : ab_nth (ab_cod k) i = some (7, a, b, nx)) (kk : ab_WW p l e R s m args below meth c Q D cA bnd aS SL xs K0 S0 k nx (ab_s2 L a (1, x)) st w) : ab_WW p l e R s m args below meth c Q D cA bnd aS SL xs K0 S0 k i L ((1, x) :: st) w := by
  intro H locs ls hw hS hl
  obtain ⟨q, hq, hd, hsc, hp⟩ := ab_dec ho (show 7 < 72 by decide)
  have hp := hp.resolve_left (show ¬ ab_jmp 7 = true by decide)
  have hq : q ∈ [(Instr.lstore a, 2, Nat.blt (a + 1) (ab_mxl k)), (Instr.lstore_n (Fin.ofNat 4 a), 1, Nat.blt a 4 && Nat.blt (a + 1) (ab_mxl k))] := hq
  simp only [List.mem_cons, List.not_mem_nil, or_false] at hq
  rcases hq with rfl | rfl
  · have ha : (a + 1) < ab_mxl k := ab_blt hsc
    refine lv_lstore C.1 C.2.1 hd hl ha rfl (fun ls2 hl2 => ?_)
    have hl2 := ab_has_sub hl2 (ab_s2_sub (ad := ab_ad bnd aS) (L := L) (i := a) (v := (1, x)))
    have kk := kk H locs ls2 hw hS hl2
    rwa [show ab_pc k nx = ab_pc k i + 2 from hp] at kk
  · have ha : a < 4 ∧ (a + 1) < ab_mxl k := by
      have hsc : (Nat.blt a 4 && Nat.blt (a + 1) (ab_mxl k)) = true := hsc
      simp only [Bool.and_eq_true] at hsc
      exact ⟨ab_blt hsc.1, ab_blt hsc.2⟩
    refine lv_lstore_n C.1 C.2.1 hd (i := a) (by show a % 4 = a; omega) hl ha.2 rfl (fun ls2 hl2 => ?_)
    have hl2 := ab_has_sub hl2 (ab_s2_sub (ad := ab_ad bnd aS) (L := L) (i := a) (v := (1, x)))
    have kk := kk H locs ls2 hw hS hl2
    rwa [show ab_pc k nx = ab_pc k i + 1 from hp] at kk
theorem ab_p8 {i a nx : Nat} {b : Int} {L : ab_F} {st : List ab_V} {w : ab_W} {x : Int} (C : ab_Cx D cA bnd aS SL xs k p R s m args meth c) (ho : ab_nth (ab_cod k) i = some (8, a, b, nx)) (kk : ab_WW p l e R s m args below meth c Q D cA bnd aS SL xs K0 S0 k nx (ab_s1 L a (2, x)) st w) : ab_WW p l e R s m args below meth c Q D cA bnd aS SL xs K0 S0 k i L ((2, x) :: st) w := by
  intro H locs ls hw hS hl
  obtain ⟨q, hq, hd, hsc, hp⟩ := ab_dec ho (show 8 < 72 by decide)
  have hp := hp.resolve_left (show ¬ ab_jmp 8 = true by decide)
  have hq : q ∈ [(Instr.astore a, 2, Nat.blt a (ab_mxl k)), (Instr.astore_n (Fin.ofNat 4 a), 1, Nat.blt a 4 && Nat.blt a (ab_mxl k))] := hq
  simp only [List.mem_cons, List.not_mem_nil, or_false] at hq
  rcases hq with rfl | rfl
  · have ha : a < ab_mxl k := ab_blt hsc
    refine lv_astore C.1 C.2.1 hd hl ha rfl (fun ls2 hl2 => ?_)
    have hl2 := ab_has_sub hl2 (ab_s1_sub (ad := ab_ad bnd aS) (L := L) (i := a) (v := (2, x)))
    have kk := kk H locs ls2 hw hS hl2
    rwa [show ab_pc k nx = ab_pc k i + 2 from hp] at kk
  · have ha : a < 4 ∧ a < ab_mxl k := by
      have hsc : (Nat.blt a 4 && Nat.blt a (ab_mxl k)) = true := hsc
      simp only [Bool.and_eq_true] at hsc
      exact ⟨ab_blt hsc.1, ab_blt hsc.2⟩
    refine lv_astore_n C.1 C.2.1 hd (i := a) (by show a % 4 = a; omega) hl ha.2 rfl (fun ls2 hl2 => ?_)
    have hl2 := ab_has_sub hl2 (ab_s1_sub (ad := ab_ad bnd aS) (L := L) (i := a) (v := (2, x)))
    have kk := kk H locs ls2 hw hS hl2
    rwa [show ab_pc k nx = ab_pc k i + 1 from hp] at kk
theorem ab_p9 {i a nx : Nat} {b : Int} {L : ab_F} {st : List ab_V} {w : ab_W} {x : Int} (C : ab_Cx D cA bnd aS SL xs k p R s m args meth c) (ho : ab_nth (ab_cod k) i = some (9, a, b, nx)) (hk : ab_lk L a = some (0, x)) (kk : ab_WW p l e R s m args below meth c Q D cA bnd aS SL xs K0 S0 k nx (ab_s1 L a (0, x + b)) st w) : ab_WW p l e R s m args below meth c Q D cA bnd aS SL xs K0 S0 k i L st w := by
  intro H locs ls hw hS hl
  obtain ⟨hd, hsc, hp⟩ := ab_dec1 ho (by decide) rfl rfl
  have ha : a < ab_mxl k := ab_blt hsc
  obtain ⟨n, hn⟩ := List.getElem?_of_mem (ab_al_in (ad := ab_ad bnd aS) (j := 0) hk)
  rw [Nat.zero_add] at hn
  refine lv_iinc C.1 C.2.1 hd hl (k := n) (x := Int32.ofInt x) (v := Int32.ofInt (x + b)) hn (by rw [Int32.ofInt_add]) ha rfl (fun ls2 hl2 => ?_)
  have hl2 := ab_has_sub hl2 (ab_s1_sub (ad := ab_ad bnd aS) (L := L) (i := a) (v := (0, x + b)))
  have kk := kk H locs ls2 hw hS hl2
  rwa [hp] at kk
theorem ab_p2 {i a nx : Nat} {b : Int} {L : ab_F} {st : List ab_V} {w : ab_W} (C : ab_Cx D cA bnd aS SL xs k p R s m args meth c) (ho : ab_nth (ab_cod k) i = some (2, a, b, nx)) (kk : ab_WW p l e R s m args below meth c Q D cA bnd aS SL xs K0 S0 k nx L ((0, b) :: st) w) : ab_WW p l e R s m args below meth c Q D cA bnd aS SL xs K0 S0 k i L st w := by
  intro H locs ls hw hS hl
  have kk := kk H locs ls hw hS hl
  obtain ⟨q, hq, hd, hsc, hp⟩ := ab_dec ho (show 2 < 72 by decide)
  have hp := hp.resolve_left (show ¬ ab_jmp 2 = true by decide)
  have hq : q ∈ [(Instr.iconst b, 1, true), (.bipush b, 2, decide ((Int8.ofInt b).toInt32 = Int32.ofInt b)), (.sipush b, 3, decide ((Int16.ofInt b).toInt32 = Int32.ofInt b)), (.ldc (ab_ax k i).2.1, 2, Nat.beq (ab_ax k i).2.2.2 9), (.ldc_w (ab_ax k i).2.1, 3, Nat.beq (ab_ax k i).2.2.2 9)] := hq
  have hword : Nat.beq (ab_ax k i).2.2.2 9 = true → (Cond.constant (ab_own k) (ab_ax k i).2.1 (Int32.ofInt b)) ∈ ab_TB := by
    intro h9
    have h9 := Nat.eq_of_beq_eq_true h9
    have hm : ((ab_ax k i).2.2.1, Cond.constant (ab_own k) (ab_ax k i).2.1 (Int32.ofInt b)) ∈ ab_nw k i (2, a, b, nx) := by
      show _ ∈ (match (ab_ax k i).2.2.2 with
        | 9 => [((ab_ax k i).2.2.1, Cond.constant (ab_own k) (ab_ax k i).2.1 (Int32.ofInt b))]
        | _ => [])
      rw [h9]
      exact List.mem_singleton.mpr rfl
    rcases ab_nw_ok ho hm with h | h
    · exact h.2
    · exact absurd h.1 (by simp [ab_isN])
  simp only [List.mem_cons, List.not_mem_nil, or_false] at hq
  simp only [List.map_cons, ab_cv] at kk
  rcases hq with rfl | rfl | rfl | rfl | rfl
  · rw [show ab_pc k nx = ab_pc k i + 1 from hp] at kk
    exact lv_iconst C.1 C.2.1 hd rfl kk
  · rw [show ab_pc k nx = ab_pc k i + 2 from hp] at kk
    exact lv_bipush C.1 C.2.1 hd (of_decide_eq_true hsc) kk
  · rw [show ab_pc k nx = ab_pc k i + 3 from hp] at kk
    exact lv_sipush C.1 C.2.1 hd (of_decide_eq_true hsc) kk
  · rw [show ab_pc k nx = ab_pc k i + 2 from hp] at kk
    exact W.ldc C.1 C.2.1 C.2.2.2.1 (C.2.2.2.2.1 _ (hword hsc)) rfl hd kk
  · rw [show ab_pc k nx = ab_pc k i + 3 from hp] at kk
    exact lv_ldcw C.1 C.2.1 C.2.2.2.1 (C.2.2.2.2.1 _ (hword hsc)) hd kk
theorem ab_p27 {i a nx : Nat} {b : Int} {L : ab_F} {st : List ab_V} {w : ab_W} (C : ab_Cx D cA bnd aS SL xs k p R s m args meth c) (ho : ab_nth (ab_cod k) i = some (27, a, b, nx)) (kk : ab_WW p l e R s m args below meth c Q D cA bnd aS SL xs K0 S0 k nx L ((1, b) :: st) w) : ab_WW p l e R s m args below meth c Q D cA bnd aS SL xs K0 S0 k i L st w := by
  intro H locs ls hw hS hl
  have kk := kk H locs ls hw hS hl
  obtain ⟨hd, hsc, hp⟩ := ab_dec1 ho (by decide) rfl rfl
  have hb : b = 0 := of_decide_eq_true hsc
  subst hb
  rw [hp] at kk
  exact lv_lconst C.1 C.2.1 hd rfl kk
theorem ab_p28 {i a nx : Nat} {b : Int} {L : ab_F} {st : List ab_V} {w : ab_W} {v : ab_V} (hv : v.1 = 0 ∨ v.1 = 2) (C : ab_Cx D cA bnd aS SL xs k p R s m args meth c) (ho : ab_nth (ab_cod k) i = some (28, a, b, nx)) (kk : ab_WW p l e R s m args below meth c Q D cA bnd aS SL xs K0 S0 k nx L (v :: v :: st) w) : ab_WW p l e R s m args below meth c Q D cA bnd aS SL xs K0 S0 k i L (v :: st) w := by
  intro H locs ls hw hS hl
  have kk := kk H locs ls hw hS hl
  obtain ⟨hd, -, hp⟩ := ab_dec1 ho (by decide) rfl rfl
  rw [hp] at kk
  obtain ⟨t, x⟩ := v
  rcases hv with hv | hv <;> (dsimp only at hv; subst hv; exact lv_dup C.1 C.2.1 hd rfl kk)
theorem ab_p29 {i a nx : Nat} {b : Int} {L : ab_F} {st : List ab_V} {w : ab_W} {x y : Int} (C : ab_Cx D cA bnd aS SL xs k p R s m args meth c) (ho : ab_nth (ab_cod k) i = some (29, a, b, nx)) (kk : ab_WW p l e R s m args below meth c Q D cA bnd aS SL xs K0 S0 k nx L ((0, y) :: (2, x) :: (0, y) :: (2, x) :: st) w) : ab_WW p l e R s m args below meth c Q D cA bnd aS SL xs K0 S0 k i L ((0, y) :: (2, x) :: st) w := by
  intro H locs ls hw hS hl
  have kk := kk H locs ls hw hS hl
  obtain ⟨hd, -, hp⟩ := ab_dec1 ho (by decide) rfl rfl
  rw [hp] at kk
  exact lv_dup2_11 C.1 C.2.1 hd rfl rfl kk
theorem ab_p30 {i a nx : Nat} {b : Int} {L : ab_F} {st : List ab_V} {w : ab_W} {x : Int} (C : ab_Cx D cA bnd aS SL xs k p R s m args meth c) (ho : ab_nth (ab_cod k) i = some (30, a, b, nx)) (kk : ab_WW p l e R s m args below meth c Q D cA bnd aS SL xs K0 S0 k nx L st w) : ab_WW p l e R s m args below meth c Q D cA bnd aS SL xs K0 S0 k i L ((0, x) :: st) w := by
  intro H locs ls hw hS hl
  have kk := kk H locs ls hw hS hl
  obtain ⟨hd, -, hp⟩ := ab_dec1 ho (by decide) rfl rfl
  rw [hp] at kk
  exact lv_pop C.1 C.2.1 hd rfl kk
theorem ab_p31 {i a nx : Nat} {b : Int} {L : ab_F} {st : List ab_V} {w : ab_W} (C : ab_Cx D cA bnd aS SL xs k p R s m args meth c) (ho : ab_nth (ab_cod k) i = some (31, a, b, nx)) (kk : ab_WW p l e R s m args below meth c Q D cA bnd aS SL xs K0 S0 k a L st w) : ab_WW p l e R s m args below meth c Q D cA bnd aS SL xs K0 S0 k i L st w := by
  intro H locs ls hw hS hl
  have kk := kk H locs ls hw hS hl
  obtain ⟨q, hq, hd, hsc, -⟩ := ab_dec ho (show 31 < 72 by decide)
  have hq : q ∈ [(Instr.goto ((ab_pc k a : Int) - (ab_pc k i : Int)), 3, true)] := hq
  cases List.mem_singleton.mp hq
  exact lv_goto C.1 C.2.1 hd (by omega) kk
end AbPure
