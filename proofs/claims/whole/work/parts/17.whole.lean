/-! THE LAW'S ENTRY: what the Statement gives of the start. -/
theorem ws_in {pl : Nat} {w : Cond} (h : ab_gw pl = some w) : w ∈ lw_tbl := ab_pce_in (ab_nth_mem h)
def ws_nm : List String := ["ACCOUNT", "LIFT", "TALLY", "SNAP", "SEED", "VOID", "OPEN", "PUT", "TAKE", "LOCK", "FREE", "CLOSE", "MOVE", "SET", "MUL", "ADD", "COPY"]
def ws_t (j : Nat) : Term := .static "EventLedger$Word" ((ab_nth ws_nm j).getD "") "LEventLedger$Word;"
def ws_W : Term := .static "EventLedger" "WORDS" "[LEventLedger$Word;"
def ws_M : Term := .static "EventLedger$1" "$SwitchMap$EventLedger$Word" "[I"
def ws_S : Term := .string "EventLedgerModel" 135
def ws_V : Term := .field ws_S "java/lang/String" "value" "[B"
def ws_fl : List Cond := flatC (Jvm.Cond.and given_1 narrow_1)
/-- the premises at these places of the flat list -/
theorem ws_c {args : Array Value} {s : State} (hf : ∀ c ∈ ws_fl, c.before args s = true) (f : Nat → Cond) (ps : List Nat) (n : Nat) (hc : (List.range n).all (fun j => decide (ab_nth ws_fl ((ab_nth ps j).getD 0) = some (f j))) = true) : ∀ j : Nat, j < n → (f j).before args s = true := fun j hj => hf _ (ab_nth_mem (of_decide_eq_true (List.all_eq_true.mp hc j (List.mem_range.mpr hj))))
def ws_p1 : List Nat := [4, 58, 64, 71, 79, 88, 98, 109, 121, 134, 148, 163, 179, 196, 214, 233, 253]
def ws_p2 : List Nat := [5, 59, 65, 72, 80, 89, 99, 110, 122, 135, 149, 164, 180, 197, 215, 234, 254]
def ws_p3 : List Nat := [6, 60, 66, 73, 81, 90, 100, 111, 123, 136, 150, 165, 181, 198, 216, 235, 255]
def ws_p4 : List Nat := [7, 61, 67, 74, 82, 91, 101, 112, 124, 137, 151, 166, 182, 199, 217, 236, 256]
def ws_p5 : List Nat := [8, 62, 68, 75, 83, 92, 102, 113, 125, 138, 152, 167, 183, 200, 218, 237, 257]
def ws_p6 : List Nat := [14, 15, 16, 17, 18, 19, 20, 21, 22, 23, 24, 25, 26, 27, 28, 29, 30]
def ws_p7 : List Nat := [34, 35, 36, 37, 38, 39, 40, 41, 42, 43, 44, 45, 46, 47, 48, 49, 50]
def ws_p8 : List Nat := [336, 337, 338, 339, 340, 341, 342, 343, 344, 345, 346, 347, 348, 349, 350, 351, 352, 353, 354, 355, 356, 357, 358, 359, 360, 361, 362, 363, 364, 365, 366, 367, 368, 369, 370, 371, 372, 373, 374, 375, 376, 377, 378, 379, 380, 381, 382, 383, 384, 385, 386, 387, 388, 389, 390, 391, 392, 393, 394, 395, 396, 397, 398, 399, 400, 401, 402, 403, 404, 405, 406, 407, 408, 409, 410, 411, 412, 413, 414, 415, 416, 417, 418, 419, 420, 421]
def ws_p9 : List Nat := [11, 12, 32, 33, 332, 333, 334, 335, 53, 54, 51, 52, 298, 315, 285]
theorem ws_c1 : (List.range 17).all (fun j => decide (ab_nth ws_fl ((ab_nth ws_p1 j).getD 0) = some (Cond.exactly (ws_t j) "EventLedger$Word"))) = true := by decide +kernel
theorem ws_c2 : (List.range 17).all (fun j => decide (ab_nth ws_fl ((ab_nth ws_p2 j).getD 0) = some (Cond.eq (.field (ws_t j) "java/lang/Enum" "ordinal" "I") (.int (Int32.ofInt j))))) = true := by decide +kernel
theorem ws_c3 : (List.range 17).all (fun j => decide (ab_nth ws_fl ((ab_nth ws_p3 j).getD 0) = some (Cond.eq (.field (ws_t j) "EventLedger$Word" "code" "J") (.long (Int64.ofInt ((ab_nth ab_wt j).getD (0, 0, 0)).1))))) = true := by decide +kernel
theorem ws_c4 : (List.range 17).all (fun j => decide (ab_nth ws_fl ((ab_nth ws_p4 j).getD 0) = some (Cond.eq (.field (ws_t j) "EventLedger$Word" "kind" "I") (.int (Int32.ofInt ((ab_nth ab_wt j).getD (0, 0, 0)).2.1))))) = true := by decide +kernel
theorem ws_c5 : (List.range 17).all (fun j => decide (ab_nth ws_fl ((ab_nth ws_p5 j).getD 0) = some (Cond.eq (.field (ws_t j) "EventLedger$Word" "op" "I") (.int (Int32.ofInt ((ab_nth ab_wt j).getD (0, 0, 0)).2.2))))) = true := by decide +kernel
theorem ws_c6 : (List.range 17).all (fun j => decide (ab_nth ws_fl ((ab_nth ws_p6 j).getD 0) = some (Cond.eq (.elem ws_W (.int (Int32.ofNat j))) (ws_t j)))) = true := by decide +kernel
theorem ws_c7 : (List.range 17).all (fun j => decide (ab_nth ws_fl ((ab_nth ws_p7 j).getD 0) = some (Cond.eq (.elem ws_M (.int (Int32.ofNat j))) (.int (Int32.ofInt ((ab_nth ab_swm j).getD 0)))))) = true := by decide +kernel
theorem ws_c8 : (List.range 86).all (fun j => decide (ab_nth ws_fl ((ab_nth ws_p8 j).getD 0) = some (Cond.eq (.elem ws_V (.int (Int32.ofNat j))) (.int ((([ab_str.map Int32.ofInt] : List (List Int32)).getD 0 []).getD j 0))))) = true := by decide +kernel
def ws_one : List Cond := [.arrayOf ws_W (.object "EventLedger$Word"), .eq (.length ws_W) (.int (Int32.ofNat 17)), .arrayOf ws_M .int, .eq (.length ws_M) (.int (Int32.ofNat 17)), .exactly ws_S "java/lang/String", .eq (.field ws_S "java/lang/String" "coder" "B") (.int 0), .arrayOf ws_V .byte, .eq (.length ws_V) (.int (Int32.ofNat 86)), .eq (.static "java/lang/String" "COMPACT_STRINGS" "Z") (.int 1), .isRef (.static "jdk/internal/util/Preconditions" "SIOOBE_FORMATTER" "Ljava/util/function/BiFunction;"), .isRef (.static Bundle.tN "UNASSIGNED_STACK" Bundle.steD), .isRef (.static Bundle.tN "SUPPRESSED_SENTINEL" Bundle.listD), .exactly (.string "EventLedger" 178) "java/lang/String", .exactly (.string "EventLedger" 207) "java/lang/String", .not (.castable xc_E2 xc_E1)]
theorem ws_c9 : (List.range 15).all (fun j => decide (ab_nth ws_fl ((ab_nth ws_p9 j).getD 0) = ab_nth ws_one j)) = true := by decide +kernel
theorem ws_o {args : Array Value} {s : State} (hf : ∀ c ∈ ws_fl, c.before args s = true) {w : Cond} (n : Nat) (h : ab_nth ws_one n = some w) : w.before args s = true := by
  have h1 : n < 15 := ab_nth_lt h
  have h2 := of_decide_eq_true (List.all_eq_true.mp ws_c9 n (List.mem_range.mpr h1))
  rw [h] at h2
  exact hf _ (ab_nth_mem h2)
theorem va_T_ext {ty : FieldType} {t N : Nat} {f g : Nat → Value} {A : Nat → Prop} {U : State} {H : Heap} (h : va_T ty t N f A U H) (he : ∀ j : Nat, j < N → f j = g j) : va_T ty t N g A U H := by
  obtain ⟨cell, h1, h2, h3, h4, h5, h6, h7⟩ := h
  exact ⟨cell, h1, h2, h3, h4, h5, fun j hj => by rw [← he j hj]; exact h6 j hj, h7⟩
theorem ws_tx0 : ∃ tx : String, ab_gw 5043 = some (.stringRef "EventLedgerModel" 135 tx) := ⟨_, rfl⟩
theorem ws_tx1 : ∃ tx : String, ab_gw 4008 = some (.stringRef "EventLedger" 178 tx) := ⟨_, rfl⟩
theorem ws_tx2 : ∃ tx : String, ab_gw 4043 = some (.stringRef "EventLedger" 207 tx) := ⟨_, rfl⟩
theorem ws_str {args : Array Value} {s : State} (hts : ∀ w ∈ lw_tbl, w.before args s = true) {own tx : String} {k pl : Nat} (h : ab_gw pl = some (.stringRef own k tx)) (hex : (Cond.exactly (.string own k) "java/lang/String").before args s = true) : ∃ (t : String) (a : Nat), vk_R own k t a s := by
  obtain ⟨a, c, cA, kA, q1, -⟩ := Cond.exactly_spec (args := args) (first := s) (o := none) (s := s) (idx := []) (t := .string own k) (cls := "java/lang/String") hex
  exact ⟨tx, a, vk_R.of (hts _ (ws_in h)) q1⟩
theorem ws_xV {args : Array Value} {s : State} (hf : ∀ c ∈ ws_fl, c.before args s = true) (hts : ∀ w ∈ lw_tbl, w.before args s = true) : xc_V s := by
  obtain ⟨t1, h1⟩ := ws_tx1
  obtain ⟨t2, h2⟩ := ws_tx2
  refine ⟨ws_str hts h1 (ws_o hf 12 rfl), ws_str hts h2 (ws_o hf 13 rfl), va_Nc.of (ws_o hf 14 rfl), fun z hz => ?_⟩
  simp only [xc_bad, List.mem_cons, List.not_mem_nil, or_false] at hz
  rcases hz with rfl | rfl | rfl | rfl | rfl
  · exact va_Nw.of rfl (hts _ (ws_in (pl := 3210) rfl))
  · exact va_Nw.of rfl (hts _ (ws_in (pl := 4036) rfl))
  · exact va_Nw.of rfl (hts _ (ws_in (pl := 3212) rfl))
  · exact va_Nw.of rfl (hts _ (ws_in (pl := 3214) rfl))
  · exact va_Nw.of rfl (hts _ (ws_in (pl := 3216) rfl))
theorem ws_xF {args : Array Value} {s : State} (hf : ∀ c ∈ ws_fl, c.before args s = true) (hts : ∀ w ∈ lw_tbl, w.before args s = true) : xc_F s.heap.size s s.heap := by
  have hA : ∀ a : Nat, a < s.heap.size → ¬ s.heap.size ≤ a := fun a h => by omega
  exact ⟨vx_Zqof (hts _ (ws_in (pl := 3235) rfl)) (hts _ (ws_in (pl := 20) rfl)) (ws_o hf 10 rfl) hA, vx_Zqof (hts _ (ws_in (pl := 3237) rfl)) (hts _ (ws_in (pl := 20) rfl)) (ws_o hf 11 rfl) hA⟩
/-- the words, the switch's table, the text: where they lie -/
theorem ws_SF {args : Array Value} {s : State} (hf : ∀ c ∈ ws_fl, c.before args s = true) (hts : ∀ w ∈ lw_tbl, w.before args s = true) {b L : Nat} {xs : Nat → Int32} (hX : va_X b L xs s s.heap) (hb : b < s.heap.size) : ∃ aS : Int → Nat, ab_SF s.heap.size aS L xs s s.heap ∧ ab_SR aS s ∧ aS (-2) = b := by
  have hA : ∀ a : Nat, a < s.heap.size → ¬ s.heap.size ≤ a := fun a h => by omega
  have h1 := ws_c hf _ _ 17 ws_c1
  have h2 := ws_c hf _ _ 17 ws_c2
  have h3 := ws_c hf _ _ 17 ws_c3
  have h4 := ws_c hf _ _ 17 ws_c4
  have h5 := ws_c hf _ _ 17 ws_c5
  have h6 := ws_c hf _ _ 17 ws_c6
  have h7 := ws_c hf _ _ 17 ws_c7
  have h8 := ws_c hf _ _ 86 ws_c8
  have h0 : ∀ j : Nat, ∃ a : Nat, j < 17 → (ws_t j).eval args s none [] s = some (.ref a) := by
    intro j
    by_cases hj : j < 17
    · obtain ⟨a, c, cA, kA, q1, -⟩ := Cond.exactly_spec (args := args) (first := s) (o := none) (s := s) (idx := []) (t := ws_t j) (cls := "EventLedger$Word") (h1 j hj)
      exact ⟨a, fun _ => q1⟩
    · exact ⟨0, fun h => absurd h hj⟩
  obtain ⟨ad, had⟩ := Classical.axiomOfChoice h0
  obtain ⟨aW, hW, hTW⟩ := va_Tof (args := args) (s := s) (tm := ws_W) (ty := .object "EventLedger$Word") (N := 17) (f := fun j => .ref (ad j)) (A := fun q => s.heap.size ≤ q) (by decide) (ws_o hf 0 rfl) (va_eqt (ws_o hf 1 rfl)) (fun j hj => by
    obtain ⟨y, e1, e2⟩ := Cond.eq_one (show (Cond.eq (.elem ws_W (.int (Int32.ofNat j))) (ws_t j)).holds args s none s [] = true from h6 j hj)
    rw [e1, ← e2]
    exact had j hj) hA
  obtain ⟨aM, hM, hTM⟩ := va_Tof (args := args) (s := s) (tm := ws_M) (ty := .int) (N := 17) (f := fun j => .int (Int32.ofInt ((ab_nth ab_swm j).getD 0))) (A := fun q => s.heap.size ≤ q) (by decide) (ws_o hf 2 rfl) (va_eqt (ws_o hf 3 rfl)) (fun j hj => va_eqt (h7 j hj)) hA
  obtain ⟨adK, adV, hVS, hKe⟩ := vk_Sof (args := args) (s := s) (N := 1) (tm := fun _ => ws_S) (len := [86]) (byt := [ab_str.map Int32.ofInt]) (A := fun q => s.heap.size ≤ q) (fun i hi => by cases Nat.lt_one_iff.mp hi; decide) (fun i hi => ws_o hf 4 rfl) (fun i hi => ws_o hf 5 rfl) (fun i hi => ws_o hf 6 rfl) (fun i hi => by
    obtain rfl : i = 0 := by omega
    exact ws_o hf 7 rfl) (fun i hi j hj => by
    obtain rfl : i = 0 := by omega
    exact h8 j hj) (fun i j hi hj hn => absurd (by omega : i = j) hn) hA
  obtain ⟨aS, e2, e3, e4, e22, e23, e5⟩ : ∃ aS : Int → Nat, aS (-2) = b ∧ aS (-3) = aW ∧ aS (-4) = aM ∧ aS (-22) = adK 0 ∧ aS (-23) = adV 0 ∧ ∀ j : Nat, j < 17 → aS (-5 - (j : Int)) = ad j := by
    refine ⟨fun i => if i = -2 then b else if i = -3 then aW else if i = -4 then aM else if i = -22 then adK 0 else if i = -23 then adV 0 else ad (-5 - i).toNat, rfl, rfl, rfl, rfl, rfl, fun j hj => ?_⟩
    dsimp only
    rw [if_neg (by omega), if_neg (by omega), if_neg (by omega), if_neg (by omega), if_neg (by omega), show (-5 - (-5 - (j : Int))).toNat = j by omega]
  have e50 : aS (-5) = ad 0 := e5 0 (by omega)
  refine ⟨aS, ⟨?_, ?_, ?_, ?_, ?_, fun j hj => ?_, ?_, ?_, ?_, ?_, ?_⟩, ?_, e2⟩
  · rw [e3]; exact va_Zref (hts _ (ws_in (pl := 1176) rfl)) (hts _ (ws_in (pl := 1) rfl)) hW hA
  · rw [e4]; exact va_Zref (hts _ (ws_in (pl := 1198) rfl)) (hts _ (ws_in (pl := 14) rfl)) hM hA
  · rw [e50]; exact va_Zref (hts _ (ws_in (pl := 46) rfl)) (hts _ (ws_in (pl := 5) rfl)) (had 0 (by omega)) hA
  · rw [e3]; exact va_T_ext hTW (fun j hj => by rw [e5 j hj])
  · rw [e4]; exact hTM
  · rw [e5 j hj]
    exact ⟨va_Oof (h1 j hj) (had j hj) hA, vk_OFof (had j hj) (va_eqt (h2 j hj)) hA, vk_OFof (had j hj) (va_eqtl (h3 j hj)) hA, vk_OFof (had j hj) (va_eqt (h4 j hj)) hA, vk_OFof (had j hj) (va_eqt (h5 j hj)) hA⟩
  · rw [e2]; exact hX
  · rw [e2]; exact hb
  · exact va_Zof (hts _ (ws_in (pl := 5053) rfl)) (hts _ (ws_in (pl := 16) rfl)) (va_eqt (ws_o hf 8 rfl)) hA
  · exact va_Zqof (hts _ (ws_in (pl := 5069) rfl)) (hts _ (ws_in (pl := 18) rfl)) (ws_o hf 9 rfl) hA
  · refine ⟨fun i hi => ?_, fun i j hi hj _ => by omega⟩
    obtain rfl : i = 0 := by omega
    rw [e22, e23]
    exact hVS.1 0 (by omega)
  · obtain ⟨tx, ht⟩ := ws_tx0
    rw [ab_SR, e22]
    exact ⟨tx, vk_R.of (hts _ (ws_in ht)) (hKe 0 (by omega))⟩

set_option maxRecDepth 100000 in
theorem ws_insC : (List.range 10).map (fun c => ab_gw ((ab_nth ab_insL c).getD (0, 0)).1) = (List.range 10).map (fun c => some (Cond.instantiable (ab_cls c).1 (ab_nF c))) := rfl
theorem ws_K {args : Array Value} {s : State} (hts : ∀ w ∈ lw_tbl, w.before args s = true) : ∃ (D : va_G) (cA : Nat → ClassId), va_K D ab_clsK (ab_tys cA) s := by
  have hTB : ∀ w ∈ ab_TB, w.before args s = true := fun w hw => hts w (List.mem_filter.mp hw).1
  have h0 : ∀ k : Nat, ∃ d : ClassId × (Nat → Nat), ∀ q : vw_C, ab_clsK[k]? = some q → u_Kn s q.1 q.2.1 q.2.2 d.1 d.2 := by
    intro k
    by_cases hk : k < 10
    · have hw : Cond.instantiable (ab_cls k).1 (ab_nF k) ∈ lw_tbl := ws_in (List.map_inj_left.mp ws_insC k (List.mem_range.mpr hk))
      obtain ⟨c0, i0, h⟩ := u_known (C := (ab_cls k).1) (T := ab_T k) (N := ab_nF k) (n := ab_nF k) hTB (ab_lays hk) (hts _ hw)
      refine ⟨(c0, i0), fun q hq => ?_⟩
      rw [ab_clsK_at hk] at hq
      cases hq
      exact h
    · refine ⟨(0, fun _ => 0), fun q hq => ?_⟩
      have : ab_clsK[k]? = none := by rw [List.getElem?_eq_none_iff]; show 10 ≤ k; omega
      rw [this] at hq
      cases hq
  obtain ⟨d, hd⟩ := Classical.axiomOfChoice h0
  obtain ⟨c0, k0, p0, a1, a2, a3⟩ := Cond.arrayClass_spec (args := args) (first := s) (o := none) (s := s) (idx := []) (type := .int) (hTB _ (ab_in_TB ab_ac0 rfl))
  obtain ⟨c1, k1, p1, b1, b2, b3⟩ := Cond.arrayClass_spec (args := args) (first := s) (o := none) (s := s) (idx := []) (type := .byte) (hTB _ (ab_in_TB ab_ac1 rfl))
  obtain ⟨c2, k2, p2, f1, f2, f3⟩ := Cond.arrayClass_spec (args := args) (first := s) (o := none) (s := s) (idx := []) (type := .boolean) (hTB _ (ab_in_TB ab_ac2 rfl))
  obtain ⟨c3, k3, p3, g1, g2, g3⟩ := Cond.arrayClass_spec (args := args) (first := s) (o := none) (s := s) (idx := []) (type := .long) (hTB _ (ab_in_TB ab_ac3 rfl))
  obtain ⟨p4, c4, k4, q1, -, q2, q3, q4⟩ := Cond.arrayOver_spec (args := args) (first := s) (o := none) (s := s) (idx := []) (n := "EventLedger$Mark") (hts _ (ws_in (pl := 1056) rfl))
  refine ⟨(fun k => (d k).1, fun k => (d k).2), fun t => if t = 0 then c0 else if t = 1 then c1 else if t = 2 then c2 else if t = 3 then c3 else c4, fun k q hq => hd k q hq, fun k q hq => ?_⟩
  match k, hq with
  | 0, hq => cases hq; exact ⟨fun n z => ⟨fun k h => (by cases h), k0, a2, p0, a3⟩, a1⟩
  | 1, hq => cases hq; exact ⟨fun n z => ⟨fun k h => (by cases h), k1, b2, p1, b3⟩, b1⟩
  | 2, hq => cases hq; exact ⟨fun n z => ⟨fun k h => (by cases h), k2, f2, p2, f3⟩, f1⟩
  | 3, hq => cases hq; exact ⟨fun n z => ⟨fun k h => (by cases h), k3, g2, p3, g3⟩, g1⟩
  | 4, hq => cases hq; exact ⟨fun n z => ⟨fun k h => (by cases h), k4, q2, p4, q3⟩, k4, p4, q2, q3, q1, q4⟩
  | k + 5, hq => simp [ab_tys] at hq
set_option maxRecDepth 100000 in
theorem ws_code : ab_bts 246 = code := rfl
