/-! THE ABSTRACT MACHINE IS SOUND, part 5: branches, the statics, Math, arraycopy. -/
section AbBr
variable {p : Program} {l : Launch} {e : Env} {R : Room} {s : State} {m : MethodId} {args : Array Value} {below : List Frame} {meth : Method} {c : Code} {Q : State → Prop} {D : va_G} {cA : Nat → ClassId} {bnd : Nat} {aS : Int → Nat} {SL : Nat} {xs : Nat → Int32} {K0 : Int} {S0 : Nat} {k : Nat}
theorem ab_ifI_le {b off : Int} (h0 : b ≠ 0) (h1 : b ≠ 1) (h2 : b ≠ 2) (h3 : b ≠ 3) (h4 : b ≠ 4) : ab_ifI b off = .ifCond .le off ∧ ab_icI b off = .if_icmp .le off ∧ ∀ x y, ab_cB b x y = decide (wr x ≤ wr y) := by
  refine ⟨?_, ?_, fun x y => ?_⟩
  · unfold ab_ifI; split <;> first | omega | rfl
  · unfold ab_icI; split <;> first | omega | rfl
  · unfold ab_cB; split <;> first | omega | rfl
theorem ab_b6 (b : Int) : b = 0 ∨ b = 1 ∨ b = 2 ∨ b = 3 ∨ b = 4 ∨ (b ≠ 0 ∧ b ≠ 1 ∧ b ≠ 2 ∧ b ≠ 3 ∧ b ≠ 4) := by omega
theorem ab_z32 : (0 : Int32) = Int32.ofInt 0 := rfl
theorem ab_p32 {i a nx : Nat} {b : Int} {L : ab_F} {st : List ab_V} {w : ab_W} {x : Int} (C : ab_Cx D cA bnd aS SL xs k p R s m args meth c) (ho : ab_nth (ab_cod k) i = some (32, a, b, nx))  (kk : ab_WW p l e R s m args below meth c Q D cA bnd aS SL xs K0 S0 k (if ab_cB b x 0 then a else nx) L st w) : ab_WW p l e R s m args below meth c Q D cA bnd aS SL xs K0 S0 k i L ((0, x) :: st) w := by
  intro H locs ls hw hS hl
  obtain ⟨hd, hsc, hp⟩ := ab_dec1 ho (by decide) rfl rfl
  have kk := kk H locs ls hw hS hl
  rcases ab_b6 b with rfl | rfl | rfl | rfl | rfl | ⟨h0, h1, h2, h3, h4⟩
  · refine lv_if_eq (off := (ab_pc k a : Int) - (ab_pc k i : Int)) (tgt := ab_pc k a) C.1 C.2.1 hd (by omega) (fun h => ?_) (fun h => ?_)
    · rw [ab_z32] at h
      rw [ab_eq] at h
      have hB : ab_cB 0 x 0 = true := by simp [ab_cB, h]
      rw [hB] at kk
      exact kk
    · rw [ab_z32] at h
      rw [ab_eq] at h
      have hB : ab_cB 0 x 0 = false := by simp [ab_cB, h]
      rw [hB] at kk
      rw [show (if false = true then a else nx) = nx from rfl, hp] at kk
      exact kk
  · refine lv_if_ne (off := (ab_pc k a : Int) - (ab_pc k i : Int)) (tgt := ab_pc k a) C.1 C.2.1 hd (by omega) (fun h => ?_) (fun h => ?_)
    · rw [ab_z32] at h
      simp only [ne_eq, ab_eq] at h
      have hB : ab_cB 1 x 0 = true := by simp [ab_cB, h]
      rw [hB] at kk
      exact kk
    · rw [ab_z32] at h
      simp only [ne_eq, ab_eq] at h
      have hB : ab_cB 1 x 0 = false := by simp [ab_cB, h]
      rw [hB] at kk
      rw [show (if false = true then a else nx) = nx from rfl, hp] at kk
      exact kk
  · refine lv_if_lt (off := (ab_pc k a : Int) - (ab_pc k i : Int)) (tgt := ab_pc k a) C.1 C.2.1 hd (by omega) (fun h => ?_) (fun h => ?_)
    · rw [ab_z32] at h
      rw [ab_lt] at h
      have hB : ab_cB 2 x 0 = true := by simp [ab_cB, h]
      rw [hB] at kk
      exact kk
    · rw [ab_z32] at h
      rw [ab_lt] at h
      have hB : ab_cB 2 x 0 = false := by simp [ab_cB, h]
      rw [hB] at kk
      rw [show (if false = true then a else nx) = nx from rfl, hp] at kk
      exact kk
  · refine lv_if_ge (off := (ab_pc k a : Int) - (ab_pc k i : Int)) (tgt := ab_pc k a) C.1 C.2.1 hd (by omega) (fun h => ?_) (fun h => ?_)
    · rw [ab_z32] at h
      rw [ab_le] at h
      have hB : ab_cB 3 x 0 = true := by simp [ab_cB, h]
      rw [hB] at kk
      exact kk
    · rw [ab_z32] at h
      rw [ab_le] at h
      have hB : ab_cB 3 x 0 = false := by simp [ab_cB, h]
      rw [hB] at kk
      rw [show (if false = true then a else nx) = nx from rfl, hp] at kk
      exact kk
  · refine lv_if_gt (off := (ab_pc k a : Int) - (ab_pc k i : Int)) (tgt := ab_pc k a) C.1 C.2.1 hd (by omega) (fun h => ?_) (fun h => ?_)
    · rw [ab_z32] at h
      rw [ab_lt] at h
      have hB : ab_cB 4 x 0 = true := by simp [ab_cB, h]
      rw [hB] at kk
      exact kk
    · rw [ab_z32] at h
      rw [ab_lt] at h
      have hB : ab_cB 4 x 0 = false := by simp [ab_cB, h]
      rw [hB] at kk
      rw [show (if false = true then a else nx) = nx from rfl, hp] at kk
      exact kk
  · obtain ⟨q1, q2, q3⟩ := ab_ifI_le (off := (ab_pc k a : Int) - (ab_pc k i : Int)) h0 h1 h2 h3 h4
    rw [q1] at hd
    rw [q3] at kk
    refine lv_if_le (off := (ab_pc k a : Int) - (ab_pc k i : Int)) (tgt := ab_pc k a) C.1 C.2.1 hd (by omega) (fun h => ?_) (fun h => ?_)
    · rw [ab_z32] at h
      rw [ab_le] at h
      have hB : decide (wr x ≤ wr 0) = true := by simp [h]
      rw [hB] at kk
      exact kk
    · rw [ab_z32] at h
      rw [ab_le] at h
      have hB : decide (wr x ≤ wr 0) = false := by simp [h]
      rw [hB] at kk
      rw [show (if false = true then a else nx) = nx from rfl, hp] at kk
      exact kk

theorem ab_p33 {i a nx : Nat} {b : Int} {L : ab_F} {st : List ab_V} {w : ab_W} {x y : Int} (C : ab_Cx D cA bnd aS SL xs k p R s m args meth c) (ho : ab_nth (ab_cod k) i = some (33, a, b, nx))  (kk : ab_WW p l e R s m args below meth c Q D cA bnd aS SL xs K0 S0 k (if ab_cB b x y then a else nx) L st w) : ab_WW p l e R s m args below meth c Q D cA bnd aS SL xs K0 S0 k i L ((0, y) :: (0, x) :: st) w := by
  intro H locs ls hw hS hl
  obtain ⟨hd, hsc, hp⟩ := ab_dec1 ho (by decide) rfl rfl
  have kk := kk H locs ls hw hS hl
  rcases ab_b6 b with rfl | rfl | rfl | rfl | rfl | ⟨h0, h1, h2, h3, h4⟩
  · refine lv_icmp_eq (off := (ab_pc k a : Int) - (ab_pc k i : Int)) (tgt := ab_pc k a) C.1 C.2.1 hd (by omega) (fun h => ?_) (fun h => ?_)
    · rw [ab_eq] at h
      have hB : ab_cB 0 x y = true := by simp [ab_cB, h]
      rw [hB] at kk
      exact kk
    · rw [ab_eq] at h
      have hB : ab_cB 0 x y = false := by simp [ab_cB, h]
      rw [hB] at kk
      rw [show (if false = true then a else nx) = nx from rfl, hp] at kk
      exact kk
  · refine lv_icmp_ne (off := (ab_pc k a : Int) - (ab_pc k i : Int)) (tgt := ab_pc k a) C.1 C.2.1 hd (by omega) (fun h => ?_) (fun h => ?_)
    · simp only [ne_eq, ab_eq] at h
      have hB : ab_cB 1 x y = true := by simp [ab_cB, h]
      rw [hB] at kk
      exact kk
    · simp only [ne_eq, ab_eq] at h
      have hB : ab_cB 1 x y = false := by simp [ab_cB, h]
      rw [hB] at kk
      rw [show (if false = true then a else nx) = nx from rfl, hp] at kk
      exact kk
  · refine lv_icmp_lt (off := (ab_pc k a : Int) - (ab_pc k i : Int)) (tgt := ab_pc k a) C.1 C.2.1 hd (by omega) (fun h => ?_) (fun h => ?_)
    · rw [ab_lt] at h
      have hB : ab_cB 2 x y = true := by simp [ab_cB, h]
      rw [hB] at kk
      exact kk
    · rw [ab_lt] at h
      have hB : ab_cB 2 x y = false := by simp [ab_cB, h]
      rw [hB] at kk
      rw [show (if false = true then a else nx) = nx from rfl, hp] at kk
      exact kk
  · refine lv_icmp_ge (off := (ab_pc k a : Int) - (ab_pc k i : Int)) (tgt := ab_pc k a) C.1 C.2.1 hd (by omega) (fun h => ?_) (fun h => ?_)
    · rw [ab_le] at h
      have hB : ab_cB 3 x y = true := by simp [ab_cB, h]
      rw [hB] at kk
      exact kk
    · rw [ab_le] at h
      have hB : ab_cB 3 x y = false := by simp [ab_cB, h]
      rw [hB] at kk
      rw [show (if false = true then a else nx) = nx from rfl, hp] at kk
      exact kk
  · refine lv_icmp_gt (off := (ab_pc k a : Int) - (ab_pc k i : Int)) (tgt := ab_pc k a) C.1 C.2.1 hd (by omega) (fun h => ?_) (fun h => ?_)
    · rw [ab_lt] at h
      have hB : ab_cB 4 x y = true := by simp [ab_cB, h]
      rw [hB] at kk
      exact kk
    · rw [ab_lt] at h
      have hB : ab_cB 4 x y = false := by simp [ab_cB, h]
      rw [hB] at kk
      rw [show (if false = true then a else nx) = nx from rfl, hp] at kk
      exact kk
  · obtain ⟨q1, q2, q3⟩ := ab_ifI_le (off := (ab_pc k a : Int) - (ab_pc k i : Int)) h0 h1 h2 h3 h4
    rw [q2] at hd
    rw [q3] at kk
    refine lv_icmp_le (off := (ab_pc k a : Int) - (ab_pc k i : Int)) (tgt := ab_pc k a) C.1 C.2.1 hd (by omega) (fun h => ?_) (fun h => ?_)
    · rw [ab_le] at h
      have hB : decide (wr x ≤ wr y) = true := by simp [h]
      rw [hB] at kk
      exact kk
    · rw [ab_le] at h
      have hB : decide (wr x ≤ wr y) = false := by simp [h]
      rw [hB] at kk
      rw [show (if false = true then a else nx) = nx from rfl, hp] at kk
      exact kk

theorem ab_nth_get {α : Type} : ∀ (l : List α) (i : Nat), ab_nth l i = l[i]? := by
  intro l
  induction l with
  | nil => intro i; simp [ab_nth]
  | cons x t ih =>
    intro i
    cases i with
    | zero => rfl
    | succ i => simp [ab_nth, ih]
theorem ab_p34 {i a nx : Nat} {b : Int} {L : ab_F} {st : List ab_V} {w : ab_W} {x : Int} (C : ab_Cx D cA bnd aS SL xs k p R s m args meth c) (ho : ab_nth (ab_cod k) i = some (34, a, b, nx))  (kk : ab_WW p l e R s m args below meth c Q D cA bnd aS SL xs K0 S0 k (ab_ts a x) L st w) : ab_WW p l e R s m args below meth c Q D cA bnd aS SL xs K0 S0 k i L ((0, x) :: st) w := by
  intro H locs ls hw hS hl
  have kk := kk H locs ls hw hS hl
  obtain ⟨q, hq, hd, hsc, -⟩ := ab_dec ho (show 34 < 72 by decide)
  unfold ab_ts at kk
  have hal : ab_alt k i (34, a, b, nx) = match ab_nth ab_tsL a with
    | some q => [(.tableswitch ((ab_pc k q.2.1 : Int) - (ab_pc k i : Int)) q.1 (q.1 + q.2.2.length - 1) (q.2.2.map fun t => (ab_pc k t : Int) - (ab_pc k i : Int)).toArray, 1 + (3 - ab_pc k i % 4) + 12 + 4 * q.2.2.length, decide (0 < q.2.2.length) && decide (-1000 < q.1 ∧ q.1 < 1000))]
    | none => [] := rfl
  rw [hal] at hq
  cases hT : ab_nth ab_tsL a with
  | none => rw [hT] at hq; cases hq
  | some t =>
    obtain ⟨lo, d, tg⟩ := t
    rw [hT] at hq kk
    cases List.mem_singleton.mp hq
    dsimp only at kk hd
    simp only [List.map_cons, ab_cv]
    by_cases hlo : wr x < lo
    · rw [if_pos hlo] at kk
      exact lv_tableOut (dflt := (ab_pc k d : Int) - (ab_pc k i : Int)) (tgt := ab_pc k d) C.1 C.2.1 hd (Or.inl (by rw [ab_i32]; exact hlo)) (by omega) kk
    · rw [if_neg hlo] at kk
      by_cases hhi : lo + (tg.length : Int) - 1 < wr x
      · have hn : ab_nth tg (wr x - lo).toNat = none := by
          rw [ab_nth_get, List.getElem?_eq_none_iff]; omega
        rw [hn] at kk
        exact lv_tableOut (dflt := (ab_pc k d : Int) - (ab_pc k i : Int)) (tgt := ab_pc k d) C.1 C.2.1 hd (Or.inr (by rw [ab_i32]; exact hhi)) (by omega) kk
      · have hlt : (wr x - lo).toNat < tg.length := by omega
        obtain ⟨t, ht⟩ : ∃ t, ab_nth tg (wr x - lo).toNat = some t := ⟨tg[(wr x - lo).toNat], by rw [ab_nth_get]; exact List.getElem?_eq_getElem hlt⟩
        rw [ht] at kk
        refine lv_tableIn (off := (ab_pc k t : Int) - (ab_pc k i : Int)) (tgt := ab_pc k t) C.1 C.2.1 hd (by rw [ab_i32]; exact hlo) (by rw [ab_i32]; exact hhi) ?_ (by omega) kk
        rw [ab_i32]
        rw [ab_nth_get] at ht
        simp [List.getElem?_toArray, List.getElem?_map, ht]
theorem ab_p42 {i a nx : Nat} {b : Int} {L : ab_F} {st : List ab_V} {w : ab_W}  (C : ab_Cx D cA bnd aS SL xs k p R s m args meth c) (ho : ab_nth (ab_cod k) i = some (42, a, b, nx))  (kk : ab_WW p l e R s m args below meth c Q D cA bnd aS SL xs K0 S0 k nx L ((2, b) :: st) w) : ab_WW p l e R s m args below meth c Q D cA bnd aS SL xs K0 S0 k i L st w := by
  intro H locs ls hw hS hl
  obtain ⟨hd, hsc, hp⟩ := ab_dec1 ho (by decide) rfl rfl
  have kk := kk H locs ls hw hS hl
  rw [hp] at kk
  have hw1 := ab_nw_ok ho (List.mem_cons_self)
  simp only [Bool.or_eq_true, Bool.and_eq_true, decide_eq_true_eq] at hsc
  have hSF := C.2.2.2.2.2.2.2.2.2.2.2.2.1
  rcases hsc with ⟨rfl, hfl⟩ | ⟨rfl | rfl, hfl⟩
  · have hfl : (ab_ax k i).2.2.2 < 2 := ab_blt hfl
    by_cases h0 : (ab_ax k i).2.2.2 = 0
    · have hw2 : (goodWord (Cond.fieldLink (ab_own k) (ab_ax k i).2.1 "EventLedger" "WORDS" "[LEventLedger$Word;") = true ∧ (Cond.fieldLink (ab_own k) (ab_ax k i).2.1 "EventLedger" "WORDS" "[LEventLedger$Word;") ∈ ab_TB) ∨ (ab_isN (Cond.fieldLink (ab_own k) (ab_ax k i).2.1 "EventLedger" "WORDS" "[LEventLedger$Word;") = true ∧ (Cond.fieldLink (ab_own k) (ab_ax k i).2.1 "EventLedger" "WORDS" "[LEventLedger$Word;") ∈ ab_NW) := by
        dsimp only at hw1
        rw [h0] at hw1
        exact hw1
      rcases hw2 with h | h
      · exact va_gets C.1 C.2.1 hSF.1 hS C.2.2.2.1 (C.2.2.2.2.1 _ h.2) (fun _ h => h) hd kk
      · exact absurd h.1 (by simp [ab_isN])
    · have h1 : (ab_ax k i).2.2.2 = 1 := by omega
      have hw2 : (goodWord (Cond.fieldLinkNest (ab_own k) (ab_ax k i).2.1 "EventLedger" "WORDS" "[LEventLedger$Word;" "EventLedger") = true ∧ (Cond.fieldLinkNest (ab_own k) (ab_ax k i).2.1 "EventLedger" "WORDS" "[LEventLedger$Word;" "EventLedger") ∈ ab_TB) ∨ (ab_isN (Cond.fieldLinkNest (ab_own k) (ab_ax k i).2.1 "EventLedger" "WORDS" "[LEventLedger$Word;" "EventLedger") = true ∧ (Cond.fieldLinkNest (ab_own k) (ab_ax k i).2.1 "EventLedger" "WORDS" "[LEventLedger$Word;" "EventLedger") ∈ ab_NW) := by
        dsimp only at hw1
        rw [h1] at hw1
        exact hw1
      rcases hw2 with h | h
      · exact absurd h.1 (by simp [goodWord, Cond.onTables, Cond.keeps, Cond.steady])
      · exact va_getsN C.1 C.2.1 hSF.1 hS C.2.2.2.1 (va_Nw.use rfl (C.2.2.2.2.2.1.1 _ h.2)) (fun _ h => h) hd kk
  · rcases hw1 with h | h
    · exact va_gets C.1 C.2.1 hSF.2.1 hS C.2.2.2.1 (C.2.2.2.2.1 _ h.2) (fun _ h => h) hd kk
    · exact absurd h.1 (by simp [ab_isN])
  · rcases hw1 with h | h
    · exact va_gets C.1 C.2.1 hSF.2.2.1 hS C.2.2.2.1 (C.2.2.2.2.1 _ h.2) (fun _ h => h) hd kk
    · exact absurd h.1 (by simp [ab_isN])
theorem ab_p62 {i a nx : Nat} {b : Int} {L : ab_F} {st : List ab_V} {w : ab_W}  (C : ab_Cx D cA bnd aS SL xs k p R s m args meth c) (ho : ab_nth (ab_cod k) i = some (62, a, b, nx))  (kk : ab_WW p l e R s m args below meth c Q D cA bnd aS SL xs K0 S0 k nx L ((0, 17) :: st) w) : ab_WW p l e R s m args below meth c Q D cA bnd aS SL xs K0 S0 k i L ((2, -3) :: st) w := by
  intro H locs ls hw hS hl
  obtain ⟨hd, hsc, hp⟩ := ab_dec1 ho (by decide) rfl rfl
  have kk := kk H locs ls hw hS hl
  rw [hp] at kk
  exact va_tlen C.1 C.2.1 (C.2.2.2.2.2.2.2.2.2.2.2.2.1).2.2.2.1 hS rfl hd kk
theorem ab_p63 {i a nx : Nat} {b : Int} {L : ab_F} {st : List ab_V} {w : ab_W} {j : Int} (C : ab_Cx D cA bnd aS SL xs k p R s m args meth c) (ho : ab_nth (ab_cod k) i = some (63, a, b, nx)) (hj : 0 ≤ j ∧ j < 17) (kk : ab_WW p l e R s m args below meth c Q D cA bnd aS SL xs K0 S0 k nx L ((2, -5 - j) :: st) w) : ab_WW p l e R s m args below meth c Q D cA bnd aS SL xs K0 S0 k i L ((0, j) :: (2, -3) :: st) w := by
  intro H locs ls hw hS hl
  obtain ⟨hd, hsc, hp⟩ := ab_dec1 ho (by decide) rfl rfl
  have kk := kk H locs ls hw hS hl
  rw [hp] at kk
  obtain ⟨e1, e2⟩ := ab_ix hj.1 hj.2 (by decide)
  refine vb_tq C.1 C.2.1 (C.2.2.2.2.2.2.2.2.2.2.2.2.1).2.2.2.1 hS e2 (v := .ref (ab_ad bnd aS (-5 - j))) ?_ hd kk
  rw [e1, Int.toNat_of_nonneg hj.1, ab_ad_neg (by omega)]
theorem ab_p64 {i a nx : Nat} {b : Int} {L : ab_F} {st : List ab_V} {w : ab_W} {j : Int} (C : ab_Cx D cA bnd aS SL xs k p R s m args meth c) (ho : ab_nth (ab_cod k) i = some (64, a, b, nx)) (hj : 0 ≤ j ∧ j < 17) (kk : ab_WW p l e R s m args below meth c Q D cA bnd aS SL xs K0 S0 k nx L ((0, (ab_nth ab_swm j.toNat).getD 0) :: st) w) : ab_WW p l e R s m args below meth c Q D cA bnd aS SL xs K0 S0 k i L ((0, j) :: (2, -4) :: st) w := by
  intro H locs ls hw hS hl
  obtain ⟨hd, hsc, hp⟩ := ab_dec1 ho (by decide) rfl rfl
  have kk := kk H locs ls hw hS hl
  rw [hp] at kk
  obtain ⟨e1, e2⟩ := ab_ix hj.1 hj.2 (by decide)
  refine va_ti C.1 C.2.1 (C.2.2.2.2.2.2.2.2.2.2.2.2.1).2.2.2.2.1 hS e2 (v := .int (Int32.ofInt ((ab_nth ab_swm j.toNat).getD 0))) ?_ hd kk
  rw [e1]
theorem ab_getfN {H : Heap} {locs : List Loc} {cells slots pc : Nat} {ls : Array Slot} {rest : List Value} {cc : ByteArray} {o n d own host : String} {index q : Nat} {v : Value} {A : Nat → Prop} (hexec : p.tables.exec = Jvm.exec) (hb : c.code = cc) (hE : va_OF o n d v q A s s.heap) (hS : va_S A s.heap H locs) (hown : s.vm.findClass own = some m.cls) (hlink : (Cond.fieldLinkNest own index o n d host).before args s = true) (hdg : decode cc pc = .ok (.getfield index, 3))
    (kk : W p l e R s m args below meth c H locs cells slots Q (F0 m (pc + 3) ls (v :: rest))) : W p l e R s m args below meth c H locs cells slots Q (F0 m pc ls (.ref q :: rest)) := by
  obtain ⟨cf, k, fi, f, cell, h1, h2, h3, h4, h5, h6⟩ := hE.kept hS.2.1
  exact va_Wgetf hexec hb hown hlink h1 h2 h3 h4 (v := v) h5 rfl rfl hdg kk
theorem ab_word {x : Int} (hx : x ≤ -5 ∧ -21 ≤ x) : ∃ j : Nat, j < 17 ∧ x = -5 - (j : Int) ∧ (-5 - x).toNat = j := ⟨(-5 - x).toNat, by omega, by omega, rfl⟩
theorem ab_p65_1 {i nx : Nat} {b : Int} {L : ab_F} {st : List ab_V} {w : ab_W} {x : Int} (C : ab_Cx D cA bnd aS SL xs k p R s m args meth c) (ho : ab_nth (ab_cod k) i = some (65, 1, b, nx)) (hx : x ≤ -5 ∧ -21 ≤ x) (kk : ab_WW p l e R s m args below meth c Q D cA bnd aS SL xs K0 S0 k nx L ((1, ((ab_nth ab_wt (-5 - x).toNat).getD (0, 0, 0)).1) :: st) w) : ab_WW p l e R s m args below meth c Q D cA bnd aS SL xs K0 S0 k i L ((2, x) :: st) w := by
  intro H locs ls hw hS hl
  obtain ⟨hd, hsc, hp⟩ := ab_dec1 ho (by decide) rfl rfl
  have kk := kk H locs ls hw hS hl
  rw [hp] at kk
  have hw1 := ab_nw_ok ho (List.mem_cons_self)
  simp only [Bool.and_eq_true] at hsc
  have hfl : (ab_ax k i).2.2.2 < 2 := ab_blt hsc.2
  obtain ⟨j, hj, hxj, hj2⟩ := ab_word hx
  have hF := (((C.2.2.2.2.2.2.2.2.2.2.2.2.1).2.2.2.2.2.1 j hj).2.2.1)
  rw [hj2] at kk
  have hax : ab_ad bnd aS x = aS (-5 - (j : Int)) := by rw [ab_ad_neg (by omega), hxj]
  simp only [List.map_cons, ab_cv, hax] at kk ⊢
  by_cases h0 : (ab_ax k i).2.2.2 = 0
  · have hw2 : (goodWord (Cond.fieldLink (ab_own k) (ab_ax k i).2.1 "EventLedger$Word" "code" "J") = true ∧ (Cond.fieldLink (ab_own k) (ab_ax k i).2.1 "EventLedger$Word" "code" "J") ∈ ab_TB) ∨ (ab_isN (Cond.fieldLink (ab_own k) (ab_ax k i).2.1 "EventLedger$Word" "code" "J") = true ∧ (Cond.fieldLink (ab_own k) (ab_ax k i).2.1 "EventLedger$Word" "code" "J") ∈ ab_NW) := by
      dsimp only at hw1
      rw [h0] at hw1
      exact hw1
    rcases hw2 with h | h
    · exact vk_getf C.1 C.2.1 hF hS C.2.2.2.1 (C.2.2.2.2.1 _ h.2) (fun _ h => h) hd kk
    · exact absurd h.1 (by simp [ab_isN])
  · have h1 : (ab_ax k i).2.2.2 = 1 := by omega
    have hw2 : (goodWord (Cond.fieldLinkNest (ab_own k) (ab_ax k i).2.1 "EventLedger$Word" "code" "J" "EventLedger") = true ∧ (Cond.fieldLinkNest (ab_own k) (ab_ax k i).2.1 "EventLedger$Word" "code" "J" "EventLedger") ∈ ab_TB) ∨ (ab_isN (Cond.fieldLinkNest (ab_own k) (ab_ax k i).2.1 "EventLedger$Word" "code" "J" "EventLedger") = true ∧ (Cond.fieldLinkNest (ab_own k) (ab_ax k i).2.1 "EventLedger$Word" "code" "J" "EventLedger") ∈ ab_NW) := by
      dsimp only at hw1
      rw [h1] at hw1
      exact hw1
    rcases hw2 with h | h
    · exact absurd h.1 (by simp [goodWord, Cond.onTables, Cond.keeps, Cond.steady])
    · exact ab_getfN C.1 C.2.1 hF hS C.2.2.2.1 (va_Nw.use rfl (C.2.2.2.2.2.1.1 _ h.2)) hd kk
theorem ab_p65_2 {i nx : Nat} {b : Int} {L : ab_F} {st : List ab_V} {w : ab_W} {x : Int} (C : ab_Cx D cA bnd aS SL xs k p R s m args meth c) (ho : ab_nth (ab_cod k) i = some (65, 2, b, nx)) (hx : x ≤ -5 ∧ -21 ≤ x) (kk : ab_WW p l e R s m args below meth c Q D cA bnd aS SL xs K0 S0 k nx L ((0, ((ab_nth ab_wt (-5 - x).toNat).getD (0, 0, 0)).2.1) :: st) w) : ab_WW p l e R s m args below meth c Q D cA bnd aS SL xs K0 S0 k i L ((2, x) :: st) w := by
  intro H locs ls hw hS hl
  obtain ⟨hd, hsc, hp⟩ := ab_dec1 ho (by decide) rfl rfl
  have kk := kk H locs ls hw hS hl
  rw [hp] at kk
  have hw1 := ab_nw_ok ho (List.mem_cons_self)
  simp only [Bool.and_eq_true] at hsc
  have hfl : (ab_ax k i).2.2.2 < 2 := ab_blt hsc.2
  obtain ⟨j, hj, hxj, hj2⟩ := ab_word hx
  have hF := (((C.2.2.2.2.2.2.2.2.2.2.2.2.1).2.2.2.2.2.1 j hj).2.2.2.1)
  rw [hj2] at kk
  have hax : ab_ad bnd aS x = aS (-5 - (j : Int)) := by rw [ab_ad_neg (by omega), hxj]
  simp only [List.map_cons, ab_cv, hax] at kk ⊢
  by_cases h0 : (ab_ax k i).2.2.2 = 0
  · have hw2 : (goodWord (Cond.fieldLink (ab_own k) (ab_ax k i).2.1 "EventLedger$Word" "kind" "I") = true ∧ (Cond.fieldLink (ab_own k) (ab_ax k i).2.1 "EventLedger$Word" "kind" "I") ∈ ab_TB) ∨ (ab_isN (Cond.fieldLink (ab_own k) (ab_ax k i).2.1 "EventLedger$Word" "kind" "I") = true ∧ (Cond.fieldLink (ab_own k) (ab_ax k i).2.1 "EventLedger$Word" "kind" "I") ∈ ab_NW) := by
      dsimp only at hw1
      rw [h0] at hw1
      exact hw1
    rcases hw2 with h | h
    · exact vk_getf C.1 C.2.1 hF hS C.2.2.2.1 (C.2.2.2.2.1 _ h.2) (fun _ h => h) hd kk
    · exact absurd h.1 (by simp [ab_isN])
  · have h1 : (ab_ax k i).2.2.2 = 1 := by omega
    have hw2 : (goodWord (Cond.fieldLinkNest (ab_own k) (ab_ax k i).2.1 "EventLedger$Word" "kind" "I" "EventLedger") = true ∧ (Cond.fieldLinkNest (ab_own k) (ab_ax k i).2.1 "EventLedger$Word" "kind" "I" "EventLedger") ∈ ab_TB) ∨ (ab_isN (Cond.fieldLinkNest (ab_own k) (ab_ax k i).2.1 "EventLedger$Word" "kind" "I" "EventLedger") = true ∧ (Cond.fieldLinkNest (ab_own k) (ab_ax k i).2.1 "EventLedger$Word" "kind" "I" "EventLedger") ∈ ab_NW) := by
      dsimp only at hw1
      rw [h1] at hw1
      exact hw1
    rcases hw2 with h | h
    · exact absurd h.1 (by simp [goodWord, Cond.onTables, Cond.keeps, Cond.steady])
    · exact ab_getfN C.1 C.2.1 hF hS C.2.2.2.1 (va_Nw.use rfl (C.2.2.2.2.2.1.1 _ h.2)) hd kk
theorem ab_p65_3 {i nx : Nat} {b : Int} {L : ab_F} {st : List ab_V} {w : ab_W} {x : Int} (C : ab_Cx D cA bnd aS SL xs k p R s m args meth c) (ho : ab_nth (ab_cod k) i = some (65, 3, b, nx)) (hx : x ≤ -5 ∧ -21 ≤ x) (kk : ab_WW p l e R s m args below meth c Q D cA bnd aS SL xs K0 S0 k nx L ((0, ((ab_nth ab_wt (-5 - x).toNat).getD (0, 0, 0)).2.2) :: st) w) : ab_WW p l e R s m args below meth c Q D cA bnd aS SL xs K0 S0 k i L ((2, x) :: st) w := by
  intro H locs ls hw hS hl
  obtain ⟨hd, hsc, hp⟩ := ab_dec1 ho (by decide) rfl rfl
  have kk := kk H locs ls hw hS hl
  rw [hp] at kk
  have hw1 := ab_nw_ok ho (List.mem_cons_self)
  simp only [Bool.and_eq_true] at hsc
  have hfl : (ab_ax k i).2.2.2 < 2 := ab_blt hsc.2
  obtain ⟨j, hj, hxj, hj2⟩ := ab_word hx
  have hF := (((C.2.2.2.2.2.2.2.2.2.2.2.2.1).2.2.2.2.2.1 j hj).2.2.2.2)
  rw [hj2] at kk
  have hax : ab_ad bnd aS x = aS (-5 - (j : Int)) := by rw [ab_ad_neg (by omega), hxj]
  simp only [List.map_cons, ab_cv, hax] at kk ⊢
  by_cases h0 : (ab_ax k i).2.2.2 = 0
  · have hw2 : (goodWord (Cond.fieldLink (ab_own k) (ab_ax k i).2.1 "EventLedger$Word" "op" "I") = true ∧ (Cond.fieldLink (ab_own k) (ab_ax k i).2.1 "EventLedger$Word" "op" "I") ∈ ab_TB) ∨ (ab_isN (Cond.fieldLink (ab_own k) (ab_ax k i).2.1 "EventLedger$Word" "op" "I") = true ∧ (Cond.fieldLink (ab_own k) (ab_ax k i).2.1 "EventLedger$Word" "op" "I") ∈ ab_NW) := by
      dsimp only at hw1
      rw [h0] at hw1
      exact hw1
    rcases hw2 with h | h
    · exact vk_getf C.1 C.2.1 hF hS C.2.2.2.1 (C.2.2.2.2.1 _ h.2) (fun _ h => h) hd kk
    · exact absurd h.1 (by simp [ab_isN])
  · have h1 : (ab_ax k i).2.2.2 = 1 := by omega
    have hw2 : (goodWord (Cond.fieldLinkNest (ab_own k) (ab_ax k i).2.1 "EventLedger$Word" "op" "I" "EventLedger") = true ∧ (Cond.fieldLinkNest (ab_own k) (ab_ax k i).2.1 "EventLedger$Word" "op" "I" "EventLedger") ∈ ab_TB) ∨ (ab_isN (Cond.fieldLinkNest (ab_own k) (ab_ax k i).2.1 "EventLedger$Word" "op" "I" "EventLedger") = true ∧ (Cond.fieldLinkNest (ab_own k) (ab_ax k i).2.1 "EventLedger$Word" "op" "I" "EventLedger") ∈ ab_NW) := by
      dsimp only at hw1
      rw [h1] at hw1
      exact hw1
    rcases hw2 with h | h
    · exact absurd h.1 (by simp [goodWord, Cond.onTables, Cond.keeps, Cond.steady])
    · exact ab_getfN C.1 C.2.1 hF hS C.2.2.2.1 (va_Nw.use rfl (C.2.2.2.2.2.1.1 _ h.2)) hd kk
theorem ab_p67 {i a nx : Nat} {b : Int} {L : ab_F} {st : List ab_V} {w : ab_W} {j : Int} (C : ab_Cx D cA bnd aS SL xs k p R s m args meth c) (ho : ab_nth (ab_cod k) i = some (67, a, b, nx)) (hj : 0 ≤ j ∧ j < w.2.2.2 (-2) (-1)) (kk : ab_WW p l e R s m args below meth c Q D cA bnd aS SL xs K0 S0 k nx L ((0, w.2.2.1 (-2) j) :: st) w) : ab_WW p l e R s m args below meth c Q D cA bnd aS SL xs K0 S0 k i L ((0, j) :: (2, -2) :: st) w := by
  intro H locs ls hw hS hl
  obtain ⟨hd, hsc, hp⟩ := ab_dec1 ho (by decide) rfl rfl
  have kk := kk H locs ls hw hS hl
  rw [hp] at kk
  have hSF := (C.2.2.2.2.2.2.2.2.2.2.2.2.1).2.2.2.2.2.2
  have hlen := hw.2.2.2.2.2.2
  have hSL := C.2.2.2.2.2.2.2.2.2.2.2.2.2
  obtain ⟨e1, e2⟩ := ab_ix (n := (SL : Int)) hj.1 (by rw [← hlen]; exact hj.2) (by omega)
  refine va_sld C.1 C.2.1 hSF.1 (Nat.lt_of_lt_of_le hSF.2.1 C.2.2.2.2.2.2.2.1) (Nat.not_le.mpr hSF.2.1) hS e2 hd ?_
  have hx := hw.2.2.2.2.2.1 j.toNat (by rw [hlen] at hj; omega)
  rw [Int.toNat_of_nonneg hj.1] at hx
  rw [e1, ← hx]
  exact kk
theorem ab_p68 {i a nx : Nat} {b : Int} {L : ab_F} {st : List ab_V} {w : ab_W}  (C : ab_Cx D cA bnd aS SL xs k p R s m args meth c) (ho : ab_nth (ab_cod k) i = some (68, a, b, nx))  (kk : ab_WW p l e R s m args below meth c Q D cA bnd aS SL xs K0 S0 k nx L ((0, w.2.2.2 (-2) (-1)) :: st) w) : ab_WW p l e R s m args below meth c Q D cA bnd aS SL xs K0 S0 k i L ((2, -2) :: st) w := by
  intro H locs ls hw hS hl
  obtain ⟨hd, hsc, hp⟩ := ab_dec1 ho (by decide) rfl rfl
  have kk := kk H locs ls hw hS hl
  rw [hp] at kk
  have hSF := (C.2.2.2.2.2.2.2.2.2.2.2.2.1).2.2.2.2.2.2
  have hlen := hw.2.2.2.2.2.2
  refine va_slen C.1 C.2.1 hSF.1 (Nat.lt_of_lt_of_le hSF.2.1 C.2.2.2.2.2.2.2.1) (Nat.not_le.mpr hSF.2.1) hS hd ?_
  rw [hlen] at kk
  rw [← Int32.ofInt_eq_ofNat]
  exact kk
theorem ab_cat_map (ad : Int → Nat) : ∀ st : List ab_V, ((st.map (ab_cv ad)).map fun v => v.category).sum = ab_cat st := by
  intro st
  induction st with
  | nil => rfl
  | cons v t ih =>
    have h1 : (ab_cv ad v).category = cond (Nat.beq v.1 1) 2 1 := by
      obtain ⟨q, x⟩ := v
      match q with
      | 0 => rfl
      | 1 => rfl
      | n + 2 => rfl
    simp only [List.map_cons, List.sum_cons, ih, h1, ab_cat]
theorem ab_w_max : ab_gw ab_p_max_static = some (.static Lib.Math.max.name) ∧ ab_gw ab_p_math_ini = some (.initialized "java/lang/Math") ∧ ab_gw ab_p_max_code = some (.code Lib.Math.max.name Lib.Math.max.code 2 (some .int)) := ⟨rfl, rfl, rfl⟩
theorem ab_w_min : ab_gw ab_p_min_static = some (.static Lib.Math.min.name) ∧ ab_gw ab_p_min_code = some (.code Lib.Math.min.name Lib.Math.min.code 2 (some .int)) := ⟨rfl, rfl⟩
theorem ab_w_cpy : ab_gw ab_p_cpy_native = some (.native arraycopyName) ∧ ab_gw ab_p_cpy_static = some (.static arraycopyName) ∧ ab_gw ab_p_sys_ini = some (.initialized "java/lang/System") := ⟨rfl, rfl, rfl⟩
theorem ab_w_obj : ab_gw ab_p_obj_inst = some (.instanceMethod Lib.objectInit) ∧ ab_gw ab_p_obj_code = some (.code Lib.objectInit ⟨#[0xb1]⟩ 1 none) := ⟨rfl, rfl⟩
theorem ab_p55 {i a nx : Nat} {b : Int} {L : ab_F} {st : List ab_V} {w : ab_W} {x y : Int} (C : ab_Cx D cA bnd aS SL xs k p R s m args meth c) (ho : ab_nth (ab_cod k) i = some (55, a, b, nx)) (hcat : ab_cat st ≤ 8) (hcl : (w.1 - K0).toNat ≤ R.cells ∧ w.2.1 - S0 ≤ R.slots) (kk : ab_WW p l e R s m args below meth c Q D cA bnd aS SL xs K0 S0 k nx L ((0, ab_max x y) :: st) w) : ab_WW p l e R s m args below meth c Q D cA bnd aS SL xs K0 S0 k i L ((0, y) :: (0, x) :: st) w := by
  intro H locs ls hw hS hl
  obtain ⟨hd, hsc, hp⟩ := ab_dec1 ho (by decide) rfl rfl
  have kk := kk H locs ls hw hS hl
  rw [hp] at kk
  have hdp := Nat.le_of_ble_eq_true hsc
  have hlink : (Cond.methodLink (ab_own k) (ab_ax k i).2.1 Lib.Math.max.name) ∈ ab_TB := (ab_nw_ok ho List.mem_cons_self).elim (fun h => h.2) (fun h => absurd h.1 (by simp [ab_isN]))
  have hfr := C.2.2.2.2.2.2.2.2.1
  have hlo := C.2.2.2.2.2.2.2.2.2.1
  refine va_mmax C.1 C.2.1 (C.2.2.1.trans hl.1.symm) C.2.2.2.1 (C.2.2.2.2.1 _ hlink) (C.2.2.2.2.1 _ (ab_in_TB ab_w_max.1 rfl)) (C.2.2.2.2.1 _ (ab_in_TB ab_w_max.2.1 rfl)) (C.2.2.2.2.1 _ (ab_in_TB ab_w_max.2.2 rfl)) (by omega) (by rw [ab_cat_map]; omega) hcl.1 hcl.2 hd ?_
  have hm : (if Int32.ofInt x < Int32.ofInt y then Int32.ofInt y else Int32.ofInt x) = Int32.ofInt (ab_max x y) := by
    unfold ab_max
    simp only [ab_lt]
    split <;> rfl
  rw [hm]
  exact kk
theorem ab_p56 {i a nx : Nat} {b : Int} {L : ab_F} {st : List ab_V} {w : ab_W} {x y : Int} (C : ab_Cx D cA bnd aS SL xs k p R s m args meth c) (ho : ab_nth (ab_cod k) i = some (56, a, b, nx)) (hcat : ab_cat st ≤ 8) (hcl : (w.1 - K0).toNat ≤ R.cells ∧ w.2.1 - S0 ≤ R.slots) (kk : ab_WW p l e R s m args below meth c Q D cA bnd aS SL xs K0 S0 k nx L ((0, ab_min x y) :: st) w) : ab_WW p l e R s m args below meth c Q D cA bnd aS SL xs K0 S0 k i L ((0, y) :: (0, x) :: st) w := by
  intro H locs ls hw hS hl
  obtain ⟨hd, hsc, hp⟩ := ab_dec1 ho (by decide) rfl rfl
  have kk := kk H locs ls hw hS hl
  rw [hp] at kk
  have hdp := Nat.le_of_ble_eq_true hsc
  have hlink : (Cond.methodLink (ab_own k) (ab_ax k i).2.1 Lib.Math.min.name) ∈ ab_TB := (ab_nw_ok ho List.mem_cons_self).elim (fun h => h.2) (fun h => absurd h.1 (by simp [ab_isN]))
  have hfr := C.2.2.2.2.2.2.2.2.1
  have hlo := C.2.2.2.2.2.2.2.2.2.1
  refine va_mmin C.1 C.2.1 (C.2.2.1.trans hl.1.symm) C.2.2.2.1 (C.2.2.2.2.1 _ hlink) (C.2.2.2.2.1 _ (ab_in_TB ab_w_min.1 rfl)) (C.2.2.2.2.1 _ (ab_in_TB ab_w_max.2.1 rfl)) (C.2.2.2.2.1 _ (ab_in_TB ab_w_min.2 rfl)) (by omega) (by rw [ab_cat_map]; omega) hcl.1 hcl.2 hd ?_
  have hm : (if Int32.ofInt y < Int32.ofInt x then Int32.ofInt y else Int32.ofInt x) = Int32.ofInt (ab_min x y) := by
    unfold ab_min
    simp only [ab_lt]
    split <;> rfl
  rw [hm]
  exact kk
theorem ab_p58 {i a nx : Nat} {b : Int} {L : ab_F} {st : List ab_V} {w : ab_W} {x : Int} (C : ab_Cx D cA bnd aS SL xs k p R s m args meth c) (ho : ab_nth (ab_cod k) i = some (58, a, b, nx)) (hcat : ab_cat st ≤ 8) (kk : ab_WW p l e R s m args below meth c Q D cA bnd aS SL xs K0 S0 k nx L st w) : ab_WW p l e R s m args below meth c Q D cA bnd aS SL xs K0 S0 k i L ((2, x) :: st) w := by
  intro H locs ls hw hS hl
  obtain ⟨hd, hsc, hp⟩ := ab_dec1 ho (by decide) rfl rfl
  have kk := kk H locs ls hw hS hl
  rw [hp] at kk
  have hdp := Nat.le_of_ble_eq_true hsc
  have hlink : (Cond.methodLink (ab_own k) (ab_ax k i).2.1 Lib.objectInit) ∈ ab_TB := (ab_nw_ok ho List.mem_cons_self).elim (fun h => h.2) (fun h => absurd h.1 (by simp [ab_isN]))
  have hfr := C.2.2.2.2.2.2.2.2.1
  have hlo := C.2.2.2.2.2.2.2.2.2.1
  have hroom := lv_room (m := m) (pc := ab_pc k i) (ls := ls) (rest := (Value.ref (ab_ad bnd aS x)) :: st.map (ab_cv (ab_ad bnd aS))) (st := st.map (ab_cv (ab_ad bnd aS))) (by rw [ab_cat_map]; exact hcat)
  exact W.objInit C.1 C.2.1 C.2.2.2.1 (C.2.2.2.2.1 _ hlink) (C.2.2.2.2.1 _ (ab_in_TB ab_w_obj.1 rfl)) (C.2.2.2.2.1 _ (ab_in_TB ab_w_obj.2 rfl)) rfl (hl.1.trans C.2.2.1.symm) rfl hd (by omega) (Nat.le_trans (Nat.add_le_add_right hroom 12) (by omega)) kk
/-- the world as a list, for a row that wants all of it -/
def ab_wl (bnd : Nat) (aS : Int → Nat) (cA : Nat → ClassId) (w : ab_W) : va_W := (List.range w.1.toNat).map fun n => (bnd + n, ab_ce (ab_ad bnd aS) cA w.2.2.1 w.2.2.2 (ab_nm (n : Int)))
theorem ab_wl_at {w : ab_W} {x : Int} (h0 : 0 ≤ x) (h1 : ab_po x < w.1) (h187 : w.1 ≤ 187) : (ab_wl bnd aS cA w)[(ab_po x).toNat]? = some (ab_ad bnd aS x, ab_ce (ab_ad bnd aS) cA w.2.2.1 w.2.2.2 x) := by
  have h3 := po_nn h0
  have h2 : (ab_po x).toNat < w.1.toNat := by omega
  simp [ab_wl, List.getElem?_map, List.getElem?_range, h2, ab_ad_nn h0, Int.toNat_of_nonneg h3, nm_po h0 (by omega : ab_po x < 187)]
theorem ab_wl_inv {w : ab_W} {n : Nat} {q : Nat × va_E} (h : (ab_wl bnd aS cA w)[n]? = some q) : n < w.1.toNat ∧ q = (bnd + n, ab_ce (ab_ad bnd aS) cA w.2.2.1 w.2.2.2 (ab_nm (n : Int))) := by
  have h1 : n < w.1.toNat := by
    have := (List.getElem?_eq_some_iff.mp h).1
    simpa [ab_wl] using this
  refine ⟨h1, ?_⟩
  simp [ab_wl, List.getElem?_map, List.getElem?_range, h1] at h
  exact h.symm
theorem ab_p57 {i a nx : Nat} {b : Int} {L : ab_F} {st : List ab_V} {w : ab_W} {x y n sp dp : Int} (C : ab_Cx D cA bnd aS SL xs k p R s m args meth c) (ho : ab_nth (ab_cod k) i = some (57, a, b, nx)) (hx : (ab_kd x).1 = 100 ∧ 0 ≤ x ∧ ab_po x < w.1) (hy : (ab_kd y).1 = 100 ∧ 0 ≤ y ∧ ab_po y < w.1) (hcat : ab_cat st ≤ 8) (hxy : x ≠ y) (h186 : 187 ≤ w.1) (hn0 : 0 ≤ n) (hsp : 0 ≤ sp) (hdp : 0 ≤ dp) (h1 : sp + n ≤ (ab_kd x).2) (h2 : dp + n ≤ (ab_kd y).2) (kk : ab_WW p l e R s m args below meth c Q D cA bnd aS SL xs K0 S0 k nx L st (w.1, w.2.1, ab_cpy w.2.2.1 x sp y dp n, w.2.2.2)) : ab_WW p l e R s m args below meth c Q D cA bnd aS SL xs K0 S0 k i L ((0, n) :: (0, dp) :: (2, y) :: (0, sp) :: (2, x) :: st) w := by
  intro H locs ls hw hS hl
  obtain ⟨hd, hsc, hp⟩ := ab_dec1 ho (by decide) rfl rfl
  have hdpt := Nat.le_of_ble_eq_true hsc
  have hlink : (Cond.methodLink (ab_own k) (ab_ax k i).2.1 arraycopyName) ∈ ab_TB := (ab_nw_ok ho List.mem_cons_self).elim (fun h => h.2) (fun h => absurd h.1 (by simp [ab_isN]))
  have hfr := C.2.2.2.2.2.2.2.2.1
  have hlo := C.2.2.2.2.2.2.2.2.2.1
  have hb1 := (ab_kd_in (a := x)).2.2.1
  have hb2 := (ab_kd_in (a := y)).2.2.1
  have f1 : ∀ z : Int, 0 ≤ z → z < 1000000 → (Int32.ofInt z).toNatClampNeg = z.toNat ∧ ¬ Int32.ofInt z < 0 := by
    intro z hz0 hz1
    have h : (Int32.ofInt z).toInt = z := by rw [ab_i32, wr_of (by omega) (by omega)]
    refine ⟨by show (Int32.ofInt z).toInt.toNat = _; rw [h], ?_⟩
    rw [Int32.lt_iff_toInt_lt, h]
    show ¬ z < 0
    omega
  obtain ⟨esp, nsp⟩ := f1 sp hsp (by omega)
  obtain ⟨edp, ndp⟩ := f1 dp hdp (by omega)
  obtain ⟨en, nn⟩ := f1 n hn0 (by omega)
  have hPl : va_P D ab_clsK (ab_wl bnd aS cA w) H := by
    intro q z hz
    obtain ⟨q1, rfl⟩ := ab_wl_inv hz
    have h187 := hw.2.2.2.2.1
    have hq9 := po_nm (o := (q : Int)) (by omega) (by omega)
    have := hw.1 (ab_nm (q : Int)) (nm_nn (by omega)) (by rw [hq9]; omega)
    rw [ab_ad_nn (nm_nn (by omega)), hq9] at this
    exact this
  have hDl : va_D (fun q => bnd ≤ q) (ab_wl bnd aS cA w) := by
    refine ⟨fun u v pu pv hu hv huv => ?_, fun u q hu => ?_⟩
    · obtain ⟨-, rfl⟩ := ab_wl_inv hu
      obtain ⟨-, rfl⟩ := ab_wl_inv hv
      dsimp only at huv
      omega
    · obtain ⟨-, rfl⟩ := ab_wl_inv hu
      show bnd ≤ bnd + u
      omega
  have hax := ab_wl_at (bnd := bnd) (aS := aS) (cA := cA) hx.2.1 hx.2.2 hw.2.2.2.2.1
  have hay := ab_wl_at (bnd := bnd) (aS := aS) (cA := cA) hy.2.1 hy.2.2 hw.2.2.2.2.1
  rw [ab_ce_ar (t := 0) (by rw [hx.1]; rfl) (by decide)] at hax
  rw [ab_ce_ar (t := 0) (by rw [hy.1]; rfl) (by decide)] at hay
  refine va_copyi (D := D) (cl := ab_clsK) (tys := ab_tys cA) C.1 C.2.1 (C.2.2.1.trans hl.1.symm) C.2.2.2.1 (C.2.2.2.2.1 _ hlink) (C.2.2.2.2.1 _ (ab_in_TB ab_w_cpy.1 rfl)) (C.2.2.2.2.1 _ (ab_in_TB ab_w_cpy.2.1 rfl)) (C.2.2.2.2.1 _ (ab_in_TB ab_w_cpy.2.2 rfl)) C.2.2.2.2.2.2.2.2.2.2.1 hPl hDl hS (ab_po x).toNat (ab_po y).toNat 0 0 hax hay rfl rfl rfl nsp ndp nn (by rw [esp, en]; omega) (by rw [edp, en]; omega) (fun _ _ => rfl) (by have := po_ne hxy; have := po_nn hx.2.1; have := po_nn hy.2.1; omega) (by rw [ab_cat_map]; show _ + (7 + 11) ≤ _; omega) hd (fun H1 locs1 hP1 hD1 hS1 => ?_)
  have hw1 : ab_HW D cA bnd aS SL xs (w.1, w.2.1, ab_cpy w.2.2.1 x sp y dp n, w.2.2.2) H1 := by
    refine ⟨fun q hq0 hq1 => ?_, fun h => absurd h (by show ¬ w.1 < 187; omega), Nat.le_trans C.2.2.2.2.2.2.2.1 hS1.1, hw.2.2.2.1, hw.2.2.2.2.1, ?_, hw.2.2.2.2.2.2⟩
    · by_cases hqy : q = y
      · subst hqy
        have h3 := hP1 (ab_po q).toNat _ (List.getElem?_set_self (by have := (List.getElem?_eq_some_iff.mp hay).1; exact this))
        have h4 : ab_ce (ab_ad bnd aS) cA (ab_cpy w.2.2.1 x sp q dp n) w.2.2.2 q = .inl (cA 0, (ab_kd q).2.toNat, .inl (va_cpy (fun j => Int32.ofInt (w.2.2.1 x j)) (fun j => Int32.ofInt (w.2.2.1 q j)) (Int32.ofInt sp).toNatClampNeg (Int32.ofInt dp).toNatClampNeg (Int32.ofInt n).toNatClampNeg)) := by
          rw [ab_ce_ar (t := 0) (by rw [hy.1]; rfl) (by decide)]
          congr 3
          rw [esp, edp, en]
          congr 1
          funext j
          unfold va_cpy ab_cpy
          by_cases hj : dp ≤ (j : Int) ∧ (j : Int) < dp + n
          · rw [if_pos ⟨rfl, hj.1, hj.2⟩, if_pos (by omega)]
            show Int32.ofInt _ = Int32.ofInt (w.2.2.1 x ((sp.toNat + (j - dp.toNat) : Nat) : Int))
            rw [show ((sp.toNat + (j - dp.toNat) : Nat) : Int) = sp + ((j : Int) - dp) by omega]
          · rw [if_neg (fun h => hj h.2), if_neg (by omega)]
        show va_at D ab_clsK (_, ab_ce _ _ (ab_cpy w.2.2.1 x sp q dp n) w.2.2.2 q) H1
        rw [h4]
        exact h3
      · have h3 := hP1 (ab_po q).toNat _ (by rw [List.getElem?_set_ne (by have := po_ne hqy; have := po_nn hq0; have := po_nn hy.2.1; omega)]; exact ab_wl_at hq0 hq1 hw.2.2.2.2.1)
        show va_at D ab_clsK (_, ab_ce _ _ (ab_cpy w.2.2.1 x sp y dp n) w.2.2.2 q) H1
        rw [ab_ce_congr (g := w.2.2.1) (by funext j; simp [ab_cpy, hqy]) rfl]
        exact h3
    · intro j hj
      show Int32.ofInt (ab_cpy w.2.2.1 x sp y dp n (-2) j) = xs j
      rw [show ab_cpy w.2.2.1 x sp y dp n (-2) j = w.2.2.1 (-2) j by simp only [ab_cpy]; rw [if_neg (by omega)]]
      exact hw.2.2.2.2.2.1 j hj
  have kk := kk H1 locs1 ls hw1 hS1 hl
  rwa [hp] at kk
end AbBr
