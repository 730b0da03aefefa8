/-! THE ABSTRACT MACHINE IS SOUND, part 3: the steps that touch the world. -/
theorem ab_kdl_ok : ab_kdl.all (fun q => decide (0 ≤ q.1 ∧ 0 ≤ q.2 ∧ q.2 < 1000000 ∧ (q.1 < 10 ∨ (100 ≤ q.1 ∧ q.1 ≤ 104)))) = true := by decide +kernel
theorem ab_kd_mem (a : Int) : ab_kd a = (999, 0) ∨ (ab_kd a ∈ ab_kdl ∧ a < 187) := by
  cases a with
  | negSucc n => exact Or.inl rfl
  | ofNat n =>
    cases h : ab_nth ab_kdl n with
    | none => exact Or.inl (by simp [ab_kd, h])
    | some q =>
      refine Or.inr ⟨by simp only [ab_kd, h, Option.getD_some]; exact ab_nth_mem h, ?_⟩
      have h2 := ab_nth_lt h
      have h3 : ab_kdl.length = 187 := by decide +kernel
      rw [h3] at h2
      show (n : Int) < 187
      omega
theorem ab_kd_in {a : Int} : 0 ≤ (ab_kd a).1 ∧ 0 ≤ (ab_kd a).2 ∧ (ab_kd a).2 < 1000000 ∧ ((ab_kd a).1 < 10 ∨ (100 ≤ (ab_kd a).1 ∧ (ab_kd a).1 ≤ 104) ∨ (ab_kd a).1 = 999) := by
  rcases ab_kd_mem a with h | ⟨h, -⟩
  · rw [h]; decide
  · have h1 := List.all_eq_true.mp ab_kdl_ok _ h
    simp only [decide_eq_true_eq] at h1
    exact ⟨h1.1, h1.2.1, h1.2.2.1, h1.2.2.2.imp id Or.inl⟩
theorem ab_kd_186 {a : Int} (h : (ab_kd a).1 ≠ 999) : a < 187 := by
  rcases ab_kd_mem a with h1 | ⟨-, h1⟩
  · rw [h1] at h; exact absurd rfl h
  · exact h1
theorem ab_layC : (List.range 10).all (fun c => (List.range (ab_nF c)).all (fun k => goodWord (u_lay (ab_cls c).1 (ab_T c) k))) = true := by decide +kernel
set_option maxRecDepth 100000 in
theorem ab_layD : (List.range 10).map (fun c => (List.range (ab_nF c)).map (fun k => ab_gw ((ab_nth ((ab_nth ab_layL c).getD []) k).getD 0))) = (List.range 10).map (fun c => (List.range (ab_nF c)).map (fun k => some (u_lay (ab_cls c).1 (ab_T c) k))) := rfl
theorem ab_lays {c : Nat} (hc : c < 10) : ∀ w ∈ u_ws (ab_cls c).1 (ab_T c) (ab_nF c), w ∈ ab_TB := by
  intro w hw
  obtain ⟨k, hk, rfl⟩ := List.mem_map.mp hw
  have h1 := List.all_eq_true.mp ab_layC c (List.mem_range.mpr hc)
  have h2 := List.map_inj_left.mp (List.map_inj_left.mp ab_layD c (List.mem_range.mpr hc)) k hk
  exact ab_in_TB h2 (List.all_eq_true.mp h1 k hk)
theorem ab_tyC : (List.range 10).all (fun c => (List.range (ab_nF c)).all (fun k => decide (parseFieldDescriptor (ab_fld c k).2.1 = some (ab_ty c k)) && (List.range (ab_nF c)).all (fun j => Nat.beq k j || decide ((ab_fld c k).1 ≠ (ab_fld c j).1)))) = true := by decide +kernel
theorem ab_tys_ok {c : Nat} (hc : c < 10) : ∀ k, k < ab_nF c → parseFieldDescriptor (ab_T c k).2.2.1 = some (ab_ty c k) := by
  intro k hk
  have h1 := List.all_eq_true.mp (List.all_eq_true.mp ab_tyC c (List.mem_range.mpr hc)) k (List.mem_range.mpr hk)
  simp only [Bool.and_eq_true, decide_eq_true_eq] at h1
  exact h1.1
theorem ab_nms_ok {c : Nat} (hc : c < 10) : ∀ a, a < ab_nF c → ∀ b, b < ab_nF c → a ≠ b → (ab_T c a).2.1 ≠ (ab_T c b).2.1 := by
  intro a ha b hb hab
  have h1 := List.all_eq_true.mp (List.all_eq_true.mp ab_tyC c (List.mem_range.mpr hc)) a (List.mem_range.mpr ha)
  simp only [Bool.and_eq_true, decide_eq_true_eq] at h1
  have h2 := List.all_eq_true.mp h1.2 b (List.mem_range.mpr hb)
  simp only [Bool.or_eq_true, decide_eq_true_eq] at h2
  rcases h2 with h2 | h2
  · exact absurd (Nat.eq_of_beq_eq_true h2) hab
  · exact h2
theorem ab_lk_ok {own : String} {cp fl c a : Nat} (h : (goodWord (ab_lkW own cp fl c a) = true ∧ (ab_lkW own cp fl c a) ∈ ab_TB) ∨ (ab_isN (ab_lkW own cp fl c a) = true ∧ (ab_lkW own cp fl c a) ∈ ab_NW)) :
    (fl = 0 ∧ (Cond.fieldLink own cp (ab_cls c).1 (ab_fld c a).1 (ab_fld c a).2.1) ∈ ab_TB) ∨ (fl ≠ 0 ∧ (Cond.fieldLinkNest own cp (ab_cls c).1 (ab_fld c a).1 (ab_fld c a).2.1 "EventLedger") ∈ ab_NW) := by
  match fl, h with
  | 0, h =>
    rcases h with h | h
    · exact Or.inl ⟨rfl, h.2⟩
    · exact absurd h.1 (by simp [ab_lkW, ab_isN])
  | n + 1, h =>
    rcases h with h | h
    · exact absurd h.1 (by simp [ab_lkW, goodWord, Cond.onTables, Cond.keeps, Cond.steady])
    · exact Or.inr ⟨by omega, h.2⟩
theorem ab_own_ok {k : Nat} (hk : k < 245) {ci : Nat} (h : ab_cli k = ci) (hc : ci < 10) : (ab_cls ci).1 = ab_own k := by
  have h1 := congrArg Prod.fst (ab_ms_ok hk)
  have h2 : (ab_m k).1 = (match ab_cli k with
    | 10 => "EventLedgerLaw"
    | c => (ab_cls c).1) := h1
  rw [h] at h2
  rw [ab_own, h2]
  match ci, hc with
  | 0, _ => rfl
  | 1, _ => rfl
  | 2, _ => rfl
  | 3, _ => rfl
  | 4, _ => rfl
  | 5, _ => rfl
  | 6, _ => rfl
  | 7, _ => rfl
  | 8, _ => rfl
  | 9, _ => rfl
theorem ab_ini_ok {k : Nat} (hk : k < 245) (h : ab_knd k = 1) : (ab_yn k).name = "<init>" := by
  have h1 := congrArg Prod.snd (ab_ms_ok hk)
  have h2 : (match ab_knd k with
    | 1 => (ab_yn k).name
    | _ => "<init>") = "<init>" := h1
  rw [h] at h2
  exact h2
theorem ab_ce_ob {ad : Int → Nat} {cA : Nat → ClassId} {g r : ab_H} {a : Int} {c : Nat} (h : (ab_kd a).1 = (c : Int)) (hc : c < 10) : ab_ce ad cA g r a = .inr (c, ab_fs ad g r c a) := by
  unfold ab_ce
  rw [if_pos (by omega), h]
  rfl
theorem ab_ce_ar {ad : Int → Nat} {cA : Nat → ClassId} {g r : ab_H} {a : Int} {t : Nat} (h : (ab_kd a).1 = 100 + (t : Int)) (ht : t < 3) : ab_ce ad cA g r a = .inl (cA t, (ab_kd a).2.toNat, .inl fun j => Int32.ofInt (g a j)) := by
  unfold ab_ce
  rw [if_neg (by omega), if_neg (by omega), if_neg (by omega), h, show ((100 : Int) + t - 100).toNat = t by omega]
theorem ab_ce_al {ad : Int → Nat} {cA : Nat → ClassId} {g r : ab_H} {a : Int} (h : (ab_kd a).1 = 103) : ab_ce ad cA g r a = .inl (cA 3, (ab_kd a).2.toNat, .inr (.inl fun j => Int64.ofInt (g a j))) := by
  unfold ab_ce
  rw [if_neg (by omega), if_pos h]
theorem ab_ce_aq {ad : Int → Nat} {cA : Nat → ClassId} {g r : ab_H} {a : Int} (h : (ab_kd a).1 = 104) : ab_ce ad cA g r a = .inl (cA 4, (ab_kd a).2.toNat, .inr (.inr (.inr (.inr fun j => if r a j = -1 then none else some (ad (r a j)))))) := by
  unfold ab_ce
  rw [if_neg (by omega), if_neg (by omega), if_pos h]
theorem ab_ce_congr {ad : Int → Nat} {cA : Nat → ClassId} {g r g' r' : ab_H} {a : Int} (h1 : g' a = g a) (h2 : r' a = r a) : ab_ce ad cA g' r' a = ab_ce ad cA g r a := by
  unfold ab_ce ab_fs
  rw [h1, h2]
theorem ab_up_ne {g : ab_H} {a k v b : Int} (h : b ≠ a) : ab_up g a k v b = g b := by
  funext j
  simp [ab_up, h]
theorem ab_up_at (g : ab_H) (a k v : Int) : ab_up g a k v a k = v := by simp [ab_up]
theorem ab_up_k {g : ab_H} {a k v j : Int} (h : j ≠ k) : ab_up g a k v a j = g a j := by simp [ab_up, h]
theorem ab_new_ne {g : ab_H} {K v b : Int} (h : b ≠ K) : ab_new g K v b = g b := by
  funext j
  simp [ab_new, h]
theorem ab_new_at (g : ab_H) (K v j : Int) : ab_new g K v K j = v := by simp [ab_new]
theorem ab_P1 {D : va_G} {cl : List vw_C} {q : Nat × va_E} {H : Heap} (h : va_at D cl q H) : va_P D cl [q] H := by
  intro k x hx
  cases k with
  | zero => cases hx; exact h
  | succ k => simp at hx
theorem ab_hw_set {D : va_G} {cA : Nat → ClassId} {bnd : Nat} {aS : Int → Nat} {SL : Nat} {xs : Nat → Int32} {w : ab_W} {H H' : Heap} {a : Int} {g' r' : ab_H} (hw : ab_HW D cA bnd aS SL xs w H) (h0 : 0 ≤ a) (hz : H'.size = H.size) (hoff : ∀ q : Nat, q ≠ ab_ad bnd aS a → H'[q]? = H[q]?)
    (hon : va_at D ab_clsK (ab_ad bnd aS a, ab_ce (ab_ad bnd aS) cA g' r' a) H') (hg : ∀ b, b ≠ a → g' b = w.2.2.1 b) (hr : ∀ b, b ≠ a → r' b = w.2.2.2 b) : ab_HW D cA bnd aS SL xs (w.1, w.2.1, g', r') H' := by
  obtain ⟨h1, h2, h3, h4, h5, h6, h7⟩ := hw
  refine ⟨fun b hb0 hb1 => ?_, fun h => by rw [hz]; exact h2 h, by rw [hz]; exact h3, h4, h5, ?_, ?_⟩
  · by_cases hb : b = a
    · rw [hb]; exact hon
    · show va_at D ab_clsK (_, ab_ce _ _ g' r' b) H'
      rw [ab_ce_congr (hg b hb) (hr b hb)]
      refine (h1 b hb0 hb1).kept (hoff _ ?_)
      rw [ab_ad_nn hb0, ab_ad_nn h0]
      have := po_ne hb
      have := po_nn hb0
      have := po_nn h0
      omega
  · intro j hj
    show Int32.ofInt (g' (-2) j) = xs j
    rw [hg (-2) (by omega)]
    exact h6 j hj
  · show r' (-2) (-1) = SL
    rw [hr (-2) (by omega)]
    exact h7
theorem ab_S_put {bnd : Nat} {H0 H H1 : Heap} {locs : List Loc} {a : Nat} {j : Nat} (h : va_S (fun q => bnd ≤ q) H0 H locs) (z : H1.size = H.size) (oq : ∀ q : Nat, q ≠ a → H1[q]? = H[q]?) (ha : bnd ≤ a) : va_S (fun q => bnd ≤ q) H0 H1 (locs ++ [⟨a, j⟩]) := h.put z oq ha
theorem ab_fs_len (ad : Int → Nat) (g r : ab_H) (c : Nat) (a : Int) : (ab_fs ad g r c a).length = ab_nF c := by simp [ab_fs]
theorem ab_fs_at {ad : Int → Nat} {g r : ab_H} {c : Nat} {a : Int} {j : Nat} (h : j < ab_nF c) : (ab_fs ad g r c a)[j]? = some (ab_fv ad (ab_fld c j).2.2.2 (g a j) (r a j)) := by
  simp [ab_fs, List.getElem?_map, List.getElem?_range, h]
theorem ab_fs_set {ad : Int → Nat} {g r g' r' : ab_H} {c : Nat} {a : Int} {j : Nat} (hg : ∀ i : Nat, i ≠ j → g' a i = g a i) (hr : ∀ i : Nat, i ≠ j → r' a i = r a i) : (ab_fs ad g r c a).set j (ab_fv ad (ab_fld c j).2.2.2 (g' a j) (r' a j)) = ab_fs ad g' r' c a := by
  apply List.ext_getElem?
  intro i
  rw [List.getElem?_set]
  by_cases hi : i < ab_nF c
  · by_cases hij : j = i
    · subst hij
      rw [if_pos rfl, ab_fs_len, if_pos hi, ab_fs_at hi]
    · rw [if_neg hij, ab_fs_at hi, ab_fs_at hi, hg i (Ne.symm hij), hr i (Ne.symm hij)]
  · have h1 : (ab_fs ad g r c a)[i]? = none := by rw [List.getElem?_eq_none_iff, ab_fs_len]; omega
    have h2 : (ab_fs ad g' r' c a)[i]? = none := by rw [List.getElem?_eq_none_iff, ab_fs_len]; omega
    rw [h1, h2]
    split
    · rw [ab_fs_len]; split
      · omega
      · rfl
    · rfl
section AbHeap
variable {p : Program} {l : Launch} {e : Env} {R : Room} {s : State} {m : MethodId} {args : Array Value} {below : List Frame} {meth : Method} {c : Code} {Q : State → Prop} {D : va_G} {cA : Nat → ClassId} {bnd : Nat} {aS : Int → Nat} {SL : Nat} {xs : Nat → Int32} {K0 : Int} {S0 : Nat} {k : Nat}
theorem ab_p35 {i a nx : Nat} {b : Int} {L : ab_F} {st : List ab_V} {w : ab_W} {x : Int} (C : ab_Cx D cA bnd aS SL xs k p R s m args meth c) (ho : ab_nth (ab_cod k) i = some (35, a, b, nx)) (hx : (ab_kd x).1 = b ∧ 0 ≤ x ∧ ab_po x < w.1) (kk : ab_WW p l e R s m args below meth c Q D cA bnd aS SL xs K0 S0 k nx L ((0, w.2.2.1 x a) :: st) w) : ab_WW p l e R s m args below meth c Q D cA bnd aS SL xs K0 S0 k i L ((2, x) :: st) w := by
  intro H locs ls hw hS hl
  have kk := kk H locs ls hw hS hl
  obtain ⟨hd, hsc, hp⟩ := ab_dec1 ho (by decide) rfl rfl
  rw [hp] at kk
  simp only [Bool.and_eq_true, decide_eq_true_eq] at hsc
  obtain ⟨⟨hfB, hb0⟩, hlk⟩ := hsc
  simp only [ab_fB, Bool.and_eq_true] at hfB
  obtain ⟨⟨hc10, haF⟩, htg⟩ := hfB
  have hc10 : b.toNat < 10 := ab_blt hc10
  have haF : a < ab_nF b.toNat := ab_blt haF
  have hat := hw.1 x hx.2.1 hx.2.2
  rw [ab_ce_ob (c := b.toNat) (by rw [hx.1]; omega) hc10] at hat
  have hv : (ab_fs (ab_ad bnd aS) w.2.2.1 w.2.2.2 b.toNat x)[a]? = some (.int (Int32.ofInt (w.2.2.1 x a))) := by
    rw [ab_fs_at haF]
    have h2 : (ab_fld b.toNat a).2.2.2 = 0 ∨ (ab_fld b.toNat a).2.2.2 = 3 := by simpa using htg
    rcases h2 with h2 | h2 <;> rw [h2] <;> rfl
  rcases ab_lk_ok (ab_nw_ok ho (List.mem_singleton.mpr rfl)) with ⟨-, hlk⟩ | ⟨-, hlk⟩
  · exact va_get (D := D) (cl := ab_clsK) (Ts := ab_TB) C.1 C.2.1 C.2.2.2.2.1 (ab_lays hc10) C.2.2.2.1 C.2.2.2.2.2.2.2.2.2.2.1 (ab_P1 hat) 0 rfl (ab_clsK_at hc10) a haF (C.2.2.2.2.1 _ hlk) (fun _ h => h) hv hd kk
  · exact va_getN (D := D) (cl := ab_clsK) (Ts := ab_TB) C.1 C.2.1 C.2.2.2.2.1 (ab_lays hc10) C.2.2.2.1 C.2.2.2.2.2.2.2.2.2.2.1 (ab_P1 hat) 0 rfl (ab_clsK_at hc10) a haF (va_Nw.use rfl (C.2.2.2.2.2.1.1 _ hlk)) (fun _ h => h) hv hd kk
theorem ab_p37 {i a nx : Nat} {b : Int} {L : ab_F} {st : List ab_V} {w : ab_W} {x : Int} (C : ab_Cx D cA bnd aS SL xs k p R s m args meth c) (ho : ab_nth (ab_cod k) i = some (37, a, b, nx)) (hx : (ab_kd x).1 = b ∧ 0 ≤ x ∧ ab_po x < w.1) (hn : w.2.2.2 x a ≠ -1) (kk : ab_WW p l e R s m args below meth c Q D cA bnd aS SL xs K0 S0 k nx L ((2, w.2.2.2 x a) :: st) w) : ab_WW p l e R s m args below meth c Q D cA bnd aS SL xs K0 S0 k i L ((2, x) :: st) w := by
  intro H locs ls hw hS hl
  have kk := kk H locs ls hw hS hl
  obtain ⟨hd, hsc, hp⟩ := ab_dec1 ho (by decide) rfl rfl
  rw [hp] at kk
  simp only [Bool.and_eq_true, decide_eq_true_eq] at hsc
  obtain ⟨⟨hfB, hb0⟩, hlk⟩ := hsc
  simp only [ab_fB, Bool.and_eq_true] at hfB
  obtain ⟨⟨hc10, haF⟩, htg⟩ := hfB
  have hc10 : b.toNat < 10 := ab_blt hc10
  have haF : a < ab_nF b.toNat := ab_blt haF
  have hat := hw.1 x hx.2.1 hx.2.2
  rw [ab_ce_ob (c := b.toNat) (by rw [hx.1]; omega) hc10] at hat
  have hv : (ab_fs (ab_ad bnd aS) w.2.2.1 w.2.2.2 b.toNat x)[a]? = some (.ref (ab_ad bnd aS (w.2.2.2 x a))) := by
    rw [ab_fs_at haF]
    have h2 : (ab_fld b.toNat a).2.2.2 = 2 := by simpa using htg
    rw [h2]
    simp [ab_fv, hn]
  rcases ab_lk_ok (ab_nw_ok ho (List.mem_singleton.mpr rfl)) with ⟨-, hlk⟩ | ⟨-, hlk⟩
  · exact va_get (D := D) (cl := ab_clsK) (Ts := ab_TB) C.1 C.2.1 C.2.2.2.2.1 (ab_lays hc10) C.2.2.2.1 C.2.2.2.2.2.2.2.2.2.2.1 (ab_P1 hat) 0 rfl (ab_clsK_at hc10) a haF (C.2.2.2.2.1 _ hlk) (fun _ h => h) hv hd kk
  · exact va_getN (D := D) (cl := ab_clsK) (Ts := ab_TB) C.1 C.2.1 C.2.2.2.2.1 (ab_lays hc10) C.2.2.2.1 C.2.2.2.2.2.2.2.2.2.2.1 (ab_P1 hat) 0 rfl (ab_clsK_at hc10) a haF (va_Nw.use rfl (C.2.2.2.2.2.1.1 _ hlk)) (fun _ h => h) hv hd kk
theorem ab_narr {ty : FieldType} {a : Nat} (h : ty.isReference = true) : narrow ty (.ref a) = .ref a := by
  cases ty <;> first | rfl | (simp [FieldType.isReference] at h)
theorem ab_fitr {ty : FieldType} {a : Nat} (h : ty.isReference = true) : fits ty (.ref a) = true := by
  cases ty <;> first | rfl | (simp [FieldType.isReference] at h)
/-- a store into a field of a kind of ours, by a link of its own or of a nest -/
theorem ab_put {ci j idx o : Nat} {H : Heap} {locs : List Loc} {pc : Nat} {ls : Array Slot} {rest : List Value} {v : Value} {cells slots : Nat} {fs : List Value}
    (C : ab_Cx D cA bnd aS SL xs k p R s m args meth c) (hc10 : ci < 10) (hj : j < ab_nF ci) (hat : va_at D ab_clsK (o, .inr (ci, fs)) H) (hfl : fs.length = ab_nF ci)
    (hfin : (ab_fld ci j).2.2.1 = false ∨ ((ab_fld ci j).2.2.1 = true ∧ (ab_yn k).name = "<init>" ∧ (ab_cls ci).1 = ab_own k))
    (hlk : (Cond.fieldLink (ab_own k) idx (ab_cls ci).1 (ab_fld ci j).1 (ab_fld ci j).2.1) ∈ ab_TB ∨ ((Cond.fieldLinkNest (ab_own k) idx (ab_cls ci).1 (ab_fld ci j).1 (ab_fld ci j).2.1 "EventLedger") ∈ ab_NW ∧ (ab_fld ci j).2.2.1 = false))
    (hn : narrow (ab_ty ci j) v = v) (hfit : fits (ab_ty ci j) v = true) (hd : decode (ab_bts k) pc = .ok (.putfield idx, 3))
    (kk : ∀ (H1 : Heap) (f : Nat), va_at D ab_clsK (o, .inr (ci, fs.set j v)) H1 → H1.size = H.size → (∀ q : Nat, q ≠ o → H1[q]? = H[q]?) → W p l e R s m args below meth c H1 (locs ++ [⟨o, f⟩]) cells slots Q (F0 m (pc + 3) ls rest)) :
    W p l e R s m args below meth c H locs cells slots Q (F0 m pc ls (v :: .ref o :: rest)) := by
  have hts := C.2.2.2.2.1
  have hK := C.2.2.2.2.2.2.2.2.2.2.1
  have hc := ab_clsK_at hc10
  have hin := ab_lays hc10
  have hap := va_apart (own := ab_own k) hts hin (ab_ty ci) (ab_tys_ok hc10) (ab_nms_ok hc10) hK hc
  obtain ⟨r, h1, cell, q1, q2, q3, q4⟩ := hat
  have hr : r = ((ab_cls ci).1, ab_T ci, ab_nF ci) := Option.some.inj (h1.symm.trans hc)
  subst hr
  obtain ⟨hS, hfc, kC, hkC, hkind⟩ := hK.1 ci _ hc
  obtain ⟨cf, kf, fi, f, hi, hsl⟩ := hS j hj
  have hty := ab_tys_ok hc10 j hj
  have hst := (u_facts hfc hkC (u_lays hts hin hj) hi).1
  have fin : ∀ (H' : Heap), H'[o]? = some (cell.setSlot f.slot v) → H'.size = H.size → (∀ q, q ≠ o → H'[q]? = H[q]?) → W p l e R s m args below meth c H' (locs ++ [⟨o, f.slot⟩]) cells slots Q (F0 m (pc + 3) ls rest) := by
    intro H' e1 e2 e3
    refine kk H' f.slot ⟨_, hc, t_OB.to (V := updV (vp_V fs) j v) ⟨cell.setSlot (D.2 ci j) v, by rw [hsl] at e1; exact e1, q2, q3, t_set q4 hap hj v⟩ (fun i _ => vp_updV_set (by rw [hfl]; exact hj) v i)⟩ e2 e3
  have hlay := hts _ (hin _ (u_in_lay hj))
  rcases hfin with hfin | ⟨hfin, hini, hown2⟩
  · unfold u_lay at hlay
    rw [if_neg (show ¬ (ab_T ci j).2.2.2 = true by show ¬ (ab_fld ci j).2.2.1 = true; rw [hfin]; decide)] at hlay
    have h6 := u_store hfc hkC hkind hlay hi hty hn hfit
    rcases hlk with hlk | ⟨hlk, -⟩
    · exact W.putK C.1 C.2.1 (f := f) ⟨C.2.2.2.1, hts _ hlk, ⟨_, _, _, hi⟩, hst⟩ (by rw [q2]; exact h6) q1 q3 (by rw [hsl]; exact k2_hasslot (q4 j hj)) rfl rfl hd fin
    · exact va_WputK C.1 C.2.1 C.2.2.2.1 (va_Nw.use rfl (C.2.2.2.2.2.1.1 _ hlk)) hi hst (by rw [q2]; exact h6) q1 q3 (by rw [hsl]; exact k2_hasslot (q4 j hj)) rfl rfl hd fin
  · rcases hlk with hlk | ⟨-, hlk⟩
    · have hlay2 := hlay
      unfold u_lay at hlay
      rw [if_pos (show (ab_T ci j).2.2.2 = true from hfin)] at hlay
      have hcf : m.cls = cf := by
        obtain ⟨_, _, c', _, _, _, -, -, hf', -, -, -, hown3, -⟩ := Cond.laysFinal_spec hlay
        have e1 : c' = cf := by have := hi.symm.trans hf'; simp at this; exact this.1.symm
        have hown4 : s.vm.findClass (ab_own k) = some c' := by rw [← hown2]; exact hown3
        rw [← e1]; exact Option.some.inj (C.2.2.2.1.symm.trans hown4)
      have h6 := u_fits hfc hkC hkind (Or.inr hlay) hi hty hn hfit
      exact W.putFinK C.1 C.2.1 C.2.2.2.1 (hts _ hlk) hi hst hcf (C.2.2.2.2.2.2.1 hini) (by rw [q2]; exact h6) q1 q3 (by rw [hsl]; exact k2_hasslot (q4 j hj)) rfl rfl hd fin
    · rw [hfin] at hlk; cases hlk
theorem ab_p38 {i a nx : Nat} {b : Int} {L : ab_F} {st : List ab_V} {w : ab_W} {x v : Int} (C : ab_Cx D cA bnd aS SL xs k p R s m args meth c) (ho : ab_nth (ab_cod k) i = some (38, a, b, nx)) (hx : (ab_kd x).1 = b ∧ 0 ≤ x ∧ ab_po x < w.1)  (kk : ab_WW p l e R s m args below meth c Q D cA bnd aS SL xs K0 S0 k nx L st (w.1, w.2.1, (ab_up w.2.2.1 x a v), w.2.2.2)) : ab_WW p l e R s m args below meth c Q D cA bnd aS SL xs K0 S0 k i L ((0, v) :: (2, x) :: st) w := by
  intro H locs ls hw hS hl
  obtain ⟨hd, hsc, hp⟩ := ab_dec1 ho (by decide) rfl rfl
  simp only [Bool.and_eq_true, decide_eq_true_eq] at hsc
  obtain ⟨⟨⟨⟨hfB, hty⟩, hb0⟩, hnf⟩, hlk⟩ := hsc
  simp only [ab_fB, Bool.and_eq_true] at hfB
  obtain ⟨⟨hc10, haF⟩, htg⟩ := hfB
  have hc10 : b.toNat < 10 := ab_blt hc10
  have haF : a < ab_nF b.toNat := ab_blt haF
  have hat := hw.1 x hx.2.1 hx.2.2
  have hkd : (ab_kd x).1 = (b.toNat : Int) := by rw [hx.1]; omega
  rw [ab_ce_ob (c := b.toNat) hkd hc10] at hat
  show W p l e R s m args below meth c H locs _ _ Q (F0 m (ab_pc k i) ls (.int (Int32.ofInt v) :: .ref (ab_ad bnd aS x) :: st.map (ab_cv (ab_ad bnd aS))))
  refine ab_put C hc10 haF hat (ab_fs_len _ _ _ _ _) (Or.inl (by simpa using hnf)) ?_ (by rw [hty]; rfl) (by rw [hty]; rfl) hd (fun H1 f hat1 hz hoff => ?_)
  · rcases ab_lk_ok (ab_nw_ok ho (List.mem_singleton.mpr rfl)) with ⟨-, hlk⟩ | ⟨hnest, hlk⟩
    · exact Or.inl hlk
    · exact Or.inr ⟨hlk, by simpa using hnf⟩
  · have hw1 : ab_HW D cA bnd aS SL xs (w.1, w.2.1, (ab_up w.2.2.1 x a v), w.2.2.2) H1 := by
      refine ab_hw_set hw hx.2.1 hz hoff ?_ (fun q hq => ab_up_ne hq) (fun q hq => rfl)
      rw [ab_ce_ob (c := b.toNat) hkd hc10]
      have hset := ab_fs_set (ad := ab_ad bnd aS) (g := w.2.2.1) (r := w.2.2.2) (g' := (ab_up w.2.2.1 x a v)) (r' := w.2.2.2) (c := b.toNat) (a := x) (j := a) (fun q hq => ab_up_k (by omega)) (fun q hq => rfl)
      rw [← hset]
      have h2 : (ab_fld b.toNat a).2.2.2 = 0 ∨ (ab_fld b.toNat a).2.2.2 = 3 := by simpa using htg
      have h3 : ab_fv (ab_ad bnd aS) (ab_fld b.toNat a).2.2.2 (ab_up w.2.2.1 x a v x a) (w.2.2.2 x a) = .int (Int32.ofInt v) := by
        rw [ab_up_at]
        rcases h2 with h2 | h2 <;> rw [h2] <;> rfl
      rw [h3]
      exact hat1
    have hba : bnd ≤ ab_ad bnd aS x := by rw [ab_ad_nn hx.2.1]; omega
    have kk := kk H1 _ ls hw1 (ab_S_put (j := f) hS hz hoff hba) hl
    rwa [hp] at kk
theorem ab_p39 {i a nx : Nat} {b : Int} {L : ab_F} {st : List ab_V} {w : ab_W} {x v : Int} (C : ab_Cx D cA bnd aS SL xs k p R s m args meth c) (ho : ab_nth (ab_cod k) i = some (39, a, b, nx)) (hx : (ab_kd x).1 = b ∧ 0 ≤ x ∧ ab_po x < w.1) (hv : v = 0 ∨ v = 1) (kk : ab_WW p l e R s m args below meth c Q D cA bnd aS SL xs K0 S0 k nx L st (w.1, w.2.1, (ab_up w.2.2.1 x a v), w.2.2.2)) : ab_WW p l e R s m args below meth c Q D cA bnd aS SL xs K0 S0 k i L ((0, v) :: (2, x) :: st) w := by
  intro H locs ls hw hS hl
  obtain ⟨hd, hsc, hp⟩ := ab_dec1 ho (by decide) rfl rfl
  simp only [Bool.and_eq_true, decide_eq_true_eq] at hsc
  obtain ⟨⟨⟨⟨hfB, hty⟩, hb0⟩, hnf⟩, hlk⟩ := hsc
  simp only [ab_fB, Bool.and_eq_true] at hfB
  obtain ⟨⟨hc10, haF⟩, htg⟩ := hfB
  have hc10 : b.toNat < 10 := ab_blt hc10
  have haF : a < ab_nF b.toNat := ab_blt haF
  have hat := hw.1 x hx.2.1 hx.2.2
  have hkd : (ab_kd x).1 = (b.toNat : Int) := by rw [hx.1]; omega
  rw [ab_ce_ob (c := b.toNat) hkd hc10] at hat
  show W p l e R s m args below meth c H locs _ _ Q (F0 m (ab_pc k i) ls (.int (Int32.ofInt v) :: .ref (ab_ad bnd aS x) :: st.map (ab_cv (ab_ad bnd aS))))
  refine ab_put C hc10 haF hat (ab_fs_len _ _ _ _ _) (Or.inl (by simpa using hnf)) ?_ (by rw [hty]; rcases hv with rfl | rfl <;> rfl) (by rw [hty]; rcases hv with rfl | rfl <;> rfl) hd (fun H1 f hat1 hz hoff => ?_)
  · rcases ab_lk_ok (ab_nw_ok ho (List.mem_singleton.mpr rfl)) with ⟨-, hlk⟩ | ⟨hnest, hlk⟩
    · exact Or.inl hlk
    · exact Or.inr ⟨hlk, by simpa using hnf⟩
  · have hw1 : ab_HW D cA bnd aS SL xs (w.1, w.2.1, (ab_up w.2.2.1 x a v), w.2.2.2) H1 := by
      refine ab_hw_set hw hx.2.1 hz hoff ?_ (fun q hq => ab_up_ne hq) (fun q hq => rfl)
      rw [ab_ce_ob (c := b.toNat) hkd hc10]
      have hset := ab_fs_set (ad := ab_ad bnd aS) (g := w.2.2.1) (r := w.2.2.2) (g' := (ab_up w.2.2.1 x a v)) (r' := w.2.2.2) (c := b.toNat) (a := x) (j := a) (fun q hq => ab_up_k (by omega)) (fun q hq => rfl)
      rw [← hset]
      have h2 : (ab_fld b.toNat a).2.2.2 = 3 := by simpa using htg
      have h3 : ab_fv (ab_ad bnd aS) (ab_fld b.toNat a).2.2.2 (ab_up w.2.2.1 x a v x a) (w.2.2.2 x a) = .int (Int32.ofInt v) := by
        rw [ab_up_at, h2]; rfl
      rw [h3]
      exact hat1
    have hba : bnd ≤ ab_ad bnd aS x := by rw [ab_ad_nn hx.2.1]; omega
    have kk := kk H1 _ ls hw1 (ab_S_put (j := f) hS hz hoff hba) hl
    rwa [hp] at kk
theorem ab_p40 {i a nx : Nat} {b : Int} {L : ab_F} {st : List ab_V} {w : ab_W} {x v : Int} (C : ab_Cx D cA bnd aS SL xs k p R s m args meth c) (ho : ab_nth (ab_cod k) i = some (40, a, b, nx)) (hx : (ab_kd x).1 = b ∧ 0 ≤ x ∧ ab_po x < w.1) (hv : v ≠ -1) (kk : ab_WW p l e R s m args below meth c Q D cA bnd aS SL xs K0 S0 k nx L st (w.1, w.2.1, w.2.2.1, (ab_up w.2.2.2 x a v))) : ab_WW p l e R s m args below meth c Q D cA bnd aS SL xs K0 S0 k i L ((2, v) :: (2, x) :: st) w := by
  intro H locs ls hw hS hl
  obtain ⟨hd, hsc, hp⟩ := ab_dec1 ho (by decide) rfl rfl
  simp only [Bool.and_eq_true, decide_eq_true_eq] at hsc
  obtain ⟨⟨⟨⟨hfB, hty⟩, hb0⟩, hnf⟩, hlk⟩ := hsc
  simp only [ab_fB, Bool.and_eq_true] at hfB
  obtain ⟨⟨hc10, haF⟩, htg⟩ := hfB
  have hc10 : b.toNat < 10 := ab_blt hc10
  have haF : a < ab_nF b.toNat := ab_blt haF
  have hat := hw.1 x hx.2.1 hx.2.2
  have hkd : (ab_kd x).1 = (b.toNat : Int) := by rw [hx.1]; omega
  rw [ab_ce_ob (c := b.toNat) hkd hc10] at hat
  show W p l e R s m args below meth c H locs _ _ Q (F0 m (ab_pc k i) ls (.ref (ab_ad bnd aS v) :: .ref (ab_ad bnd aS x) :: st.map (ab_cv (ab_ad bnd aS))))
  refine ab_put C hc10 haF hat (ab_fs_len _ _ _ _ _) (Or.inl (by simpa using hnf)) ?_ (ab_narr hty) (ab_fitr hty) hd (fun H1 f hat1 hz hoff => ?_)
  · rcases ab_lk_ok (ab_nw_ok ho (List.mem_singleton.mpr rfl)) with ⟨-, hlk⟩ | ⟨hnest, hlk⟩
    · exact Or.inl hlk
    · exact Or.inr ⟨hlk, by simpa using hnf⟩
  · have hw1 : ab_HW D cA bnd aS SL xs (w.1, w.2.1, w.2.2.1, (ab_up w.2.2.2 x a v)) H1 := by
      refine ab_hw_set hw hx.2.1 hz hoff ?_ (fun q hq => rfl) (fun q hq => ab_up_ne hq)
      rw [ab_ce_ob (c := b.toNat) hkd hc10]
      have hset := ab_fs_set (ad := ab_ad bnd aS) (g := w.2.2.1) (r := w.2.2.2) (g' := w.2.2.1) (r' := (ab_up w.2.2.2 x a v)) (c := b.toNat) (a := x) (j := a) (fun q hq => rfl) (fun q hq => ab_up_k (by omega))
      rw [← hset]
      have h2 : (ab_fld b.toNat a).2.2.2 = 2 := by simpa using htg
      have h3 : ab_fv (ab_ad bnd aS) (ab_fld b.toNat a).2.2.2 (w.2.2.1 x a) (ab_up w.2.2.2 x a v x a) = .ref (ab_ad bnd aS v) := by
        rw [ab_up_at, h2]; simp [ab_fv, hv]
      rw [h3]
      exact hat1
    have hba : bnd ≤ ab_ad bnd aS x := by rw [ab_ad_nn hx.2.1]; omega
    have kk := kk H1 _ ls hw1 (ab_S_put (j := f) hS hz hoff hba) hl
    rwa [hp] at kk
theorem ab_p41 {i a nx : Nat} {b : Int} {L : ab_F} {st : List ab_V} {w : ab_W} {x v : Int} (C : ab_Cx D cA bnd aS SL xs k p R s m args meth c) (ho : ab_nth (ab_cod k) i = some (41, a, b, nx)) (hx : (ab_kd x).1 = b ∧ 0 ≤ x ∧ ab_po x < w.1) (hv : v ≠ -1) (kk : ab_WW p l e R s m args below meth c Q D cA bnd aS SL xs K0 S0 k nx L st (w.1, w.2.1, w.2.2.1, (ab_up w.2.2.2 x a v))) : ab_WW p l e R s m args below meth c Q D cA bnd aS SL xs K0 S0 k i L ((2, v) :: (2, x) :: st) w := by
  intro H locs ls hw hS hl
  obtain ⟨hd, hsc, hp⟩ := ab_dec1 ho (by decide) rfl rfl
  simp only [Bool.and_eq_true, decide_eq_true_eq] at hsc
  obtain ⟨⟨⟨⟨⟨⟨⟨hfB, hty⟩, hb0⟩, hfi⟩, hknd⟩, hk244⟩, hcli⟩, hfl0⟩ := hsc
  simp only [ab_fB, Bool.and_eq_true] at hfB
  obtain ⟨⟨hc10, haF⟩, htg⟩ := hfB
  have hc10 : b.toNat < 10 := ab_blt hc10
  have haF : a < ab_nF b.toNat := ab_blt haF
  have hat := hw.1 x hx.2.1 hx.2.2
  have hkd : (ab_kd x).1 = (b.toNat : Int) := by rw [hx.1]; omega
  rw [ab_ce_ob (c := b.toNat) hkd hc10] at hat
  show W p l e R s m args below meth c H locs _ _ Q (F0 m (ab_pc k i) ls (.ref (ab_ad bnd aS v) :: .ref (ab_ad bnd aS x) :: st.map (ab_cv (ab_ad bnd aS))))
  refine ab_put C hc10 haF hat (ab_fs_len _ _ _ _ _) (Or.inr ⟨hfi, ab_ini_ok (ab_blt hk244) (Nat.eq_of_beq_eq_true hknd), ab_own_ok (ab_blt hk244) (Nat.eq_of_beq_eq_true hcli) hc10⟩) ?_ (ab_narr hty) (ab_fitr hty) hd (fun H1 f hat1 hz hoff => ?_)
  · rcases ab_lk_ok (ab_nw_ok ho (List.mem_singleton.mpr rfl)) with ⟨-, hlk⟩ | ⟨hnest, hlk⟩
    · exact Or.inl hlk
    · exact absurd (Nat.eq_of_beq_eq_true hfl0) hnest
  · have hw1 : ab_HW D cA bnd aS SL xs (w.1, w.2.1, w.2.2.1, (ab_up w.2.2.2 x a v)) H1 := by
      refine ab_hw_set hw hx.2.1 hz hoff ?_ (fun q hq => rfl) (fun q hq => ab_up_ne hq)
      rw [ab_ce_ob (c := b.toNat) hkd hc10]
      have hset := ab_fs_set (ad := ab_ad bnd aS) (g := w.2.2.1) (r := w.2.2.2) (g' := w.2.2.1) (r' := (ab_up w.2.2.2 x a v)) (c := b.toNat) (a := x) (j := a) (fun q hq => rfl) (fun q hq => ab_up_k (by omega))
      rw [← hset]
      have h2 : (ab_fld b.toNat a).2.2.2 = 2 := by simpa using htg
      have h3 : ab_fv (ab_ad bnd aS) (ab_fld b.toNat a).2.2.2 (w.2.2.1 x a) (ab_up w.2.2.2 x a v x a) = .ref (ab_ad bnd aS v) := by
        rw [ab_up_at, h2]; simp [ab_fv, hv]
      rw [h3]
      exact hat1
    have hba : bnd ≤ ab_ad bnd aS x := by rw [ab_ad_nn hx.2.1]; omega
    have kk := kk H1 _ ls hw1 (ab_S_put (j := f) hS hz hoff hba) hl
    rwa [hp] at kk
end AbHeap
