/-! SPECS, part zzp: text, the class's LINES of ACCOUNT, LIFT, TALLY, SNAP, SEED. -/
theorem hI_of {c : Cx} {d : Zd} {g r : ab_H} (hx : CR c (.ok d) g r) : Inv d := hx.1.2.2.2.2.2.2.1
theorem hp_of {c : Cx} {d : Zd} {g r : ab_H} (hx : CR c (.ok d) g r) : 0 ≤ d.p ∧ d.p ≤ c.n := hx.2.2.2.1
theorem q_readAccount {K : Int} {S : Nat} {g r : ab_H} {c : Cx} {d : Zd} (P : ab_H → ab_H → Prop) (hr : SI r) (hK : 186 ≤ K) (hc : CxOk c) (hx : CR c (.ok d) g r) (h : ∀ g' r' : ab_H, SI r' → CR c (zstop c.b c.n (zl_acc c.b c.n d)) g' r' → P g' r') : ab_RV m_Pa_readAccount [(2, 2)] K S g r P := by
  have hI := hI_of hx
  have hp := hp_of hx
  have hI1 := hI.1
  have hcom : zstop c.b c.n (zl_acc c.b c.n d) = zb (zstop c.b c.n (zck (znam c.b c.n (zadv c.b c.n (zroom d d.nA 8))).2 (fun d3 => decide (fnd d3.an d3.nA (znam c.b c.n (zadv c.b c.n (zroom d d.nA 8))).1 = -1)) 3 (zpl (zadv c.b c.n (zroom d d.nA 8))))) (fun d4 => .ok (addA d4 (znam c.b c.n (zadv c.b c.n (zroom d d.nA 8))).1)) := zstop_b (F := fun d4 => addA d4 (znam c.b c.n (zadv c.b c.n (zroom d d.nA 8))).1) (fun _ => rfl) (fun _ _ => rfl)
  rw [hcom] at h
  clear hcom
  apply v_Pa_readAccount _ hr hK
  rw [CR_te hx, hx.1.2.2.2.2.2.1.2.1]
  refine ⟨hc.2.1, ?_⟩
  apply q_room _ hr hK hc hx (by omega)
  intro g2 h2
  refine ⟨rfl, ?_⟩
  have h2' : CR c (zroom d d.nA 8) g2 r := h2
  have z0 := zsm_room (n := c.n) (lo := 0) (d := d) (x := d.nA) (y := 8) hp
  generalize zroom d d.nA 8 = X0 at h h2' z0
  apply q_adv _ hr hK hc h2'
  intro g4 r5 s5 h4
  refine ⟨s5, ?_⟩
  have z1 := zsm_adv hc.1 (Int.le_refl 0) z0
  generalize zadv c.b c.n X0 = X1 at h h4 z1
  apply q_name _ s5 hK hc h4
  intro g8 r9 s9 h8
  have z2 := zsm_nam hc.1 (Int.le_refl 0) z1
  have hv := znam_b hc.1 (Int.le_refl 0) z1
  rw [CR_te h8]
  refine ⟨s9, hc.2.1, ?_⟩
  apply q_accNamed _ s9 hK hc h8 (by omega)
  intro x hx13
  refine ⟨rfl, rfl, ?_⟩
  refine t_ck (A := fun g => ab_RV m_Pa_takeStop [(2, 2)] K S g r9 _) (C := fun d3 => decide (fnd d3.an d3.nA (znam c.b c.n X1).1 = -1)) (w' := zpl X1) s9 hK hc h8 (by omega) (fun e => e) ?_ ?_ ?_
  · intro d3 e
    have e2 := hx13 d3 e
    have hf := fnd_in (f := d3.an) (x := (znam c.b c.n X1).1) (n := d3.nA) (by have := (z2 d3 e).2.2; rw [this]; exact hI1.1)
    have hA8 : d3.nA ≤ 8 := by have := (z2 d3 e).2.2; rw [this]; exact hI1.2
    rw [decide_eq_true_iff, e2]
    constructor
    · intro hh; rw [hh]
    · intro hh; simp only [wr] at hh; omega
  · intro d3 e
    exact CR_pl h4 (ok_nam e)
  · intro g' h'
    apply q_stop _ s9 hK hc h'
    intro g14 r15 s15 h14
    refine ⟨s15, ?_⟩
    have z3 := zsm_stop hc.1 (Int.le_refl 0) (zsm_ck (c := fun d3 => decide (fnd d3.an d3.nA (znam c.b c.n X1).1 = -1)) (f := 3) (w := zpl X1) z2)
    refine t_end h14 (fun f w e => h g14 r15 s15 ?_) (fun d5 e => ?_)
    · rw [e]; rw [e] at h14; exact h14
    · rw [e] at h14 h
      obtain ⟨k1, k2, k3⟩ := z3 d5 e
      rw [CR_te h14]
      refine ⟨hc.2.1, ?_⟩
      apply q_addA _ s15 hK hc h14 (by rw [k3]; exact k1) (by omega)
      intro g19 h19
      exact ⟨rfl, h g19 r15 s15 h19⟩
theorem q_readTally {K : Int} {S : Nat} {g r : ab_H} {c : Cx} {d : Zd} (P : ab_H → ab_H → Prop) (hr : SI r) (hK : 186 ≤ K) (hc : CxOk c) (hx : CR c (.ok d) g r) (h : ∀ g' r' : ab_H, SI r' → CR c (zstop c.b c.n (zl_tally c.b c.n d)) g' r' → P g' r') : ab_RV m_Pa_readTally [(2, 2)] K S g r P := by
  have hI := hI_of hx
  have hp := hp_of hx
  have hI1 := hI.2.2.1
  have hcom : zstop c.b c.n (zl_tally c.b c.n d) = zb (zstop c.b c.n (zt_f c.b c.n d).2) (fun d5 => .ok (addT d5 (zt_a c.b c.n d).1 (zt_k c.b c.n d).1 (zt_f c.b c.n d).1)) := zstop_b (F := fun d5 => addT d5 (zt_a c.b c.n d).1 (zt_k c.b c.n d).1 (zt_f c.b c.n d).1) (fun _ => rfl) (fun _ _ => rfl)
  rw [hcom] at h
  clear hcom
  apply v_Pa_readTally _ hr hK
  rw [CR_te hx, hx.1.2.2.2.2.2.1.2.2.2.1]
  refine ⟨hc.2.1, ?_⟩
  apply q_room _ hr hK hc hx (by omega)
  intro g2 h2
  refine ⟨rfl, ?_⟩
  have h2' : CR c (zroom d d.nT 4) g2 r := h2
  have z0 := zsm_room (n := c.n) (lo := 0) (d := d) (x := d.nT) (y := 4) hp
  apply q_adv _ hr hK hc h2'
  intro g4 r5 s5 h4
  refine ⟨s5, ?_⟩
  have z1 := zsm_adv hc.1 (Int.le_refl 0) z0
  apply q_name _ s5 hK hc h4
  intro g8 r9 s9 h8
  have z2 : zsm c.n 0 (d.nT < 4) d (zt_a c.b c.n d).2 := zsm_nam hc.1 (Int.le_refl 0) z1
  have hv : 0 ≤ (zt_a c.b c.n d).1 ∧ (zt_a c.b c.n d).1 ≤ 1073741823 := znam_b hc.1 (Int.le_refl 0) z1
  have h8' : CR c (zt_a c.b c.n d).2 g8 r9 := h8
  rw [CR_te h8]
  refine ⟨s9, hc.2.1, ?_⟩
  apply q_talNamed _ s9 hK hc h8 (by show 0 ≤ (zt_a c.b c.n d).1 ∧ (zt_a c.b c.n d).1 ≤ 2147483647; omega)
  intro x hx13
  refine ⟨rfl, rfl, ?_⟩
  have hA : ∀ g' : ab_H, CR c (zt_3 c.b c.n d) g' r9 → (isWd (r9 4 5)) ∧ ab_RI m_Pa_takeNamed [(2, 2), (0, ((ab_nth ab_wt (-5 - (r9 4 5)).toNat).getD (0, 0, 0)).2.1)] K S g' r9 (fun x17 g15 r16 => SI r16 ∧ (ab_RI m_Pa_takeNumber [(2, 2), (0, 1), (0, 3)] K S g15 r16 (fun x21 g19 r20 => SI r20 ∧ (ab_RV m_Pa_takeStop [(2, 2)] K S g19 r20 (fun g23 r24 => SI r24 ∧ (((¬ wr (g23 2 6) = wr 0 → P g23 r24) ∧ (wr (g23 2 6) = wr 0 → (isTe (r24 2 2)) ∧ ab_RV m_Te_addTally [(2, r24 2 2), (0, (zt_a c.b c.n d).1), (0, x17), (0, x21)] K S g23 r24 (fun g28 r' => r' = r24 ∧ (P g28 r24)))))))))) := by
    intro g' h'
    refine ⟨CR_wd h', ?_⟩
    have z3 : zsm c.n 0 (d.nT < 4) d (zt_3 c.b c.n d) := zsm_ck z2
    apply q_named (lo := 0) (hi := 6) _ s9 hK hc h' (by omega) (by omega) (fun d3 e hd3 hk => CT_kind hc hd3 hk)
    intro g15 r16 s16 h15
    refine ⟨s16, ?_⟩
    have z4 := zsm_word (l := 0) (u := 6) hc.1 (Int.le_refl 0) z3
    have h15' : CR c (zt_k c.b c.n d).2 g15 r16 := h15
    apply q_numb _ s16 hK hc h15' (by omega) (by omega)
    intro g19 r20 s20 h19
    refine ⟨s20, ?_⟩
    have z5 := zsm_num (l := 1) (u := 3) hc.1 (Int.le_refl 0) z4
    have h19' : CR c (zt_f c.b c.n d).2 g19 r20 := h19
    apply q_stop _ s20 hK hc h19'
    intro g23 r24 s24 h23
    refine ⟨s24, ?_⟩
    have z6 := zsm_stop hc.1 (Int.le_refl 0) z5
    refine t_end h23 (fun f w e => h g23 r24 s24 ?_) (fun d5 e => ?_)
    · rw [e]; rw [e] at h23; exact h23
    · rw [e] at h23 h
      obtain ⟨k1, k2, k3⟩ := z6 d5 e
      rw [CR_te h23]
      refine ⟨hc.2.1, ?_⟩
      have e0 : (zword c.b c.n (zt_3 c.b c.n d) 0 6).1 - 0 = (zt_k c.b c.n d).1 := by show _ = (zword c.b c.n (zt_3 c.b c.n d) 0 6).1; omega
      rw [e0]
      have k1a : 0 ≤ (zt_k c.b c.n d).1 ∧ (zt_k c.b c.n d).1 ≤ 6 := k1.1.2
      have k1b : 1 ≤ (zt_f c.b c.n d).1 ∧ (zt_f c.b c.n d).1 ≤ 3 := k1.2
      apply q_addT _ s24 hK hc h23 (by rw [k3]; exact k1.1.1) (by omega) k1a k1b
      intro g28 h28
      exact ⟨rfl, h g28 r24 s24 h28⟩
  refine t_ck (C := fun d3 => decide (fnd d3.tn d3.nT (zt_a c.b c.n d).1 = -1)) (w' := zpl (zadv c.b c.n (zroom d d.nT 4))) s9 hK hc h8' (by omega) (fun e => e) ?_ ?_ hA
  · intro d3 e
    have e2 := hx13 d3 e
    have hf := fnd_in (f := d3.tn) (x := (zt_a c.b c.n d).1) (n := d3.nT) (by have := (z2 d3 e).2.2; rw [this]; exact hI1.1)
    have hA8 : d3.nT ≤ 4 := by have := (z2 d3 e).2.2; rw [this]; exact hI1.2
    have e3 : x = fnd d3.tn d3.nT (zt_a c.b c.n d).1 := e2
    rw [decide_eq_true_iff, e3]
    constructor
    · intro hh; rw [hh]
    · intro hh; simp only [wr] at hh; omega
  · intro d3 e
    exact CR_pl h4 (ok_nam e)
theorem CB_te {c : Cx} {d d' : Zd} {g r : ab_H} {i v : Int} (hc : CxOk c) (hi : 10 ≤ i ∧ i ≤ 12) (h : CB c d g r) (h1 : d' = (Zd.mk d.p d.nA d.an d.nT d.tn d.tk d.tf d.T (if i = 10 then v else d.ev) (if i = 11 then v else d.kp) (if i = 12 then v else d.sd) d.sn d.sb d.n d.E)) (hI : Inv d') : CB c d' (ab_up g c.o i v) r := by
  have ho := hc.2.1
  have hl := hc.2.2
  unfold isTe at ho
  have hD := h.2.2.2.2.2.1
  have f2 : ∀ x j : Int, ¬ (x = c.o ∧ j = i) → ab_up g c.o i v x j = g x j := fun x j a => up_n a
  refine CB_upd hc h (fun x j b e l => f2 x j (by omega)) ?_ hI
  rw [h1]
  refine ⟨?_, ?_, ?_, ?_, ?_, ?_, ?_, ?_⟩
  · intro l a b
    obtain ⟨k1, k2⟩ := hD.1 l a b
    rw [f2 (c.o + 5) l (by omega)]
    refine ⟨k1, fun k p q => ?_⟩
    rw [f2 (c.o + 6) _ (by omega), f2 (c.o + 7) _ (by omega), f2 (c.o + 8) _ (by omega)]
    exact k2 k p q
  · rw [f2 _ 1 (by omega)]; exact hD.2.1
  · intro j a b
    rw [f2 _ j (by omega)]; exact hD.2.2.1 j a b
  · rw [f2 _ 5 (by omega)]; exact hD.2.2.2.1
  · intro t a b
    rw [f2 (c.o + 2) t (by omega), f2 (c.o + 3) t (by omega), f2 (c.o + 4) t (by omega)]; exact hD.2.2.2.2.1 t a b
  · have h6 := hD.2.2.2.2.2.1
    show ab_up g c.o i v c.o 10 = (if i = 10 then v else d.ev) ∧ ab_up g c.o i v c.o 11 = (if i = 11 then v else d.kp) ∧ ab_up g c.o i v c.o 12 = (if i = 12 then v else d.sd)
    have u : ∀ j y : Int, g c.o j = y → ab_up g c.o i v c.o j = if i = j then v else y := by
      intro j y hy
      rw [up_i]
      by_cases e : j = i
      · rw [if_pos e, if_pos e.symm]
      · rw [if_neg e, if_neg (fun x => e x.symm)]; exact hy
    exact ⟨u 10 _ h6.1, u 11 _ h6.2.1, u 12 _ h6.2.2⟩
  · rw [f2 2 4 (by omega), f2 2 5 (by omega)]; exact hD.2.2.2.2.2.2.1
  · exact LgV_o hc hD.2.2.2.2.2.2.2 (fun x j a b e => f2 x j (by omega))
theorem CR_te1 {c : Cx} {X : ZX} {g r : ab_H} {i v : Int} {F : Zd → Zd} (hc : CxOk c) (hi : 10 ≤ i ∧ i ≤ 12) (h : CR c X g r) (hF : ∀ d : Zd, F d = (Zd.mk d.p d.nA d.an d.nT d.tn d.tk d.tf d.T (if i = 10 then v else d.ev) (if i = 11 then v else d.kp) (if i = 12 then v else d.sd) d.sn d.sb d.n d.E)) (hI : ∀ d : Zd, Inv d → Inv (F d)) : CR c (zb X (fun d => .ok (F d))) (ab_up g c.o i v) r := by
  have ho := hc.2.1
  unfold isTe at ho
  have f4 : ab_up g c.o i v 4 = g 4 := up_f (by omega)
  have f2 : ab_up g c.o i v 2 = g 2 := up_f (by omega)
  cases X with
  | error q =>
    obtain ⟨f, w⟩ := q
    obtain ⟨⟨d, hd⟩, h6, h7, h8⟩ := h
    exact ⟨⟨F d, CB_te hc hi hd (hF d) (hI d hd.2.2.2.2.2.2.1)⟩, by rw [f2]; exact h6, by rw [f2]; exact h7, h8⟩
  | ok d =>
    obtain ⟨h1, h2, h3, h4, h5⟩ := h
    have hp : (F d).p = d.p := by rw [hF]
    refine ⟨CB_te hc hi h1 (hF d) (hI d h1.2.2.2.2.2.2.1), by rw [f2]; exact h2, by rw [f2]; exact h3, by rw [hp]; exact h4, ?_⟩
    rw [hp]
    unfold TokC at h5 ⊢
    rw [f4]; exact h5
theorem CR_flag {c : Cx} {X : ZX} {g r : ab_H} {F : Zd → Zd} {j : Int} (hc : CxOk c) (hj : j = 4 ∨ j = 5) (h : CR c X g r) (hF : ∀ d : Zd, F d = (Zd.mk d.p d.nA d.an d.nT d.tn d.tk d.tf d.T d.ev d.kp d.sd (if j = 4 then 1 else d.sn) (if j = 5 then 1 else d.sb) d.n d.E)) : CR c (zb X (fun d => .ok (F d))) (ab_up g 2 j 1) r := by
  have f4 : ab_up g 2 j 1 4 = g 4 := up_f (by omega)
  have f2 : ∀ x i : Int, ¬ (x = 2 ∧ i = j) → ab_up g 2 j 1 x i = g x i := fun x i a => up_n a
  have hl := hc.2.2
  have ho := hc.2.1
  unfold isTe at ho
  have key : ∀ d : Zd, CB c d g r → CB c (F d) (ab_up g 2 j 1) r := by
    intro d hd
    have hD := hd.2.2.2.2.2.1
    have hI := hd.2.2.2.2.2.2.1
    refine CB_upd hc hd (fun x i b e l => f2 x i (by omega)) ?_ ?_
    · rw [hF]
      have h7 := hD.2.2.2.2.2.2.1
      refine ⟨TeV_mono hD.1 (fun x i a b => f2 x i (by omega)), by rw [f2 _ _ (by omega)]; exact hD.2.1, fun i a b => by rw [f2 _ _ (by omega)]; exact hD.2.2.1 i a b, by rw [f2 _ _ (by omega)]; exact hD.2.2.2.1, fun t a b => ?_, ?_, ?_, LgV_mono hD.2.2.2.2.2.2.2 (fun x i a b => f2 x i (by omega))⟩
      · rw [f2 (c.o + 2) t (by omega), f2 (c.o + 3) t (by omega), f2 (c.o + 4) t (by omega)]; exact hD.2.2.2.2.1 t a b
      · rw [f2 c.o 10 (by omega), f2 c.o 11 (by omega), f2 c.o 12 (by omega)]; exact hD.2.2.2.2.2.1
      · have u : ∀ i y : Int, g 2 i = y → ab_up g 2 j 1 2 i = if j = i then 1 else y := by
          intro i y hy
          rw [up_i]
          by_cases e : i = j
          · rw [if_pos e, if_pos e.symm]
          · rw [if_neg e, if_neg (fun x => e x.symm)]; exact hy
        exact ⟨u 4 _ h7.1, u 5 _ h7.2⟩
    · rw [hF]
      refine ⟨hI.1, hI.2.1, hI.2.2.1, hI.2.2.2.1, hI.2.2.2.2.1, hI.2.2.2.2.2.1, ?_, hI.2.2.2.2.2.2.2⟩
      have h7 := hI.2.2.2.2.2.2.1
      show ((if j = 4 then 1 else d.sn) = 0 ∨ (if j = 4 then 1 else d.sn) = 1) ∧ ((if j = 5 then 1 else d.sb) = 0 ∨ (if j = 5 then 1 else d.sb) = 1)
      constructor <;> split <;> omega
  cases X with
  | error q =>
    obtain ⟨f, w⟩ := q
    obtain ⟨⟨d, hd⟩, h6, h7, h8⟩ := h
    exact ⟨⟨F d, key d hd⟩, by rw [f2 2 6 (by omega)]; exact h6, by rw [f2 2 7 (by omega)]; exact h7, h8⟩
  | ok d =>
    obtain ⟨h1, h2, h3, h4, h5⟩ := h
    have hp : (F d).p = d.p := by rw [hF]
    refine ⟨key d h1, by rw [f2 2 6 (by omega)]; exact h2, by rw [f2 2 7 (by omega)]; exact h3, by rw [hp]; exact h4, ?_⟩
    rw [hp]
    unfold TokC at h5 ⊢
    rw [f4]; exact h5
