/-! SPECS, part zzq: text, the class's LINES of SNAP, SEED, LIFT. -/
theorem q_snap2 {K : Int} {S : Nat} {c : Cx} {d : Zd} (P : ab_H → ab_H → Prop) (hK : 186 ≤ K) (hc : CxOk c) (h : ∀ g' r' : ab_H, SI r' → CR c (zstop c.b c.n (zl_snap c.b c.n d)) g' r' → P g' r') : ∀ g1 r : ab_H, SI r → CR c (if d.sn = 0 then .ok (Zd.mk d.p d.nA d.an d.nT d.tn d.tk d.tf d.T d.ev d.kp d.sd 1 d.sb d.n d.E) else ZX.bad 3 d.p) g1 r → ab_RV m_To_advance [(2, 4)] K S g1 r (fun g2 r3 => SI r3 ∧ ((isTe (r3 2 2)) ∧ ab_RI m_Pa_takeNumber [(2, 2), (0, 1), (0, 999)] K S g2 r3 (fun x9 g7 r8 => SI r8 ∧ (∀ g11, g11 = ab_up g7 (r3 2 2) 10 x9 → (isTe (r8 2 2)) ∧ ab_RI m_Pa_takeNumber [(2, 2), (0, 0), (0, 6)] K S g11 r8 (fun x15 g13 r14 => SI r14 ∧ (∀ g17, g17 = ab_up g13 (r8 2 2) 11 x15 → ab_RV m_Pa_takeStop [(2, 2)] K S g17 r14 (fun g18 r19 => SI r19 ∧ (P g18 r19)))))))) := by
  intro g1 r hr h1
  apply q_adv _ hr hK hc h1
  intro g2 r3 s3 h2
  have h2' : CR c (zn_1 c.b c.n d) g2 r3 := h2
  rw [CR_te h2]
  refine ⟨s3, hc.2.1, ?_⟩
  apply q_numb _ s3 hK hc h2' (by omega) (by omega)
  intro g7 r8 s8 h7
  refine ⟨s8, fun g11 hg11 => ?_⟩
  have u1 := num_u (b := c.b) (n := c.n) (l := 1) (u := 999) (X := zn_1 c.b c.n d) (by omega)
  have h11 : CR c (zn_2 c.b c.n d) g11 r8 := by
    rw [hg11]
    exact CR_te1 (F := fun d2 => (Zd.mk d2.p d2.nA d2.an d2.nT d2.tn d2.tk d2.tf d2.T ((znum c.b c.n (zn_1 c.b c.n d) 1 999).1) d2.kp d2.sd d2.sn d2.sb d2.n d2.E)) hc (by omega) h7 (fun d => by simp) (fun d hI => ⟨hI.1, hI.2.1, hI.2.2.1, hI.2.2.2.1, hI.2.2.2.2.1, ⟨u1, hI.2.2.2.2.2.1.2⟩, hI.2.2.2.2.2.2⟩)
  rw [CR_te h11]
  refine ⟨hc.2.1, ?_⟩
  apply q_numb _ s8 hK hc h11 (by omega) (by omega)
  intro g13 r14 s14 h13
  refine ⟨s14, fun g17 hg17 => ?_⟩
  have u2 := num_u (b := c.b) (n := c.n) (l := 0) (u := 6) (X := zn_2 c.b c.n d) (by omega)
  have h17 : CR c (zl_snap c.b c.n d) g17 r14 := by
    rw [hg17]
    exact CR_te1 (F := fun d2 => (Zd.mk d2.p d2.nA d2.an d2.nT d2.tn d2.tk d2.tf d2.T d2.ev ((znum c.b c.n (zn_2 c.b c.n d) 0 6).1) d2.sd d2.sn d2.sb d2.n d2.E)) hc (by omega) h13 (fun d => by simp) (fun d hI => ⟨hI.1, hI.2.1, hI.2.2.1, hI.2.2.2.1, hI.2.2.2.2.1, ⟨hI.2.2.2.2.2.1.1, u2, hI.2.2.2.2.2.1.2.2⟩, hI.2.2.2.2.2.2⟩)
  apply q_stop _ s14 hK hc h17
  exact fun g18 r19 s19 h18 => ⟨s19, h g18 r19 s19 h18⟩
theorem q_readSnap {K : Int} {S : Nat} {g r : ab_H} {c : Cx} {d : Zd} (P : ab_H → ab_H → Prop) (hr : SI r) (hK : 186 ≤ K) (hc : CxOk c) (hx : CR c (.ok d) g r) (h : ∀ g' r' : ab_H, SI r' → CR c (zstop c.b c.n (zl_snap c.b c.n d)) g' r' → P g' r') : ab_RV m_Pa_readSnap [(2, 2)] K S g r P := by
  have hI := hI_of hx
  have e4 : g 2 4 = d.sn := hx.1.2.2.2.2.2.1.2.2.2.2.2.2.1.1
  have hs := hI.2.2.2.2.2.2.1.1
  apply v_Pa_readSnap _ hr hK
  rw [e4]
  refine And.intro (fun e g1 hg1 => q_snap2 P hK hc h g1 r hr ?_) (fun e => ?_)
  · have e0 : d.sn = 0 := by simp only [wr] at e; omega
    rw [if_pos e0, hg1]
    exact CR_flag (F := fun d2 => (Zd.mk d2.p d2.nA d2.an d2.nT d2.tn d2.tk d2.tf d2.T d2.ev d2.kp d2.sd 1 d2.sb d2.n d2.E)) (j := 4) hc (by omega) hx (fun d => by simp)
  · have e0 : d.sn ≠ 0 := fun hh => e (by rw [hh])
    apply q_fail (X := .ok d) (w' := d.p) _ hr hK hc hx (by omega) (fun d2 e => by cases e; exact hx.2.2.2.2.1)
    intro g22 h22
    refine ⟨rfl, fun g24 hg24 => q_snap2 P hK hc h g24 r hr ?_⟩
    rw [if_neg e0, hg24]
    exact CR_flag (X := ZX.bad 3 d.p) (F := fun d2 => (Zd.mk d2.p d2.nA d2.an d2.nT d2.tn d2.tk d2.tf d2.T d2.ev d2.kp d2.sd 1 d2.sb d2.n d2.E)) (j := 4) hc (by omega) h22 (fun d => by simp)
theorem q_seed2 {K : Int} {S : Nat} {c : Cx} {d : Zd} (P : ab_H → ab_H → Prop) (hK : 186 ≤ K) (hc : CxOk c) (h : ∀ g' r' : ab_H, SI r' → CR c (zstop c.b c.n (zl_seed c.b c.n d)) g' r' → P g' r') : ∀ g1 r : ab_H, SI r → CR c (if d.sb = 0 then .ok (Zd.mk d.p d.nA d.an d.nT d.tn d.tk d.tf d.T d.ev d.kp d.sd d.sn 1 d.n d.E) else ZX.bad 3 d.p) g1 r → ab_RV m_To_advance [(2, 4)] K S g1 r (fun g2 r3 => SI r3 ∧ ((isTe (r3 2 2)) ∧ ab_RI m_Pa_takeNumber [(2, 2), (0, 0), (0, 99999)] K S g2 r3 (fun x9 g7 r8 => SI r8 ∧ (∀ g11, g11 = ab_up g7 (r3 2 2) 12 x9 → ab_RV m_Pa_takeStop [(2, 2)] K S g11 r8 (fun g12 r13 => SI r13 ∧ (P g12 r13)))))) := by
  intro g1 r hr h1
  apply q_adv _ hr hK hc h1
  intro g2 r3 s3 h2
  have h2' : CR c (zs_1 c.b c.n d) g2 r3 := h2
  rw [CR_te h2]
  refine ⟨s3, hc.2.1, ?_⟩
  apply q_numb _ s3 hK hc h2' (by omega) (by omega)
  intro g7 r8 s8 h7
  refine ⟨s8, fun g11 hg11 => ?_⟩
  have u1 := num_u (b := c.b) (n := c.n) (l := 0) (u := 99999) (X := zs_1 c.b c.n d) (by omega)
  have h11 : CR c (zl_seed c.b c.n d) g11 r8 := by
    rw [hg11]
    exact CR_te1 (F := fun d2 => (Zd.mk d2.p d2.nA d2.an d2.nT d2.tn d2.tk d2.tf d2.T d2.ev d2.kp ((znum c.b c.n (zs_1 c.b c.n d) 0 99999).1) d2.sn d2.sb d2.n d2.E)) hc (by omega) h7 (fun d => by simp) (fun d hI => ⟨hI.1, hI.2.1, hI.2.2.1, hI.2.2.2.1, hI.2.2.2.2.1, ⟨hI.2.2.2.2.2.1.1, hI.2.2.2.2.2.1.2.1, u1⟩, hI.2.2.2.2.2.2⟩)
  apply q_stop _ s8 hK hc h11
  exact fun g18 r19 s19 h18 => ⟨s19, h g18 r19 s19 h18⟩
theorem q_readSeed {K : Int} {S : Nat} {g r : ab_H} {c : Cx} {d : Zd} (P : ab_H → ab_H → Prop) (hr : SI r) (hK : 186 ≤ K) (hc : CxOk c) (hx : CR c (.ok d) g r) (h : ∀ g' r' : ab_H, SI r' → CR c (zstop c.b c.n (zl_seed c.b c.n d)) g' r' → P g' r') : ab_RV m_Pa_readSeed [(2, 2)] K S g r P := by
  have hI := hI_of hx
  have e4 : g 2 5 = d.sb := hx.1.2.2.2.2.2.1.2.2.2.2.2.2.1.2
  have hs := hI.2.2.2.2.2.2.1.2
  apply v_Pa_readSeed _ hr hK
  rw [e4]
  refine And.intro (fun e g1 hg1 => q_seed2 P hK hc h g1 r hr ?_) (fun e => ?_)
  · have e0 : d.sb = 0 := by simp only [wr] at e; omega
    rw [if_pos e0, hg1]
    exact CR_flag (F := fun d2 => (Zd.mk d2.p d2.nA d2.an d2.nT d2.tn d2.tk d2.tf d2.T d2.ev d2.kp d2.sd d2.sn 1 d2.n d2.E)) (j := 5) hc (by omega) hx (fun d => by simp)
  · have e0 : d.sb ≠ 0 := fun hh => e (by rw [hh])
    apply q_fail (X := .ok d) (w' := d.p) _ hr hK hc hx (by omega) (fun d2 e => by cases e; exact hx.2.2.2.2.1)
    intro g22 h22
    refine ⟨rfl, fun g24 hg24 => q_seed2 P hK hc h g24 r hr ?_⟩
    rw [if_neg e0, hg24]
    exact CR_flag (X := ZX.bad 3 d.p) (F := fun d2 => (Zd.mk d2.p d2.nA d2.an d2.nT d2.tn d2.tk d2.tf d2.T d2.ev d2.kp d2.sd d2.sn 1 d2.n d2.E)) (j := 5) hc (by omega) h22 (fun d => by simp)
/-- the end of a LIFT -/
theorem q_lift3 {K : Int} {S : Nat} {c : Cx} {d : Zd} {x : Int × ZX} {u : Int} (P : ab_H → ab_H → Prop) (hK : 186 ≤ K) (hc : CxOk c) (hxe : x = zf_x c.b c.n d) (hz : zsm c.n 0 (((((True ∧ (0 ≤ (zf_a c.b c.n d).1 ∧ (zf_a c.b c.n d).1 ≤ 6)) ∧ (1 ≤ (zf_e c.b c.n d).1 ∧ (zf_e c.b c.n d).1 ≤ 2)) ∧ d.T.1 (gix (zf_a c.b c.n d).1 (zf_e c.b c.n d).1) < 4) ∧ (8 ≤ (zf_o c.b c.n d).1 ∧ (zf_o c.b c.n d).1 ≤ 11)) ∧ (1 ≤ (zf_f c.b c.n d).1 ∧ (zf_f c.b c.n d).1 ≤ 3)) d x.2) (hx0 : 0 ≤ x.1 ∧ x.1 ≤ 999) (hx11 : (zf_o c.b c.n d).1 = 11 → 1 ≤ x.1 ∧ x.1 ≤ 3) (h : ∀ g' r' : ab_H, SI r' → CR c (zstop c.b c.n (zl_lift c.b c.n d)) g' r' → P g' r') : ∀ g25 r26 : ab_H, SI r26 → CR c x.2 g25 r26 → (ab_RV m_Pa_takeStop [(2, 2)] K S g25 r26 (fun g29 r30 => SI r30 ∧ (((¬ wr (g29 2 6) = wr 0 → P g29 r30) ∧ (wr (g29 2 6) = wr 0 → (isTe (r30 2 2)) ∧ ab_RV m_Te_addStep [(2, r30 2 2), (0, (zf_a c.b c.n d).1 - 0), (0, (zf_e c.b c.n d).1), (0, (zf_o c.b c.n d).1 - 8), (0, (zf_f c.b c.n d).1), (0, x.1)] K S g29 r30 (fun g34 r' => r' = r30 ∧ (P g34 r30))))))) := by
  have hcom : zstop c.b c.n (zl_lift c.b c.n d) = zb (zstop c.b c.n x.2) (fun d5 => .ok (addS d5 (gix (zf_a c.b c.n d).1 (zf_e c.b c.n d).1) (zf_o c.b c.n d).1 (zf_f c.b c.n d).1 x.1)) := by
    rw [hxe]
    exact zstop_b (F := fun d5 => addS d5 (gix (zf_a c.b c.n d).1 (zf_e c.b c.n d).1) (zf_o c.b c.n d).1 (zf_f c.b c.n d).1 (zf_x c.b c.n d).1) (fun _ => rfl) (fun _ _ => rfl)
  rw [hcom] at h
  intro g25 r26 s26 h25
  apply q_stop _ s26 hK hc h25
  intro g29 r30 s30 h29
  refine ⟨s30, ?_⟩
  have z6 := zsm_stop hc.1 (Int.le_refl 0) hz
  refine t_end h29 (fun f w e => h g29 r30 s30 ?_) (fun d5 e => ?_)
  · rw [e]; rw [e] at h29; exact h29
  · rw [e] at h29 h
    obtain ⟨⟨⟨⟨⟨⟨_, k1⟩, k2⟩, k3⟩, k4⟩, k5⟩, _, k7⟩ := z6 d5 e
    rw [CR_te h29]
    refine ⟨hc.2.1, ?_⟩
    rw [show (zf_a c.b c.n d).1 - 0 = (zf_a c.b c.n d).1 by omega]
    apply q_addS _ s30 hK hc h29 k1 k2 (by rw [k7]; exact k3) k4 k5 hx0 hx11
    intro g34 h34
    exact ⟨rfl, h g34 r30 s30 h34⟩
theorem q_lift2 {K : Int} {S : Nat} {c : Cx} {d : Zd} (P : ab_H → ab_H → Prop) (hK : 186 ≤ K) (hc : CxOk c) (hz : zsm c.n 0 (((True ∧ (0 ≤ (zf_a c.b c.n d).1 ∧ (zf_a c.b c.n d).1 ≤ 6)) ∧ (1 ≤ (zf_e c.b c.n d).1 ∧ (zf_e c.b c.n d).1 ≤ 2)) ∧ d.T.1 (gix (zf_a c.b c.n d).1 (zf_e c.b c.n d).1) < 4) d (zf_4 c.b c.n d)) (h : ∀ g' r' : ab_H, SI r' → CR c (zstop c.b c.n (zl_lift c.b c.n d)) g' r' → P g' r') : ∀ g10 r11 : ab_H, SI r11 → CR c (zf_4 c.b c.n d) g10 r11 → (isWd (r11 4 5)) ∧ ab_RI m_Pa_takeNamed [(2, 2), (0, ((ab_nth ab_wt (-5 - (r11 4 5)).toNat).getD (0, 0, 0)).2.2)] K S g10 r11 (fun x19 g17 r18 => SI r18 ∧ (ab_RI m_Pa_takeNumber [(2, 2), (0, 1), (0, 3)] K S g17 r18 (fun x23 g21 r22 => SI r22 ∧ (((¬ wr x19 = wr 3 → ab_RI m_Pa_takeNumber [(2, 2), (0, 0), (0, 999)] K S g21 r22 (fun x27 g25 r26 => SI r26 ∧ (ab_RV m_Pa_takeStop [(2, 2)] K S g25 r26 (fun g29 r30 => SI r30 ∧ (((¬ wr (g29 2 6) = wr 0 → P g29 r30) ∧ (wr (g29 2 6) = wr 0 → (isTe (r30 2 2)) ∧ ab_RV m_Te_addStep [(2, r30 2 2), (0, (zf_a c.b c.n d).1 - 0), (0, (zf_e c.b c.n d).1), (0, x19), (0, x23), (0, x27)] K S g29 r30 (fun g34 r' => r' = r30 ∧ (P g34 r30))))))))) ∧ (wr x19 = wr 3 → ab_RI m_Pa_takeNumber [(2, 2), (0, 1), (0, 3)] K S g21 r22 (fun x38 g36 r37 => SI r37 ∧ (ab_RV m_Pa_takeStop [(2, 2)] K S g36 r37 (fun g40 r41 => SI r41 ∧ (((¬ wr (g40 2 6) = wr 0 → P g40 r41) ∧ (wr (g40 2 6) = wr 0 → (isTe (r41 2 2)) ∧ ab_RV m_Te_addStep [(2, r41 2 2), (0, (zf_a c.b c.n d).1 - 0), (0, (zf_e c.b c.n d).1), (0, x19), (0, x23), (0, x38)] K S g40 r41 (fun g45 r' => r' = r41 ∧ (P g45 r41)))))))))))))) := by
  intro g10 r11 s11 h10
  refine ⟨CR_wd h10, ?_⟩
  apply q_named (lo := 8) (hi := 11) _ s11 hK hc h10 (by omega) (by omega) (fun d3 e hd3 hk => CT_op hc hd3 hk)
  intro g17 r18 s18 h17
  refine ⟨s18, ?_⟩
  have h17' : CR c (zf_o c.b c.n d).2 g17 r18 := h17
  have z5 := zsm_word (l := 8) (u := 11) hc.1 (Int.le_refl 0) hz
  have uo : 8 ≤ (zf_o c.b c.n d).1 ∧ (zf_o c.b c.n d).1 ≤ 11 := word_u (by omega)
  apply q_numb _ s18 hK hc h17' (by omega) (by omega)
  intro g21 r22 s22 h21
  refine ⟨s22, ?_⟩
  have h21' : CR c (zf_f c.b c.n d).2 g21 r22 := h21
  have z6 := zsm_num (l := 1) (u := 3) hc.1 (Int.le_refl 0) z5
  have eo : (zword c.b c.n (zf_4 c.b c.n d) 8 11).1 = (zf_o c.b c.n d).1 := rfl
  rw [eo]
  refine And.intro (fun e => ?_) (fun e => ?_)
  · have e11 : (zf_o c.b c.n d).1 ≠ 11 := fun hh => e (by rw [hh]; decide)
    have ex : zf_x c.b c.n d = znum c.b c.n (zf_f c.b c.n d).2 0 999 := if_neg e11
    apply q_numb _ s22 hK hc h21' (by omega) (by omega)
    intro g25 r26 s26 h25
    refine ⟨s26, ?_⟩
    exact q_lift3 (x := znum c.b c.n (zf_f c.b c.n d).2 0 999) (u := 0) P hK hc ex.symm (zsm_mono (zsm_num (l := 0) (u := 999) hc.1 (Int.le_refl 0) z6) (fun q => q.1)) (num_u (by omega)) (fun q => absurd q e11) h g25 r26 s26 h25
  · have e11 : (zf_o c.b c.n d).1 = 11 := by simp only [wr] at e; omega
    have ex : zf_x c.b c.n d = znum c.b c.n (zf_f c.b c.n d).2 1 3 := if_pos e11
    apply q_numb _ s22 hK hc h21' (by omega) (by omega)
    intro g25 r26 s26 h25
    refine ⟨s26, ?_⟩
    have u3 := num_u (b := c.b) (n := c.n) (X := (zf_f c.b c.n d).2) (l := 1) (u := 3) (by omega)
    exact q_lift3 (x := znum c.b c.n (zf_f c.b c.n d).2 1 3) (u := 0) P hK hc ex.symm (zsm_mono (zsm_num (l := 1) (u := 3) hc.1 (Int.le_refl 0) z6) (fun q => q.1)) (by omega) (fun _ => u3) h g25 r26 s26 h25
theorem q_countSteps {K : Int} {S : Nat} {g r : ab_H} {c : Cx} {X : ZX} {k s : Int} (P : Int → ab_H → ab_H → Prop) (hr : SI r) (hK : 186 ≤ K) (hc : CxOk c) (hx : CR c X g r) (hk : 0 ≤ k ∧ k ≤ 6) (hs : 1 ≤ s ∧ s ≤ 2) (h : ∀ x : Int, 0 ≤ x ∧ x ≤ 4 → (∀ d : Zd, X = .ok d → x = d.T.1 (gix k s)) → P x g r) : ab_RI m_Te_countSteps [(2, c.o), (0, k), (0, s)] K S g r P := by
  obtain ⟨d, hd, he⟩ := CR_b hx
  have hI := hd.2.2.2.2.2.2.1
  have hD := hd.2.2.2.2.2.1
  have hi : 0 ≤ gix k s ∧ gix k s < 14 := by unfold gix; omega
  apply v_Te_countSteps _ hr hK hc.2.1
  apply q_group _ hr hK
  refine ⟨rfl, rfl, hi, ?_⟩
  have e1 := (hD.1 (gix k s) hi.1 hi.2).1
  have e2 := (hI.2.2.2.2.1 (gix k s) hi.1 hi.2).1
  rw [e1]
  refine h _ e2 (fun d' e => ?_)
  have := he d' e
  subst this
  rfl
theorem q_readLift {K : Int} {S : Nat} {g r : ab_H} {c : Cx} {d : Zd} (P : ab_H → ab_H → Prop) (hr : SI r) (hK : 186 ≤ K) (hc : CxOk c) (hx : CR c (.ok d) g r) (h : ∀ g' r' : ab_H, SI r' → CR c (zstop c.b c.n (zl_lift c.b c.n d)) g' r' → P g' r') : ab_RV m_Pa_readLift [(2, 2)] K S g r P := by
  have hp := hp_of hx
  apply v_Pa_readLift _ hr hK
  apply q_adv _ hr hK hc hx
  intro g1 r2 s2 h1
  refine ⟨s2, CR_wd h1, ?_⟩
  have z0 : zsm c.n 0 True d (.ok d) := fun d' e => by cases e; exact ⟨trivial, hp, rfl⟩
  have z1 := zsm_adv hc.1 (Int.le_refl 0) z0
  apply q_named (lo := 0) (hi := 6) _ s2 hK hc h1 (by omega) (by omega) (fun d3 e hd3 hk => CT_kind hc hd3 hk)
  intro g6 r7 s7 h6
  refine ⟨s7, ?_⟩
  have z2 := zsm_word (l := 0) (u := 6) hc.1 (Int.le_refl 0) z1
  have h6' : CR c (zf_a c.b c.n d).2 g6 r7 := h6
  have ua : 0 ≤ (zf_a c.b c.n d).1 ∧ (zf_a c.b c.n d).1 ≤ 6 := word_u (by omega)
  apply q_numb _ s7 hK hc h6' (by omega) (by omega)
  intro g10 r11 s11 h10
  refine ⟨s11, ?_⟩
  have z3 := zsm_num (l := 1) (u := 2) hc.1 (Int.le_refl 0) z2
  have h10' : CR c (zf_e c.b c.n d).2 g10 r11 := h10
  have ue : 1 ≤ (zf_e c.b c.n d).1 ∧ (zf_e c.b c.n d).1 ≤ 2 := num_u (by omega)
  rw [CR_te h10]
  refine ⟨hc.2.1, ?_⟩
  have ea : (zword c.b c.n (zadv c.b c.n (.ok d)) 0 6).1 - 0 = (zf_a c.b c.n d).1 := by show _ = (zword c.b c.n (zadv c.b c.n (.ok d)) 0 6).1; omega
  have ee : (znum c.b c.n (zf_a c.b c.n d).2 1 2).1 = (zf_e c.b c.n d).1 := rfl
  apply q_countSteps _ s11 hK hc h10' (by rw [ea]; exact ua) (by rw [ee]; exact ue)
  intro x15 hb15 hx15
  rw [ea, ee] at hx15
  have z4 : zsm c.n 0 (((True ∧ (0 ≤ (zf_a c.b c.n d).1 ∧ (zf_a c.b c.n d).1 ≤ 6)) ∧ (1 ≤ (zf_e c.b c.n d).1 ∧ (zf_e c.b c.n d).1 ≤ 2)) ∧ d.T.1 (gix (zf_a c.b c.n d).1 (zf_e c.b c.n d).1) < 4) d (zf_4 c.b c.n d) := zsm_ck2 z3 (fun p e => of_decide_eq_true e)
  have key := q_lift2 (S := S) P hK hc z4 h
  refine ⟨rfl, rfl, ?_⟩
  have t := t_ck (K := K) (S := S) (C1 := wr x15 < wr 4) (C2 := wr 4 ≤ wr x15) (A := fun g' => CR c (zf_4 c.b c.n d) g' r11) (C := fun d4 => decide (d4.T.1 (gix (zf_a c.b c.n d).1 (zf_e c.b c.n d).1) < 4)) (w' := zpl (zf_a c.b c.n d).2) (w := g6 4 4) (f := 2) s11 hK hc h10' (by omega) (fun e => by omega) (fun d4 e => by
    have e2 := hx15 d4 e
    rw [decide_eq_true_iff, ← e2]
    simp only [wr]
    omega) (fun d4 e => CR_pl h6' (ok_num e)) (fun g' h' => h')
  refine And.intro (fun e => key g10 r11 s11 (t.1 e)) (fun e => ?_)
  refine (t.2 e).mono (fun g47 r' hh => ⟨hh.1, ?_⟩)
  exact key g47 r11 s11 hh.2
