/-! SPECS, part zzzb: text, the reference's LINE of an EVENT from its word, any LINE, the whole TEXT. -/
theorem u_readEvent {K : Int} {S : Nat} {g r : ab_H} {x : Mx} {d : Zd} {k : Int} (P : ab_H → ab_H → Prop) (hr : SI r) (hK : 186 ≤ K) (hb : TxB x.b x.n) (hx : MR x (.ok d) g) (hk : 0 ≤ k ∧ k ≤ 6) (h : ∀ g' : ab_H, MR x (zl_event x.b x.n d k) g' → P g' r) : ab_RV m_M_readEvent [(2, 161), (0, k)] K S g r P := by
  have hI : Inv d := hx.1.2.2.2.1
  have hn0 := hI.2.2.2.2.2.2.2.1
  have hIA := hI.1
  have hD := hx.1.2.2.1
  have hp := hx.2.2.1
  have z0 := zsm_room (n := x.n) (lo := 0) (d := d) (x := d.n) (y := 50) hp
  have z1 := zsm_adv hb (Int.le_refl 0) z0
  have z2 : zsm x.n 0 (d.n < 50 ∧ (0 ≤ (ze_a x.b x.n d).1 ∧ (ze_a x.b x.n d).1 < d.nA)) d (ze_a x.b x.n d).2 := zsm_acc hb (Int.le_refl 0) hI.1.1 z1
  have ub : 0 ≤ (ze_a x.b x.n d).1 ∧ (ze_a x.b x.n d).1 ≤ 8 := zacc_b hI.1 z1
  have key14 : ∀ g3 : ab_H, MR x (zroom d d.n 50) g3 → ab_Rn m_M_readEvent 14 [some (2, 161), some (0, k), some (0, 8 * d.n), none, none, none, none, none, none, none] [] (K, S, g3, r) (ab_Qv K S P) := by
    intro g3 k3
    apply v_M_readEvent_14 _ hr hK
    apply u_goOn _ hr hK hb k3
    intro g1 k1 f1
    refine ⟨rfl, ?_⟩
    apply u_acc _ hr hK hb k1
    intro g2 k2
    refine ⟨rfl, ?_⟩
    apply u_goOn _ hr hK hb k2
    intro g5 k5 f5
    refine ⟨rfl, ?_⟩
    rw [zaccH_acc.1] at k5
    have k5' : MR x (ze_a x.b x.n d).2 g5 := k5
    have ea : (zacc x.b x.n (zadv x.b x.n (zroom d d.n 50))).1 = (ze_a x.b x.n d).1 := rfl
    rw [ea]
    refine And.intro (fun e => ?_) (fun e => ?_)
    · have k6 : k ≠ 6 := fun hh => e (by rw [hh])
      have eo : ze_o x.b x.n d k = (-2, (ze_a x.b x.n d).2) := if_neg k6
      have e3 : ze_3 x.b x.n d k = (ze_a x.b x.n d).2 := by
        unfold ze_3
        rw [eo]
        exact zck_t (fun _ _ => decide_eq_true (by show (-2 : Int) ≠ _; omega))
      have z3 : zsm x.n 0 (d.n < 50 ∧ (0 ≤ (ze_a x.b x.n d).1 ∧ (ze_a x.b x.n d).1 < d.nA) ∧ (k = 6 → 0 ≤ (ze_o x.b x.n d k).1 ∧ (ze_o x.b x.n d k).1 < d.nA)) d (ze_3 x.b x.n d k) := by
        rw [e3]; exact zsm_mono z2 (fun q => ⟨q.1, q.2, fun q2 => absurd q2 k6⟩)
      have fin := u_event3 (S := S) (oo := -2) P hr hK hb hI hk (by rw [eo]) (fun _ => by rw [eo]) z3 h
      have to38 : ∀ g7 : ab_H, MR x (ze_a x.b x.n d).2 g7 → ab_Rn m_M_readEvent 38 [some (2, 161), some (0, k), some (0, 8 * d.n), some (0, (ze_a x.b x.n d).1), some (0, (-2)), none, none, none, none, none] [] (K, S, g7, r) (ab_Qv K S P) := by
        intro g7 k7
        apply v_M_readEvent_38 _ hr hK
        exact And.intro (fun _ => fin g7 (by rw [e3]; exact k7)) (fun q => absurd q (by simp only [wr]; omega))
      refine u_end k5' (fun f w e => to38 g5 k5') (fun d1 e => And.intro (fun _ => to38 g5 k5') (fun q => absurd q (by simp only [wr]; omega)))
    · have k6 : k = 6 := by simp only [wr] at e; omega
      have eo : ze_o x.b x.n d k = zacc x.b x.n (ze_a x.b x.n d).2 := if_pos k6
      have z3 : zsm x.n 0 ((d.n < 50 ∧ (0 ≤ (ze_a x.b x.n d).1 ∧ (ze_a x.b x.n d).1 < d.nA)) ∧ (0 ≤ (ze_o x.b x.n d k).1 ∧ (ze_o x.b x.n d k).1 < d.nA)) d (ze_o x.b x.n d k).2 := by
        rw [eo]; exact zsm_acc hb (Int.le_refl 0) hI.1.1 z2
      have uo : 0 ≤ (ze_o x.b x.n d k).1 ∧ (ze_o x.b x.n d k).1 ≤ 8 := by rw [eo]; exact zacc_b hI.1 z2
      have z4 : zsm x.n 0 (d.n < 50 ∧ (0 ≤ (ze_a x.b x.n d).1 ∧ (ze_a x.b x.n d).1 < d.nA) ∧ (k = 6 → 0 ≤ (ze_o x.b x.n d k).1 ∧ (ze_o x.b x.n d k).1 < d.nA)) d (ze_3 x.b x.n d k) := zsm_ck (zsm_mono z3 (fun q => ⟨q.1.1, q.1.2, fun _ => q.2⟩))
      have fin := u_event3 (S := S) (oo := (ze_o x.b x.n d k).1) P hr hK hb hI hk rfl (fun q => absurd k6 q) z4 h
      -- then on
      have to38 : ∀ (X : ZX) (g7 : ab_H), zadv x.b x.n X = ze_3 x.b x.n d k → MR x X g7 → ab_Rn m_M_readEvent 38 [some (2, 161), some (0, k), some (0, 8 * d.n), some (0, (ze_a x.b x.n d).1), some (0, (ze_o x.b x.n d k).1), none, none, none, none, none] [] (K, S, g7, r) (ab_Qv K S P) := by
        intro X g7 hX k7
        apply v_M_readEvent_38 _ hr hK
        refine And.intro (fun q => absurd (by rw [k6]) q) (fun _ => ?_)
        apply u_goOn _ hr hK hb k7
        intro g8 k8 f8
        exact ⟨rfl, fin g8 (by rw [← hX]; exact k8)⟩
      apply u_acc _ hr hK hb k5'
      intro g9 k9
      refine ⟨rfl, ?_⟩
      have eo1 : (zacc x.b x.n (ze_a x.b x.n d).2).1 = (ze_o x.b x.n d k).1 := by rw [eo]
      rw [eo1]
      have hadv : zadv x.b x.n (zaccH x.b x.n (ze_a x.b x.n d).2).2 = (ze_o x.b x.n d k).2 := by rw [zaccH_acc.1, eo]
      refine u_end k9 (fun f w e => to38 _ g9 ?_ k9) (fun d1 e => And.intro (fun e2 => to38 _ g9 ?_ k9) (fun e2 => ?_))
      · rw [e] at hadv
        have h2 : (ze_o x.b x.n d k).2 = .error (f, w) := hadv.symm
        rw [e]
        unfold ze_3
        rw [h2]
        rfl
      · rw [hadv]
        unfold ze_3
        have hne : (ze_o x.b x.n d k).1 ≠ (ze_a x.b x.n d).1 := fun q => e2 (by rw [q])
        exact (zck_t (fun _ _ => decide_eq_true hne)).symm
      · have e4 : (ze_o x.b x.n d k).1 = (ze_a x.b x.n d).1 := by simp only [wr] at e2; omega
        apply u_wrong _ hr hK k9 (by omega)
        intro g11 k11 f11
        refine ⟨rfl, to38 _ g11 ?_ k11⟩
        -- the state before: an ACCOUNT stood there
        have hX : ∃ d0 : Zd, (ze_a x.b x.n d).2 = .ok d0 := by
          cases hq : (ze_a x.b x.n d).2 with
          | error q => obtain ⟨f, w⟩ := q; rw [hq] at e; cases e
          | ok d0 => exact ⟨d0, rfl⟩
        obtain ⟨d0, hX⟩ := hX
        have ed : d1 = d0 := by
          rw [hX] at e
          have e9 : (if tki x.b x.n d0.p ≠ 1 then ((0 : Int), ZX.bad 1 d0.p) else if fnd d0.an d0.nA (tv x.b x.n d0.p) = -1 then (0, ZX.bad 4 d0.p) else (fnd d0.an d0.nA (tv x.b x.n d0.p), Except.ok d0)).2 = .ok d1 := e
          by_cases h1 : tki x.b x.n d0.p ≠ 1
          · rw [if_pos h1] at e9; cases e9
          · rw [if_neg h1] at e9
            by_cases h2 : fnd d0.an d0.nA (tv x.b x.n d0.p) = -1
            · rw [if_pos h2] at e9; cases e9
            · rw [if_neg h2] at e9; cases e9; rfl
        have h2 : (ze_o x.b x.n d k).2 = zadv x.b x.n (.ok d1) := by rw [← hadv, e]
        unfold ze_3
        rw [h2, e, hX, ed, e4]
        show _ = (if decide ((ze_a x.b x.n d).1 ≠ (ze_a x.b x.n d).1) = true then _ else ZX.bad 3 d0.p)
        rw [if_neg (fun q => absurd rfl (of_decide_eq_true q))]
        rfl
  apply v_M_readEvent _ hr hK
  apply v_M_reading _ hr hK
  rw [show (6 : Int) + 5 = 11 by omega, hD.1.2.2.2.2.2]
  refine ⟨by omega, rfl, rfl, ?_⟩
  apply v_M_reading _ hr hK
  rw [show (6 : Int) + 5 = 11 by omega, hD.1.2.2.2.2.2]
  refine ⟨by omega, rfl, rfl, And.intro (fun e => key14 g ?_) (fun e => ?_)⟩
  · unfold zroom
    rw [if_neg (fun q => e (by rw [show d.n = 50 by omega]))]; exact hx
  · apply u_wrong _ hr hK hx (by omega)
    intro g8 k8 f8
    refine ⟨rfl, key14 g8 ?_⟩
    unfold zroom
    rw [if_pos (by simp only [wr] at e; omega)]; exact k8
def m1 (x : Mx) (g0 : ab_H) : Mx := Mx.mk x.b x.n (x.l + 1) g0
theorem MB_l {x : Mx} {d : Zd} {g : ab_H} (h : MB x d g) : MB (m1 x x.g0) d (ab_up g 161 16 (g 161 16 + 1)) := by
  obtain ⟨h1, h2, h3, h4, h5, h6⟩ := h
  have f2 : ∀ c j : Int, ¬ (c = 161 ∧ j = 16) → ab_up g 161 16 (g 161 16 + 1) c j = g c j := fun c j a => up_n a
  have fc : ∀ c : Int, c ≠ 161 → ab_up g 161 16 (g 161 16 + 1) c = g c := fun c a => up_f a
  exact ⟨⟨by rw [f2 _ _ (by omega)]; exact h1.1, fun i a b => by rw [fc 162 (by omega)]; exact h1.2 i a b⟩, by rw [f2 _ _ (by omega)]; exact h2, DatM_k h3 (fun c a b => fc c (by omega)) (f2 _ _ (by omega)) (f2 _ _ (by omega)), h4, ⟨fun c i a b => by rw [fc c a]; exact h5.1 c i a b, fun i a => by rw [f2 161 i (by omega)]; exact h5.2.1 i a, fun i a => by rw [fc 163 (by omega)]; exact h5.2.2.1 i a, fun i a => by rw [fc 164 (by omega)]; exact h5.2.2.2.1 i a, fun c i a b e => by rw [fc c (by omega)]; exact h5.2.2.2.2.1 c i a b e, fun i a => by rw [fc 168 (by omega)]; exact h5.2.2.2.2.2.1 i a, fun c i a b e => by rw [fc c (by omega)]; exact h5.2.2.2.2.2.2 c i a b e⟩, by rw [up_s, h6]; rfl⟩
theorem MR_l {x : Mx} {X : ZX} {g : ab_H} (h : MR x X g) : MR (m1 x x.g0) X (ab_up g 161 16 (g 161 16 + 1)) := by
  have f2 : ∀ c j : Int, ¬ (c = 161 ∧ j = 16) → ab_up g 161 16 (g 161 16 + 1) c j = g c j := fun c j a => up_n a
  cases X with
  | error q =>
    obtain ⟨f, w⟩ := q
    obtain ⟨⟨d, hd⟩, h6, h7, h8⟩ := h
    exact ⟨⟨d, MB_l hd⟩, by rw [f2 161 22 (by omega)]; exact h6, by rw [f2 161 23 (by omega)]; exact h7, h8⟩
  | ok d =>
    obtain ⟨h1, h2, h3, h4⟩ := h
    refine ⟨MB_l h1, by rw [f2 161 22 (by omega)]; exact h2, h3, ?_⟩
    unfold TokM at h4 ⊢
    rw [f2 161 19 (by omega), f2 161 18 (by omega), f2 161 20 (by omega), f2 161 21 (by omega)]
    exact h4
theorem u_readLine {K : Int} {S : Nat} {g r : ab_H} {x : Mx} {d : Zd} (P : ab_H → ab_H → Prop) (hr : SI r) (hK : 186 ≤ K) (hb : TxB x.b x.n) (hx : MR x (.ok d) g) (h : ∀ g' : ab_H, MR (m1 x x.g0) (zline x.b x.n d) g' → P g' r) : ab_RV m_M_readLine [(2, 161)] K S g r P := by
  have hp := hx.2.2.1
  have hkb := (tk_b hb hp).2.2.1
  have hvb := (tk_b hb hp).2.2.2.1
  have e20 : g 161 20 = tki x.b x.n d.p := hx.2.2.2.2.2.1
  -- the LINE's end
  have to61 : ∀ g1 : ab_H, MR x (zbody x.b x.n d) g1 → ab_Rn m_M_readLine 61 [some (2, 161)] [] (K, S, g1, r) (ab_Qv K S P) := by
    intro g1 k1
    have to71 : ∀ (X : ZX) (g2 : ab_H), zadv x.b x.n X = zline x.b x.n d → MR x X g2 → ab_Rn m_M_readLine 71 [some (2, 161)] [] (K, S, g2, r) (ab_Qv K S P) := by
      intro X g2 hX k2
      apply v_M_readLine_71 _ hr hK
      apply u_goOn _ hr hK hb k2
      intro g3 k3 f3
      refine ⟨rfl, fun g4 hg4 => h g4 ?_⟩
      rw [hg4, ← hX]
      exact MR_l k3
    apply v_M_readLine_61 _ hr hK
    refine u_end k1 (fun f w e => to71 _ g1 ?_ k1) (fun d1 e => ?_)
    · unfold zline; rw [e]; rfl
    · rw [e] at k1
      have e201 : g1 161 20 = tki x.b x.n d1.p := k1.2.2.2.2.2.1
      have hkb1 := (tk_b hb k1.2.2.1).2.2.1
      have ez : zline x.b x.n d = if tki x.b x.n d1.p ≠ 3 then ZX.bad 1 d1.p else zadv x.b x.n (.ok d1) := by unfold zline; rw [e]; rfl
      rw [e201]
      refine And.intro (fun e2 => to71 _ g1 ?_ k1) (fun e2 => ?_)
      · rw [ez, if_neg (fun q => q (by simp only [wr] at e2; omega))]
      · apply u_wrong _ hr hK k1 (by omega)
        intro g2 k2 f2
        refine ⟨rfl, to71 _ g2 ?_ k2⟩
        rw [ez, if_pos (fun q => e2 (by rw [q]))]
        rfl
  have bad : (tki x.b x.n d.p ≠ 0 ∨ (8 ≤ tv x.b x.n d.p ∧ tv x.b x.n d.p ≤ 11)) → ab_Rn m_M_readLine 11 [some (2, 161)] [] (K, S, g, r) (ab_Qv K S P) := by
    intro hc
    apply v_M_readLine_11 _ hr hK
    apply u_wrong _ hr hK hx (by omega)
    intro g2 k2 f2
    refine ⟨rfl, to61 g2 ?_⟩
    unfold zbody
    rw [if_pos hc]; exact k2
  apply v_M_readLine _ hr hK
  rw [e20]
  refine And.intro (fun e => bad (Or.inl (fun q => e (by rw [q])))) (fun e => ?_)
  have ek : tki x.b x.n d.p = 0 := by simp only [wr] at e; omega
  have e21 : g 161 21 = tv x.b x.n d.p := hx.2.2.2.2.2.2 (by omega)
  have hv := hvb ek
  rw [e21]
  have good : ¬ (8 ≤ tv x.b x.n d.p ∧ tv x.b x.n d.p ≤ 11) → ab_Rn m_M_readLine 15 [some (2, 161)] [] (K, S, g, r) (ab_Qv K S P) := by
    intro h8
    have hbody : zbody x.b x.n d = (if tv x.b x.n d.p ≤ 6 then zl_event x.b x.n d (tv x.b x.n d.p) else if tv x.b x.n d.p = 7 then zl_void x.b x.n d else if tv x.b x.n d.p = 12 then zl_acc x.b x.n d else if tv x.b x.n d.p = 13 then zl_lift x.b x.n d else if tv x.b x.n d.p = 14 then zl_tally x.b x.n d else if tv x.b x.n d.p = 15 then zl_snap x.b x.n d else zl_seed x.b x.n d) := by
      unfold zbody
      rw [if_neg (fun q => q.elim (fun y => y ek) h8)]
    apply v_M_readLine_15 _ hr hK
    rw [e21]
    refine And.intro (fun a1 => And.intro (fun a2 => And.intro (fun a3 => And.intro (fun a4 => And.intro (fun a5 => And.intro (fun a6 => ?_) (fun a6 => ?_)) (fun a5 => ?_)) (fun a4 => ?_)) (fun a3 => ?_)) (fun a2 => ?_)) (fun a1 => ?_)
    · simp only [wr] at a1 a2 a3 a4 a5 a6
      rw [if_neg (by omega), if_neg (by omega), if_neg (by omega), if_neg (by omega), if_neg (by omega), if_neg (by omega)] at hbody
      apply u_readSeed _ hr hK hb hx
      exact fun g1 k1 => ⟨rfl, to61 g1 (by rw [hbody]; exact k1)⟩
    · simp only [wr] at a1 a2 a3 a4 a5 a6
      rw [if_neg (by omega), if_neg (by omega), if_neg (by omega), if_neg (by omega), if_neg (by omega), if_pos (by omega)] at hbody
      apply u_readSnap _ hr hK hb hx
      exact fun g1 k1 => ⟨rfl, to61 g1 (by rw [hbody]; exact k1)⟩
    · simp only [wr] at a1 a2 a3 a4 a5
      rw [if_neg (by omega), if_neg (by omega), if_neg (by omega), if_neg (by omega), if_pos (by omega)] at hbody
      apply u_readTally _ hr hK hb hx
      exact fun g1 k1 => ⟨rfl, to61 g1 (by rw [hbody]; exact k1)⟩
    · simp only [wr] at a1 a2 a3 a4
      rw [if_neg (by omega), if_neg (by omega), if_neg (by omega), if_pos (by omega)] at hbody
      apply u_readLift _ hr hK hb hx
      exact fun g1 k1 => ⟨rfl, to61 g1 (by rw [hbody]; exact k1)⟩
    · simp only [wr] at a1 a2 a3
      rw [if_neg (by omega), if_neg (by omega), if_pos (by omega)] at hbody
      apply u_readAccount _ hr hK hb hx
      exact fun g1 k1 => ⟨rfl, to61 g1 (by rw [hbody]; exact k1)⟩
    · simp only [wr] at a1 a2
      rw [if_neg (by omega), if_pos (by omega)] at hbody
      apply u_readRevoke _ hr hK hb hx
      exact fun g1 k1 => ⟨rfl, to61 g1 (by rw [hbody]; exact k1)⟩
    · simp only [wr] at a1
      rw [if_pos (by omega)] at hbody
      apply u_readEvent _ hr hK hb hx (by omega)
      exact fun g1 k1 => ⟨rfl, to61 g1 (by rw [hbody]; exact k1)⟩
  refine And.intro (fun e3 => good (by simp only [wr] at e3; omega)) (fun e3 => And.intro (fun e4 => good (by simp only [wr] at e4; omega)) (fun e4 => bad (Or.inr (by simp only [wr] at e3 e4; omega))))
