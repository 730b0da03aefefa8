/-! SPECS, part zzw: text, the reference's LINES: names, ACCOUNT, TALLY, SNAP, SEED, LIFT. -/
theorem MR_163 {x : Mx} {X : ZX} {g : ab_H} (h : MR x X g) : ∃ d : Zd, Inv d ∧ DatM g d ∧ (∀ d' : Zd, X = .ok d' → d' = d) := by
  obtain ⟨d, hd, he⟩ := MR_b h
  exact ⟨d, hd.2.2.2.1, hd.2.2.1, he⟩
theorem u_st {x : Mx} {d : Zd} {g : ab_H} {c i v : Int} (h : MR x (.ok d) g) (hc : c = 164 ∧ i = 8 + d.nA ∨ c = 165 ∧ i = 4 + d.nT) : MR x (.ok d) (ab_up g c i v) := by
  have hB := h.1
  obtain ⟨_, _, hD, hI, hF, _⟩ := hB
  obtain ⟨d1, d2, d3, d4, d5, d6⟩ := hD
  have hI1 := hI.1
  have hI2 := hI.2.2.1
  have f2 : ∀ y j : Int, ¬ (y = c ∧ j = i) → ab_up g c i v y j = g y j := fun y j a => up_n a
  refine MT_upd h (fun j a b => f2 _ _ (by omega)) (fun j => f2 _ _ (by omega)) rfl ⟨?_, fun i a b => ?_, fun t a b => ?_, fun i a b => ?_, fun e a b => ?_, ?_⟩ hI ⟨fun c j a b => by rw [f2 c j (by omega)]; exact hF.1 c j a b, fun j a => by rw [f2 _ _ (by omega)]; exact hF.2.1 j a, fun j a => by rw [f2 _ _ (by omega)]; exact hF.2.2.1 j a, fun j a => by rw [f2 _ _ (by omega)]; exact hF.2.2.2.1 j a, fun c j a b e => by rw [f2 _ _ (by omega)]; exact hF.2.2.2.2.1 c j a b e, fun j a => by rw [f2 _ _ (by omega)]; exact hF.2.2.2.2.2.1 j a, fun c j a b e => by rw [f2 _ _ (by omega)]; exact hF.2.2.2.2.2.2 c j a b e⟩
  · rw [f2 _ _ (by omega), f2 _ _ (by omega), f2 _ _ (by omega), f2 _ _ (by omega), f2 _ _ (by omega), f2 _ _ (by omega)]; exact d1
  · rw [f2 _ _ (by omega)]; exact d2 i a b
  · rw [f2 _ _ (by omega), f2 _ _ (by omega), f2 _ _ (by omega)]; exact d3 t a b
  · rw [f2 _ _ (by omega)]
    refine ⟨(d4 i a b).1, fun k p q => ?_⟩
    rw [f2 _ _ (by omega), f2 _ _ (by omega), f2 _ _ (by omega)]; exact (d4 i a b).2 k p q
  · refine ⟨fun f p q => by rw [f2 _ _ (by omega)]; exact (d5 e a b).1 f p q, ?_⟩
    rw [f2 _ _ (by omega)]; exact (d5 e a b).2
  · rw [f2 _ _ (by omega), f2 _ _ (by omega)]; exact d6
theorem zck_c {X : ZX} {C C' : Zd → Bool} {f w : Int} (h : ∀ d : Zd, X = .ok d → C d = C' d) : zck X C f w = zck X C' f w := by
  cases X with
  | error q => rfl
  | ok d =>
    show (if C d = true then Except.ok d else ZX.bad f w) = (if C' d = true then Except.ok d else ZX.bad f w)
    rw [h d rfl]
/-- the reference reads a new NAME -/
theorem u_newName {K : Int} {S : Nat} {g r : ab_H} {x : Mx} {X : ZX} {c B mn n0 : Int} {nf : Int → Int} (P : ab_H → ab_H → Prop) (hr : SI r) (hK : 186 ≤ K) (hb : TxB x.b x.n) (hc : ab_AR K c 100 n0) (hc1 : c = 164 ∧ B = 8 ∨ c = 165 ∧ B = 4) (hm : 0 ≤ mn ∧ mn ≤ 8 ∧ B + mn ≤ n0) (hx : MR x X g) (hst : ∀ (d : Zd) (g1 : ab_H) (v : Int), zadv x.b x.n X = .ok d → MR x (.ok d) g1 → MR x (.ok d) (ab_up g1 c (B + mn) v)) (hnf : ∀ (d : Zd) (g' : ab_H), zadv x.b x.n X = .ok d → MR x (.ok d) g' → B + mn < n0 ∧ ∀ i : Int, 0 ≤ i → i < mn → g' c (B + i) = nf i ∧ 0 ≤ nf i ∧ nf i ≤ 2147483647) (h : ∀ g' : ab_H, MR x (zck (znam x.b x.n (zadv x.b x.n X)).2 (fun _ => decide (fnd nf mn (znam x.b x.n (zadv x.b x.n X)).1 = -1)) 3 (zpl (zadv x.b x.n X))) g' → (∀ d : Zd, zck (znam x.b x.n (zadv x.b x.n X)).2 (fun _ => decide (fnd nf mn (znam x.b x.n (zadv x.b x.n X)).1 = -1)) 3 (zpl (zadv x.b x.n X)) = .ok d → g' c (B + mn) = (znam x.b x.n (zadv x.b x.n X)).1) → P g' r) : ab_RV m_M_newName [(2, 161), (2, c), (0, B), (0, mn)] K S g r P := by
  apply v_M_newName _ hr hK hc
  apply u_goOn _ hr hK hb hx
  intro g1 k1 f1
  refine ⟨rfl, And.symm (u_end k1 (fun f w e => ?_) (fun d e => ?_))⟩
  · have hz : zck (znam x.b x.n (zadv x.b x.n X)).2 (fun _ => decide (fnd nf mn (znam x.b x.n (zadv x.b x.n X)).1 = -1)) 3 (zpl (zadv x.b x.n X)) = .error (f, w) := by rw [e]; rfl
    rw [hz] at h
    rw [e] at k1
    exact h g1 k1 (fun d e => by cases e)
  · have hnd := hnf d g1 e (by rw [e] at k1; exact k1)
    rw [e] at k1 h
    have k1b := k1
    obtain ⟨k2, k3, k4, k5⟩ := k1b
    rw [k5.2.2.1]
    refine And.intro (fun e2 => ?_) (fun e2 => ?_)
    · have ek : tki x.b x.n d.p = 1 := by simp only [wr] at e2; have := (tk_b hb k4).2.2.1; omega
      have e21 := k5.2.2.2 (by omega)
      have hv := (tk_b hb k4).2.2.2.2.1 ek
      have hz1 : znam x.b x.n (.ok d) = (tv x.b x.n d.p, zadv x.b x.n (.ok d)) := by
        show (if tki x.b x.n d.p ≠ 1 then ((0 : Int), ZX.bad 1 d.p) else (tv x.b x.n d.p, zadv x.b x.n (.ok d))) = _
        rw [if_neg (fun q => q ek)]
      rw [hz1] at h
      rw [e21]
      have hfe : fnd (fun j => g1 c (B + j)) mn (tv x.b x.n d.p) = fnd nf mn (tv x.b x.n d.p) := fnd_ext (fun i a b => (hnd.2 i a b).1)
      have hfi := fnd_in (f := nf) (x := tv x.b x.n d.p) hm.1
      apply s_M_foundIn _ hr hK hc (by omega) (by omega) (by omega)
      · intro i a b
        rw [(hnd.2 i a b).1]; exact (hnd.2 i a b).2
      · rw [hfe]
        refine ⟨rfl, rfl, And.intro (fun e3 => ?_) (fun e3 => ?_)⟩
        · have e4 : fnd nf mn (tv x.b x.n d.p) = -1 := by simp only [wr] at e3; omega
          rw [k3]
          refine And.intro (fun _ => ⟨by omega, fun g4 hg4 => ?_⟩) (fun q => absurd rfl q)
          have k6 : MR x (.ok d) g4 := by rw [hg4]; exact hst d g1 _ e k1
          apply u_token _ hr hK hb k6
          intro g5 k7 f7
          refine ⟨rfl, h g5 ?_ (fun d' e' => ?_)⟩
          · show MR x (if decide (fnd nf mn (tv x.b x.n d.p) = -1) = true then zadv x.b x.n (.ok d) else _) g5
            rw [if_pos (decide_eq_true e4)]; exact k7
          · rw [f7 c (by omega), hg4, up_s]
        · have e4 : fnd nf mn (tv x.b x.n d.p) ≠ -1 := fun q => e3 (by rw [q])
          have hz2 : zck (zadv x.b x.n (.ok d)) (fun _ => decide (fnd nf mn (tv x.b x.n d.p) = -1)) 3 (zpl (.ok d)) = .error (3, d.p) := if_neg (fun q => e4 (of_decide_eq_true q))
          have h2 := fun g' hh => h g' (by show MR x (zck (zadv x.b x.n (.ok d)) (fun _ => decide (fnd nf mn (tv x.b x.n d.p) = -1)) 3 (zpl (.ok d))) g'; rw [hz2]; exact hh) (fun d' e' => by
            have e5 : zck (zadv x.b x.n (.ok d)) (fun _ => decide (fnd nf mn (tv x.b x.n d.p) = -1)) 3 (zpl (.ok d)) = .ok d' := e'
            rw [hz2] at e5; cases e5)
          apply u_wrong _ hr hK k1 (by omega)
          intro g7 k7 f7
          have k7' : MR x (.error (3, d.p)) g7 := k7
          refine ⟨rfl, And.symm (u_end k7' (fun f w e => h2 g7 k7') (fun d e => by cases e))⟩
    · have ek : tki x.b x.n d.p ≠ 1 := fun q => e2 (by rw [q])
      have hz1 : znam x.b x.n (.ok d) = (0, .error (1, d.p)) := if_pos ek
      rw [hz1] at h
      apply u_wrong _ hr hK k1 (by omega)
      intro g7 k7 f7
      have k7' : MR x (.error (1, d.p)) g7 := k7
      refine ⟨rfl, And.symm (u_end k7' (fun f w e => h g7 k7' (fun d' e' => by cases e')) (fun d e => by cases e))⟩
theorem u_readAccount {K : Int} {S : Nat} {g r : ab_H} {x : Mx} {d : Zd} (P : ab_H → ab_H → Prop) (hr : SI r) (hK : 186 ≤ K) (hb : TxB x.b x.n) (hx : MR x (.ok d) g) (h : ∀ g' : ab_H, MR x (zl_acc x.b x.n d) g' → P g' r) : ab_RV m_M_readAccount [(2, 161)] K S g r P := by
  have hI : Inv d := hx.1.2.2.2.1
  have hI1 := hI.1
  have hD := hx.1.2.2.1
  have hp := hx.2.2.1
  have z0 := zsm_room (n := x.n) (lo := 0) (d := d) (x := d.nA) (y := 8) hp
  -- from the room on
  have key : ∀ g3 : ab_H, MR x (zroom d d.nA 8) g3 → g3 163 6 = d.nA → ab_RI m_M_reading [(2, 161), (0, 0)] K S g3 r (fun x2 g' r' => g' = g3 ∧ r' = r ∧ (ab_RV m_M_newName [(2, 161), (2, 164), (0, 8), (0, x2)] K S g3 r (fun g3 r' => r' = r ∧ (((¬ wr (g3 161 22) = wr 0 → P g3 r) ∧ (wr (g3 161 22) = wr 0 → ab_RI m_M_reading [(2, 161), (0, 0)] K S g3 r (fun x5 g' r' => g' = g3 ∧ r' = r ∧ (ab_RV m_M_reads [(2, 161), (0, 0), (0, x5 + 1)] K S g3 r (fun g6 r' => r' = r ∧ (P g6 r))))))))) ) := by
    intro g3 k3 e6
    apply v_M_reading _ hr hK
    refine ⟨by omega, rfl, rfl, ?_⟩
    rw [show (6 : Int) + 0 = 6 by omega, e6]
    have z1 := zsm_adv hb (Int.le_refl 0) z0
    have hdat : ∀ (d1 : Zd) (g' : ab_H), zadv x.b x.n (zroom d d.nA 8) = .ok d1 → MR x (.ok d1) g' → d.nA < 8 ∧ d1.nA = d.nA ∧ d1.an = d.an := fun d1 g' e _ => by
      obtain ⟨a, _, b⟩ := z1 d1 e
      exact ⟨a, by rw [b], by rw [b]⟩
    apply u_newName (nf := d.an) _ hr hK hb (ar_164 hK) (Or.inl ⟨rfl, rfl⟩) (by omega) k3
    · intro d1 g1 v e k
      exact u_st k (Or.inl ⟨rfl, by rw [(hdat d1 g1 e k).2.1]⟩)
    · intro d1 g' e k
      obtain ⟨a1, a2, a3⟩ := hdat d1 g' e k
      refine ⟨by omega, fun i p q => ?_⟩
      rw [k.1.2.2.1.2.1 i p (by rw [a2]; exact q), a3]
      exact ⟨rfl, hI.2.1 i p q⟩
    · have ez : zck (znam x.b x.n (zadv x.b x.n (zroom d d.nA 8))).2 (fun _ => decide (fnd d.an d.nA (znam x.b x.n (zadv x.b x.n (zroom d d.nA 8))).1 = -1)) 3 (zpl (zadv x.b x.n (zroom d d.nA 8))) = zck (znam x.b x.n (zadv x.b x.n (zroom d d.nA 8))).2 (fun d3 => decide (fnd d3.an d3.nA (znam x.b x.n (zadv x.b x.n (zroom d d.nA 8))).1 = -1)) 3 (zpl (zadv x.b x.n (zroom d d.nA 8))) := zck_c (fun d3 e => by
        have z2 := zsm_nam hb (Int.le_refl 0) z1 d3 e
        have e1 : d3.an = d.an := by rw [z2.2.2]
        have e2 : d3.nA = d.nA := by rw [z2.2.2]
        rw [e1, e2])
      rw [ez]
      have z3 := zsm_ck (c := fun d3 => decide (fnd d3.an d3.nA (znam x.b x.n (zadv x.b x.n (zroom d d.nA 8))).1 = -1)) (f := 3) (w := zpl (zadv x.b x.n (zroom d d.nA 8))) (zsm_nam hb (Int.le_refl 0) z1)
      have hv := znam_b hb (Int.le_refl 0) z1
      intro g4 k4 kv
      refine ⟨rfl, u_end k4 (fun f w e => h g4 ?_) (fun d4 e => ?_)⟩
      · unfold zl_acc; rw [e]; rw [e] at k4; exact k4
      · have hv2 := kv d4 e
        obtain ⟨a1, _, a3⟩ := z3 d4 e
        rw [e] at k4
        have e4 : d4.nA = d.nA := by rw [a3]
        apply v_M_reading _ hr hK
        refine ⟨by omega, rfl, rfl, ?_⟩
        apply v_M_reads _ hr hK
        rw [show (6 : Int) + 0 = 6 by omega, k4.1.2.2.1.1.1]
        refine ⟨by omega, fun g6 hg6 => ⟨rfl, h g6 ?_⟩⟩
        rw [hg6]
        have h9 := u_addA (v := (znam x.b x.n (zadv x.b x.n (zroom d d.nA 8))).1) k4 (by omega) (by omega) (by rw [e4]; exact hv2)
        unfold zl_acc
        rw [e]
        exact h9
  apply v_M_readAccount _ hr hK
  apply v_M_reading _ hr hK
  refine ⟨by omega, rfl, rfl, ?_⟩
  rw [show (6 : Int) + 0 = 6 by omega, hD.1.1]
  refine And.intro (fun e => key g ?_ hD.1.1) (fun e => ?_)
  · unfold zroom
    rw [if_neg (by simp only [wr] at e; omega)]; exact hx
  · apply u_wrong _ hr hK hx (by omega)
    intro g8 k8 f8
    refine ⟨rfl, key g8 ?_ (by rw [f8 163 (by omega)]; exact hD.1.1)⟩
    unfold zroom
    rw [if_pos (by simp only [wr] at e; omega)]; exact k8
theorem u_readTally {K : Int} {S : Nat} {g r : ab_H} {x : Mx} {d : Zd} (P : ab_H → ab_H → Prop) (hr : SI r) (hK : 186 ≤ K) (hb : TxB x.b x.n) (hx : MR x (.ok d) g) (h : ∀ g' : ab_H, MR x (zl_tally x.b x.n d) g' → P g' r) : ab_RV m_M_readTally [(2, 161)] K S g r P := by
  have hI : Inv d := hx.1.2.2.2.1
  have hI1 := hI.2.2.1
  have hD := hx.1.2.2.1
  have hp := hx.2.2.1
  have z0 := zsm_room (n := x.n) (lo := 0) (d := d) (x := d.nT) (y := 4) hp
  have key : ∀ g3 : ab_H, MR x (zroom d d.nT 4) g3 → g3 163 7 = d.nT → ab_RI m_M_reading [(2, 161), (0, 1)] K S g3 r (fun x2 g' r' => g' = g3 ∧ r' = r ∧ (ab_RV m_M_newName [(2, 161), (2, 165), (0, 4), (0, x2)] K S g3 r (fun g3 r' => r' = r ∧ (ab_RI m_M_wordOf [(2, 161), (0, 0), (0, 6)] K S g3 r (fun x6 g5 r' => r' = r ∧ (ab_RI m_M_numeral [(2, 161), (0, 1), (0, 3)] K S g5 r (fun x8 g7 r' => r' = r ∧ (((wr (g7 161 22) = wr 0 → ((0 : Int) ≤ 4 + d.nT ∧ (4 + d.nT : Int) < 8) ∧ ∀ g9, g9 = ab_up g7 166 (4 + d.nT) x6 → ((0 : Int) ≤ 4 + d.nT ∧ (4 + d.nT : Int) < 8) ∧ ∀ g10, g10 = ab_up g9 167 (4 + d.nT) x8 → ab_RI m_M_reading [(2, 161), (0, 1)] K S g10 r (fun x11 g' r' => g' = g10 ∧ r' = r ∧ (ab_RV m_M_reads [(2, 161), (0, 1), (0, x11 + 1)] K S g10 r (fun g12 r' => r' = r ∧ (P g12 r))))) ∧ (¬ wr (g7 161 22) = wr 0 → P g7 r)))))))))) := by
    intro g3 k3 e6
    apply v_M_reading _ hr hK
    refine ⟨by omega, rfl, rfl, ?_⟩
    rw [show (6 : Int) + 1 = 7 by omega, e6]
    have z1 := zsm_adv hb (Int.le_refl 0) z0
    have hdat : ∀ (d1 : Zd) (g' : ab_H), zadv x.b x.n (zroom d d.nT 4) = .ok d1 → MR x (.ok d1) g' → d.nT < 4 ∧ d1.nT = d.nT ∧ d1.tn = d.tn := fun d1 g' e _ => by
      obtain ⟨a, _, b⟩ := z1 d1 e
      exact ⟨a, by rw [b], by rw [b]⟩
    apply u_newName (nf := d.tn) _ hr hK hb (ar_165 hK) (Or.inr ⟨rfl, rfl⟩) (by omega) k3
    · intro d1 g1 v e k
      exact u_st k (Or.inr ⟨rfl, by rw [(hdat d1 g1 e k).2.1]⟩)
    · intro d1 g' e k
      obtain ⟨a1, a2, a3⟩ := hdat d1 g' e k
      refine ⟨by omega, fun i p q => ?_⟩
      rw [(k.1.2.2.1.2.2.1 i p (by rw [a2]; exact q)).1, a3]
      exact ⟨rfl, (hI.2.2.2.1 i p q).1⟩
    · have z2 : zsm x.n 0 (d.nT < 4) d (zt_a x.b x.n d).2 := zsm_nam hb (Int.le_refl 0) z1
      have ez : zck (znam x.b x.n (zadv x.b x.n (zroom d d.nT 4))).2 (fun _ => decide (fnd d.tn d.nT (znam x.b x.n (zadv x.b x.n (zroom d d.nT 4))).1 = -1)) 3 (zpl (zadv x.b x.n (zroom d d.nT 4))) = zt_3 x.b x.n d := zck_c (fun d3 e => by
        have z2 := zsm_nam hb (Int.le_refl 0) z1 d3 e
        have e1 : d3.tn = d.tn := by rw [z2.2.2]
        have e2 : d3.nT = d.nT := by rw [z2.2.2]
        show decide (fnd d.tn d.nT (znam x.b x.n (zadv x.b x.n (zroom d d.nT 4))).1 = -1) = decide (fnd d3.tn d3.nT (znam x.b x.n (zadv x.b x.n (zroom d d.nT 4))).1 = -1)
        rw [e1, e2])
      rw [ez]
      have z3 : zsm x.n 0 (d.nT < 4) d (zt_3 x.b x.n d) := zsm_ck z2
      have hv : 0 ≤ (zt_a x.b x.n d).1 ∧ (zt_a x.b x.n d).1 ≤ 1073741823 := znam_b hb (Int.le_refl 0) z1
      intro g4 k4 kv
      refine ⟨rfl, ?_⟩
      apply u_word _ hr hK hb k4 (by omega) (by omega)
      intro g5 k5 f5
      refine ⟨rfl, ?_⟩
      have k5' : MR x (zt_k x.b x.n d).2 g5 := k5
      have z4 := zsm_word (l := 0) (u := 6) hb (Int.le_refl 0) z3
      apply u_num _ hr hK hb k5' (by omega) (by omega)
      intro g7 k7 f7
      have k7' : MR x (zt_f x.b x.n d).2 g7 := k7
      have z5 := zsm_num (l := 1) (u := 3) hb (Int.le_refl 0) z4
      refine ⟨rfl, And.symm (u_end k7' (fun f w e => h g7 ?_) (fun d4 e => ?_))⟩
      · unfold zl_tally; rw [e]; rw [e] at k7'; exact k7'
      · obtain ⟨⟨⟨a1, a2⟩, a4⟩, _, a3⟩ := z5 d4 e
        have e4 : d4.nT = d.nT := by rw [a3]
        have ha2 : 0 ≤ (zt_k x.b x.n d).1 ∧ (zt_k x.b x.n d).1 ≤ 6 := a2
        have ha4 : 1 ≤ (zt_f x.b x.n d).1 ∧ (zt_f x.b x.n d).1 ≤ 3 := a4
        obtain ⟨d5, e5⟩ := ok_num e
        obtain ⟨d6, e6⟩ := ok_word e5
        have hv2 : g4 165 (4 + d.nT) = (zt_a x.b x.n d).1 := kv d6 e6
        rw [e] at k7'
        refine ⟨by omega, fun g9 hg9 => ⟨by omega, fun g10 hg10 => ?_⟩⟩
        have e107 : g10 163 7 = d4.nT := by rw [hg10, up_f (by omega), hg9, up_f (by omega)]; exact k7'.1.2.2.1.1.2.1
        apply v_M_reading _ hr hK
        refine ⟨by omega, rfl, rfl, ?_⟩
        apply v_M_reads _ hr hK
        rw [show (6 : Int) + 1 = 7 by omega, e107]
        refine ⟨by omega, fun g12 hg12 => ⟨rfl, h g12 ?_⟩⟩
        have h9 := u_addT (g1 := g9) (g2 := g10) (v := (zt_a x.b x.n d).1) k7' (by omega) (by omega) ha2 ha4 (by rw [f7 165 (by omega), f5 165 (by omega), e4]; exact hv2) (by rw [e4]; exact hg9) (by rw [e4]; exact hg10)
        rw [hg12]
        unfold zl_tally
        rw [e]
        exact h9
  apply v_M_readTally _ hr hK
  apply v_M_reading _ hr hK
  refine ⟨by omega, rfl, rfl, ?_⟩
  rw [show (6 : Int) + 1 = 7 by omega, hD.1.2.1]
  refine And.intro (fun e => key g ?_ hD.1.2.1) (fun e => ?_)
  · unfold zroom
    rw [if_neg (by simp only [wr] at e; omega)]; exact hx
  · apply u_wrong _ hr hK hx (by omega)
    intro g8 k8 f8
    refine ⟨rfl, key g8 ?_ (by rw [f8 163 (by omega)]; exact hD.1.2.1)⟩
    unfold zroom
    rw [if_pos (by simp only [wr] at e; omega)]; exact k8
