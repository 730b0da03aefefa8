/-! SPECS, part zzz: text, the reference's LINES of VOID and EVENTS. -/
theorem ar_173 {K : Int} (hK : 186 ≤ K) : ab_AR K 173 100 50 := ⟨rfl, by omega, by omega⟩
theorem u_time {K : Int} {S : Nat} {g r : ab_H} {x : Mx} {X : ZX} (P : Int → ab_H → ab_H → Prop) (hr : SI r) (hK : 186 ≤ K) (hx : MR x X g) (h : ∀ v : Int, 0 ≤ v ∧ v ≤ 9999 → (∀ d : Zd, X = .ok d → v = tmin d) → P v g r) : ab_RI m_M_timeAhead [(2, 161)] K S g r P := by
  obtain ⟨d, hI, hD, he⟩ := MR_163 hx
  have hn := hI.2.2.2.2.2.2.2.1
  have ht := tmin_b hI
  have h0 := h (tmin d) ht (fun d' e => by rw [he d' e])
  apply v_M_timeAhead _ hr hK
  apply v_M_reading _ hr hK
  rw [show (6 : Int) + 5 = 11 by omega, hD.1.2.2.2.2.2]
  refine ⟨by omega, rfl, rfl, And.intro (fun e => ?_) (fun e => ?_)⟩
  · have n0 : 0 < d.n := by
      refine Classical.byContradiction (fun q => e ?_)
      rw [show d.n = 0 by omega]
    apply v_M_reading _ hr hK
    rw [show (6 : Int) + 5 = 11 by omega, hD.1.2.2.2.2.2]
    have e1 := (hD.2.2.2.2.1 (d.n - 1) (by omega) (by omega)).1 3 (by omega) (by omega)
    have e2 : 8 * d.n - 8 + 3 = 8 * (d.n - 1) + 3 := by omega
    have e3 : tmin d = d.E (d.n - 1) 3 := by
      unfold tmin
      rw [if_pos n0, zs_E hI (by omega) (by omega)]
    rw [e2, e1, ← e3]
    exact ⟨by omega, rfl, rfl, by omega, h0⟩
  · have n0 : d.n = 0 := by simp only [wr] at e; omega
    have e3 : tmin d = 0 := if_neg (by omega)
    rw [← e3]; exact h0
theorem u_timeNum {K : Int} {S : Nat} {g r : ab_H} {x : Mx} {X : ZX} {v : Int} (P : Int → ab_H → ab_H → Prop) (hr : SI r) (hK : 186 ≤ K) (hb : TxB x.b x.n) (hx : MR x X g) (hv : 0 ≤ v ∧ v ≤ 9999) (hv2 : ∀ d : Zd, X = .ok d → v = tmin d) (h : ∀ (t : Int) (g' : ab_H), MR x (ztime x.b x.n X).2 g' → (∀ d : Zd, X = .ok d → t = (ztime x.b x.n X).1) → (∀ c : Int, c ≠ 161 → g' c = g c) → P t g' r) : ab_RI m_M_numeral [(2, 161), (0, v), (0, 9999)] K S g r P := by
  apply u_num _ hr hK hb hx hv (by omega)
  intro g' k' f'
  refine h _ g' ?_ (fun d e => ?_) f'
  · cases X with
    | error q => exact k'
    | ok d => rw [hv2 d rfl] at k'; exact k'
  · rw [e, hv2 d e]; rfl
theorem l_M_revoke {K : Int} {S : Nat} {r : ab_H} {g0 : ab_H} {e o n : Int} (P : ab_H → ab_H → Prop) (hr : SI r) (hK : 186 ≤ K) (hn : 0 ≤ n ∧ n < 50) (he : e = 8 * n) (ho : 0 ≤ o ∧ o < 50) : ∀ (m : Nat) (i : Int) (g : ab_H), 0 ≤ i → i + m = 3 → g 163 11 = n → (∀ c : Int, c ≠ 172 → g c = g0 c) → (∀ j : Int, j < e + 5 ∨ e + 5 + i ≤ j → g 172 j = g0 172 j) → (∀ j : Int, 0 ≤ j → j < i → g 172 (e + 5 + j) = 0) → (∀ g' : ab_H, (∀ c j : Int, ¬ (c = 163 ∧ j = 11) → c ≠ 172 → c ≠ 173 → g' c j = g0 c j) → g' 163 11 = n + 1 → (∀ j : Int, j < e + 5 ∨ e + 8 ≤ j → g' 172 j = g0 172 j) → (∀ j : Int, 0 ≤ j → j < 3 → g' 172 (e + 5 + j) = 0) → (∀ j : Int, j ≠ n → g' 173 j = if j = o then n else g0 173 j) → g' 173 n = -2 → P g' r) → ab_Rn m_M_readRevoke 116 [some (2, 161), some (0, e), some (0, o), none, some (0, i)] [] (K, S, g, r) (ab_Qv K S P) := by
  intro m
  induction m with
  | zero =>
    intro i g h0 hi h11 hc hj hz h
    apply v_M_readRevoke_116 _ hr hK
    refine And.intro (fun _ => ?_) (fun q => absurd q (by simp only [wr]; omega))
    apply v_M_reading _ hr hK
    rw [show (6 : Int) + 5 = 11 by omega, h11]
    refine ⟨by omega, rfl, rfl, by omega, fun g2 hg2 => ?_⟩
    apply v_M_reading _ hr hK
    have e2 : g2 163 11 = n := by rw [hg2, up_f (by omega)]; exact h11
    rw [show (6 : Int) + 5 = 11 by omega, e2]
    refine ⟨by omega, rfl, rfl, by omega, fun g4 hg4 => ?_⟩
    apply v_M_reading _ hr hK
    have e4 : g4 163 11 = n := by rw [hg4, up_f (by omega)]; exact e2
    rw [show (6 : Int) + 5 = 11 by omega, e4]
    refine ⟨by omega, rfl, rfl, ?_⟩
    apply v_M_reads _ hr hK
    rw [show (6 : Int) + 5 = 11 by omega]
    refine ⟨by omega, fun g6 hg6 => ⟨rfl, ?_⟩⟩
    have f : ∀ c j : Int, ¬ (c = 163 ∧ j = 11) → c ≠ 173 → g6 c j = g c j := fun c j a b => by rw [hg6, up_n a, hg4, up_f b, hg2, up_f b]
    refine h g6 (fun c j a b d => by rw [f c j a d, hc c b]) (by rw [hg6, up_s]) (fun j a => by rw [f 172 j (by omega) (by omega)]; exact hj j (by omega)) (fun j a b => by rw [f 172 _ (by omega) (by omega)]; exact hz j a (by omega)) (fun j a => ?_) (by rw [hg6, up_f (by omega), hg4, up_s])
    rw [hg6, up_f (by omega), hg4, up_k a, hg2, up_i]
    by_cases e : j = o
    · rw [if_pos e, if_pos e]
    · rw [if_neg e, if_neg e, hc 173 (by omega)]
  | succ m ih =>
    intro i g h0 hi h11 hc hj hz h
    apply v_M_readRevoke_116 _ hr hK
    refine And.intro (fun q => absurd q (by simp only [wr]; omega)) (fun _ => ⟨by omega, fun g8 hg8 => ?_⟩)
    refine ih (i + 1) g8 (by omega) (by omega) (by rw [hg8, up_f (by omega)]; exact h11) (fun c a => by rw [hg8, up_f a]; exact hc c a) (fun j a => by rw [hg8, up_k (by omega)]; exact hj j (by omega)) (fun j a b => ?_) h
    rw [hg8]
    by_cases q : j = i
    · rw [q, up_s]
    · rw [up_k (by omega)]; exact hz j a (by omega)
theorem u_void2 {K : Int} {S : Nat} {r : ab_H} {x : Mx} {d : Zd} (P : ab_H → ab_H → Prop) (hr : SI r) (hK : 186 ≤ K) (hb : TxB x.b x.n) (hI : Inv d) (hz : zsm x.n 0 (d.n < 50 ∧ ((0 ≤ (zv_a x.b x.n d).1 ∧ (zv_a x.b x.n d).1 < d.n) ∧ zs d (9 * (zv_a x.b x.n d).1 + 0) ≠ 7 ∧ zs d (9 * (zv_a x.b x.n d).1 + 8) = 0)) d (zv_4 x.b x.n d)) (h : ∀ g' : ab_H, MR x (zl_void x.b x.n d) g' → P g' r) : ∀ (oo : Int) (g11 : ab_H), ((∃ d' : Zd, zv_4 x.b x.n d = .ok d') → oo = (zv_a x.b x.n d).1) → MR x (zv_4 x.b x.n d) g11 → ab_RI m_M_timeAhead [(2, 161)] K S g11 r (fun x13 g' r' => g' = g11 ∧ r' = r ∧ (ab_RI m_M_numeral [(2, 161), (0, x13), (0, 9999)] K S g11 r (fun x15 g14 r' => r' = r ∧ (((wr (g14 161 22) = wr 0 → ((0 : Int) ≤ 8 * d.n + 0 ∧ (8 * d.n + 0 : Int) < 400) ∧ ∀ g16, g16 = ab_up g14 172 (8 * d.n + 0) 7 → ((0 : Int) ≤ 8 * d.n + 1 ∧ (8 * d.n + 1 : Int) < 400) ∧ ∀ g17, g17 = ab_up g16 172 (8 * d.n + 1) (-2) → ((0 : Int) ≤ 8 * d.n + 2 ∧ (8 * d.n + 2 : Int) < 400) ∧ ∀ g18, g18 = ab_up g17 172 (8 * d.n + 2) oo → ((0 : Int) ≤ 8 * d.n + 3 ∧ (8 * d.n + 3 : Int) < 400) ∧ ∀ g19, g19 = ab_up g18 172 (8 * d.n + 3) x15 → ((0 : Int) ≤ 8 * d.n + 4 ∧ (8 * d.n + 4 : Int) < 400) ∧ ∀ g20, g20 = ab_up g19 172 (8 * d.n + 4) 0 → ab_Rn m_M_readRevoke 116 [some (2, 161), some (0, 8 * d.n), some (0, oo), none, some (0, 0)] [] (K, S, g20, r) (ab_Qv K S P)) ∧ (¬ wr (g14 161 22) = wr 0 → P g14 r)))))) := by
  intro oo g11 hoo k11
  apply u_time _ hr hK k11
  intro v hv hv2
  refine ⟨rfl, rfl, ?_⟩
  apply u_timeNum _ hr hK hb k11 hv hv2
  intro t g14 k14 ht f14
  refine ⟨rfl, ?_⟩
  have k14' : MR x (zv_t x.b x.n d).2 g14 := k14
  have z5 := zsm_time hb (Int.le_refl 0) hI hz
  have hn0 := hI.2.2.2.2.2.2.2.1
  refine And.symm (u_end k14' (fun f w e => h g14 ?_) (fun d5 e => ?_))
  · unfold zl_void; rw [e]; rw [e] at k14'; exact k14'
  · obtain ⟨⟨⟨c1, c2, c3, c4⟩, c5⟩, _, c7⟩ := z5 d5 e
    obtain ⟨d6, e6⟩ := ok_time e
    have ht2 : t = (zv_t x.b x.n d).1 := ht d6 e6
    have hoo2 := hoo ⟨d6, e6⟩
    have c5' : 0 ≤ (zv_t x.b x.n d).1 ∧ (zv_t x.b x.n d).1 ≤ 9999 := c5
    have hzs : zs d5 = zs d := by rw [c7]; rfl
    have hn5 : d5.n = d.n := by rw [c7]
    rw [e] at k14'
    have hD := k14'.1.2.2.1
    rw [ht2, hoo2]
    refine ⟨by omega, fun g16 h16 => ⟨by omega, fun g17 h17 => ⟨by omega, fun g18 h18 => ⟨by omega, fun g19 h19 => ⟨by omega, fun g20 h20 => ?_⟩⟩⟩⟩⟩
    have fc : ∀ c : Int, c ≠ 172 → g20 c = g14 c := fun c a => by rw [h20, up_f a, h19, up_f a, h18, up_f a, h17, up_f a, h16, up_f a]
    have fj : ∀ j : Int, j < 8 * d.n ∨ 8 * d.n + 5 ≤ j → g20 172 j = g14 172 j := fun j a => by rw [h20, up_k (by omega), h19, up_k (by omega), h18, up_k (by omega), h17, up_k (by omega), h16, up_k (by omega)]
    have v0 : g20 172 (8 * d.n + 0) = 7 := by rw [h20, up_k (by omega), h19, up_k (by omega), h18, up_k (by omega), h17, up_k (by omega), h16, up_s]
    have v1 : g20 172 (8 * d.n + 1) = -2 := by rw [h20, up_k (by omega), h19, up_k (by omega), h18, up_k (by omega), h17, up_s]
    have v2 : g20 172 (8 * d.n + 2) = (zv_a x.b x.n d).1 := by rw [h20, up_k (by omega), h19, up_k (by omega), h18, up_s]
    have v3 : g20 172 (8 * d.n + 3) = (zv_t x.b x.n d).1 := by rw [h20, up_k (by omega), h19, up_s]
    have v4 : g20 172 (8 * d.n + 4) = 0 := by rw [h20, up_s]
    refine l_M_revoke (g0 := g20) (n := d.n) P hr hK (by omega) rfl (by omega) 3 0 g20 (by omega) (by omega) (by rw [fc 163 (by omega)]; rw [← hn5]; exact hD.1.2.2.2.2.2) (fun _ _ => rfl) (fun _ _ => rfl) (fun j a b => absurd b (by omega)) ?_
    intro g' w1 w2 w3 w4 w5 w6
    refine h g' ?_
    have h9 : MR x (.ok (addE d5 7 (-2) (zv_a x.b x.n d).1 (zv_t x.b x.n d).1 0 0 0 0)) g' := by
      apply u_addE k14' (by omega)
      · unfold EvPut
        rw [hzs, hn5]
        exact ⟨⟨by omega, fun e => absurd rfl e, fun e => by omega, fun _ => ⟨c2, c3, rfl⟩, c5'⟩, by omega, fun _ => c4, fun e => absurd rfl e, fun e => by omega, fun _ => rfl, fun _ e => absurd rfl e⟩
      · intro c j a b e; rw [w1 c j a b e, fc c b]
      · rw [hn5]; exact w2
      · intro j a; rw [hn5] at a; rw [w3 j (by omega), fj j (by omega)]
      · intro f a b
        rw [hn5]
        have hf : f = 0 ∨ f = 1 ∨ f = 2 ∨ f = 3 ∨ f = 4 ∨ f = 5 ∨ f = 6 ∨ f = 7 := by omega
        rcases hf with q | q | q | q | q | q | q | q
        · rw [q, w3 _ (by omega)]; exact v0
        · rw [q, w3 _ (by omega)]; exact v1
        · rw [q, w3 _ (by omega)]; exact v2
        · rw [q, w3 _ (by omega)]; exact v3
        · rw [q, w3 _ (by omega)]; exact v4
        · rw [q, show 8 * d.n + 5 = 8 * d.n + 5 + 0 by omega]; exact w4 0 (by omega) (by omega)
        · rw [q, show 8 * d.n + 6 = 8 * d.n + 5 + 1 by omega]; exact w4 1 (by omega) (by omega)
        · rw [q, show 8 * d.n + 7 = 8 * d.n + 5 + 2 by omega]; exact w4 2 (by omega) (by omega)
      · intro j a b
        rw [hn5] at b ⊢
        rw [w5 j (by omega), fc 173 (by omega)]
        by_cases q : j = (zv_a x.b x.n d).1
        · rw [if_pos q, if_pos ⟨rfl, q⟩]
        · rw [if_neg q, if_neg (fun y => q y.2)]
      · rw [hn5]; exact w6
    unfold zl_void
    rw [e]
    exact h9
theorem ck_bad {f w f2 w2 : Int} {C : Zd → Bool} : zck (.error (f, w)) C f2 w2 = .error (f, w) := rfl
theorem u_readRevoke {K : Int} {S : Nat} {g r : ab_H} {x : Mx} {d : Zd} (P : ab_H → ab_H → Prop) (hr : SI r) (hK : 186 ≤ K) (hb : TxB x.b x.n) (hx : MR x (.ok d) g) (h : ∀ g' : ab_H, MR x (zl_void x.b x.n d) g' → P g' r) : ab_RV m_M_readRevoke [(2, 161)] K S g r P := by
  have hI : Inv d := hx.1.2.2.2.1
  have hn0 := hI.2.2.2.2.2.2.2.1
  have hD := hx.1.2.2.1
  have hp := hx.2.2.1
  have z0 := zsm_room (n := x.n) (lo := 0) (d := d) (x := d.n) (y := 50) hp
  have z1 := zsm_adv hb (Int.le_refl 0) z0
  have z2 : zsm x.n 0 (d.n < 50 ∧ (0 ≤ (zv_a x.b x.n d).1 ∧ (zv_a x.b x.n d).1 ≤ 2147483647)) d (zv_a x.b x.n d).2 := zsm_num hb (Int.le_refl 0) z1
  have z3 : zsm x.n 0 ((d.n < 50 ∧ (0 ≤ (zv_a x.b x.n d).1 ∧ (zv_a x.b x.n d).1 ≤ 2147483647)) ∧ ((zv_a x.b x.n d).1 < d.n ∧ zs d (9 * (zv_a x.b x.n d).1 + 0) ≠ 7)) d (zv_3 x.b x.n d) := zsm_ck2 z2 (fun p e => of_decide_eq_true e)
  have z4 : zsm x.n 0 (((d.n < 50 ∧ (0 ≤ (zv_a x.b x.n d).1 ∧ (zv_a x.b x.n d).1 ≤ 2147483647)) ∧ ((zv_a x.b x.n d).1 < d.n ∧ zs d (9 * (zv_a x.b x.n d).1 + 0) ≠ 7)) ∧ zs d (9 * (zv_a x.b x.n d).1 + 8) = 0) d (zv_4 x.b x.n d) := zsm_ck2 z3 (fun p e => of_decide_eq_true e)
  have fin := u_void2 (S := S) P hr hK hb hI (zsm_mono z4 (fun q => ⟨q.1.1.1, ⟨q.1.1.2.1, q.1.2.1⟩, q.1.2.2, q.2⟩)) h
  -- from the number on: whether it has a FAULT
  have key59 : ∀ (X : ZX) (g1 : ab_H), MR x X g1 → (∀ d1 : Zd, X = .ok d1 → zv_4 x.b x.n d = zadv x.b x.n (.ok d1) ∧ g1 161 21 = (zv_a x.b x.n d).1) → (∀ f w : Int, X = .error (f, w) → zv_4 x.b x.n d = .error (f, w)) → ab_Rn m_M_readRevoke 59 [some (2, 161), some (0, 8 * d.n), none, none, none] [] (K, S, g1, r) (ab_Qv K S P) := by
    intro X g1 k1 hok hbad
    apply v_M_readRevoke_59 _ hr hK
    refine u_end k1 (fun f w e => ?_) (fun d1 e => ?_)
    · have e4 := hbad f w e
      rw [e] at k1
      apply u_goOn _ hr hK hb k1
      intro g2 k2 f2
      refine ⟨rfl, fin 0 g2 (fun q => ?_) (by rw [e4]; exact k2)⟩
      obtain ⟨d', q⟩ := q
      rw [e4] at q; cases q
    · obtain ⟨e4, e21⟩ := hok d1 e
      rw [e] at k1
      rw [e21]
      apply u_goOn _ hr hK hb k1
      intro g2 k2 f2
      exact ⟨rfl, fin _ g2 (fun _ => rfl) (by rw [e4]; exact k2)⟩
  have key14 : ∀ g3 : ab_H, MR x (zroom d d.n 50) g3 → ab_Rn m_M_readRevoke 14 [some (2, 161), some (0, 8 * d.n), none, none, none] [] (K, S, g3, r) (ab_Qv K S P) := by
    intro g3 k3
    apply v_M_readRevoke_14 _ hr hK
    apply u_goOn _ hr hK hb k3
    intro g1 k1 f1
    refine ⟨rfl, And.symm (u_end k1 (fun f w e => h g1 ?_) (fun d1 e => ?_))⟩
    · have ea : zv_a x.b x.n d = (0, .error (f, w)) := by unfold zv_a; rw [e]; rfl
      unfold zl_void zv_t zv_4 zv_3
      rw [ea]
      rw [e] at k1; exact k1
    · have h1 := z1 d1 e
      have hpl : zpl (zadv x.b x.n (zroom d d.n 50)) = d1.p := by rw [e]; rfl
      have k1' : MR x (.ok d1) g1 := by rw [← e]; exact k1
      have hn1 : d1.n = d.n := by rw [h1.2.2]
      have hzs1 : zs d1 = zs d := by rw [h1.2.2]; rfl
      have hD1 := k1'.1.2.2.1
      have hI1 := k1'.1.2.2.2.1
      have k1b := k1'
      obtain ⟨j1, j2, j3, j4⟩ := k1b
      rw [j4.2.2.1]
      refine And.intro (fun e2 => ?_) (fun e2 => ?_)
      · have ek : tki x.b x.n d1.p = 2 := by simp only [wr] at e2; have := (tk_b hb j3).2.2.1; omega
        have e21 := j4.2.2.2 (by omega)
        have hv := (tk_b hb j3).2.2.2.2.2.1 ek
        have ea : zv_a x.b x.n d = (tv x.b x.n d1.p, zadv x.b x.n (.ok d1)) := by
          unfold zv_a
          rw [e]
          show (if tki x.b x.n d1.p ≠ 2 then ((0 : Int), ZX.bad 1 d1.p) else if tv x.b x.n d1.p < 0 ∨ 2147483647 < tv x.b x.n d1.p then (0, ZX.bad 2 d1.p) else (tv x.b x.n d1.p, zadv x.b x.n (.ok d1))) = _
          rw [if_neg (fun q => q ek), if_neg (by omega)]
        rw [e21]
        apply v_M_reading _ hr hK
        rw [show (6 : Int) + 5 = 11 by omega, hD1.1.2.2.2.2.2]
        -- the FAULT of an EVENT that isn't there
        have no : ¬ (tv x.b x.n d1.p < d1.n ∧ zs d1 (9 * tv x.b x.n d1.p + 0) ≠ 7) → ab_Rn m_M_readRevoke 45 [some (2, 161), some (0, 8 * d.n), none, none, none] [] (K, S, g1, r) (ab_Qv K S P) := by
          intro hno
          apply v_M_readRevoke_45 _ hr hK
          apply u_wrong _ hr hK k1' (by omega)
          intro g4 k4 f4
          refine ⟨rfl, key59 (.error (4, d1.p)) g4 k4 (fun d2 q => by cases q) (fun f w q => ?_)⟩
          cases q
          unfold zv_4 zv_3
          rw [ea, hpl]
          show zck (if decide (tv x.b x.n d1.p < d1.n ∧ zs d1 (9 * tv x.b x.n d1.p + 0) ≠ 7) = true then _ else ZX.bad 4 d1.p) _ 3 d1.p = _
          rw [if_neg (fun q => hno (of_decide_eq_true q))]
          rfl
        refine ⟨by omega, rfl, rfl, And.intro (fun e3 => no (fun q => by simp only [wr] at e3; omega)) (fun e3 => ?_)⟩
        have hlt : tv x.b x.n d1.p < d1.n := by simp only [wr] at e3; omega
        have e5 := hD1.2.2.2.2.1 (tv x.b x.n d1.p) hv.1 hlt
        have e50 := e5.1 0 (by omega) (by omega)
        have hkd : d1.E (tv x.b x.n d1.p) 0 = zs d1 (9 * tv x.b x.n d1.p + 0) := (zs_E hI1 ⟨hv.1, hlt⟩ (by omega)).symm
        have hEv := (Inv_ev hI1).1 (tv x.b x.n d1.p) hv.1 hlt
        rw [e50, hkd, e5.2]
        refine ⟨by omega, And.intro (fun e6 => ⟨by omega, ?_⟩) (fun e6 => no (fun q => by have := q.2; simp only [wr] at e6; omega))⟩
        have h7 : zs d1 (9 * tv x.b x.n d1.p + 0) ≠ 7 := fun q => e6 (by rw [q])
        have h8b := hEv.2.2.2.2.2
        have e3v : zv_3 x.b x.n d = zadv x.b x.n (.ok d1) := by
          unfold zv_3
          rw [ea]
          show (if decide (tv x.b x.n d1.p < d1.n ∧ zs d1 (9 * tv x.b x.n d1.p + 0) ≠ 7) = true then zadv x.b x.n (.ok d1) else _) = _
          rw [if_pos (decide_eq_true ⟨hlt, h7⟩)]
        have ev1 : (zv_a x.b x.n d).1 = tv x.b x.n d1.p := by rw [ea]
        by_cases h8 : zs d1 (9 * tv x.b x.n d1.p + 8) = 0
        · rw [if_pos h8]
          refine And.intro (fun _ => ?_) (fun q => absurd rfl q)
          refine key59 (.ok d1) g1 k1' (fun d2 q => ?_) (fun f w q => by cases q)
          cases q
          refine ⟨?_, by rw [e21, ev1]⟩
          unfold zv_4
          rw [e3v, ev1]
          show (if decide (zs d1 (9 * tv x.b x.n d1.p + 8) = 0) = true then zadv x.b x.n (.ok d1) else _) = _
          rw [if_pos (decide_eq_true h8)]
        · rw [if_neg h8]
          refine And.intro (fun q => absurd q (by simp only [wr]; omega)) (fun _ => ?_)
          apply u_wrong _ hr hK k1' (by omega)
          intro g4 k4 f4
          refine ⟨rfl, key59 (.error (3, d1.p)) g4 k4 (fun d2 q => by cases q) (fun f w q => ?_)⟩
          cases q
          unfold zv_4
          rw [e3v, ev1, hpl]
          show (if decide (zs d1 (9 * tv x.b x.n d1.p + 8) = 0) = true then _ else ZX.bad 3 d1.p) = _
          rw [if_neg (fun q => h8 (of_decide_eq_true q))]
      · have ek : tki x.b x.n d1.p ≠ 2 := fun q => e2 (by rw [q])
        have ea : zv_a x.b x.n d = (0, .error (1, d1.p)) := by
          unfold zv_a
          rw [e]
          exact if_pos ek
        apply u_wrong _ hr hK k1' (by omega)
        intro g4 k4 f4
        refine ⟨rfl, key59 (.error (1, d1.p)) g4 k4 (fun d2 q => by cases q) (fun f w q => ?_)⟩
        cases q
        unfold zv_4 zv_3
        rw [ea]
        rfl
  apply v_M_readRevoke _ hr hK
  apply v_M_reading _ hr hK
  rw [show (6 : Int) + 5 = 11 by omega, hD.1.2.2.2.2.2]
  refine ⟨by omega, rfl, rfl, ?_⟩
  apply v_M_reading _ hr hK
  rw [show (6 : Int) + 5 = 11 by omega, hD.1.2.2.2.2.2]
  refine ⟨by omega, rfl, rfl, And.intro (fun e => key14 g ?_) (fun e => ?_)⟩
  · unfold zroom
    rw [if_neg (fun q => e (by rw [show d.n = 50 by omega]))]; exact hx
  · apply u_wrong _ hr hK hx (by omega)
    intro g8 k8 f8
    refine ⟨rfl, key14 g8 ?_⟩
    unfold zroom
    rw [if_pos (by simp only [wr] at e; omega)]; exact k8
