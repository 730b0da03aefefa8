/-! SPECS, part zzza: text, the reference's LINE of an EVENT, any LINE, the whole. -/
noncomputable def zaccH (b : Int → Int) (n : Int) (X : ZX) : Int × ZX := match X with
  | .error (f, w) => (0, .error (f, w))
  | .ok d => if tki b n d.p ≠ 1 then (0, ZX.bad 1 d.p) else if fnd d.an d.nA (tv b n d.p) = -1 then (0, ZX.bad 4 d.p) else (fnd d.an d.nA (tv b n d.p), .ok d)
theorem zaccH_acc {b : Int → Int} {n : Int} {X : ZX} : zadv b n (zaccH b n X).2 = (zacc b n X).2 ∧ (zaccH b n X).1 = (zacc b n X).1 := by
  cases X with
  | error q => obtain ⟨f, w⟩ := q; exact ⟨rfl, rfl⟩
  | ok d =>
    unfold zaccH zacc
    by_cases h1 : tki b n d.p ≠ 1
    · simp only [if_pos h1]; exact ⟨rfl, trivial⟩
    · simp only [if_neg h1]
      by_cases h2 : fnd d.an d.nA (tv b n d.p) = -1
      · simp only [if_pos h2]; exact ⟨rfl, trivial⟩
      · simp only [if_neg h2]; exact ⟨trivial, trivial⟩
theorem u_acc {K : Int} {S : Nat} {g r : ab_H} {x : Mx} {X : ZX} (P : Int → ab_H → ab_H → Prop) (hr : SI r) (hK : 186 ≤ K) (hb : TxB x.b x.n) (hx : MR x X g) (h : ∀ g' : ab_H, MR x (zaccH x.b x.n X).2 g' → P (zacc x.b x.n X).1 g' r) : ab_RI m_M_accountHere [(2, 161)] K S g r P := by
  rw [← zaccH_acc.2] at h
  apply v_M_accountHere _ hr hK
  refine And.symm (u_end hx (fun f w e => ?_) (fun d e => ?_))
  · rw [e] at h hx; exact h g hx
  · rw [e] at h hx
    have hx2 := hx
    obtain ⟨j1, j2, j3, j4⟩ := hx2
    have hI := j1.2.2.2.1
    have hD := j1.2.2.1
    have hI1 := hI.1
    rw [j4.2.2.1]
    refine And.intro (fun e2 => ?_) (fun e2 => ?_)
    · have ek : tki x.b x.n d.p = 1 := by simp only [wr] at e2; have := (tk_b hb j3).2.2.1; omega
      have e21 := j4.2.2.2 (by omega)
      have hv := (tk_b hb j3).2.2.2.2.1 ek
      have hz : zaccH x.b x.n (.ok d) = if fnd d.an d.nA (tv x.b x.n d.p) = -1 then (0, ZX.bad 4 d.p) else (fnd d.an d.nA (tv x.b x.n d.p), .ok d) := by
        show (if tki x.b x.n d.p ≠ 1 then ((0 : Int), ZX.bad 1 d.p) else if fnd d.an d.nA (tv x.b x.n d.p) = -1 then (0, ZX.bad 4 d.p) else (fnd d.an d.nA (tv x.b x.n d.p), .ok d)) = _
        rw [if_neg (fun q => q ek)]
      rw [hz] at h
      apply v_M_accountHere_12 _ hr hK
      rw [j2, e21]
      refine And.intro (fun q => absurd rfl q) (fun _ => ?_)
      apply v_M_reading _ hr hK
      rw [show (6 : Int) + 0 = 6 by omega, hD.1.1]
      refine ⟨by omega, rfl, rfl, ?_⟩
      have hfe : fnd (fun j => g 164 (8 + j)) d.nA (tv x.b x.n d.p) = fnd d.an d.nA (tv x.b x.n d.p) := fnd_ext (fun i a b => hD.2.1 i a b)
      have hfi := fnd_in (f := d.an) (x := tv x.b x.n d.p) hI1.1
      apply s_M_foundIn _ hr hK (ar_164 hK) (by omega) (by omega) (by omega)
      · intro i a b
        rw [hD.2.1 i a b]; exact hI.2.1 i a b
      · rw [hfe]
        refine ⟨rfl, rfl, And.intro (fun e3 => ?_) (fun e3 => ?_)⟩
        · have e4 : fnd d.an d.nA (tv x.b x.n d.p) ≠ -1 := fun q => e3 (by rw [q])
          rw [if_neg e4] at h
          apply v_M_accountHere_33 _ hr hK
          exact And.intro (fun _ => h g hx) (fun q => absurd q (by simp only [wr]; omega))
        · have e4 : fnd d.an d.nA (tv x.b x.n d.p) = -1 := by simp only [wr] at e3; omega
          rw [if_pos e4] at h
          apply u_wrong _ hr hK hx (by omega)
          intro g5 k5 f5
          refine ⟨rfl, ?_⟩
          apply v_M_accountHere_33 _ hr hK
          rw [e4]
          exact And.intro (fun q => absurd rfl q) (fun _ => h g5 k5)
    · have ek : tki x.b x.n d.p ≠ 1 := fun q => e2 (by rw [q])
      have hz : zaccH x.b x.n (.ok d) = (0, ZX.bad 1 d.p) := if_pos ek
      rw [hz] at h
      apply u_wrong _ hr hK hx (by omega)
      intro g5 k5 f5
      refine ⟨rfl, ?_⟩
      apply v_M_accountHere_12 _ hr hK
      have k5' : MR x (.error (1, d.p)) g5 := k5
      refine u_end k5' (fun f w e => ?_) (fun d e => by cases e)
      refine And.intro (fun _ => ?_) (fun q => absurd q (by decide))
      apply v_M_accountHere_33 _ hr hK
      exact And.intro (fun _ => h g5 k5) (fun q => absurd q (by decide))
theorem ok_fi {b : Int → Int} {n sh i : Int} {X : ZX} {d : Zd} (h : (zfi b n X sh i).2 = .ok d) : ∃ d' : Zd, X = .ok d' := by
  unfold zfi at h
  by_cases hh : i < sh
  · rw [if_pos hh] at h; exact ok_num h
  · rw [if_neg hh] at h; exact ⟨d, h⟩
/-- the reference's EVENT is put by -/
theorem u_event4 {K : Int} {S : Nat} {r : ab_H} {x : Mx} {d : Zd} {k oo tt : Int} (P : ab_H → ab_H → Prop) (hr : SI r) (hK : 186 ≤ K) (hI : Inv d) (hk : 0 ≤ k ∧ k ≤ 6) (hoo : oo = (ze_o x.b x.n d k).1) (hok : k ≠ 6 → (ze_o x.b x.n d k).1 = -2) (htt : ∀ d', (ze_t x.b x.n d k).2 = .ok d' → tt = (ze_t x.b x.n d k).1) (us : 1 ≤ (ze_s x.b x.n d k).1 ∧ (ze_s x.b x.n d k).1 ≤ 3) (ux : 0 ≤ (ze_x x.b x.n d k).1 ∧ (ze_x x.b x.n d k).1 ≤ 99999) (uy : 0 ≤ (ze_y x.b x.n d k).1 ∧ (ze_y x.b x.n d k).1 ≤ 99999) (uw : 0 ≤ (ze_w x.b x.n d k).1 ∧ (ze_w x.b x.n d k).1 ≤ 99999) (hz : zsm x.n 0 ((d.n < 50 ∧ (0 ≤ (ze_a x.b x.n d).1 ∧ (ze_a x.b x.n d).1 < d.nA) ∧ (k = 6 → 0 ≤ (ze_o x.b x.n d k).1 ∧ (ze_o x.b x.n d k).1 < d.nA)) ∧ (0 ≤ (ze_t x.b x.n d k).1 ∧ (ze_t x.b x.n d k).1 ≤ 9999)) d (ze_w x.b x.n d k).2) (h : ∀ g' : ab_H, MR x (zl_event x.b x.n d k) g' → P g' r) : ∀ (y w : Int) (g6 : ab_H), y = (ze_y x.b x.n d k).1 → w = (ze_w x.b x.n d k).1 → MR x (ze_w x.b x.n d k).2 g6 → ((wr (g6 161 22) = wr 0 → ((0 : Int) ≤ 8 * d.n + 0 ∧ (8 * d.n + 0 : Int) < 400) ∧ ∀ g8, g8 = ab_up g6 172 (8 * d.n + 0) k → ((0 : Int) ≤ 8 * d.n + 1 ∧ (8 * d.n + 1 : Int) < 400) ∧ ∀ g9, g9 = ab_up g8 172 (8 * d.n + 1) (ze_a x.b x.n d).1 → ((0 : Int) ≤ 8 * d.n + 2 ∧ (8 * d.n + 2 : Int) < 400) ∧ ∀ g10, g10 = ab_up g9 172 (8 * d.n + 2) oo → ((0 : Int) ≤ 8 * d.n + 3 ∧ (8 * d.n + 3 : Int) < 400) ∧ ∀ g11, g11 = ab_up g10 172 (8 * d.n + 3) tt → ((0 : Int) ≤ 8 * d.n + 4 ∧ (8 * d.n + 4 : Int) < 400) ∧ ∀ g12, g12 = ab_up g11 172 (8 * d.n + 4) (ze_s x.b x.n d k).1 → ((0 : Int) ≤ 8 * d.n + 5 ∧ (8 * d.n + 5 : Int) < 400) ∧ ∀ g13, g13 = ab_up g12 172 (8 * d.n + 5) (ze_x x.b x.n d k).1 → ((0 : Int) ≤ 8 * d.n + 5 + 1 ∧ (8 * d.n + 5 + 1 : Int) < 400) ∧ ∀ g14, g14 = ab_up g13 172 (8 * d.n + 5 + 1) y → ((0 : Int) ≤ 8 * d.n + 5 + 2 ∧ (8 * d.n + 5 + 2 : Int) < 400) ∧ ∀ g15, g15 = ab_up g14 172 (8 * d.n + 5 + 2) w → ab_RI m_M_reading [(2, 161), (0, 5)] K S g15 r (fun x16 g' r' => g' = g15 ∧ r' = r ∧ (((0 : Int) ≤ x16 ∧ (x16 : Int) < 50) ∧ ∀ g17, g17 = ab_up g15 173 x16 (-2) → ab_RI m_M_reading [(2, 161), (0, 5)] K S g17 r (fun x18 g' r' => g' = g17 ∧ r' = r ∧ (ab_RV m_M_reads [(2, 161), (0, 5), (0, x18 + 1)] K S g17 r (fun g19 r' => r' = r ∧ (P g19 r))))))) ∧ (¬ wr (g6 161 22) = wr 0 → P g6 r)) := by
  intro y w g6 hy hw k6
  have hn0 := hI.2.2.2.2.2.2.2.1
  have hIA := hI.1
  refine And.symm (u_end k6 (fun f w e => h g6 ?_) (fun d5 e => ?_))
  · unfold zl_event; rw [e]; rw [e] at k6; exact k6
  · obtain ⟨⟨⟨c1, c2, c3⟩, c4⟩, _, c7⟩ := hz d5 e
    obtain ⟨d6, e6⟩ := ok_fi (i := 2) (sh := (ze_s x.b x.n d k).1) (b := x.b) (n := x.n) (X := (ze_y x.b x.n d k).2) (d := d5) e
    obtain ⟨d7, e7⟩ := ok_fi (i := 1) (sh := (ze_s x.b x.n d k).1) (b := x.b) (n := x.n) (X := (ze_x x.b x.n d k).2) (d := d6) e6
    obtain ⟨d8, e8⟩ := ok_num e7
    obtain ⟨d9, e9⟩ := ok_num e8
    have ht2 := htt d9 e9
    have hzs : zs d5 = zs d := by rw [c7]; rfl
    have hn5 : d5.n = d.n := by rw [c7]
    have hA5 : d5.nA = d.nA := by rw [c7]
    rw [e] at k6
    have hD := k6.1.2.2.1
    have hDn : g6 163 11 = d.n := by rw [← hn5]; exact hD.1.2.2.2.2.2
    rw [ht2, hy, hw, hoo]
    refine ⟨by omega, fun g8 h8 => ⟨by omega, fun g9 h9 => ⟨by omega, fun g10 h10 => ⟨by omega, fun g11 h11 => ⟨by omega, fun g12 h12 => ⟨by omega, fun g13 h13 => ⟨by omega, fun g14 h14 => ⟨by omega, fun g15 h15 => ?_⟩⟩⟩⟩⟩⟩⟩⟩
    have fc : ∀ c : Int, c ≠ 172 → g15 c = g6 c := fun c a => by rw [h15, up_f a, h14, up_f a, h13, up_f a, h12, up_f a, h11, up_f a, h10, up_f a, h9, up_f a, h8, up_f a]
    have fj : ∀ j : Int, j < 8 * d.n ∨ 8 * d.n + 8 ≤ j → g15 172 j = g6 172 j := fun j a => by rw [h15, up_k (by omega), h14, up_k (by omega), h13, up_k (by omega), h12, up_k (by omega), h11, up_k (by omega), h10, up_k (by omega), h9, up_k (by omega), h8, up_k (by omega)]
    have v0 : g15 172 (8 * d.n + 0) = k := by rw [h15, up_k (by omega), h14, up_k (by omega), h13, up_k (by omega), h12, up_k (by omega), h11, up_k (by omega), h10, up_k (by omega), h9, up_k (by omega), h8, up_s]
    have v1 : g15 172 (8 * d.n + 1) = (ze_a x.b x.n d).1 := by rw [h15, up_k (by omega), h14, up_k (by omega), h13, up_k (by omega), h12, up_k (by omega), h11, up_k (by omega), h10, up_k (by omega), h9, up_s]
    have v2 : g15 172 (8 * d.n + 2) = (ze_o x.b x.n d k).1 := by rw [h15, up_k (by omega), h14, up_k (by omega), h13, up_k (by omega), h12, up_k (by omega), h11, up_k (by omega), h10, up_s]
    have v3 : g15 172 (8 * d.n + 3) = (ze_t x.b x.n d k).1 := by rw [h15, up_k (by omega), h14, up_k (by omega), h13, up_k (by omega), h12, up_k (by omega), h11, up_s]
    have v4 : g15 172 (8 * d.n + 4) = (ze_s x.b x.n d k).1 := by rw [h15, up_k (by omega), h14, up_k (by omega), h13, up_k (by omega), h12, up_s]
    have v5 : g15 172 (8 * d.n + 5) = (ze_x x.b x.n d k).1 := by rw [h15, up_k (by omega), h14, up_k (by omega), h13, up_s]
    have v6 : g15 172 (8 * d.n + 6) = (ze_y x.b x.n d k).1 := by rw [h15, up_k (by omega), h14, up_e rfl (by omega)]
    have v7 : g15 172 (8 * d.n + 7) = (ze_w x.b x.n d k).1 := by rw [h15, up_e rfl (by omega)]
    apply v_M_reading _ hr hK
    rw [show (6 : Int) + 5 = 11 by omega, fc 163 (by omega), hDn]
    refine ⟨by omega, rfl, rfl, by omega, fun g17 h17 => ?_⟩
    apply v_M_reading _ hr hK
    rw [show (6 : Int) + 5 = 11 by omega, h17, up_f (by omega), fc 163 (by omega), hDn]
    refine ⟨by omega, rfl, rfl, ?_⟩
    apply v_M_reads _ hr hK
    rw [show (6 : Int) + 5 = 11 by omega]
    refine ⟨by omega, fun g19 h19 => ⟨rfl, h g19 ?_⟩⟩
    have h9 : MR x (.ok (addE d5 k (ze_a x.b x.n d).1 (ze_o x.b x.n d k).1 (ze_t x.b x.n d k).1 (ze_s x.b x.n d k).1 (ze_x x.b x.n d k).1 (ze_y x.b x.n d k).1 (ze_w x.b x.n d k).1)) g19 := by
      apply u_addE k6 (by omega)
      · unfold EvPut
        rw [hzs, hn5, hA5]
        exact ⟨⟨by omega, fun _ => ⟨by omega, us⟩, fun e => by have := c3 e; omega, fun e => by omega, c4⟩, ⟨ux, uy, uw⟩, fun e => by omega, fun _ => c2.2, fun e => (c3 e).2, fun e => by omega, fun e _ => hok e⟩
      · intro c j a b e; rw [h19, up_n a, up_f e, fc c b]
      · rw [hn5, h19, up_s]
      · intro j a; rw [hn5] at a; rw [h19, up_f (by omega), up_f (by omega), fj j a]
      · intro f a b
        rw [hn5, h19, up_f (by omega), up_f (by omega)]
        have hf : f = 0 ∨ f = 1 ∨ f = 2 ∨ f = 3 ∨ f = 4 ∨ f = 5 ∨ f = 6 ∨ f = 7 := by omega
        rcases hf with q | q | q | q | q | q | q | q
        · rw [q]; exact v0
        · rw [q]; exact v1
        · rw [q]; exact v2
        · rw [q]; exact v3
        · rw [q]; exact v4
        · rw [q]; exact v5
        · rw [q]; exact v6
        · rw [q]; exact v7
      · intro j a b
        rw [hn5] at b
        rw [if_neg (by omega), h19, up_f (by omega), up_k (by omega), fc 173 (by omega)]
      · rw [hn5, h19, up_f (by omega), up_s]
    unfold zl_event
    rw [e]
    exact h9
theorem u_event3 {K : Int} {S : Nat} {r : ab_H} {x : Mx} {d : Zd} {k oo : Int} (P : ab_H → ab_H → Prop) (hr : SI r) (hK : 186 ≤ K) (hb : TxB x.b x.n) (hI : Inv d) (hk : 0 ≤ k ∧ k ≤ 6) (hoo : oo = (ze_o x.b x.n d k).1) (hok : k ≠ 6 → (ze_o x.b x.n d k).1 = -2) (hz : zsm x.n 0 (d.n < 50 ∧ (0 ≤ (ze_a x.b x.n d).1 ∧ (ze_a x.b x.n d).1 < d.nA) ∧ (k = 6 → 0 ≤ (ze_o x.b x.n d k).1 ∧ (ze_o x.b x.n d k).1 < d.nA)) d (ze_3 x.b x.n d k)) (h : ∀ g' : ab_H, MR x (zl_event x.b x.n d k) g' → P g' r) : ∀ g1 : ab_H, MR x (ze_3 x.b x.n d k) g1 → ab_Rn m_M_readEvent 43 [some (2, 161), some (0, k), some (0, 8 * d.n), some (0, (ze_a x.b x.n d).1), some (0, oo), none, none, none, none, none] [] (K, S, g1, r) (ab_Qv K S P) := by
  intro g1 k1
  apply v_M_readEvent_43 _ hr hK
  apply u_time _ hr hK k1
  intro v hv hv2
  refine ⟨rfl, rfl, ?_⟩
  apply u_timeNum _ hr hK hb k1 hv hv2
  intro t g2 k2 ht f2
  refine ⟨rfl, ?_⟩
  have k2' : MR x (ze_t x.b x.n d k).2 g2 := k2
  have htt : ∀ d', (ze_t x.b x.n d k).2 = .ok d' → t = (ze_t x.b x.n d k).1 := fun d' e => by
    obtain ⟨d9, e9⟩ := ok_time e
    exact ht d9 e9
  have z1 := zsm_time hb (Int.le_refl 0) hI hz
  apply u_num _ hr hK hb k2' (by omega) (by omega)
  intro g4 k4 f4
  refine ⟨rfl, ?_⟩
  have k4' : MR x (ze_s x.b x.n d k).2 g4 := k4
  have us : 1 ≤ (ze_s x.b x.n d k).1 ∧ (ze_s x.b x.n d k).1 ≤ 3 := num_u (by omega)
  have es : (znum x.b x.n (ze_t x.b x.n d k).2 1 3).1 = (ze_s x.b x.n d k).1 := rfl
  have z2 : zsm x.n 0 _ d (ze_s x.b x.n d k).2 := zsm_mono (zsm_num (l := 1) (u := 3) hb (Int.le_refl 0) z1) (fun q => q.1)
  rw [es]
  apply u_num _ hr hK hb k4' (by omega) (by omega)
  intro g6 k6 f6
  refine ⟨rfl, ?_⟩
  have k6' : MR x (ze_x x.b x.n d k).2 g6 := k6
  have ux : 0 ≤ (ze_x x.b x.n d k).1 ∧ (ze_x x.b x.n d k).1 ≤ 99999 := num_u (by omega)
  have ex : (znum x.b x.n (ze_s x.b x.n d k).2 0 99999).1 = (ze_x x.b x.n d k).1 := rfl
  have z3 : zsm x.n 0 _ d (ze_x x.b x.n d k).2 := zsm_mono (zsm_num (l := 0) (u := 99999) hb (Int.le_refl 0) z2) (fun q => q.1)
  rw [ex]
  have uy : 0 ≤ (ze_y x.b x.n d k).1 ∧ (ze_y x.b x.n d k).1 ≤ 99999 := fi_u (b := x.b) (n := x.n) (X := (ze_x x.b x.n d k).2) (sh := (ze_s x.b x.n d k).1) (i := 1)
  have uw : 0 ≤ (ze_w x.b x.n d k).1 ∧ (ze_w x.b x.n d k).1 ≤ 99999 := fi_u (b := x.b) (n := x.n) (X := (ze_y x.b x.n d k).2) (sh := (ze_s x.b x.n d k).1) (i := 2)
  have z4 : zsm x.n 0 _ d (ze_y x.b x.n d k).2 := zsm_fi (b := x.b) (X := (ze_x x.b x.n d k).2) (sh := (ze_s x.b x.n d k).1) (i := 1) hb (Int.le_refl 0) z3
  have z5 : zsm x.n 0 _ d (ze_w x.b x.n d k).2 := zsm_fi (b := x.b) (X := (ze_y x.b x.n d k).2) (sh := (ze_s x.b x.n d k).1) (i := 2) hb (Int.le_refl 0) z4
  have fin := u_event4 (S := S) P hr hK hI hk hoo hok htt us ux uy uw z5 h
  -- behind the second FIELD
  have third : ∀ (y : Int) (g36 : ab_H), y = (ze_y x.b x.n d k).1 → MR x (ze_y x.b x.n d k).2 g36 → (wr 2 < wr (ze_s x.b x.n d k).1 → ze_w x.b x.n d k = znum x.b x.n (ze_y x.b x.n d k).2 0 99999) ∧ (wr (ze_s x.b x.n d k).1 ≤ wr 2 → ze_w x.b x.n d k = (0, (ze_y x.b x.n d k).2)) := by
    intro y g36 _ _
    exact ⟨fun e => if_pos (by simp only [wr] at e; omega), fun e => if_neg (by simp only [wr] at e; omega)⟩
  refine And.intro (fun e => ?_) (fun e => ?_)
  · have ey : ze_y x.b x.n d k = (0, (ze_x x.b x.n d k).2) := if_neg (by simp only [wr] at e; omega)
    have ew : ze_w x.b x.n d k = (0, (ze_y x.b x.n d k).2) := if_neg (by simp only [wr] at e; omega)
    refine And.intro (fun _ => fin 0 0 g6 (by rw [ey]) (by rw [ew]) (by rw [ew, ey]; exact k6')) (fun e2 => absurd e2 (by simp only [wr] at e ⊢; omega))
  · have ey : ze_y x.b x.n d k = znum x.b x.n (ze_x x.b x.n d k).2 0 99999 := if_pos (by simp only [wr] at e; omega)
    apply u_num _ hr hK hb k6' (by omega) (by omega)
    intro g36 k36 f36
    have k36' : MR x (ze_y x.b x.n d k).2 g36 := by rw [ey]; exact k36
    refine ⟨rfl, And.intro (fun e2 => ?_) (fun e2 => ?_)⟩
    · have ew : ze_w x.b x.n d k = (0, (ze_y x.b x.n d k).2) := if_neg (by simp only [wr] at e2; omega)
      exact fin _ 0 g36 (by rw [ey]) (by rw [ew]) (by rw [ew]; exact k36')
    · have ew : ze_w x.b x.n d k = znum x.b x.n (ze_y x.b x.n d k).2 0 99999 := if_pos (by simp only [wr] at e2; omega)
      apply u_num _ hr hK hb k36' (by omega) (by omega)
      intro g51 k51 f51
      exact ⟨rfl, fin _ _ g51 (by rw [ey]) (by rw [ew]) (by rw [ew]; exact k51)⟩
