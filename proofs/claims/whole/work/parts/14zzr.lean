/-! SPECS, part zzr: text, the class's LINES of VOID and EVENTS. -/
theorem q_void2 {K : Int} {S : Nat} {c : Cx} {d : Zd} {x10 : Int} (P : ab_H → ab_H → Prop) (hK : 186 ≤ K) (hc : CxOk c) (hI : Inv d) (hz : zsm c.n 0 (d.n < 50 ∧ (x10 = (zv_a c.b c.n d).1 ∧ (0 ≤ (zv_a c.b c.n d).1 ∧ (zv_a c.b c.n d).1 < d.n) ∧ zs d (9 * (zv_a c.b c.n d).1 + 0) ≠ 7 ∧ zs d (9 * (zv_a c.b c.n d).1 + 8) = 0)) d (zv_4 c.b c.n d)) (h : ∀ g' r' : ab_H, SI r' → CR c (zstop c.b c.n (zl_void c.b c.n d)) g' r' → P g' r') : ∀ g8 r9 : ab_H, SI r9 → CR c (zv_4 c.b c.n d) g8 r9 → ab_RI m_Pa_leastTime [(2, 2)] K S g8 r9 (fun x0 g' r' => g' = g8 ∧ r' = r9 ∧ (ab_RI m_Pa_takeNumber [(2, 2), (0, x0), (0, 9999)] K S g8 r9 (fun x17 g15 r16 => SI r16 ∧ (ab_RV m_Pa_takeStop [(2, 2)] K S g15 r16 (fun g19 r20 => SI r20 ∧ (((¬ wr (g19 2 6) = wr 0 → P g19 r20) ∧ (wr (g19 2 6) = wr 0 → (isLg (r20 2 3)) ∧ ab_RV m_Lg_addVoid [(2, r20 2 3), (0, x10), (0, x17)] K S g19 r20 (fun g24 r' => r' = r20 ∧ (P g24 r20)))))))))) := by
  have hcom : zstop c.b c.n (zl_void c.b c.n d) = zb (zstop c.b c.n (zv_t c.b c.n d).2) (fun d5 => .ok (addE d5 7 (-2) (zv_a c.b c.n d).1 (zv_t c.b c.n d).1 0 0 0 0)) := zstop_b (F := fun d5 => addE d5 7 (-2) (zv_a c.b c.n d).1 (zv_t c.b c.n d).1 0 0 0 0) (fun _ => rfl) (fun _ _ => rfl)
  rw [hcom] at h
  intro g8 r9 s9 h8
  apply q_time _ s9 hK hc h8
  intro v g15 r16 s16 h15 hv
  refine ⟨s16, ?_⟩
  have h15' : CR c (zv_t c.b c.n d).2 g15 r16 := h15
  have z5 := zsm_time hc.1 (Int.le_refl 0) hI hz
  apply q_stop _ s16 hK hc h15'
  intro g19 r20 s20 h19
  refine ⟨s20, ?_⟩
  have z6 := zsm_stop hc.1 (Int.le_refl 0) z5
  refine t_end h19 (fun f w e => h g19 r20 s20 ?_) (fun d5 e => ?_)
  · rw [e]; rw [e] at h19; exact h19
  · obtain ⟨d6, e6⟩ := ok_stop e
    obtain ⟨d7, e7⟩ := ok_time e6
    have hv2 : v = (zv_t c.b c.n d).1 := hv d7 e7
    obtain ⟨⟨⟨k1, k2, k3, k4, k5⟩, k6⟩, _, k7⟩ := z6 d5 e
    rw [e] at h19 h
    rw [CR_lg h19]
    refine ⟨CxOk_lg hc, ?_⟩
    have k6' : 0 ≤ (zv_t c.b c.n d).1 ∧ (zv_t c.b c.n d).1 ≤ 9999 := k6
    have hzs : zs d5 = zs d := by rw [k7]; rfl
    have hn5 : d5.n = d.n := by rw [k7]
    rw [k2, hv2]
    apply q_addV _ s20 hK hc h19 (by rw [hn5]; exact k1) ?_
    · intro g24 h24
      exact ⟨rfl, h g24 r20 s20 h24⟩
    · unfold EvPut
      rw [hzs, hn5]
      exact ⟨⟨by omega, fun e => absurd rfl e, fun e => by omega, fun _ => ⟨k3, k4, rfl⟩, k6'⟩, by omega, fun _ => k5, fun e => absurd rfl e, fun e => by omega, fun _ => rfl, fun _ e => absurd rfl e⟩
theorem q_readVoid {K : Int} {S : Nat} {g r : ab_H} {c : Cx} {d : Zd} (P : ab_H → ab_H → Prop) (hr : SI r) (hK : 186 ≤ K) (hc : CxOk c) (hx : CR c (.ok d) g r) (h : ∀ g' r' : ab_H, SI r' → CR c (zstop c.b c.n (zl_void c.b c.n d)) g' r' → P g' r') : ab_RV m_Pa_readVoid [(2, 2)] K S g r P := by
  have hI := hI_of hx
  have hp := hp_of hx
  have hI1 := hI.2.2.2.2.2.2.2.1
  apply v_Pa_readVoid _ hr hK
  rw [CR_lg hx, hx.1.2.2.2.2.2.1.2.2.2.2.2.2.2.1]
  refine ⟨CxOk_lg hc, ?_⟩
  apply q_room _ hr hK hc hx (by omega)
  intro g2 h2
  refine ⟨rfl, ?_⟩
  have h2' : CR c (zroom d d.n 50) g2 r := h2
  have z0 := zsm_room (n := c.n) (lo := 0) (d := d) (x := d.n) (y := 50) hp
  apply q_adv _ hr hK hc h2'
  intro g4 r5 s5 h4
  refine ⟨s5, ?_⟩
  have z1 := zsm_adv hc.1 (Int.le_refl 0) z0
  apply q_num _ s5 hK hc h4 (by omega) (by omega)
  intro x10 g8 r9 s9 h8 _ hx10
  rw [if_pos rfl] at h8
  have h8' : CR c (zv_a c.b c.n d).2 g8 r9 := h8
  obtain ⟨n1, n2, n3⟩ := hx10 rfl
  have n1' : NumR (zv_a c.b c.n d).1 x10 := n1
  have z2 : zsm c.n 0 (d.n < 50 ∧ (0 ≤ (zv_a c.b c.n d).1 ∧ (zv_a c.b c.n d).1 ≤ 2147483647)) d (zv_a c.b c.n d).2 := zsm_num hc.1 (Int.le_refl 0) z1
  rw [CR_lg h8]
  refine ⟨s9, CxOk_lg hc, ?_⟩
  obtain ⟨d8, hd8, he8⟩ := CR_b h8'
  have hI8 := hd8.2.2.2.2.2.2.1
  have hD8 := hd8.2.2.2.2.2.1
  have hn8 := hI8.2.2.2.2.2.2.2.1
  apply s_Lg_holdsPlain _ s9 hK (CxOk_lg hc) hD8.2.2.2.2.2.2.2 (Inv_ev hI8).1 (by omega)
  intro x13 hx13
  refine ⟨rfl, rfl, ?_⟩
  unfold NumR at n1'
  have vb : 0 ≤ (zv_a c.b c.n d).1 := (num_u (b := c.b) (n := c.n) (X := zadv c.b c.n (zroom d d.n 50)) (l := 0) (u := 2147483647) (by omega)).1
  -- in a state without a FAULT
  have iff1 : ∀ d3 : Zd, (zv_a c.b c.n d).2 = .ok d3 → ((x13 = 1) ↔ ((zv_a c.b c.n d).1 < d3.n ∧ zs d3 (9 * (zv_a c.b c.n d).1 + 0) ≠ 7)) ∧ (x13 = 1 → x10 = (zv_a c.b c.n d).1) := by
    intro d3 e
    have := he8 d3 e
    subst this
    refine ⟨⟨fun e1 => ?_, fun e1 => ?_⟩, fun e1 => ?_⟩
    · rcases hx13 with ⟨_, a, b⟩ | ⟨a, _⟩
      · have e3 : x10 = (zv_a c.b c.n d).1 := by omega
        rw [← e3]; exact ⟨a.2, b⟩
      · omega
    · rcases hx13 with ⟨a, _⟩ | ⟨_, a⟩
      · exact a
      · have e3 : x10 = (zv_a c.b c.n d).1 := by omega
        rw [← e3] at e1
        exact absurd ⟨⟨n2, e1.1⟩, e1.2⟩ a
    · rcases hx13 with ⟨_, a, b⟩ | ⟨a, _⟩
      · omega
      · omega
  have z3 : zsm c.n 0 ((d.n < 50 ∧ (0 ≤ (zv_a c.b c.n d).1 ∧ (zv_a c.b c.n d).1 ≤ 2147483647)) ∧ ((zv_a c.b c.n d).1 < d.n ∧ zs d (9 * (zv_a c.b c.n d).1 + 0) ≠ 7)) d (zv_3 c.b c.n d) := zsm_ck2 z2 (fun p e => of_decide_eq_true e)
  have z4 : zsm c.n 0 (((d.n < 50 ∧ (0 ≤ (zv_a c.b c.n d).1 ∧ (zv_a c.b c.n d).1 ≤ 2147483647)) ∧ ((zv_a c.b c.n d).1 < d.n ∧ zs d (9 * (zv_a c.b c.n d).1 + 0) ≠ 7)) ∧ zs d (9 * (zv_a c.b c.n d).1 + 8) = 0) d (zv_4 c.b c.n d) := zsm_ck2 z3 (fun p e => of_decide_eq_true e)
  have z4' : zsm c.n 0 (d.n < 50 ∧ (x10 = (zv_a c.b c.n d).1 ∧ (0 ≤ (zv_a c.b c.n d).1 ∧ (zv_a c.b c.n d).1 < d.n) ∧ zs d (9 * (zv_a c.b c.n d).1 + 0) ≠ 7 ∧ zs d (9 * (zv_a c.b c.n d).1 + 8) = 0)) d (zv_4 c.b c.n d) := by
    intro d5 e
    obtain ⟨⟨⟨⟨a1, a2⟩, a3, a4⟩, a5⟩, a6, a7⟩ := z4 d5 e
    refine ⟨⟨a1, ?_, ⟨a2.1, a3⟩, a4, a5⟩, a6, a7⟩
    obtain ⟨e3, e4⟩ := ok_ck e
    obtain ⟨e5, e6⟩ := ok_ck e3
    have h9 := iff1 d5 e5
    exact h9.2 (h9.1.mpr (of_decide_eq_true e6))
  have key := q_void2 (S := S) P hK hc hI z4' h
  have pl : ∀ d3 : Zd, (zv_a c.b c.n d).2 = .ok d3 → g4 4 4 = zpl (zadv c.b c.n (zroom d d.n 50)) := fun d3 e => CR_pl h4 (ok_num e)
  refine And.intro (fun e => ?_) (fun e => ?_)
  · have e1 : x13 = 1 := by
      rcases hx13 with ⟨a, _⟩ | ⟨a, _⟩
      · exact a
      · rw [a] at e; exact absurd rfl e
    have hpl : (0 ≤ x10 ∧ x10 < d8.n) ∧ zs d8 (9 * x10 + 0) ≠ 7 := by
      rcases hx13 with ⟨_, a⟩ | ⟨a, _⟩
      · exact a
      · omega
    refine ⟨CxOk_lg hc, by omega, ?_⟩
    have h83 : CR c (zv_3 c.b c.n d) g8 r9 := by
      cases hX : (zv_a c.b c.n d).2 with
      | error q => obtain ⟨f, w⟩ := q; unfold zv_3; rw [hX]; rw [hX] at h8'; exact h8'
      | ok d3 =>
        unfold zv_3; rw [hX]
        have := (iff1 d3 hX).1.mp e1
        show CR c (if decide ((zv_a c.b c.n d).1 < d3.n ∧ zs d3 (9 * (zv_a c.b c.n d).1 + 0) ≠ 7) = true then .ok d3 else ZX.bad 4 _) g8 r9
        rw [if_pos (decide_eq_true this)]
        rw [hX] at h8'; exact h8'
    have e9 := (hD8.2.2.2.2.2.2.2.2.2.1 x10 hpl.1.1 hpl.1.2).2.2.2.2.2.1
    have hv8 := (Inv_ev hI8).1 x10 hpl.1.1 hpl.1.2
    have h9b := hv8.2.2.2.2.2
    rw [e9]
    have t := t_ck (K := K) (S := S) (C1 := wr (zs d8 (9 * x10 + 8) - 1) = wr (-1)) (C2 := ¬ wr (zs d8 (9 * x10 + 8) - 1) = wr (-1)) (A := fun g' => CR c (zv_4 c.b c.n d) g' r9) (C := fun d3 => decide (zs d3 (9 * (zv_a c.b c.n d).1 + 8) = 0)) (w' := zpl (zadv c.b c.n (zroom d d.n 50))) (w := g4 4 4) (f := 3) s9 hK hc h83 (by omega) (fun e => e) (fun d3 e => by
      obtain ⟨e3, e4⟩ := ok_ck e
      have e5 := (iff1 d3 e3).2 e1
      have := he8 d3 e3
      subst this
      rw [decide_eq_true_iff, ← e5]
      simp only [wr]
      omega) (fun d3 e => pl d3 (ok_ck e).1) (fun g' h' => h')
    refine And.intro (fun e => key g8 r9 s9 (t.1 e)) (fun e => ?_)
    refine (t.2 e).mono (fun g26 r' hh => ⟨hh.1, ?_⟩)
    exact key g26 r9 s9 hh.2
  · have e1 : x13 = 0 := by
      rcases hx13 with ⟨a, _⟩ | ⟨a, _⟩
      · rw [a] at e; exact absurd e (by decide)
      · exact a
    apply q_fail (w' := zpl (zadv c.b c.n (zroom d d.n 50))) _ s9 hK hc h8' (by omega) pl
    intro g39 h39
    refine ⟨rfl, key g39 r9 s9 ?_⟩
    cases hX : (zv_a c.b c.n d).2 with
    | error q => obtain ⟨f, w⟩ := q; unfold zv_4 zv_3; rw [hX]; rw [hX] at h39; exact h39
    | ok d3 =>
      unfold zv_4 zv_3; rw [hX]
      have hno : ¬ ((zv_a c.b c.n d).1 < d3.n ∧ zs d3 (9 * (zv_a c.b c.n d).1 + 0) ≠ 7) := fun hh => by
        have := (iff1 d3 hX).1.mpr hh
        omega
      show CR c (zck (if decide ((zv_a c.b c.n d).1 < d3.n ∧ zs d3 (9 * (zv_a c.b c.n d).1 + 0) ≠ 7) = true then .ok d3 else ZX.bad 4 _) _ 3 _) g39 r9
      rw [if_neg (fun hh => hno (of_decide_eq_true hh))]
      rw [hX] at h39
      exact h39
def c3 (c : Cx) (G : ab_H) : Cx := (Cx.mk c.b c.n c.o c.lo G c.r0)
theorem CxOk_3 {c : Cx} {G : ab_H} (h : CxOk c) : CxOk (c3 c G) := h
theorem CB_3 {c : Cx} {d : Zd} {g r : ab_H} {i v : Int} (hc : CxOk c) (h : CB c d g r) : CB (c3 c (ab_up c.g0 3 i v)) d (ab_up g 3 i v) r := by
  obtain ⟨h1, h2, h3, h4, h5, h6, h7, h8, h9⟩ := h
  have f2 : ∀ x j : Int, x ≠ 3 → ab_up g 3 i v x j = g x j := fun x j a => up_a a
  refine ⟨⟨by rw [f2 4 1 (by omega)]; exact h1.1, fun j a b => by rw [f2 1 j (by omega)]; exact h1.2 j a b⟩, by rw [f2 4 2 (by omega)]; exact h2, h3, h4, h5, DatC_k hc h6 (fun x j a b e => f2 x j a), h7, fun x j a e k l => ?_, h9⟩
  have h10 := h8 x j a e k l
  show ab_up g 3 i v x j = ab_up c.g0 3 i v x j
  by_cases hx : x = 3 ∧ j = i
  · rw [up_e hx.1 hx.2, up_e hx.1 hx.2]
  · rw [up_n hx, up_n hx]; exact h10
theorem CR_3 {c : Cx} {X : ZX} {g r : ab_H} {i v : Int} (hc : CxOk c) (h : CR c X g r) : CR (c3 c (ab_up c.g0 3 i v)) X (ab_up g 3 i v) r := by
  have f4 : ab_up g 3 i v 4 = g 4 := up_f (by omega)
  have f2 : ab_up g 3 i v 2 = g 2 := up_f (by omega)
  cases X with
  | error q =>
    obtain ⟨f, w⟩ := q
    obtain ⟨⟨d, hd⟩, h6, h7, h8⟩ := h
    exact ⟨⟨d, CB_3 hc hd⟩, by rw [f2]; exact h6, by rw [f2]; exact h7, h8⟩
  | ok d =>
    obtain ⟨h1, h2, h3, h4, h5⟩ := h
    refine ⟨CB_3 hc h1, by rw [f2]; exact h2, by rw [f2]; exact h3, h4, ?_⟩
    unfold TokC at h5 ⊢
    rw [f4]; exact h5
theorem CR_30 {c : Cx} {X : ZX} {g r : ab_H} (hc : CxOk c) (h : CR c X g r) : ∀ j : Int, g 3 j = c.g0 3 j := by
  obtain ⟨d, hd, _⟩ := CR_b h
  have ho := hc.2.1
  have hl := hc.2.2
  unfold isTe at ho
  exact fun j => hd.2.2.2.2.2.2.2.1 3 j (by omega) (by omega) (by omega) (by omega)
noncomputable def zfi (b : Int → Int) (n : Int) (Y : ZX) (sh i : Int) : Int × ZX := if i < sh then znum b n Y 0 99999 else (0, Y)
theorem q_fld {K : Int} {S : Nat} {g r : ab_H} {c : Cx} {Y : ZX} {k a o t sh i : Int} (P : ab_H → ab_H → Prop) (hr : SI r) (hK : 186 ≤ K) (hc : CxOk c) (hx : CR c Y g r) (hi : 0 ≤ i ∧ i < 3) (hs : 1 ≤ sh ∧ sh ≤ 3) (h : ∀ g' r' : ab_H, SI r' → CR (c3 c (ab_up c.g0 3 i (zfi c.b c.n Y sh i).1)) (zfi c.b c.n Y sh i).2 g' r' → ab_Rn m_Pa_readEvent 54 [some (2, 2), some (0, k), some (0, a), none, some (0, o), some (0, t), some (0, sh), some (0, i + 1)] [] (K, S, g', r') (ab_Qv K S P)) : ab_Rn m_Pa_readEvent 54 [some (2, 2), some (0, k), some (0, a), none, some (0, o), some (0, t), some (0, sh), some (0, i)] [] (K, S, g, r) (ab_Qv K S P) := by
  apply v_Pa_readEvent_54 _ hr hK
  refine And.intro (fun e => absurd e (by simp only [wr]; omega)) (fun _ => And.intro (fun e => ⟨hi, fun g8 hg8 => ?_⟩) (fun e => ?_))
  · have ez : zfi c.b c.n Y sh i = (0, Y) := if_neg (by simp only [wr] at e; omega)
    rw [ez] at h
    exact h g8 r hr (by rw [hg8]; exact CR_3 hc hx)
  · have ez : zfi c.b c.n Y sh i = znum c.b c.n Y 0 99999 := if_pos (by simp only [wr] at e; omega)
    rw [ez] at h
    apply q_numb _ hr hK hc hx (by omega) (by omega)
    intro g9 r10 s10 h9
    exact ⟨s10, hi, fun g13 hg13 => h g13 r10 s10 (by rw [hg13]; exact CR_3 hc h9)⟩
theorem zsm_fi {b : Int → Int} {n lo : Int} {C : Prop} {d0 : Zd} {X : ZX} {sh i : Int} (hb : TxB b n) (hl : 0 ≤ lo) (h : zsm n lo C d0 X) : zsm n lo C d0 (zfi b n X sh i).2 := by
  unfold zfi
  by_cases e : i < sh
  · rw [if_pos e]; exact zsm_mono (zsm_num hb hl h) (fun q => q.1)
  · rw [if_neg e]; exact h
theorem fi_u {b : Int → Int} {n : Int} {X : ZX} {sh i : Int} : 0 ≤ (zfi b n X sh i).1 ∧ (zfi b n X sh i).1 ≤ 99999 := by
  unfold zfi
  by_cases e : i < sh
  · rw [if_pos e]; exact num_u (by omega)
  · rw [if_neg e]; omega
theorem q_event3 {K : Int} {S : Nat} {c : Cx} {d : Zd} {k oo tt : Int} (P : ab_H → ab_H → Prop) (hK : 186 ≤ K) (hK2 : 187 ≤ K) (hc : CxOk c) (hI : Inv d) (hk : 0 ≤ k ∧ k ≤ 6) (hoo : k = 6 → oo = (ze_o c.b c.n d k).1) (hok : k ≠ 6 → (ze_o c.b c.n d k).1 = -2) (htt : ∀ d', (ze_t c.b c.n d k).2 = .ok d' → tt = (ze_t c.b c.n d k).1) (hz : zsm c.n 0 ((d.n < 50 ∧ (0 ≤ (ze_a c.b c.n d).1 ∧ (ze_a c.b c.n d).1 < d.nA) ∧ (k = 6 → 0 ≤ (ze_o c.b c.n d k).1 ∧ (ze_o c.b c.n d k).1 < d.nA)) ∧ (0 ≤ (ze_t c.b c.n d k).1 ∧ (ze_t c.b c.n d k).1 ≤ 9999)) d (ze_t c.b c.n d k).2) (h : ∀ G g' r' : ab_H, (∀ x : Int, x ≠ 3 → G x = c.g0 x) → SI r' → CR (c3 c G) (zstop c.b c.n (zl_event c.b c.n d k)) g' r' → P g' r') : ∀ g12 r13 : ab_H, SI r13 → CR c (ze_t c.b c.n d k).2 g12 r13 → ab_RI m_Pa_takeNumber [(2, 2), (0, 1), (0, 3)] K S g12 r13 (fun x18 g16 r17 => SI r17 ∧ (ab_Rn m_Pa_readEvent 54 [some (2, 2), some (0, k), some (0, (ze_a c.b c.n d).1), none, some (0, oo), some (0, tt), some (0, x18), some (0, 0)] [] (K, S, g16, r17) (ab_Qv K S P))) := by
  have hcom : zstop c.b c.n (zl_event c.b c.n d k) = zb (zstop c.b c.n (ze_w c.b c.n d k).2) (fun d5 => .ok (addE d5 k (ze_a c.b c.n d).1 (ze_o c.b c.n d k).1 (ze_t c.b c.n d k).1 (ze_s c.b c.n d k).1 (ze_x c.b c.n d k).1 (ze_y c.b c.n d k).1 (ze_w c.b c.n d k).1)) := zstop_b (F := fun d5 => addE d5 k (ze_a c.b c.n d).1 (ze_o c.b c.n d k).1 (ze_t c.b c.n d k).1 (ze_s c.b c.n d k).1 (ze_x c.b c.n d k).1 (ze_y c.b c.n d k).1 (ze_w c.b c.n d k).1) (fun _ => rfl) (fun _ _ => rfl)
  rw [hcom] at h
  intro g12 r13 s13 h12
  apply q_numb _ s13 hK hc h12 (by omega) (by omega)
  intro g16 r17 s17 h16
  refine ⟨s17, ?_⟩
  have h16' : CR c (ze_s c.b c.n d k).2 g16 r17 := h16
  have es : (znum c.b c.n (ze_t c.b c.n d k).2 1 3).1 = (ze_s c.b c.n d k).1 := rfl
  rw [es]
  have us : 1 ≤ (ze_s c.b c.n d k).1 ∧ (ze_s c.b c.n d k).1 ≤ 3 := num_u (by omega)
  have z1 : zsm c.n 0 _ d (ze_s c.b c.n d k).2 := zsm_num (l := 1) (u := 3) hc.1 (Int.le_refl 0) hz
  have ex : zfi c.b c.n (ze_s c.b c.n d k).2 (ze_s c.b c.n d k).1 0 = ze_x c.b c.n d k := if_pos (by omega)
  have ey : zfi c.b c.n (ze_x c.b c.n d k).2 (ze_s c.b c.n d k).1 1 = ze_y c.b c.n d k := rfl
  have ew : zfi c.b c.n (ze_y c.b c.n d k).2 (ze_s c.b c.n d k).1 2 = ze_w c.b c.n d k := rfl
  have ux := fi_u (b := c.b) (n := c.n) (X := (ze_s c.b c.n d k).2) (sh := (ze_s c.b c.n d k).1) (i := 0)
  have uy := fi_u (b := c.b) (n := c.n) (X := (ze_x c.b c.n d k).2) (sh := (ze_s c.b c.n d k).1) (i := 1)
  have uw := fi_u (b := c.b) (n := c.n) (X := (ze_y c.b c.n d k).2) (sh := (ze_s c.b c.n d k).1) (i := 2)
  have z2 := zsm_fi (sh := (ze_s c.b c.n d k).1) (i := 0) hc.1 (Int.le_refl 0) z1
  rw [ex] at z2 ux
  have z3 := zsm_fi (sh := (ze_s c.b c.n d k).1) (i := 1) hc.1 (Int.le_refl 0) z2
  rw [ey] at z3 uy
  have z4 := zsm_fi (sh := (ze_s c.b c.n d k).1) (i := 2) hc.1 (Int.le_refl 0) z3
  rw [ew] at z4 uw
  apply q_fld _ s17 hK hc h16' (by omega) us
  intro g1 r1 s1 h1
  rw [ex] at h1
  apply q_fld _ s1 hK (CxOk_3 hc) h1 (by omega) us
  intro g2 r2 s2 h2
  rw [show zfi (c3 c (ab_up c.g0 3 0 (ze_x c.b c.n d k).1)).b (c3 c (ab_up c.g0 3 0 (ze_x c.b c.n d k).1)).n (ze_x c.b c.n d k).2 (ze_s c.b c.n d k).1 (0 + 1) = ze_y c.b c.n d k from ey] at h2
  apply q_fld _ s2 hK (CxOk_3 (CxOk_3 hc)) h2 (by omega) us
  intro g3 r3 s3 h3
  rw [show zfi (c3 (c3 c (ab_up c.g0 3 0 (ze_x c.b c.n d k).1)) (ab_up (c3 c (ab_up c.g0 3 0 (ze_x c.b c.n d k).1)).g0 3 (0 + 1) (ze_y c.b c.n d k).1)).b (c3 (c3 c (ab_up c.g0 3 0 (ze_x c.b c.n d k).1)) (ab_up (c3 c (ab_up c.g0 3 0 (ze_x c.b c.n d k).1)).g0 3 (0 + 1) (ze_y c.b c.n d k).1)).n (ze_y c.b c.n d k).2 (ze_s c.b c.n d k).1 (0 + 1 + 1) = ze_w c.b c.n d k from ew] at h3
  have h3' : CR (c3 c (ab_up (ab_up (ab_up c.g0 3 0 (ze_x c.b c.n d k).1) 3 (0 + 1) (ze_y c.b c.n d k).1) 3 (0 + 1 + 1) (ze_w c.b c.n d k).1)) (ze_w c.b c.n d k).2 g3 r3 := h3
  have hG : ∀ x : Int, x ≠ 3 → ab_up (ab_up (ab_up c.g0 3 0 (ze_x c.b c.n d k).1) 3 (0 + 1) (ze_y c.b c.n d k).1) 3 (0 + 1 + 1) (ze_w c.b c.n d k).1 x = c.g0 x := fun x hx => by rw [up_f hx, up_f hx, up_f hx]
  have hG0 : ab_up (ab_up (ab_up c.g0 3 0 (ze_x c.b c.n d k).1) 3 (0 + 1) (ze_y c.b c.n d k).1) 3 (0 + 1 + 1) (ze_w c.b c.n d k).1 3 0 = (ze_x c.b c.n d k).1 := by rw [up_k (by omega), up_k (by omega), up_s]
  have hG1 : ab_up (ab_up (ab_up c.g0 3 0 (ze_x c.b c.n d k).1) 3 (0 + 1) (ze_y c.b c.n d k).1) 3 (0 + 1 + 1) (ze_w c.b c.n d k).1 3 1 = (ze_y c.b c.n d k).1 := by rw [up_k (by omega), up_e rfl (by omega)]
  have hG2 : ab_up (ab_up (ab_up c.g0 3 0 (ze_x c.b c.n d k).1) 3 (0 + 1) (ze_y c.b c.n d k).1) 3 (0 + 1 + 1) (ze_w c.b c.n d k).1 3 2 = (ze_w c.b c.n d k).1 := by rw [up_e rfl (by omega)]
  generalize ab_up (ab_up (ab_up c.g0 3 0 (ze_x c.b c.n d k).1) 3 (0 + 1) (ze_y c.b c.n d k).1) 3 (0 + 1 + 1) (ze_w c.b c.n d k).1 = G at h3' hG hG0 hG1 hG2
  clear h1 h2 h3
  apply v_Pa_readEvent_54 _ s3 hK
  refine And.intro (fun _ => ?_) (fun e => absurd e (by simp only [wr]; omega))
  apply q_stop _ s3 hK (CxOk_3 (G := G) hc) h3'
  intro g5 r5 s5 h5
  refine ⟨s5, ?_⟩
  have h5' : CR (c3 c G) (zstop c.b c.n (ze_w c.b c.n d k).2) g5 r5 := h5
  have z5 := zsm_stop hc.1 (Int.le_refl 0) z4
  refine t_end h5' (fun f w e => h G g5 r5 hG s5 ?_) (fun d5 e => ?_)
  · rw [e]; rw [e] at h5'; exact h5'
  · obtain ⟨⟨⟨⟨k1, k2, k3⟩, k4⟩, k5⟩, _, k7⟩ := z5 d5 e
    have h30 := CR_30 (CxOk_3 (G := G) hc) h5'
    have hzs : zs d5 = zs d := by rw [k7]; rfl
    have hn5 : d5.n = d.n := by rw [k7]
    have hA5 : d5.nA = d.nA := by rw [k7]
    have hIA := hI.1
    have ett : tt = (ze_t c.b c.n d k).1 := by
      obtain ⟨d6, e6⟩ := ok_stop e
      have e7 : ∃ d', (ze_y c.b c.n d k).2 = .ok d' := by
        rw [← ew] at e6
        unfold zfi at e6
        by_cases hh : 2 < (ze_s c.b c.n d k).1
        · rw [if_pos hh] at e6; exact ok_num e6
        · rw [if_neg hh] at e6; exact ⟨d6, e6⟩
      obtain ⟨d7, e7⟩ := e7
      have e8 : ∃ d', (ze_x c.b c.n d k).2 = .ok d' := by
        rw [← ey] at e7
        unfold zfi at e7
        by_cases hh : 1 < (ze_s c.b c.n d k).1
        · rw [if_pos hh] at e7; exact ok_num e7
        · rw [if_neg hh] at e7; exact ⟨d7, e7⟩
      obtain ⟨d8, e8⟩ := e8
      obtain ⟨d9, e9⟩ := ok_num e8
      obtain ⟨d10, e10⟩ := ok_num e9
      exact htt d10 e10
    rw [e] at h5' h
    rw [CR_lg h5']
    refine ⟨CxOk_lg hc, ?_⟩
    rw [ett]
    apply q_addE (c := c3 c G) (o := (ze_o c.b c.n d k).1) (x := (ze_x c.b c.n d k).1) (y := (ze_y c.b c.n d k).1) (w := (ze_w c.b c.n d k).1) _ s5 hK hK2 (CxOk_3 hc) h5' (by rw [hn5]; exact k1) (by omega) (fun e => (hoo e).symm) ?_ ?_
    · intro g24 h24
      exact ⟨rfl, h G g24 r5 hG s5 h24⟩
    · unfold EvPut
      rw [hzs, hn5, hA5]
      exact ⟨⟨by omega, fun _ => ⟨by omega, us⟩, fun e => by have := k3 e; omega, fun e => by omega, k4⟩, ⟨ux, uy, uw⟩, fun e => by omega, fun _ => k2.2, fun e => (k3 e).2, fun e => by omega, fun e _ => hok e⟩
    · exact ⟨by rw [h30 0]; exact hG0, by rw [h30 1]; exact hG1, by rw [h30 2]; exact hG2⟩
