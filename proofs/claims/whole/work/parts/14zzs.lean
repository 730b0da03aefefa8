/-! SPECS, part zzs: text, the class's LINE of an EVENT; any LINE; the whole TEXT. -/
theorem q_event2 {K : Int} {S : Nat} {c : Cx} {d : Zd} {k oo : Int} (P : ab_H → ab_H → Prop) (hK : 186 ≤ K) (hK2 : 187 ≤ K) (hc : CxOk c) (hI : Inv d) (hk : 0 ≤ k ∧ k ≤ 6) (hoo : k = 6 → oo = (ze_o c.b c.n d k).1) (hok : k ≠ 6 → (ze_o c.b c.n d k).1 = -2) (hz : zsm c.n 0 (d.n < 50 ∧ (0 ≤ (ze_a c.b c.n d).1 ∧ (ze_a c.b c.n d).1 < d.nA) ∧ (k = 6 → 0 ≤ (ze_o c.b c.n d k).1 ∧ (ze_o c.b c.n d k).1 < d.nA)) d (ze_3 c.b c.n d k)) (h : ∀ G g' r' : ab_H, (∀ x : Int, x ≠ 3 → G x = c.g0 x) → SI r' → CR (c3 c G) (zstop c.b c.n (zl_event c.b c.n d k)) g' r' → P g' r') : ∀ g8 r9 : ab_H, SI r9 → CR c (ze_3 c.b c.n d k) g8 r9 → ab_RI m_Pa_leastTime [(2, 2)] K S g8 r9 (fun x0 g' r' => g' = g8 ∧ r' = r9 ∧ (ab_RI m_Pa_takeNumber [(2, 2), (0, x0), (0, 9999)] K S g8 r9 (fun x14 g12 r13 => SI r13 ∧ (ab_RI m_Pa_takeNumber [(2, 2), (0, 1), (0, 3)] K S g12 r13 (fun x18 g16 r17 => SI r17 ∧ (ab_Rn m_Pa_readEvent 54 [some (2, 2), some (0, k), some (0, (ze_a c.b c.n d).1), none, some (0, oo), some (0, x14), some (0, x18), some (0, 0)] [] (K, S, g16, r17) (ab_Qv K S P))))))) := by
  intro g8 r9 s9 h8
  apply q_time _ s9 hK hc h8
  intro v g12 r13 s13 h12 hv
  refine ⟨s13, ?_⟩
  have z5 := zsm_time hc.1 (Int.le_refl 0) hI hz
  exact q_event3 P hK hK2 hc hI hk hoo hok (fun d' e => by obtain ⟨d9, e9⟩ := ok_time e; exact hv d9 e9) z5 h g12 r13 s13 h12
theorem zck_t {X : ZX} {C : Zd → Bool} {f w : Int} (h : ∀ d : Zd, X = .ok d → C d = true) : zck X C f w = X := by
  cases X with
  | error q => obtain ⟨f, w⟩ := q; rfl
  | ok d =>
    show (if C d = true then Except.ok d else ZX.bad f w) = .ok d
    rw [if_pos (h d rfl)]
theorem q_readEvent {K : Int} {S : Nat} {g r : ab_H} {c : Cx} {d : Zd} {k : Int} (P : ab_H → ab_H → Prop) (hr : SI r) (hK : 186 ≤ K) (hK2 : 187 ≤ K) (hc : CxOk c) (hx : CR c (.ok d) g r) (hk : 0 ≤ k ∧ k ≤ 6) (h : ∀ G g' r' : ab_H, (∀ x : Int, x ≠ 3 → G x = c.g0 x) → SI r' → CR (c3 c G) (zstop c.b c.n (zl_event c.b c.n d k)) g' r' → P g' r') : ab_RV m_Pa_readEvent [(2, 2), (0, k)] K S g r P := by
  have hI := hI_of hx
  have hp := hp_of hx
  have hI1 := hI.2.2.2.2.2.2.2.1
  apply v_Pa_readEvent _ hr hK
  refine And.intro (fun _ => ?_) (fun e => absurd e (by simp only [wr]; omega))
  rw [CR_lg hx, hx.1.2.2.2.2.2.1.2.2.2.2.2.2.2.1]
  refine ⟨CxOk_lg hc, ?_⟩
  apply q_room _ hr hK hc hx (by omega)
  intro g2 h2
  refine ⟨rfl, ?_⟩
  have h2' : CR c (zroom d d.n 50) g2 r := h2
  have z0 := zsm_room (n := c.n) (lo := 0) (d := d) (x := d.n) (y := 50) hp
  apply q_adv _ hr hK hc h2'
  intro g4 r5 s5 h4
  refine ⟨s5, ?_⟩
  have z1 := zsm_adv hc.1 (Int.le_refl 0) z0
  apply q_acc _ s5 hK hc h4
  intro g8 r9 s9 h8
  refine ⟨s9, ?_⟩
  have h8' : CR c (ze_a c.b c.n d).2 g8 r9 := h8
  have z2 : zsm c.n 0 (d.n < 50 ∧ (0 ≤ (ze_a c.b c.n d).1 ∧ (ze_a c.b c.n d).1 < d.nA)) d (ze_a c.b c.n d).2 := zsm_acc hc.1 (Int.le_refl 0) hI.1.1 z1
  have ub : 0 ≤ (ze_a c.b c.n d).1 ∧ (ze_a c.b c.n d).1 ≤ 8 := zacc_b hI.1 z1
  have ea : (zacc c.b c.n (zadv c.b c.n (zroom d d.n 50))).1 = (ze_a c.b c.n d).1 := rfl
  rw [ea]
  refine And.intro (fun e => And.intro (fun _ => ?_) (fun e2 => absurd e2 (by simp only [wr]; omega))) (fun e => ?_)
  · have k6 : k ≠ 6 := fun hh => e (by rw [hh])
    have eo : ze_o c.b c.n d k = (-2, (ze_a c.b c.n d).2) := if_neg k6
    have e3 : ze_3 c.b c.n d k = (ze_a c.b c.n d).2 := by
      unfold ze_3
      rw [eo]
      exact zck_t (fun _ _ => decide_eq_true (by show (-2 : Int) ≠ _; omega))
    have z3 : zsm c.n 0 (d.n < 50 ∧ (0 ≤ (ze_a c.b c.n d).1 ∧ (ze_a c.b c.n d).1 < d.nA) ∧ (k = 6 → 0 ≤ (ze_o c.b c.n d k).1 ∧ (ze_o c.b c.n d k).1 < d.nA)) d (ze_3 c.b c.n d k) := by
      rw [e3]; exact zsm_mono z2 (fun q => ⟨q.1, q.2, fun q2 => absurd q2 k6⟩)
    exact q_event2 (oo := -1) P hK hK2 hc hI hk (fun q => absurd q k6) (fun _ => by rw [eo]) z3 h g8 r9 s9 (by rw [e3]; exact h8')
  · have k6 : k = 6 := by simp only [wr] at e; omega
    have eo : ze_o c.b c.n d k = zacc c.b c.n (ze_a c.b c.n d).2 := if_pos k6
    apply q_acc _ s9 hK hc h8'
    intro g30 r31 s31 h30
    refine ⟨s31, ?_⟩
    rw [← eo] at h30 ⊢
    have z3 : zsm c.n 0 ((d.n < 50 ∧ (0 ≤ (ze_a c.b c.n d).1 ∧ (ze_a c.b c.n d).1 < d.nA)) ∧ (0 ≤ (ze_o c.b c.n d k).1 ∧ (ze_o c.b c.n d k).1 < d.nA)) d (ze_o c.b c.n d k).2 := by
      rw [eo]; exact zsm_acc hc.1 (Int.le_refl 0) hI.1.1 z2
    have uo : 0 ≤ (ze_o c.b c.n d k).1 ∧ (ze_o c.b c.n d k).1 ≤ 8 := by rw [eo]; exact zacc_b hI.1 z2
    have z4 : zsm c.n 0 (d.n < 50 ∧ (0 ≤ (ze_a c.b c.n d).1 ∧ (ze_a c.b c.n d).1 < d.nA) ∧ (k = 6 → 0 ≤ (ze_o c.b c.n d k).1 ∧ (ze_o c.b c.n d k).1 < d.nA)) d (ze_3 c.b c.n d k) := zsm_ck (zsm_mono z3 (fun q => ⟨q.1.1, q.1.2, fun _ => q.2⟩))
    have key := q_event2 (S := S) (oo := (ze_o c.b c.n d k).1) P hK hK2 hc hI hk (fun _ => rfl) (fun q => absurd k6 q) z4 h
    have t := t_ck (K := K) (S := S) (C1 := ¬ wr (ze_o c.b c.n d k).1 = wr (ze_a c.b c.n d).1) (C2 := wr (ze_o c.b c.n d k).1 = wr (ze_a c.b c.n d).1) (A := fun g' => CR c (ze_3 c.b c.n d k) g' r31) (C := fun _ => decide ((ze_o c.b c.n d k).1 ≠ (ze_a c.b c.n d).1)) (w' := zpl (ze_a c.b c.n d).2) (w := g8 4 4) (f := 3) s31 hK hc h30 (by omega) (fun e q => q e) (fun d4 e => by
      rw [decide_eq_true_iff]
      simp only [wr]
      omega) (fun d4 e => CR_pl h8' (by rw [eo] at e; exact ok_acc e)) (fun g' h' => h')
    refine And.intro (fun e => key g30 r31 s31 (t.1 e)) (fun e => ?_)
    refine (t.2 e).mono (fun g42 r' hh => ⟨hh.1, ?_⟩)
    exact key g42 r31 s31 hh.2
theorem q_readEventN {K : Int} {S : Nat} {g r : ab_H} {c : Cx} {d : Zd} (P : ab_H → ab_H → Prop) (hr : SI r) (hK : 186 ≤ K) (hc : CxOk c) (hx : CR c (.ok d) g r) (h : ∀ g' : ab_H, CR c (ZX.bad 1 d.p) g' r → P g' r) : ab_RV m_Pa_readEvent [(2, 2), (0, -1)] K S g r P := by
  apply v_Pa_readEvent _ hr hK
  refine And.intro (fun e => absurd rfl e) (fun _ => ?_)
  apply q_fail (X := .ok d) (w' := d.p) _ hr hK hc hx (by omega) (fun d2 e => by cases e; exact hx.2.2.2.2.1)
  exact fun g3 h3 => ⟨rfl, h g3 h3⟩
theorem q_readLine {K : Int} {S : Nat} {g r : ab_H} {c : Cx} {d : Zd} (P : ab_H → ab_H → Prop) (hr : SI r) (hK : 186 ≤ K) (hK2 : 187 ≤ K) (hc : CxOk c) (hx : CR c (.ok d) g r) (hk : tki c.b c.n d.p = 0) (h : ∀ G g' r' : ab_H, (∀ x : Int, x ≠ 3 → G x = c.g0 x) → SI r' → CR (c3 c G) (zline c.b c.n d) g' r' → P g' r') : ab_RV m_Pa_readLine [(2, 2), (2, r 4 5)] K S g r P := by
  have h0 : ∀ g' r' : ab_H, SI r' → CR c (zline c.b c.n d) g' r' → P g' r' := fun g' r' hs hg => h c.g0 g' r' (fun _ _ => rfl) hs hg
  obtain ⟨k, k1, k2, k3, k4⟩ := CT_wd hc hx hk
  have hcw := (cw_at k1).1
  have hwt := wt_at k1
  apply v_Pa_readLine _ hr hK (CR_wd hx)
  rw [k4, hwt.2.2, hwt.1]
  refine ⟨by rw [k3]; omega, ?_⟩
  have hbody : zline c.b c.n d = zstop c.b c.n (if 8 ≤ tv c.b c.n d.p ∧ tv c.b c.n d.p ≤ 11 then ZX.bad 1 d.p else if tv c.b c.n d.p ≤ 6 then zl_event c.b c.n d (tv c.b c.n d.p) else if tv c.b c.n d.p = 7 then zl_void c.b c.n d else if tv c.b c.n d.p = 12 then zl_acc c.b c.n d else if tv c.b c.n d.p = 13 then zl_lift c.b c.n d else if tv c.b c.n d.p = 14 then zl_tally c.b c.n d else if tv c.b c.n d.p = 15 then zl_snap c.b c.n d else zl_seed c.b c.n d) := by
    unfold zline zbody
    by_cases h8 : 8 ≤ tv c.b c.n d.p ∧ tv c.b c.n d.p ≤ 11
    · rw [if_pos (Or.inr h8), if_pos h8]
    · rw [if_neg (fun q => q.elim (fun y => y hk) h8), if_neg h8]
  rw [k2] at hbody
  refine ⟨fun e => ?_, fun e => ?_, fun e => ?_, fun e => ?_, fun e => ?_, fun e => ?_, fun e => ?_⟩
  · have e2 : k = 12 := by simp only [wr] at e; repeat' (split at e) <;> omega
    rw [if_neg (by omega), if_neg (by omega), if_neg (by omega), if_pos (by omega)] at hbody
    rw [hbody] at h0
    apply q_readAccount _ hr hK hc hx
    exact fun g' r' hs hg => ⟨hs, h0 g' r' hs hg⟩
  · have e2 : k = 13 := by simp only [wr] at e; repeat' (split at e) <;> omega
    rw [if_neg (by omega), if_neg (by omega), if_neg (by omega), if_neg (by omega), if_pos (by omega)] at hbody
    rw [hbody] at h0
    apply q_readLift _ hr hK hc hx
    exact fun g' r' hs hg => ⟨hs, h0 g' r' hs hg⟩
  · have e2 : k = 14 := by simp only [wr] at e; repeat' (split at e) <;> omega
    rw [if_neg (by omega), if_neg (by omega), if_neg (by omega), if_neg (by omega), if_neg (by omega), if_pos (by omega)] at hbody
    rw [hbody] at h0
    apply q_readTally _ hr hK hc hx
    exact fun g' r' hs hg => ⟨hs, h0 g' r' hs hg⟩
  · have e2 : k = 15 := by simp only [wr] at e; repeat' (split at e) <;> omega
    rw [if_neg (by omega), if_neg (by omega), if_neg (by omega), if_neg (by omega), if_neg (by omega), if_neg (by omega), if_pos (by omega)] at hbody
    rw [hbody] at h0
    apply q_readSnap _ hr hK hc hx
    exact fun g' r' hs hg => ⟨hs, h0 g' r' hs hg⟩
  · have e2 : k = 16 := by simp only [wr] at e; repeat' (split at e) <;> omega
    rw [if_neg (by omega), if_neg (by omega), if_neg (by omega), if_neg (by omega), if_neg (by omega), if_neg (by omega), if_neg (by omega)] at hbody
    rw [hbody] at h0
    apply q_readSeed _ hr hK hc hx
    exact fun g' r' hs hg => ⟨hs, h0 g' r' hs hg⟩
  · have e2 : k = 7 := by simp only [wr] at e; repeat' (split at e) <;> omega
    rw [if_neg (by omega), if_neg (by omega), if_pos (by omega)] at hbody
    rw [hbody] at h0
    apply q_readVoid _ hr hK hc hx
    exact fun g' r' hs hg => ⟨hs, h0 g' r' hs hg⟩
  · have e2 : k ≤ 6 ∨ (8 ≤ k ∧ k ≤ 11) := by simp only [wr] at e; repeat' (split at e) <;> omega
    by_cases e6 : k ≤ 6
    · rw [if_neg (by omega), if_pos (by omega)] at hbody
      rw [hbody] at h
      rw [if_pos e6]
      apply q_readEvent _ hr hK hK2 hc hx (by omega)
      exact fun G g' r' hG hs hg => ⟨hs, h G g' r' hG hs hg⟩
    · rw [if_pos (by omega)] at hbody
      rw [hbody] at h0
      rw [if_neg e6]
      apply q_readEventN _ hr hK hc hx
      exact fun g' hg => ⟨hr, h0 g' r hr hg⟩
