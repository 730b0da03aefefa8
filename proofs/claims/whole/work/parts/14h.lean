/-! SPECS, part h: the reference replays, the loop. -/
theorem s_M_many {K : Int} {S : Nat} {g r : ab_H} (P : Int → ab_H → ab_H → Prop) (hr : SI r) (hK : 186 ≤ K) (h : P (g 174 1080) g r) : ab_RI m_M_many [(2, 161)] K S g r P := by
  apply v_M_many _ hr hK
  first | exact h | (refine ⟨by omega, ?_⟩; exact h)
theorem s_M_isVoid {K : Int} {S : Nat} {g r : ab_H} {e : Int} (P : Int → ab_H → ab_H → Prop) (hr : SI r) (hK : 186 ≤ K) (he : 0 ≤ e ∧ e < 120) (hk : 0 ≤ g 174 (9 * e + 0) ∧ g 174 (9 * e + 0) ≤ 7) (h : ∀ x : Int, ((x = 1 ∧ g 174 (9 * e + 0) = 7) ∨ (x = 0 ∧ g 174 (9 * e + 0) ≠ 7)) → P x g r) : ab_RI m_M_isVoid [(2, 161), (0, e)] K S g r P := by
  apply v_M_isVoid _ hr hK
  simp only [wr]
  repeat' (first | refine And.intro ?_ ?_ | intro _)
  all_goals first | omega | (apply h; omega)
theorem s_M_isVoided {K : Int} {S : Nat} {g r : ab_H} {e : Int} (P : Int → ab_H → ab_H → Prop) (hr : SI r) (hK : 186 ≤ K) (he : 0 ≤ e ∧ e < 120) (hk : 0 ≤ g 174 (9 * e + 8) ∧ g 174 (9 * e + 8) ≤ 120) (h : ∀ x : Int, ((x = 1 ∧ g 174 (9 * e + 8) ≠ 0) ∨ (x = 0 ∧ g 174 (9 * e + 8) = 0)) → P x g r) : ab_RI m_M_isVoided [(2, 161), (0, e)] K S g r P := by
  apply v_M_isVoided _ hr hK
  simp only [wr]
  repeat' (first | refine And.intro ?_ ?_ | intro _)
  all_goals first | omega | (apply h; omega)
theorem l_M_rep145 {K : Int} {S : Nat} {g r : ab_H} {k but vo w i b : Int} {t : Int × Int × Int} (P : ab_H → ab_H → Prop) (hr : SI r) (hK : 186 ≤ K) (hw : 0 ≤ w ∧ w < 8) (hi : 0 ≤ i ∧ i < 120) (hb : g 179 w = b) (hbb : -300000000 ≤ b ∧ b ≤ 300000000) (h42 : g 161 42 = t.2.1) (h43 : g 161 43 = t.2.2) (htb : 0 ≤ t.2.1 ∧ t.2.1 ≤ 300000000) (h : ∀ g' : ab_H, (∀ c : Int, c ≠ 161 → g' c = g c) → (∀ j : Int, j ≠ 42 → j ≠ 43 → g' 161 j = g 161 j) → g' 161 42 = (if t.2.1 < b then b else t.2.1) → g' 161 43 = (if t.2.1 < b then i else t.2.2) → ab_Rn m_M_replays 38 [some (2, 161), some (0, k), some (0, but), some (0, vo), some (0, w), some (0, i + 1), none, none, none] [] (K, S, g', r) (ab_Qv K S P)) : ab_Rn m_M_replays 145 [some (2, 161), some (0, k), some (0, but), some (0, vo), some (0, w), some (0, i), none, none, none] [] (K, S, g, r) (ab_Qv K S P) := by
  apply v_M_replays_145 _ hr hK
  rw [hb, h42]
  simp only [wr]
  refine ⟨hw, And.intro (fun h1 => ?_) (fun h1 => ⟨hw, fun g1 hg1 g2 hg2 => ?_⟩)⟩
  · apply v_M_replays_161 _ hr hK
    exact h g (fun _ _ => rfl) (fun _ _ _ => rfl) (by rw [if_neg (by omega)]; exact h42) (by rw [if_neg (by omega)]; exact h43)
  · apply v_M_replays_161 _ hr hK
    refine h g2 (fun c hc => by rw [hg2, hg1, up_f hc, up_f hc]) (fun j h2 h3 => by rw [hg2, hg1, up_k h3, up_k h2]) ?_ ?_
    · rw [hg2, hg1, up_k (by omega), up_s, if_pos (by omega)]
    · rw [hg2, up_s, if_pos (by omega)]
def WV (g : ab_H) (t : Int × Int × Int) : Prop := g 161 41 = t.1 ∧ g 161 42 = t.2.1 ∧ g 161 43 = t.2.2
theorem l_M_rep129 {K : Int} {S : Nat} {g r : ab_H} {k but vo w i b : Int} {t : Int × Int × Int} (P : ab_H → ab_H → Prop) (hr : SI r) (hK : 186 ≤ K) (hw : w = -1 ∨ (0 ≤ w ∧ w < 8)) (hi : 0 ≤ i ∧ i < 120) (hb : w ≠ -1 → g 179 w = b) (hbb : -300000000 ≤ b ∧ b ≤ 300000000) (ht : WV g t) (hta : -2 ≤ t.1 ∧ t.1 ≤ 120) (htb : 0 ≤ t.2.1 ∧ t.2.1 ≤ 300000000) (h : ∀ g' : ab_H, (∀ c : Int, c ≠ 161 → g' c = g c) → (∀ j : Int, j ≠ 41 → j ≠ 42 → j ≠ 43 → g' 161 j = g 161 j) → WV g' (if w = -1 then t else wstep b i t) → ab_Rn m_M_replays 38 [some (2, 161), some (0, k), some (0, but), some (0, vo), some (0, w), some (0, i + 1), none, none, none] [] (K, S, g', r) (ab_Qv K S P)) : ab_Rn m_M_replays 129 [some (2, 161), some (0, k), some (0, but), some (0, vo), some (0, w), some (0, i), none, none, none] [] (K, S, g, r) (ab_Qv K S P) := by
  apply v_M_replays_129 _ hr hK
  by_cases h1 : w = -1
  · rw [if_pos h1] at h
    simp only [wr]
    refine And.intro (fun h2 => by omega) (fun h2 => ?_)
    apply v_M_replays_161 _ hr hK
    exact h g (fun _ _ => rfl) (fun _ _ _ _ => rfl) ht
  · rw [if_neg h1] at h
    have hw2 : 0 ≤ w ∧ w < 8 := by omega
    rw [hb h1, ht.1]
    simp only [wr]
    refine And.intro (fun h2 => ⟨hw2, And.intro (fun h3 => ?_) (fun h3 => And.intro (fun h4 => ?_) (fun h4 g1 hg1 => ?_))⟩) (fun h2 => by omega)
    · refine l_M_rep145 P hr hK hw2 hi (hb h1) hbb ht.2.1 ht.2.2 htb (fun g' f1 f2 h5 h6 => h g' f1 (fun j a b c => f2 j b c) ⟨?_, h5, h6⟩)
      rw [f2 41 (by omega) (by omega), ht.1]
      exact (if_neg (by omega)).symm
    · refine l_M_rep145 P hr hK hw2 hi (hb h1) hbb ht.2.1 ht.2.2 htb (fun g' f1 f2 h5 h6 => h g' f1 (fun j a b c => f2 j b c) ⟨?_, h5, h6⟩)
      rw [f2 41 (by omega) (by omega), ht.1]
      exact (if_neg (by omega)).symm
    · refine l_M_rep145 (g := g1) P hr hK hw2 hi (by rw [hg1, up_a (by omega)]; exact hb h1) hbb (by rw [hg1, up_k (by omega)]; exact ht.2.1) (by rw [hg1, up_k (by omega)]; exact ht.2.2) htb (fun g' f1 f2 h5 h6 => h g' (fun c hc => by rw [f1 c hc, hg1, up_f hc]) (fun j a b c => by rw [f2 j b c, hg1, up_k a]) ⟨?_, h5, h6⟩)
      rw [f2 41 (by omega) (by omega), hg1, up_s]
      exact (if_pos (by omega)).symm
theorem l_M_rep38 {K : Int} {S : Nat} {r : ab_H} {n k but vo w pk ps : Int} {T : TT} {s : Int → Int} (P : ab_H → ab_H → Prop) (hr : SI r) (hK : 186 ≤ K) (hT : TOk T) (hE : EvOk s n) (hn : n ≤ 120) (hk : 0 ≤ k ∧ k ≤ n) (hbut : -1 ≤ but ∧ but ≤ 1000) (hvo : 0 ≤ vo ∧ vo ≤ 1000) (hw : w = -1 ∨ (0 ≤ w ∧ w < 8)) (hpk : -1 ≤ pk ∧ pk ≤ 7) (hps : -1 ≤ ps ∧ ps ≤ 7) : ∀ (m : Nat) (i : Int) (g : ab_H), 0 ≤ i → i + m = k → StV g 178 (rep s (LF T s pk ps) (BF T s pk ps) but vo i) i → WV g (wat s (LF T s pk ps) (BF T s pk ps) but vo w i) → g 174 = s → ReT g T → g 161 34 = pk → g 161 35 = ps → (∀ g' : ab_H, MFr g g' → StV g' 178 (rep s (LF T s pk ps) (BF T s pk ps) but vo k) k → WV g' (wat s (LF T s pk ps) (BF T s pk ps) but vo w k) → P g' r) → ab_Rn m_M_replays 38 [some (2, 161), some (0, k), some (0, but), some (0, vo), some (0, w), some (0, i), none, none, none] [] (K, S, g, r) (ab_Qv K S P)
  | 0, i, g, h0, hi, hq, ht, hs, hv, hp, hq2, h => by
    have hik : i = k := by omega
    subst hik
    apply v_M_replays_38 _ hr hK
    simp only [wr]
    exact And.intro (fun _ => h g MFr_rfl hq ht) (fun hc => by omega)
  | m + 1, i, g, h0, hi, hq, ht, hs, hv, hp, hq2, h => by
    have hB := LfOk_lft (pk := pk) (ps := ps) hT hE
    have c0 := hE i h0 (by omega)
    have hRB := RB_rep (but := but) (vo := vo) hB h0 (by omega : i ≤ n)
    have hRB1 := RB_rep (but := but) (vo := vo) (m := i + 1) hB (by omega) (by omega)
    have hw1 := wat_in (but := but) (vo := vo) (w := w) hB h0 (by omega : i ≤ n)
    -- the rest from 129 on
    have k129 : ∀ g1 : ab_H, MFr g g1 → g1 161 = g 161 → StV g1 178 (rep s (LF T s pk ps) (BF T s pk ps) but vo (i + 1)) (i + 1) → ab_Rn m_M_replays 129 [some (2, 161), some (0, k), some (0, but), some (0, vo), some (0, w), some (0, i), none, none, none] [] (K, S, g1, r) (ab_Qv K S P) := by
      intro g1 f1 f161 hq1
      have hbw := hRB1 w
      refine l_M_rep129 (b := (rep s (LF T s pk ps) (BF T s pk ps) but vo (i + 1)).1 w) (t := wat s (LF T s pk ps) (BF T s pk ps) but vo w i) P hr hK hw (by omega) (fun hw' => (hq1.1 w (by omega) (by omega)).1) (by omega) ⟨by rw [f161]; exact ht.1, by rw [f161]; exact ht.2.1, by rw [f161]; exact ht.2.2⟩ (by omega) (by omega) (fun g2 f2 f3 ht2 => ?_)
      rw [← wat_s h0] at ht2
      have f12 : MFr g g2 := MFr_tr f1 ⟨fun c a b => f2 c b, f3⟩
      exact l_M_rep38 P hr hK hT hE hn hk hbut hvo hw hpk hps m (i + 1) g2 (by omega) (by omega) (StV_mono hq1 (fun c j h1 h2 => by rw [f2 c (by omega)])) ht2 (by rw [f12.1 174 (by omega) (by omega)]; exact hs) (ReT_mono hv (fun c h1 h2 => f12.1 c (by omega) (by omega))) (by rw [f12.2 34 (by omega) (by omega) (by omega)]; exact hp) (by rw [f12.2 35 (by omega) (by omega) (by omega)]; exact hq2) (fun g' f' hq' ht' => h g' (MFr_tr f12 f') hq' ht')
    apply v_M_replays_38 _ hr hK
    simp only [wr]
    refine And.intro (fun hc => by omega) (fun _ => ⟨by omega, fun g1 hg1 => ?_⟩)
    have hq0 : ∀ c : Int, StV (ab_up g 183 i c) 178 (rset (rep s (LF T s pk ps) (BF T s pk ps) but vo i) i c) (i + 1) := by
      intro c
      refine ⟨fun a h1 h2 => ?_, fun j h1 h2 => ?_⟩
      · have := hq.1 a h1 h2
        simp (disch := omega) only [up_a]
        exact this
      · show ab_up g 183 i c 183 j = fu _ i c j
        rw [up_i]
        simp only [fu]
        split
        · rfl
        · exact hq.2 j h1 (by omega)
    have hq1 : StV g1 178 (rset (rep s (LF T s pk ps) (BF T s pk ps) but vo i) i 0) (i + 1) := by rw [hg1]; exact hq0 0
    have f1 : ∀ c : Int, c ≠ 183 → g1 c = g c := fun c hc => by rw [hg1, up_f hc]
    have f1m : MFr g g1 := MFr_1 (fun c hc => f1 c (by omega))
    have hs1 : g1 174 = s := by rw [f1 _ (by omega)]; exact hs
    have kover : (s (9 * i + 0) = 7 ∨ i = but ∨ (s (9 * i + 8) ≠ 0 ∧ s (9 * i + 8) ≤ vo)) → ab_Rn m_M_replays 69 [some (2, 161), some (0, k), some (0, but), some (0, vo), some (0, w), some (0, i), some (0, 9 * i), none, none] [] (K, S, g1, r) (ab_Qv K S P) := by
      intro hov
      apply v_M_replays_69 _ hr hK
      refine And.intro (fun _ => ?_) (fun h1 => absurd h1 (by decide))
      refine k129 g1 f1m (f1 _ (by omega)) ?_
      rw [rep_s h0]
      unfold rstep
      rw [if_pos hov]
      exact hq1
    have knot : ¬ (s (9 * i + 0) = 7 ∨ i = but ∨ (s (9 * i + 8) ≠ 0 ∧ s (9 * i + 8) ≤ vo)) → ab_Rn m_M_replays 71 [some (2, 161), some (0, k), some (0, but), some (0, vo), some (0, w), some (0, i), some (0, 9 * i), none, none] [] (K, S, g1, r) (ab_Qv K S P) := by
      intro hov
      have h7 : s (9 * i + 0) ≠ 7 := fun hc => hov (Or.inl hc)
      have c1 := c0.2.1 h7
      have b1 := hB i h0 (by omega) h7
      have b10 := b1.2 0 (by omega) (by omega)
      have b11 := b1.2 1 (by omega) (by omega)
      apply v_M_replays_71 _ hr hK
      refine And.intro (fun h1 => absurd rfl h1) (fun _ => ?_)
      apply s_M_breaks _ hr hK hT (ReT_mono hv (fun c h1 h2 => f1 c (by omega))) hs1 hE ⟨h0, by omega⟩ hn h7 (by rw [f1 _ (by omega)]; exact hp) (by rw [f1 _ (by omega)]; exact hq2) hpk hps
      intro g2 f2 hl2
      have hs2 : g2 174 = s := by rw [f2 _ (by omega)]; exact hs1
      have hq2' : StV g2 178 (rset (rep s (LF T s pk ps) (BF T s pk ps) but vo i) i 0) (i + 1) := by
        refine ⟨fun a h1 h2 => ?_, fun j h1 h2 => ?_⟩
        · rw [f2 (178 + 1) (by omega), f2 (178 + 2) (by omega), f2 (178 + 3) (by omega), f2 (178 + 4) (by omega)]; exact hq1.1 a h1 h2
        · rw [f2 (178 + 5) (by omega)]; exact hq1.2 j h1 h2
      have hl20 : g2 178 0 = LF T s pk ps i 0 := hl2 0 (by omega) (by omega)
      have hl21 : g2 178 1 = LF T s pk ps i 1 := hl2 1 (by omega) (by omega)
      rw [hs2]
      refine ⟨rfl, by omega, by omega, by omega, ?_⟩
      apply s_M_causeOf (m := i) (n := i + 1) _ hr hK (by omega) c1.1 c0.2.2.1 hq2' (RB_rset hRB) (by omega) b1.1 hl20 hl21 (fun hb => ⟨⟨b10.1.1, b10.2 hb⟩, ⟨b11.1.1, b11.2 hb⟩⟩)
      intro z hz
      have hz2 : z = rcz s (LF T s pk ps) (BF T s pk ps) (rep s (LF T s pk ps) (BF T s pk ps) but vo i) i := hz
      have hzb : 0 ≤ z ∧ z ≤ 3 := by rw [hz2]; exact rcause_in
      refine ⟨rfl, rfl, by omega, fun g4 hg4 => ⟨by omega, ?_⟩⟩
      have hg4a : g4 183 i = z := by rw [hg4, up_s]
      have f4 : ∀ c : Int, c ≠ 178 → c ≠ 183 → g4 c = g c := fun c h1 h2 => by rw [hg4, up_f h2, f2 c h1, f1 c h2]
      have f4m : MFr g g4 := MFr_1 (fun c hc => f4 c (by omega) (by omega))
      have hq4 : StV g4 178 (rset (rep s (LF T s pk ps) (BF T s pk ps) but vo i) i z) (i + 1) := by
        have h1 := hq0 z
        refine ⟨fun a h2 h3 => ?_, fun j h2 h3 => ?_⟩
        · have h4 := h1.1 a h2 h3
          rw [hg4, up_f (by omega), up_f (by omega), up_f (by omega), up_f (by omega), f2 (178 + 1) (by omega), f2 (178 + 2) (by omega), f2 (178 + 3) (by omega), f2 (178 + 4) (by omega), hg1]
          rw [up_f (by omega), up_f (by omega), up_f (by omega), up_f (by omega)] at h4 ⊢
          exact h4
        · have h4 := h1.2 j h2 h3
          rw [← h4, hg4]
          show ab_up g2 183 i z 183 j = ab_up g 183 i z 183 j
          rw [up_i, up_i]
          by_cases h5 : j = i
          · rw [if_pos h5, if_pos h5]
          · rw [if_neg h5, if_neg h5, f2 183 (by omega), hg1, up_k h5]
      have hs4 : g4 174 = s := by rw [f4 _ (by omega) (by omega)]; exact hs
      rw [hg4a, hs4]
      refine And.intro (fun h1 => ?_) (fun h1 => ⟨by omega, by omega, by omega, ?_⟩)
      · have hz1 : z ≠ 0 := by simp only [wr] at h1; omega
        refine k129 g4 f4m (f4 _ (by omega) (by omega)) ?_
        rw [rep_s h0]
        unfold rstep
        rw [if_neg hov, if_neg (by rw [← hz2]; exact hz1), ← hz2]
        exact hq4
      · have hz0 : z = 0 := by simp only [wr] at h1; omega
        rw [hz0] at hq4
        apply s_M_applies (x := LF T s pk ps i 0) (y := LF T s pk ps i 1) _ hr hK (by omega) c1.1 c0.2.2.1 hq4 (by rw [hg4, up_f (by omega)]; exact hl20) (by rw [hg4, up_f (by omega)]; exact hl21)
        intro g5 f5 hq5
        refine ⟨rfl, ?_⟩
        refine k129 g5 (MFr_tr f4m (MFr_1 (fun c hc => f5 c (by omega)))) (by rw [f5 161 (by omega), f4 161 (by omega) (by omega)]) ?_
        rw [rep_s h0]
        unfold rstep
        rw [if_neg hov, if_pos (by rw [← hz2]; exact hz0)]
        exact hq5
    apply s_M_isVoid _ hr hK (by omega) (by rw [hs1]; omega)
    intro x hx
    rw [hs1] at hx
    refine ⟨rfl, rfl, And.intro (fun h1 => kover (Or.inl (by omega))) (fun h1 => And.intro (fun h2 => kover (Or.inr (Or.inl (by omega)))) (fun h2 => ?_))⟩
    apply s_M_isVoided _ hr hK (by omega) (by rw [hs1]; omega)
    intro y hy
    rw [hs1] at hy ⊢
    refine ⟨rfl, rfl, And.intro (fun h3 => knot (by omega)) (fun h3 => ⟨by omega, And.intro (fun h4 => knot (by omega)) (fun h4 => kover (by omega))⟩)⟩
theorem l_M_rep2 {K : Int} {S : Nat} {r : ab_H} {k but vo w : Int} (P : ab_H → ab_H → Prop) (hr : SI r) (hK : 186 ≤ K) : ∀ (m : Nat) (i : Int) (g : ab_H), 0 ≤ i → i + m = 8 → (∀ a : Int, 0 ≤ a → a < i → g 179 a = 0 ∧ g 180 a = 0 ∧ g 181 a = 0 ∧ g 182 a = 0) → (∀ g' : ab_H, MFr g g' → StV g' 178 rs0 0 → WV g' (-2, 0, -2) → ab_Rn m_M_replays 38 [some (2, 161), some (0, k), some (0, but), some (0, vo), some (0, w), some (0, 0), none, none, none] [] (K, S, g', r) (ab_Qv K S P)) → ab_Rn m_M_replays 2 [some (2, 161), some (0, k), some (0, but), some (0, vo), some (0, w), some (0, i), none, none, none] [] (K, S, g, r) (ab_Qv K S P)
  | 0, i, g, h0, hi, hz, h => by
    apply v_M_replays_2 _ hr hK
    simp only [wr]
    refine And.intro (fun _ g1 hg1 g2 hg2 g3 hg3 => ?_) (fun h1 => by omega)
    refine h g3 ⟨fun c _ hc => by rw [hg3, hg2, hg1, up_f hc, up_f hc, up_f hc], fun j h1 h2 h3 => by rw [hg3, hg2, hg1, up_k h3, up_k h2, up_k h1]⟩ ⟨fun a h1 h2 => ?_, fun e h1 h2 => by omega⟩ ⟨?_, ?_, ?_⟩
    · have h3 := hz a h1 (by omega)
      rw [hg3, hg2, hg1]
      simp (disch := omega) only [up_a]
      exact h3
    · rw [hg3, hg2, hg1, up_k (by omega), up_k (by omega), up_s]
    · rw [hg3, hg2, up_k (by omega), up_s]
    · rw [hg3, up_s]
  | m + 1, i, g, h0, hi, hz, h => by
    apply v_M_replays_2 _ hr hK
    simp only [wr]
    refine And.intro (fun h1 => by omega) (fun _ => ⟨by omega, fun g4 hg4 => ⟨by omega, fun g5 hg5 => ⟨by omega, fun g6 hg6 => ⟨by omega, fun g7 hg7 => ?_⟩⟩⟩⟩)
    refine l_M_rep2 P hr hK m (i + 1) g7 (by omega) (by omega) (fun a h1 h2 => ?_) (fun g' f' hq ht => h g' (MFr_tr (MFr_1 fun c hc => ?_) f') hq ht)
    · subst hg7 hg6 hg5 hg4
      simp (disch := omega) only [up_a, up_i]
      by_cases h3 : a = i
      · simp only [if_pos h3, and_self]
      · simp only [if_neg h3]
        exact hz a h1 (by omega)
    · rw [hg7, hg6, hg5, hg4, up_f (by omega), up_f (by omega), up_f (by omega), up_f (by omega)]
/-- the reference replays -/
theorem s_M_replays {K : Int} {S : Nat} {g r : ab_H} {n k but vo w pk ps : Int} {T : TT} {s : Int → Int} (P : ab_H → ab_H → Prop) (hr : SI r) (hK : 186 ≤ K) (hT : TOk T) (hE : EvOk s n) (hn : n ≤ 120) (hk : 0 ≤ k ∧ k ≤ n) (hbut : -1 ≤ but ∧ but ≤ 1000) (hvo : 0 ≤ vo ∧ vo ≤ 1000) (hw : w = -1 ∨ (0 ≤ w ∧ w < 8)) (hpk : -1 ≤ pk ∧ pk ≤ 7) (hps : -1 ≤ ps ∧ ps ≤ 7) (hs : g 174 = s) (hv : ReT g T) (hp : g 161 34 = pk) (hq : g 161 35 = ps) (h : ∀ g' : ab_H, MFr g g' → StV g' 178 (rep s (LF T s pk ps) (BF T s pk ps) but vo k) k → WV g' (wat s (LF T s pk ps) (BF T s pk ps) but vo w k) → P g' r) : ab_RV m_M_replays [(2, 161), (0, k), (0, but), (0, vo), (0, w)] K S g r P := by
  apply v_M_replays _ hr hK
  refine l_M_rep2 P hr hK 8 0 g (by omega) (by omega) (fun a h1 h2 => by omega) (fun g1 f1 hq1 ht1 => ?_)
  exact l_M_rep38 P hr hK hT hE hn hk hbut hvo hw hpk hps k.toNat 0 g1 (by omega) (by omega) hq1 ht1 (by rw [f1.1 174 (by omega) (by omega)]; exact hs) (ReT_mono hv (fun c h1 h2 => f1.1 c (by omega) (by omega))) (by rw [f1.2 34 (by omega) (by omega) (by omega)]; exact hp) (by rw [f1.2 35 (by omega) (by omega) (by omega)]; exact hq) (fun g' f' hq' ht' => h g' (MFr_tr f1 f') hq' ht')
theorem s_M_replaysAll {K : Int} {S : Nat} {g r : ab_H} {n pk ps : Int} {T : TT} {s : Int → Int} (P : ab_H → ab_H → Prop) (hr : SI r) (hK : 186 ≤ K) (hT : TOk T) (hE : EvOk s n) (hn : 0 ≤ n ∧ n ≤ 120) (hpk : -1 ≤ pk ∧ pk ≤ 7) (hps : -1 ≤ ps ∧ ps ≤ 7) (hs : g 174 = s) (hm : s 1080 = n) (hv : ReT g T) (hp : g 161 34 = pk) (hq : g 161 35 = ps) (h : ∀ g' : ab_H, MFr g g' → StV g' 178 (rep s (LF T s pk ps) (BF T s pk ps) (-1) 120 n) n → P g' r) : ab_RV m_M_replaysAll [(2, 161)] K S g r P := by
  apply v_M_replaysAll _ hr hK
  apply s_M_many _ hr hK
  rw [hs, hm]
  refine ⟨rfl, rfl, ?_⟩
  apply s_M_replays _ hr hK hT hE hn.2 ⟨hn.1, Int.le_refl _⟩ (by omega) (by omega) (Or.inl rfl) hpk hps hs hv hp hq
  intro g' f' hq' _
  exact ⟨rfl, h g' f' hq'⟩
