/-! SPECS, part q: the class's Tallies. -/
def bt (x t : Int) : Int := ab_and (ab_shr x t) 1
theorem bt_c : (List.range 16).all (fun x => (List.range 4).all fun t => (decide (bt x t = 0) || decide (bt x t = 1)) && (List.range 4).all fun u => decide (bt (ab_or x (ab_shl 1 t)) u = if u = t then 1 else bt x u) && decide (bt (ab_and x (ab_xor (ab_shl 1 t) (-1))) u = if u = t then 0 else bt x u) && (decide (0 ≤ ab_or x (ab_shl 1 t)) && decide (ab_or x (ab_shl 1 t) < 16)) && (decide (0 ≤ ab_and x (ab_xor (ab_shl 1 t) (-1))) && decide (ab_and x (ab_xor (ab_shl 1 t) (-1)) < 16))) = true := by decide +kernel
theorem bt_all {x t u : Int} (hx : 0 ≤ x ∧ x < 16) (ht : 0 ≤ t ∧ t < 4) (hu : 0 ≤ u ∧ u < 4) : (bt x t = 0 ∨ bt x t = 1) ∧ (bt (ab_or x (ab_shl 1 t)) u = if u = t then 1 else bt x u) ∧ (bt (ab_and x (ab_xor (ab_shl 1 t) (-1))) u = if u = t then 0 else bt x u) ∧ (0 ≤ ab_or x (ab_shl 1 t) ∧ ab_or x (ab_shl 1 t) < 16) ∧ (0 ≤ ab_and x (ab_xor (ab_shl 1 t) (-1)) ∧ ab_and x (ab_xor (ab_shl 1 t) (-1)) < 16) := by
  have h1 := List.all_eq_true.mp bt_c x.toNat (List.mem_range.mpr (by omega))
  have h2 := List.all_eq_true.mp h1 t.toNat (List.mem_range.mpr (by omega))
  simp only [Bool.and_eq_true] at h2
  have h3 := List.all_eq_true.mp h2.2 u.toNat (List.mem_range.mpr (by omega))
  have h4 := h2.1
  simp only [Bool.and_eq_true, Bool.or_eq_true, decide_eq_true_eq, show ((x.toNat : Nat) : Int) = x by omega, show ((t.toNat : Nat) : Int) = t by omega, show ((u.toNat : Nat) : Int) = u by omega] at h3 h4
  have h5 : (u.toNat = t.toNat) ↔ u = t := by omega
  simp only [h5] at h3
  exact ⟨h4, h3.1.1.1, h3.1.1.2, h3.1.2, h3.2⟩
def TaP (g : ab_H) (o : Int) (Q : Int → Int) (C : Int → Int → Int) : Prop := (∀ t : Int, 0 ≤ t → t < 4 → g (o + 1) t = Q t) ∧ ∀ e : Int, 0 ≤ e → e < 120 → (0 ≤ g (o + 2) e ∧ g (o + 2) e < 16) ∧ ∀ t : Int, 0 ≤ t → t < 4 → bt (g (o + 2) e) t = C t e
def TFr (g g' : ab_H) (o : Int) : Prop := ∀ c j : Int, c ≠ o + 1 → c ≠ o + 2 → g' c j = g c j
theorem TaP_mono {g g' : ab_H} {o : Int} {Q : Int → Int} {C : Int → Int → Int} (h : TaP g o Q C) (hf : ∀ c i : Int, o ≤ c → c ≤ o + 2 → g' c i = g c i) : TaP g' o Q C :=
  ⟨fun t h0 h1 => by rw [hf _ _ (by omega) (by omega)]; exact h.1 t h0 h1, fun e h0 h1 => by rw [hf _ _ (by omega) (by omega)]; exact h.2 e h0 h1⟩
theorem TaP_ext {g : ab_H} {o : Int} {Q Q' : Int → Int} {C C' : Int → Int → Int} (h : TaP g o Q C) (hq : ∀ t : Int, 0 ≤ t → t < 4 → Q t = Q' t) (hc : ∀ t e : Int, 0 ≤ t → t < 4 → 0 ≤ e → e < 120 → C t e = C' t e) : TaP g o Q' C' :=
  ⟨fun t h0 h1 => by rw [h.1 t h0 h1, hq t h0 h1], fun e h0 h1 => ⟨(h.2 e h0 h1).1, fun t h2 h3 => by rw [(h.2 e h0 h1).2 t h2 h3, hc t e h2 h3 h0 h1]⟩⟩
theorem s_Ta_putOn {K : Int} {S : Nat} {g r : ab_H} {o t e : Int} {Q : Int → Int} {C : Int → Int → Int} (P : ab_H → ab_H → Prop) (hr : SI r) (hK : 186 ≤ K) (ho : isTa o) (h0 : TaP g o Q C) (ht : 0 ≤ t ∧ t < 4) (he : 0 ≤ e ∧ e < 120) (h : ∀ g' : ab_H, TFr g g' o → TaP g' o Q (fun u i => if u = t ∧ i = e then 1 else C u i) → P g' r) : ab_RV m_Ta_putOn [(2, o), (0, t), (0, e)] K S g r P := by
  have h1 := h0.2 e he.1 he.2
  apply v_Ta_putOn _ hr hK ho
  refine ⟨he, he, fun g1 hg1 => h g1 (fun c j a b => by rw [hg1, up_a b]) ⟨fun u h2 h3 => ?_, fun i h2 h3 => ?_⟩⟩
  · rw [hg1, up_a (by omega)]; exact h0.1 u h2 h3
  · rw [hg1, up_i]
    by_cases h4 : i = e
    · rw [if_pos h4]
      refine ⟨(bt_all h1.1 ht ht).2.2.2.1, fun u h5 h6 => ?_⟩
      try dsimp only
      rw [(bt_all h1.1 ht ⟨h5, h6⟩).2.1]
      by_cases h7 : u = t
      · rw [if_pos h7, if_pos ⟨h7, h4⟩]
      · rw [if_neg h7, if_neg (fun hc => h7 hc.1), h1.2 u h5 h6, h4]
    · rw [if_neg h4]
      have h8 := h0.2 i h2 h3
      exact ⟨h8.1, fun u h5 h6 => by dsimp only; rw [if_neg (fun hc => h4 hc.2)]; exact h8.2 u h5 h6⟩
theorem s_Ta_takeOff {K : Int} {S : Nat} {g r : ab_H} {o t e : Int} {Q : Int → Int} {C : Int → Int → Int} (P : ab_H → ab_H → Prop) (hr : SI r) (hK : 186 ≤ K) (ho : isTa o) (h0 : TaP g o Q C) (ht : 0 ≤ t ∧ t < 4) (he : 0 ≤ e ∧ e < 120) (h : ∀ g' : ab_H, TFr g g' o → TaP g' o Q (fun u i => if u = t ∧ i = e then 0 else C u i) → P g' r) : ab_RV m_Ta_takeOff [(2, o), (0, t), (0, e)] K S g r P := by
  have h1 := h0.2 e he.1 he.2
  apply v_Ta_takeOff _ hr hK ho
  refine ⟨he, he, fun g1 hg1 => h g1 (fun c j a b => by rw [hg1, up_a b]) ⟨fun u h2 h3 => ?_, fun i h2 h3 => ?_⟩⟩
  · rw [hg1, up_a (by omega)]; exact h0.1 u h2 h3
  · rw [hg1, up_i]
    by_cases h4 : i = e
    · rw [if_pos h4]
      refine ⟨(bt_all h1.1 ht ht).2.2.2.2, fun u h5 h6 => ?_⟩
      try dsimp only
      rw [(bt_all h1.1 ht ⟨h5, h6⟩).2.2.1]
      by_cases h7 : u = t
      · rw [if_pos h7, if_pos ⟨h7, h4⟩]
      · rw [if_neg h7, if_neg (fun hc => h7 hc.1), h1.2 u h5 h6, h4]
    · rw [if_neg h4]
      have h8 := h0.2 i h2 h3
      exact ⟨h8.1, fun u h5 h6 => by dsimp only; rw [if_neg (fun hc => h4 hc.2)]; exact h8.2 u h5 h6⟩
theorem l_Ta_restart {K : Int} {S : Nat} {r : ab_H} {o t : Int} {Q : Int → Int} {C : Int → Int → Int} (P : ab_H → ab_H → Prop) (hr : SI r) (hK : 186 ≤ K) (ho : isTa o) (ht : 0 ≤ t ∧ t < 4) : ∀ (m : Nat) (i : Int) (g : ab_H), 0 ≤ i → i + m = 120 → TaP g o Q (fun u e => if u = t ∧ e < i then 0 else C u e) → (∀ g' : ab_H, TFr g g' o → TaP g' o Q (fun u e => if u = t then 0 else C u e) → P g' r) → ab_Rn m_Ta_restart 7 [some (2, o), some (0, t), some (0, i)] [] (K, S, g, r) (ab_Qv K S P)
  | 0, i, g, h0, hi, hp, h => by
    apply v_Ta_restart_7 _ hr hK ho
    refine And.intro (fun _ => h g (fun _ _ _ _ => rfl) (TaP_ext hp (fun _ _ _ => rfl) (fun u e h1 h2 h3 h4 => ?_))) (fun h1 => absurd h1 (by simp only [wr]; omega))
    try dsimp only
    by_cases h5 : u = t
    · rw [if_pos h5, if_pos ⟨h5, by omega⟩]
    · rw [if_neg h5, if_neg (fun hc => h5 hc.1)]
  | m + 1, i, g, h0, hi, hp, h => by
    apply v_Ta_restart_7 _ hr hK ho
    refine And.intro (fun h1 => absurd h1 (by simp only [wr]; omega)) (fun _ => ?_)
    apply s_Ta_takeOff _ hr hK ho hp ht (by omega)
    intro g1 f1 hp1
    refine ⟨rfl, l_Ta_restart P hr hK ho ht m (i + 1) g1 (by omega) (by omega) (TaP_ext hp1 (fun _ _ _ => rfl) (fun u e h1 h2 h3 h4 => ?_)) (fun g' f' hp' => h g' (fun c j a b => by rw [f' c j a b, f1 c j a b]) hp')⟩
    try dsimp only
    by_cases h5 : u = t
    · by_cases h6 : e = i
      · rw [if_pos ⟨h5, h6⟩, if_pos ⟨h5, by omega⟩]
      · rw [if_neg (fun hc => h6 hc.2)]
        by_cases h7 : e < i
        · rw [if_pos ⟨h5, h7⟩, if_pos ⟨h5, by omega⟩]
        · rw [if_neg (fun hc => h7 hc.2), if_neg (fun hc => by omega)]
    · rw [if_neg (fun hc => h5 hc.1), if_neg (fun hc => h5 hc.1), if_neg (fun hc => h5 hc.1)]
theorem s_Ta_restart {K : Int} {S : Nat} {g r : ab_H} {o t : Int} {Q : Int → Int} {C : Int → Int → Int} (P : ab_H → ab_H → Prop) (hr : SI r) (hK : 186 ≤ K) (ho : isTa o) (ht : 0 ≤ t ∧ t < 4) (hp : TaP g o Q C) (h : ∀ g' : ab_H, TFr g g' o → TaP g' o (fu Q t 0) (fun u e => if u = t then 0 else C u e) → P g' r) : ab_RV m_Ta_restart [(2, o), (0, t)] K S g r P := by
  apply v_Ta_restart _ hr hK ho
  refine ⟨ht, fun g1 hg1 => ?_⟩
  have f1 : TFr g g1 o := fun c j a b => by rw [hg1, up_a a]
  refine l_Ta_restart (Q := fu Q t 0) (C := C) P hr hK ho ht 120 0 g1 (by omega) (by omega) ⟨fun u h0 h1 => ?_, fun e h0 h1 => ?_⟩ (fun g' f' hp' => h g' (fun c j a b => by rw [f' c j a b, f1 c j a b]) hp')
  · rw [hg1, up_i]
    simp only [fu]
    split
    · rfl
    · exact hp.1 u h0 h1
  · rw [hg1, up_a (by omega)]
    have h2 := hp.2 e h0 h1
    exact ⟨h2.1, fun u h3 h4 => by dsimp only; rw [if_neg (fun hc => by omega)]; exact h2.2 u h3 h4⟩
theorem l_Ta_clear {K : Int} {S : Nat} {r : ab_H} {o : Int} {Q : Int → Int} {C : Int → Int → Int} (P : ab_H → ab_H → Prop) (hr : SI r) (hK : 186 ≤ K) (ho : isTa o) : ∀ (m : Nat) (i : Int) (g : ab_H), 0 ≤ i → i + m = 4 → TaP g o (fun u => if u < i then 0 else Q u) (fun u e => if u < i then 0 else C u e) → (∀ g' : ab_H, TFr g g' o → TaP g' o (fun _ => 0) (fun _ _ => 0) → P g' r) → ab_Rn m_Ta_clear 2 [some (2, o), some (0, i)] [] (K, S, g, r) (ab_Qv K S P)
  | 0, i, g, h0, hi, hp, h => by
    apply v_Ta_clear_2 _ hr hK ho
    refine And.intro (fun _ => h g (fun _ _ _ _ => rfl) (TaP_ext hp (fun t h1 h2 => if_pos (by omega)) (fun u e h1 h2 h3 h4 => if_pos (by omega)))) (fun h1 => absurd h1 (by simp only [wr]; omega))
  | m + 1, i, g, h0, hi, hp, h => by
    apply v_Ta_clear_2 _ hr hK ho
    refine And.intro (fun h1 => absurd h1 (by simp only [wr]; omega)) (fun _ => ?_)
    apply s_Ta_restart _ hr hK ho (by omega) hp
    intro g1 f1 hp1
    refine ⟨rfl, l_Ta_clear (Q := Q) (C := C) P hr hK ho m (i + 1) g1 (by omega) (by omega) (TaP_ext hp1 (fun u h1 h2 => ?_) (fun u e h1 h2 h3 h4 => ?_)) (fun g' f' hp' => h g' (fun c j a b => by rw [f' c j a b, f1 c j a b]) hp')⟩
    · simp only [fu]
      by_cases h3 : u = i
      · rw [if_pos h3, if_pos (by omega)]
      · rw [if_neg h3]
        by_cases h4 : u < i
        · rw [if_pos h4, if_pos (by omega)]
        · rw [if_neg h4, if_neg (by omega)]
    · try dsimp only
      by_cases h5 : u = i
      · rw [if_pos h5, if_pos (by omega)]
      · rw [if_neg h5]
        by_cases h6 : u < i
        · rw [if_pos h6, if_pos (by omega)]
        · rw [if_neg h6, if_neg (by omega)]
theorem s_Ta_clear {K : Int} {S : Nat} {g r : ab_H} {o : Int} {Q : Int → Int} {C : Int → Int → Int} (P : ab_H → ab_H → Prop) (hr : SI r) (hK : 186 ≤ K) (ho : isTa o) (hp : TaP g o Q C) (h : ∀ g' : ab_H, TFr g g' o → TaP g' o (fun _ => 0) (fun _ _ => 0) → P g' r) : ab_RV m_Ta_clear [(2, o)] K S g r P := by
  apply v_Ta_clear _ hr hK ho
  exact l_Ta_clear (Q := Q) (C := C) P hr hK ho 4 0 g (by omega) (by omega) (TaP_ext hp (fun t h1 h2 => (if_neg (by omega)).symm) (fun u e h1 h2 h3 h4 => (if_neg (by omega)).symm)) h
theorem s_Ta_isCounted {K : Int} {S : Nat} {g r : ab_H} {o t e : Int} {Q : Int → Int} {C : Int → Int → Int} (P : Int → ab_H → ab_H → Prop) (hr : SI r) (hK : 186 ≤ K) (ho : isTa o) (hp : TaP g o Q C) (ht : 0 ≤ t ∧ t < 4) (he : 0 ≤ e ∧ e < 120) (h : ∀ x : Int, x = C t e → (x = 0 ∨ x = 1) → P x g r) : ab_RI m_Ta_isCounted [(2, o), (0, t), (0, e)] K S g r P := by
  have h1 := hp.2 e he.1 he.2
  have h2 := (bt_all h1.1 ht ht).1
  have h3 := h1.2 t ht.1 ht.2
  apply v_Ta_isCounted _ hr hK ho
  refine ⟨he, And.intro (fun h4 => ?_) (fun h4 => ?_)⟩
  · have h5 : bt (g (o + 2) e) t = 0 := by
      unfold bt at h2 ⊢
      simp only [wr] at h4
      omega
    exact h 0 (by rw [← h3, h5]) (Or.inl rfl)
  · have h5 : bt (g (o + 2) e) t = 1 := by
      unfold bt at h2 ⊢
      simp only [wr] at h4
      omega
    exact h 1 (by rw [← h3, h5]) (Or.inr rfl)
theorem l_Ta_countCounted {K : Int} {S : Nat} {g r : ab_H} {o t : Int} {Q : Int → Int} {C : Int → Int → Int} (P : Int → ab_H → ab_H → Prop) (hr : SI r) (hK : 186 ≤ K) (ho : isTa o) (hp : TaP g o Q C) (ht : 0 ≤ t ∧ t < 4) : ∀ (m : Nat) (i x : Int), 0 ≤ i → i + m = 120 → (∀ y : Int, y - x = psm (C t) 120 - psm (C t) i → P y g r) → ab_Rn m_Ta_countCounted 4 [some (2, o), some (0, t), some (0, x), some (0, i)] [] (K, S, g, r) (ab_Qi K S P)
  | 0, i, x, h0, hi, h => by
    apply v_Ta_countCounted_4 _ hr hK ho
    exact And.intro (fun _ => h x (by rw [show i = 120 by omega]; omega)) (fun h1 => absurd h1 (by simp only [wr]; omega))
  | m + 1, i, x, h0, hi, h => by
    have h1 := (hp.2 i h0 (by omega)).2 t ht.1 ht.2
    have h2 := psm_1 (f := C t) h0
    apply v_Ta_countCounted_4 _ hr hK ho
    refine And.intro (fun h1 => absurd h1 (by simp only [wr]; omega)) (fun _ => ⟨by omega, ?_⟩)
    refine l_Ta_countCounted P hr hK ho hp ht m (i + 1) _ (by omega) (by omega) (fun y hy => h y ?_)
    unfold bt at h1
    omega
theorem s_Ta_countCounted {K : Int} {S : Nat} {g r : ab_H} {o t : Int} {Q : Int → Int} {C : Int → Int → Int} (P : Int → ab_H → ab_H → Prop) (hr : SI r) (hK : 186 ≤ K) (ho : isTa o) (hp : TaP g o Q C) (ht : 0 ≤ t ∧ t < 4) (h : P (psm (C t) 120) g r) : ab_RI m_Ta_countCounted [(2, o), (0, t)] K S g r P := by
  apply v_Ta_countCounted _ hr hK ho
  refine l_Ta_countCounted P hr hK ho hp ht 120 0 0 (by omega) (by omega) (fun y hy => ?_)
  rw [psm_0] at hy
  rw [show y = psm (C t) 120 by omega]
  exact h
theorem s_Ta_copyFrom {K : Int} {S : Nat} {g r : ab_H} {o p : Int} {Q : Int → Int} {C : Int → Int → Int} (P : ab_H → ab_H → Prop) (hr : SI r) (hK : 186 ≤ K) (hK2 : 187 ≤ K) (ho : isTa o) (hp : isTa p) (hop : o + 2 < p ∨ p + 2 < o) (hp0 : TaP g p Q C) (h : ∀ g' : ab_H, TFr g g' o → TaP g' o Q C → P g' r) : ab_RV m_Ta_copyFrom [(2, o), (2, p)] K S g r P := by
  apply v_Ta_copyFrom _ hr hK ho hp
  refine ⟨hK2, by omega, by omega, fun g1 hg1 => ⟨hK2, by omega, by omega, fun g2 hg2 => ?_⟩⟩
  refine h g2 (fun c j a b => by rw [hg2, hg1, cpy_a b, cpy_a a]) ⟨fun t h0 h1 => ?_, fun e h0 h1 => ?_⟩
  · rw [hg2, hg1, cpy_a (by omega), cpy_e rfl (by omega), show 0 + (t - 0) = t by omega]
    exact hp0.1 t h0 h1
  · rw [hg2, cpy_e rfl (by omega), show 0 + (e - 0) = e by omega, hg1, cpy_a (by omega)]
    exact hp0.2 e h0 h1
