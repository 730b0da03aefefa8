/-! SPECS, part o: the class's Log. -/
def OFr (g g' : ab_H) (o : Int) : Prop := ∀ c j : Int, c < o ∨ o + 10 < c → g' c j = g c j
/-- VOIDS and what they void belong to each other -/
def VdOk (s : Int → Int) (n : Int) : Prop := (∀ e : Int, 0 ≤ e → e < n → s (9 * e + 8) ≠ 0 → (e < s (9 * e + 8) - 1 ∧ s (9 * e + 8) ≤ n) ∧ s (9 * (s (9 * e + 8) - 1) + 0) = 7 ∧ s (9 * (s (9 * e + 8) - 1) + 2) = e) ∧ ∀ v : Int, 0 ≤ v → v < n → s (9 * v + 0) = 7 → (0 ≤ s (9 * v + 2) ∧ s (9 * v + 2) < v) ∧ s (9 * (s (9 * v + 2)) + 8) = v + 1
theorem s_Lg_clear {K : Int} {S : Nat} {g r : ab_H} {o : Int} (P : ab_H → ab_H → Prop) (hr : SI r) (hK : 186 ≤ K) (ho : isLg o) (h : ∀ g' : ab_H, g' = ab_up g o 10 0 → P g' r) : ab_RV m_Lg_clear [(2, o)] K S g r P := by
  apply v_Lg_clear _ hr hK ho
  exact h
theorem s_Lg_holds {K : Int} {S : Nat} {g r : ab_H} {o e n : Int} (P : Int → ab_H → ab_H → Prop) (hr : SI r) (hK : 186 ≤ K) (ho : isLg o) (hn : g o 10 = n) (hn2 : 0 ≤ n ∧ n ≤ 120) (he : -2147483648 ≤ e ∧ e ≤ 2147483647) (h : ∀ x : Int, ((x = 1 ∧ (0 ≤ e ∧ e < n)) ∨ (x = 0 ∧ ¬ (0 ≤ e ∧ e < n))) → P x g r) : ab_RI m_Lg_holds [(2, o), (0, e)] K S g r P := by
  apply v_Lg_holds _ hr hK ho
  rw [hn]
  simp only [wr]
  repeat' (first | refine And.intro ?_ ?_ | intro _)
  all_goals first | omega | (apply h; omega)
theorem s_Lg_holdsPlain {K : Int} {S : Nat} {g r : ab_H} {o e n : Int} {s : Int → Int} (P : Int → ab_H → ab_H → Prop) (hr : SI r) (hK : 186 ≤ K) (ho : isLg o) (hv : LgV g o s n) (hE : EvOk s n) (he : -2147483648 ≤ e ∧ e ≤ 2147483647) (h : ∀ x : Int, ((x = 1 ∧ (0 ≤ e ∧ e < n) ∧ s (9 * e + 0) ≠ 7) ∨ (x = 0 ∧ ¬ ((0 ≤ e ∧ e < n) ∧ s (9 * e + 0) ≠ 7))) → P x g r) : ab_RI m_Lg_holdsPlain [(2, o), (0, e)] K S g r P := by
  have hn := hv.2.1
  apply v_Lg_holdsPlain _ hr hK ho
  apply s_Lg_holds _ hr hK ho hv.1 hn he
  intro x hx
  refine ⟨rfl, rfl, And.intro (fun h1 => h 0 (Or.inr ⟨rfl, ?_⟩)) (fun h1 => ?_)⟩
  · simp only [wr] at h1; omega
  · have he2 : 0 ≤ e ∧ e < n := by simp only [wr] at h1; omega
    have e0 := hv.2.2.1 e he2.1 he2.2
    have c0 := hE e he2.1 he2.2
    rw [e0.1]
    exact ⟨by omega, And.intro (fun h2 => h 0 (Or.inr ⟨rfl, by simp only [wr] at h2; omega⟩)) (fun h2 => h 1 (Or.inl ⟨rfl, he2, by simp only [wr] at h2; omega⟩))⟩
theorem s_Lg_latestTime {K : Int} {S : Nat} {g r : ab_H} {o n : Int} {s : Int → Int} (P : Int → ab_H → ab_H → Prop) (hr : SI r) (hK : 186 ≤ K) (ho : isLg o) (hv : LgV g o s n) (h : P (if 0 < n then s (9 * (n - 1) + 3) else -2) g r) : ab_RI m_Lg_latestTime [(2, o)] K S g r P := by
  have hn := hv.2.1
  apply v_Lg_latestTime _ hr hK ho
  rw [hv.1]
  refine And.intro (fun h1 => ?_) (fun h1 => ?_)
  · rw [if_neg (by simp only [wr] at h1; omega)] at h; exact h
  · have h2 : 0 < n := by simp only [wr] at h1; omega
    have e0 := hv.2.2.1 (n - 1) (by omega) (by omega)
    rw [if_pos h2] at h
    rw [e0.2.2.2.1]
    exact ⟨by omega, h⟩
/-- how many EVENTS up to a TIME -/
def plN (s : Int → Int) (t n : Int) : Nat → Int → Int
  | 0, i => i
  | m + 1, i => if s (9 * i + 3) ≤ t then plN s t n m (i + 1) else i
def plc (s : Int → Int) (t n : Int) : Int := plN s t n n.toNat 0
theorem plN_in {s : Int → Int} {t n : Int} : ∀ (m : Nat) (i : Int), i ≤ plN s t n m i ∧ plN s t n m i ≤ i + m
  | 0, i => by show i ≤ i ∧ i ≤ i + ((0 : Nat) : Int); omega
  | m + 1, i => by
    have := plN_in (s := s) (t := t) (n := n) m (i + 1)
    show i ≤ (if s (9 * i + 3) ≤ t then plN s t n m (i + 1) else i) ∧ (if s (9 * i + 3) ≤ t then plN s t n m (i + 1) else i) ≤ i + ((m + 1 : Nat) : Int)
    split <;> omega
theorem plc_in {s : Int → Int} {t n : Int} (hn : 0 ≤ n) : 0 ≤ plc s t n ∧ plc s t n ≤ n := by
  have := plN_in (s := s) (t := t) (n := n) n.toNat 0
  unfold plc
  omega
theorem l_Lg_placeAt {K : Int} {S : Nat} {g r : ab_H} {o t n : Int} {s : Int → Int} (P : Int → ab_H → ab_H → Prop) (hr : SI r) (hK : 186 ≤ K) (ho : isLg o) (hv : LgV g o s n) (hE : EvOk s n) (ht : 0 ≤ t ∧ t ≤ 9999) : ∀ (m : Nat) (i : Int), 0 ≤ i → i + m = n → P (plN s t n m i) g r → ab_Rn m_Lg_placeAt 2 [some (2, o), some (0, t), some (0, i)] [] (K, S, g, r) (ab_Qi K S P)
  | 0, i, h0, hi, h => by
    have hn := hv.2.1
    apply v_Lg_placeAt_2 _ hr hK ho
    rw [hv.1]
    exact And.intro (fun _ => h) (fun h1 => absurd h1 (by simp only [wr]; omega))
  | m + 1, i, h0, hi, h => by
    have hn := hv.2.1
    have e0 := hv.2.2.1 i h0 (by omega)
    have c0 := hE i h0 (by omega)
    have hs : plN s t n (m + 1) i = if s (9 * i + 3) ≤ t then plN s t n m (i + 1) else i := rfl
    rw [hs] at h
    apply v_Lg_placeAt_2 _ hr hK ho
    rw [hv.1, e0.2.2.2.1]
    refine And.intro (fun h1 => absurd h1 (by simp only [wr]; omega)) (fun _ => ⟨by omega, And.intro (fun h1 => ?_) (fun h1 => ?_)⟩)
    · rw [if_neg (by simp only [wr] at h1; omega)] at h; exact h
    · rw [if_pos (by simp only [wr] at h1; omega)] at h
      exact l_Lg_placeAt P hr hK ho hv hE ht m (i + 1) (by omega) (by omega) h
theorem s_Lg_placeAt {K : Int} {S : Nat} {g r : ab_H} {o t n : Int} {s : Int → Int} (P : Int → ab_H → ab_H → Prop) (hr : SI r) (hK : 186 ≤ K) (ho : isLg o) (hv : LgV g o s n) (hE : EvOk s n) (ht : 0 ≤ t ∧ t ≤ 9999) (h : P (plc s t n) g r) : ab_RI m_Lg_placeAt [(2, o), (0, t)] K S g r P := by
  have hn := hv.2.1
  apply v_Lg_placeAt _ hr hK ho
  exact l_Lg_placeAt P hr hK ho hv hE ht n.toNat 0 (by omega) (by omega) h
/-- whether an EVENT is VOIDED, as a number -/
def vdd (s : Int → Int) (e : Int) : Int := if s (9 * e + 8) = 0 then 0 else 1
theorem l_Lg_countVoided {K : Int} {S : Nat} {g r : ab_H} {o n : Int} {s : Int → Int} (P : Int → ab_H → ab_H → Prop) (hr : SI r) (hK : 186 ≤ K) (ho : isLg o) (hv : LgV g o s n) (hE : EvOk s n) : ∀ (m : Nat) (i x : Int), 0 ≤ i → i + m = n → (∀ y : Int, y - x = psm (vdd s) n - psm (vdd s) i → P y g r) → ab_Rn m_Lg_countVoided 4 [some (2, o), some (0, x), some (0, i)] [] (K, S, g, r) (ab_Qi K S P)
  | 0, i, x, h0, hi, h => by
    have hn := hv.2.1
    apply v_Lg_countVoided_4 _ hr hK ho
    rw [hv.1]
    exact And.intro (fun _ => h x (by rw [show i = n by omega]; omega)) (fun h1 => absurd h1 (by simp only [wr]; omega))
  | m + 1, i, x, h0, hi, h => by
    have hn := hv.2.1
    have e0 := hv.2.2.1 i h0 (by omega)
    have c0 := hE i h0 (by omega)
    have hp := psm_1 (f := vdd s) h0
    apply v_Lg_countVoided_4 _ hr hK ho
    rw [hv.1, e0.2.2.2.2.2.1]
    refine And.intro (fun h1 => absurd h1 (by simp only [wr]; omega)) (fun _ => ⟨by omega, And.intro (fun h1 => ?_) (fun h1 => ?_)⟩)
    · refine l_Lg_countVoided P hr hK ho hv hE m (i + 1) _ (by omega) (by omega) (fun y hy => h y ?_)
      have : vdd s i = 0 := if_pos (by simp only [wr] at h1; omega)
      omega
    · refine l_Lg_countVoided P hr hK ho hv hE m (i + 1) _ (by omega) (by omega) (fun y hy => h y ?_)
      have : vdd s i = 1 := if_neg (by simp only [wr] at h1; omega)
      omega
theorem s_Lg_countVoided {K : Int} {S : Nat} {g r : ab_H} {o n : Int} {s : Int → Int} (P : Int → ab_H → ab_H → Prop) (hr : SI r) (hK : 186 ≤ K) (ho : isLg o) (hv : LgV g o s n) (hE : EvOk s n) (h : P (psm (vdd s) n) g r) : ab_RI m_Lg_countVoided [(2, o)] K S g r P := by
  have hn := hv.2.1
  apply v_Lg_countVoided _ hr hK ho
  refine l_Lg_countVoided P hr hK ho hv hE n.toNat 0 0 (by omega) (by omega) (fun y hy => ?_)
  rw [psm_0] at hy
  rw [show y = psm (vdd s) n by omega]
  exact h
theorem s_Lg_add {K : Int} {S : Nat} {g r : ab_H} {o p n k a b oo t sh x y w : Int} {s : Int → Int} (P : ab_H → ab_H → Prop) (hr : SI r) (hK : 186 ≤ K) (hK2 : 187 ≤ K) (ho : isLg o) (hp : ab_AR K p 100 3) (hp2 : p < o ∨ o + 10 < p) (hv : LgV g o s n) (hn : n < 120) (hE : EvOk s n) (hN : EvNew s n k a b t sh) (h7 : k ≠ 7) (hb : k = 6 → b = oo) (hx : g p 0 = x) (hy : g p 1 = y) (hw : g p 2 = w) (h : ∀ g' : ab_H, OFr g g' o → LgV g' o (evadd s n k a b t sh x y w) (n + 1) → (∀ j : Int, g' (o + 7) j = g (o + 7) j) → (∀ e : Int, e < n → g' (o + 8) e = g (o + 8) e) → P g' r) : ab_RV m_Lg_add [(2, o), (0, k), (0, a), (0, oo), (0, t), (0, sh), (2, p)] K S g r P := by
  have hn0 := hv.2.1
  have h10 := hv.1
  apply v_Lg_add _ hr hK ho hp
  rw [h10]
  refine And.intro (fun h1 => absurd h1 (by simp only [wr]; omega)) (fun _ => And.intro (fun _ => ⟨by omega, fun g1 hg1 => ?_⟩) (fun h1 => absurd rfl h1))
  have t1 : g1 o 10 = n := by rw [hg1, up_a (by omega)]; exact h10
  rw [t1]
  refine ⟨by omega, fun g2 hg2 => ?_⟩
  have t2 : g2 o 10 = n := by rw [hg2, up_a (by omega)]; exact t1
  rw [t2]
  refine ⟨by omega, fun g3 hg3 => ?_⟩
  have t3 : g3 o 10 = n := by rw [hg3, up_a (by omega)]; exact t2
  rw [t3]
  refine ⟨by omega, fun g4 hg4 => ?_⟩
  have t4 : g4 o 10 = n := by rw [hg4, up_a (by omega)]; exact t3
  rw [t4]
  refine ⟨by omega, fun g5 hg5 => ?_⟩
  have t5 : g5 o 10 = n := by rw [hg5, up_a (by omega)]; exact t4
  rw [t5]
  refine ⟨hK2, by omega, by omega, fun g6 hg6 => ?_⟩
  have t6 : g6 o 10 = n := by rw [hg6, cpy_a (by omega)]; exact t5
  rw [t6]
  refine ⟨by omega, fun g7 hg7 => ?_⟩
  have t7 : g7 o 10 = n := by rw [hg7, up_a (by omega)]; exact t6
  rw [t7]
  refine ⟨by omega, fun g8 hg8 => ?_⟩
  have t8 : g8 o 10 = n := by rw [hg8, up_a (by omega)]; exact t7
  rw [t8]
  have w8 : g8 (o + 10) n = psm (wts s) n := by
    rw [hg8, hg7, hg6, hg5, hg4, hg3, hg2, hg1]
    simp (disch := omega) only [up_a, up_k, up_e, cpy_a, cpy_k, cpy_e]
    exact hv.2.2.2 n hn0.1 (Int.le_refl _)
  rw [w8]
  refine ⟨by omega, by omega, fun g9 hg9 g10 hg10 => ?_⟩
  have t9 : g9 o 10 = n := by rw [hg9, up_a (by omega)]; exact t8
  rw [t9] at hg10
  have hwn : psm (wts (evadd s n k a b t sh x y w)) (n + 1) = psm (wts s) n + 1 + 3 - sh := by
    rw [psm_s hn0.1, ← W_ext evadd_k (Int.le_refl n)]
    unfold wts
    rw [evadd_new (by omega : (0 : Int) ≤ 0 ∧ (0 : Int) < 9), evadd_new (by omega : (0 : Int) ≤ 4 ∧ (4 : Int) < 9)]
    simp (config := {decide := true}) only [if_true, if_false]
    rw [if_neg h7]
    omega
  refine h g10 (fun c j hc => ?_) ⟨by rw [hg10, up_s], by omega, fun e h1 h2 => ?_, fun q h1 h2 => ?_⟩ (fun j => ?_) (fun e h1 => ?_)
  · rw [hg10, hg9, hg8, hg7, hg6, hg5, hg4, hg3, hg2, hg1]
    simp (disch := omega) only [up_a, cpy_a]
  · by_cases he : e = n
    · subst he
      rw [evadd_new (by omega : (0 : Int) ≤ 0 ∧ (0 : Int) < 9), evadd_new (by omega : (0 : Int) ≤ 1 ∧ (1 : Int) < 9), evadd_new (by omega : (0 : Int) ≤ 2 ∧ (2 : Int) < 9), evadd_new (by omega : (0 : Int) ≤ 3 ∧ (3 : Int) < 9), evadd_new (by omega : (0 : Int) ≤ 4 ∧ (4 : Int) < 9), evadd_new (by omega : (0 : Int) ≤ 8 ∧ (8 : Int) < 9)]
      simp (config := {decide := true}) only [if_true, if_false]
      refine ⟨?_, fun _ => ?_, fun h3 => ?_, ?_, ?_, ?_, fun _ f hf0 hf1 => ?_⟩
      · rw [hg10, hg9, hg8, hg7, hg6, hg5, hg4, hg3, hg2, hg1]; simp (disch := omega) only [up_a, up_k, up_e, cpy_a, cpy_k, cpy_e]
      · rw [hg10, hg9, hg8, hg7, hg6, hg5, hg4, hg3, hg2]; simp (disch := omega) only [up_a, up_k, up_e, cpy_a, cpy_k, cpy_e]
      · rw [hg10, hg9, hg8, hg7, hg6, hg5, hg4, hg3]; simp (disch := omega) only [up_a, up_k, up_e, cpy_a, cpy_k, cpy_e]
        exact (hb (by omega)).symm
      · rw [hg10, hg9, hg8, hg7, hg6, hg5, hg4]; simp (disch := omega) only [up_a, up_k, up_e, cpy_a, cpy_k, cpy_e]
      · rw [hg10, hg9, hg8, hg7, hg6, hg5]; simp (disch := omega) only [up_a, up_k, up_e, cpy_a, cpy_k, cpy_e]
      · rw [hg10, hg9, hg8]; simp (disch := omega) only [up_a, up_k, up_e, cpy_a, cpy_k, cpy_e]
        omega
      · have ww : f = 0 ∨ f = 1 ∨ f = 2 := by omega
        rw [show 9 * e + 5 + f = 9 * e + (5 + f) by omega, evadd_new (by omega), hg10, hg9, hg8, hg7, hg6]
        simp (disch := omega) only [up_a]
        rw [cpy_e rfl (by omega), show 0 + (3 * e + f - 3 * e) = f by omega, hg5, hg4, hg3, hg2, hg1]
        simp (disch := omega) only [up_a]
        rcases ww with ww | ww | ww
        · subst ww; simp (config := {decide := true}) only [if_true, if_false]; exact hx
        · subst ww; simp (config := {decide := true}) only [if_true, if_false]; exact hy
        · subst ww; simp (config := {decide := true}) only [if_true, if_false]; exact hw
    · have he2 : 0 ≤ e ∧ e < n := by omega
      have h3 := hv.2.2.1 e h1 he2.2
      have e8 : evadd s n k a b t sh x y w (9 * e + 8) = s (9 * e + 8) := evadd_old he2 (by omega) (Or.inr (Or.inl h7))
      rw [evadd_old he2 (by omega : (0 : Int) ≤ 0 ∧ (0 : Int) < 9) (Or.inl (by omega)), evadd_old he2 (by omega : (0 : Int) ≤ 1 ∧ (1 : Int) < 9) (Or.inl (by omega)), evadd_old he2 (by omega : (0 : Int) ≤ 2 ∧ (2 : Int) < 9) (Or.inl (by omega)), evadd_old he2 (by omega : (0 : Int) ≤ 3 ∧ (3 : Int) < 9) (Or.inl (by omega)), evadd_old he2 (by omega : (0 : Int) ≤ 4 ∧ (4 : Int) < 9) (Or.inl (by omega)), e8]
      rw [hg10, hg9, hg8, hg7, hg6, hg5, hg4, hg3, hg2, hg1]
      refine ⟨?_, fun h4 => ?_, fun h4 => ?_, ?_, ?_, ?_, fun h4 f hf0 hf1 => ?_⟩
      · simp (disch := omega) only [up_a, up_k, up_e, cpy_a, cpy_k, cpy_e]
        exact h3.1
      · simp (disch := omega) only [up_a, up_k, up_e, cpy_a, cpy_k, cpy_e]
        exact h3.2.1 h4
      · simp (disch := omega) only [up_a, up_k, up_e, cpy_a, cpy_k, cpy_e]
        exact h3.2.2.1 h4
      · simp (disch := omega) only [up_a, up_k, up_e, cpy_a, cpy_k, cpy_e]
        exact h3.2.2.2.1
      · simp (disch := omega) only [up_a, up_k, up_e, cpy_a, cpy_k, cpy_e]
        exact h3.2.2.2.2.1
      · simp (disch := omega) only [up_a, up_k, up_e, cpy_a, cpy_k, cpy_e]
        exact h3.2.2.2.2.2.1
      · simp (disch := omega) only [up_a, up_k, up_e, cpy_a, cpy_k, cpy_e]
        rw [show 9 * e + 5 + f = 9 * e + (5 + f) by omega, evadd_old he2 (by omega) (Or.inl (by omega)), ← show 9 * e + 5 + f = 9 * e + (5 + f) by omega]
        exact h3.2.2.2.2.2.2 h4 f hf0 hf1
  · by_cases hq : q = n + 1
    · subst hq
      rw [hwn, hg10, hg9]
      simp (disch := omega) only [up_a, up_k, up_e, cpy_a, cpy_k, cpy_e]
    · rw [← W_ext evadd_k (by omega : q ≤ n), hg10, hg9, hg8, hg7, hg6, hg5, hg4, hg3, hg2, hg1]
      simp (disch := omega) only [up_a, up_k, up_e, cpy_a, cpy_k, cpy_e]
      exact hv.2.2.2 q h1 (by omega)
  · rw [hg10, hg9, hg8, hg7, hg6, hg5, hg4, hg3, hg2, hg1]
    simp (disch := omega) only [up_a, cpy_a]
  · rw [hg10, hg9, hg8, hg7, hg6, hg5, hg4, hg3, hg2, hg1]
    simp (disch := omega) only [up_a, up_k, up_e, cpy_a, cpy_k, cpy_e]
