/-! SPECS, part p: the class's Log: voids, cuts, copies. -/
theorem s_Lg_addVoid {K : Int} {S : Nat} {g r : ab_H} {o n oo t : Int} {s : Int → Int} (P : ab_H → ab_H → Prop) (hr : SI r) (hK : 186 ≤ K) (ho : isLg o) (hv : LgV g o s n) (hn : n < 120) (hE : EvOk s n) (hN : EvNew s n 7 (-2) oo t 0) (h : ∀ g' : ab_H, OFr g g' o → LgV g' o (evadd s n 7 (-2) oo t 0 0 0 0) (n + 1) → (∀ j : Int, g' (o + 7) j = g (o + 7) j) → (∀ e : Int, e < n → g' (o + 8) e = g (o + 8) e) → P g' r) : ab_RV m_Lg_addVoid [(2, o), (0, oo), (0, t)] K S g r P := by
  have hn0 := hv.2.1
  have h10 := hv.1
  have hoo := hN.2.2.2.1 rfl
  apply v_Lg_addVoid _ hr hK ho
  rw [h10]
  refine And.intro (fun h1 => absurd h1 (by simp only [wr]; omega)) (fun _ => ?_)
  apply s_Lg_holds _ hr hK ho hv.1 hn0 (by omega)
  intro x hx
  refine ⟨rfl, rfl, And.intro (fun _ => ⟨by omega, fun g1 hg1 => ?_⟩) (fun h1 => absurd h1 (by simp only [wr]; omega))⟩
  have t1 : g1 o 10 = n := by rw [hg1, up_a (by omega)]; exact h10
  rw [t1]
  refine ⟨by omega, fun g2 hg2 => ?_⟩
  have t2 : g2 o 10 = n := by rw [hg2, up_a (by omega)]; exact t1
  rw [t2]
  refine ⟨by omega, fun g3 hg3 => ?_⟩
  have t3 : g3 o 10 = n := by rw [hg3, up_a (by omega)]; exact t2
  rw [t3]
  refine ⟨by omega, fun g4 hg4 => ?_⟩
  have t4 : g4 o 10 = n := by rw [hg4, up_a (by omega)]; exact t3
  rw [t4]
  refine ⟨by omega, fun g5 hg5 => ?_⟩
  have t5 : g5 o 10 = n := by rw [hg5, up_a (by omega)]; exact t4
  rw [t5]
  refine ⟨by omega, fun g7 hg7 => ?_⟩
  have t7 : g7 o 10 = n := by rw [hg7, up_a (by omega)]; exact t5
  rw [t7]
  refine ⟨by omega, fun g8 hg8 => ?_⟩
  have t8 : g8 o 10 = n := by rw [hg8, up_a (by omega)]; exact t7
  rw [t8]
  have w8 : g8 (o + 10) n = psm (wts s) n := by
    rw [hg8, hg7, hg5, hg4, hg3, hg2, hg1]
    simp (disch := omega) only [up_a, up_k, up_e, cpy_a, cpy_k, cpy_e]
    exact hv.2.2.2 n hn0.1 (Int.le_refl _)
  rw [w8]
  refine ⟨by omega, by omega, fun g9 hg9 => ⟨by omega, fun ga hga g10 hg10 => ?_⟩⟩
  have t9 : g9 o 10 = n := by rw [hg9, up_a (by omega)]; exact t8
  have ta : ga o 10 = n := by rw [hga, up_a (by omega)]; exact t9
  rw [ta] at hg10
  rw [t9] at hga
  have hwn : psm (wts (evadd s n 7 (-2) oo t 0 0 0 0)) (n + 1) = psm (wts s) n + 1 := by
    rw [psm_s hn0.1, ← W_ext evadd_k (Int.le_refl n)]
    unfold wts
    rw [evadd_new (by omega : (0 : Int) ≤ 0 ∧ (0 : Int) < 9)]
    simp (config := {decide := true}) only [if_true, if_false]
  refine h g10 (fun c j hc => ?_) ⟨by rw [hg10, up_s], by omega, fun e h1 h2 => ?_, fun q h1 h2 => ?_⟩ (fun j => ?_) (fun e h1 => ?_)
  · rw [hg10, hga, hg9, hg8, hg7, hg5, hg4, hg3, hg2, hg1]
    simp (disch := omega) only [up_a, cpy_a]
  · by_cases he : e = n
    · subst he
      rw [evadd_new (by omega : (0 : Int) ≤ 0 ∧ (0 : Int) < 9), evadd_new (by omega : (0 : Int) ≤ 1 ∧ (1 : Int) < 9), evadd_new (by omega : (0 : Int) ≤ 2 ∧ (2 : Int) < 9), evadd_new (by omega : (0 : Int) ≤ 3 ∧ (3 : Int) < 9), evadd_new (by omega : (0 : Int) ≤ 4 ∧ (4 : Int) < 9), evadd_new (by omega : (0 : Int) ≤ 8 ∧ (8 : Int) < 9)]
      refine ⟨?_, fun h3 => absurd (if_pos rfl) h3, fun h3 => ?_, ?_, ?_, ?_, fun h3 => absurd (if_pos rfl) h3⟩
      all_goals simp (config := {decide := true}) only [if_true, if_false]
      · rw [hg10, hga, hg9, hg8, hg7, hg5, hg4, hg3, hg2, hg1]; simp (disch := omega) only [up_a, up_k, up_e, cpy_a, cpy_k, cpy_e]
      · rw [hg10, hga, hg9, hg8, hg7, hg5, hg4, hg3]; simp (disch := omega) only [up_a, up_k, up_e, cpy_a, cpy_k, cpy_e]
      · rw [hg10, hga, hg9, hg8, hg7, hg5, hg4]; simp (disch := omega) only [up_a, up_k, up_e, cpy_a, cpy_k, cpy_e]
      · rw [hg10, hga, hg9, hg8, hg7, hg5]; simp (disch := omega) only [up_a, up_k, up_e, cpy_a, cpy_k, cpy_e]
      · rw [hg10, hga, hg9, hg8]; simp (disch := omega) only [up_a, up_k, up_e, cpy_a, cpy_k, cpy_e]
        omega
    · have he2 : 0 ≤ e ∧ e < n := by omega
      have h3 := hv.2.2.1 e h1 he2.2
      rw [evadd_old he2 (by omega : (0 : Int) ≤ 0 ∧ (0 : Int) < 9) (Or.inl (by omega)), evadd_old he2 (by omega : (0 : Int) ≤ 1 ∧ (1 : Int) < 9) (Or.inl (by omega)), evadd_old he2 (by omega : (0 : Int) ≤ 2 ∧ (2 : Int) < 9) (Or.inl (by omega)), evadd_old he2 (by omega : (0 : Int) ≤ 3 ∧ (3 : Int) < 9) (Or.inl (by omega)), evadd_old he2 (by omega : (0 : Int) ≤ 4 ∧ (4 : Int) < 9) (Or.inl (by omega))]
      rw [hg10, hga, hg9, hg8, hg7, hg5, hg4, hg3, hg2, hg1]
      refine ⟨?_, fun h4 => ?_, fun h4 => ?_, ?_, ?_, ?_, fun h4 f hf0 hf1 => ?_⟩
      · simp (disch := omega) only [up_a, up_k, up_e, cpy_a, cpy_k, cpy_e]
        exact h3.1
      · simp (disch := omega) only [up_a, up_k, up_e, cpy_a, cpy_k, cpy_e]
        exact h3.2.1 h4
      · simp (disch := omega) only [up_a, up_k, up_e, cpy_a, cpy_k, cpy_e]
        exact h3.2.2.1 h4
      · simp (disch := omega) only [up_a, up_k, up_e, cpy_a, cpy_k, cpy_e]
        exact h3.2.2.2.1
      · simp (disch := omega) only [up_a, up_k, up_e, cpy_a, cpy_k, cpy_e]
        exact h3.2.2.2.2.1
      · by_cases heo : e = oo
        · subst heo
          simp (disch := omega) only [up_a, up_k, up_e, cpy_a, cpy_k, cpy_e]
          unfold evadd
          rw [if_neg (by omega), if_pos ⟨rfl, rfl⟩]
          omega
        · simp (disch := omega) only [up_a, up_k, up_e, cpy_a, cpy_k, cpy_e]
          rw [evadd_old he2 (by omega) (Or.inr (Or.inr heo))]
          exact h3.2.2.2.2.2.1
      · simp (disch := omega) only [up_a, up_k, up_e, cpy_a, cpy_k, cpy_e]
        rw [show 9 * e + 5 + f = 9 * e + (5 + f) by omega, evadd_old he2 (by omega) (Or.inl (by omega)), ← show 9 * e + 5 + f = 9 * e + (5 + f) by omega]
        exact h3.2.2.2.2.2.2 h4 f hf0 hf1
  · by_cases hq : q = n + 1
    · subst hq
      rw [hwn, hg10, hga, hg9]
      simp (disch := omega) only [up_a, up_k, up_e, cpy_a, cpy_k, cpy_e]
    · rw [← W_ext evadd_k (by omega : q ≤ n), hg10, hga, hg9, hg8, hg7, hg5, hg4, hg3, hg2, hg1]
      simp (disch := omega) only [up_a, up_k, up_e, cpy_a, cpy_k, cpy_e]
      exact hv.2.2.2 q h1 (by omega)
  · rw [hg10, hga, hg9, hg8, hg7, hg5, hg4, hg3, hg2, hg1]
    simp (disch := omega) only [up_a]
  · rw [hg10, hga, hg9, hg8, hg7, hg5, hg4, hg3, hg2, hg1]
    simp (disch := omega) only [up_a, up_k, up_e, cpy_a, cpy_k, cpy_e]
/-- the first m EVENTS, as if the others had never come -/
def CutOf (s sj : Int → Int) (m : Int) : Prop := ∀ e : Int, 0 ≤ e → e < m → (∀ f : Int, 0 ≤ f → f < 9 → f ≠ 8 → sj (9 * e + f) = s (9 * e + f)) ∧ sj (9 * e + 8) = if m < s (9 * e + 8) then 0 else s (9 * e + 8)
theorem CutOf_k {s sj : Int → Int} {m : Int} (h : CutOf s sj m) : KEq s sj m := by
  intro e h0 h1
  have h2 := (h e h0 h1).1
  exact ⟨(h2 0 (by omega) (by omega) (by omega)).symm, fun _ => (h2 2 (by omega) (by omega) (by omega)).symm, (h2 4 (by omega) (by omega) (by omega)).symm⟩
theorem l_Lg_cutTo {K : Int} {S : Nat} {r g0 : ab_H} {o n m : Int} {s sj : Int → Int} (P : ab_H → ab_H → Prop) (hr : SI r) (hK : 186 ≤ K) (ho : isLg o) (hv : LgV g0 o s n) (hE : EvOk s n) (hV : VdOk s n) (hm : 0 ≤ m ∧ m ≤ n) (hc : CutOf s sj m) (h : ∀ g' : ab_H, OFr g0 g' o → LgV g' o sj m → (∀ j : Int, g' (o + 7) j = g0 (o + 7) j) → (∀ j : Int, g' (o + 8) j = g0 (o + 8) j) → P g' r) : ∀ (d : Nat) (g : ab_H), (d : Int) + m ≤ n → (∀ c j : Int, c ≠ o + 9 → c ≠ o ∨ j ≠ 10 → g c j = g0 c j) → g o 10 = (d : Int) + m → (∀ e : Int, 0 ≤ e → e < n → g (o + 9) e = if (d : Int) + m < s (9 * e + 8) then -1 else s (9 * e + 8) - 1) → ab_Rn m_Lg_cutTo 5 [some (2, o), some (0, m), some (0, (d : Int) + m - 1)] [] (K, S, g, r) (ab_Qv K S P)
  | 0, g, hd, hf, h10, h9 => by
    have hn := hv.2.1
    apply v_Lg_cutTo_5 _ hr hK ho
    refine And.intro (fun _ => ?_) (fun h1 => absurd h1 (by simp only [wr]; omega))
    refine h g (fun c j hc' => hf c j (by omega) (by omega)) ⟨by rw [h10]; omega, by omega, fun e h1 h2 => ?_, fun p h1 h2 => ?_⟩ (fun j => hf _ _ (by omega) (by omega)) (fun j => hf _ _ (by omega) (by omega))
    · have h3 := hv.2.2.1 e h1 (by omega)
      have h4 := hc e h1 h2
      have h5 := h4.1
      have h6 := h9 e h1 (by omega)
      rw [h5 0 (by omega) (by omega) (by omega), h5 1 (by omega) (by omega) (by omega), h5 2 (by omega) (by omega) (by omega), h5 3 (by omega) (by omega) (by omega), h5 4 (by omega) (by omega) (by omega), h4.2, h6, hf (o + 1) e (by omega) (by omega), hf (o + 2) e (by omega) (by omega), hf (o + 3) e (by omega) (by omega), hf (o + 4) e (by omega) (by omega), hf (o + 5) e (by omega) (by omega)]
      refine ⟨h3.1, h3.2.1, h3.2.2.1, h3.2.2.2.1, h3.2.2.2.2.1, ?_, fun h7 f hf0 hf1 => ?_⟩
      · rw [show ((0 : Nat) : Int) + m = m by omega]
        split <;> omega
      · rw [show 9 * e + 5 + f = 9 * e + (5 + f) by omega, h5 (5 + f) (by omega) (by omega) (by omega), ← show 9 * e + 5 + f = 9 * e + (5 + f) by omega, hf (o + 6) _ (by omega) (by omega)]
        exact h3.2.2.2.2.2.2 h7 f hf0 hf1
    · rw [hf (o + 10) p (by omega) (by omega), ← W_ext (CutOf_k hc) h2]
      exact hv.2.2.2 p h1 (by omega)
  | d + 1, g, hd, hf, h10, h9 => by
    have hn := hv.2.1
    have e0 := hv.2.2.1 ((d : Int) + m) (by omega) (by omega)
    have c0 := hE ((d : Int) + m) (by omega) (by omega)
    rw [show ((d + 1 : Nat) : Int) + m - 1 = (d : Int) + m by omega]
    have k1 : g (o + 1) ((d : Int) + m) = s (9 * ((d : Int) + m) + 0) := by rw [hf _ _ (by omega) (by omega)]; exact e0.1
    apply v_Lg_cutTo_5 _ hr hK ho
    rw [k1]
    refine And.intro (fun h1 => absurd h1 (by simp only [wr]; omega)) (fun _ => And.intro (fun h1 => absurd h1 (by simp only [wr]; omega)) (fun _ => ⟨by omega, And.intro (fun h1 g1 hg1 => ?_) (fun h1 => ?_)⟩))
    · have h7 : s (9 * ((d : Int) + m) + 0) ≠ 7 := by simp only [wr] at h1; omega
      rw [show (d : Int) + m + -1 = (d : Int) + m - 1 by omega]
      refine l_Lg_cutTo P hr hK ho hv hE hV hm hc h d g1 (by omega) (fun c j h2 h3 => ?_) (by rw [hg1, up_s]) (fun e h2 h3 => ?_)
      · rw [hg1]
        rcases h3 with h3 | h3
        · rw [up_a h3]; exact hf c j h2 (Or.inl h3)
        · rw [up_k h3]; exact hf c j h2 (Or.inr h3)
      · rw [hg1, up_a (by omega), h9 e h2 h3]
        have hv1 := hV.1 e h2 h3
        by_cases h4 : s (9 * e + 8) = (d : Int) + m + 1
        · exfalso
          have h5 := (hv1 (by omega)).2.1
          rw [show s (9 * e + 8) - 1 = (d : Int) + m by omega] at h5
          exact h7 h5
        · by_cases h5 : ((d + 1 : Nat) : Int) + m < s (9 * e + 8)
          · rw [if_pos h5, if_pos (by omega)]
          · rw [if_neg h5, if_neg (by omega)]
    · have h7 : s (9 * ((d : Int) + m) + 0) = 7 := by simp only [wr] at h1; omega
      have k3 : g (o + 3) ((d : Int) + m) = s (9 * ((d : Int) + m) + 2) := by rw [hf _ _ (by omega) (by omega)]; exact e0.2.2.1 (Or.inr h7)
      have hv2 := hV.2 ((d : Int) + m) (by omega) (by omega) h7
      rw [k3]
      refine ⟨by omega, by omega, fun g2 hg2 g3 hg3 => ?_⟩
      rw [show (d : Int) + m + -1 = (d : Int) + m - 1 by omega]
      refine l_Lg_cutTo P hr hK ho hv hE hV hm hc h d g3 (by omega) (fun c j h2 h3 => ?_) (by rw [hg3, up_s]) (fun e h2 h3 => ?_)
      · rw [hg3, hg2]
        rcases h3 with h3 | h3
        · rw [up_a h3, up_a h2]; exact hf c j h2 (Or.inl h3)
        · rw [up_k h3, up_a h2]; exact hf c j h2 (Or.inr h3)
      · rw [hg3, up_a (by omega), hg2, up_i, h9 e h2 h3]
        by_cases h4 : e = s (9 * ((d : Int) + m) + 2)
        · rw [if_pos h4, h4, hv2.2, if_pos (by omega)]
        · rw [if_neg h4]
          have hv1 := hV.1 e h2 h3
          by_cases h6 : s (9 * e + 8) = (d : Int) + m + 1
          · exfalso
            have h5 := (hv1 (by omega)).2.2
            rw [show s (9 * e + 8) - 1 = (d : Int) + m by omega] at h5
            exact h4 h5.symm
          · by_cases h5 : ((d + 1 : Nat) : Int) + m < s (9 * e + 8)
            · rw [if_pos h5, if_pos (by omega)]
            · rw [if_neg h5, if_neg (by omega)]
theorem s_Lg_cutTo {K : Int} {S : Nat} {g r : ab_H} {o n m : Int} {s sj : Int → Int} (P : ab_H → ab_H → Prop) (hr : SI r) (hK : 186 ≤ K) (ho : isLg o) (hv : LgV g o s n) (hE : EvOk s n) (hV : VdOk s n) (hm : 0 ≤ m ∧ m ≤ n) (hc : CutOf s sj m) (h : ∀ g' : ab_H, OFr g g' o → LgV g' o sj m → (∀ j : Int, g' (o + 7) j = g (o + 7) j) → (∀ j : Int, g' (o + 8) j = g (o + 8) j) → P g' r) : ab_RV m_Lg_cutTo [(2, o), (0, m)] K S g r P := by
  apply v_Lg_cutTo _ hr hK ho
  rw [hv.1, show n - 1 = ((n - m).toNat : Int) + m - 1 by omega]
  refine l_Lg_cutTo P hr hK ho hv hE hV hm hc h (n - m).toNat g (by omega) (fun _ _ _ _ => rfl) (by rw [hv.1]; omega) (fun e h1 h2 => ?_)
  have h3 := (hv.2.2.1 e h1 h2).2.2.2.2.2.1
  have h4 := hE e h1 h2
  rw [h3, if_neg (by omega)]
theorem s_Lg_copyFrom {K : Int} {S : Nat} {g r : ab_H} {o p n : Int} {s : Int → Int} {Lf : Int → Int → Int} {B : Int → Int} (P : ab_H → ab_H → Prop) (hr : SI r) (hK : 186 ≤ K) (hK2 : 187 ≤ K) (ho : isLg o) (hp : isLg p) (hop : o ≠ p) (hv : LgV g p s n) (hl : LgL g p s Lf B n) (h : ∀ g' : ab_H, OFr g g' o → LgV g' o s n → LgL g' o s Lf B n → P g' r) : ab_RV m_Lg_copyFrom [(2, o), (2, p)] K S g r P := by
  have hn := hv.2.1
  have ho' : o = 23 ∨ o = 34 ∨ o = 66 := ho
  have hp' : p = 23 ∨ p = 34 ∨ p = 66 := hp
  apply v_Lg_copyFrom _ hr hK ho hp
  rw [hv.1]
  intro g1 hg1
  have t1 : g1 o 10 = n := by rw [hg1, up_s]
  rw [t1]
  refine ⟨hK2, by omega, by omega, fun g2 hg2 => ?_⟩
  have t2 : g2 o 10 = n := by rw [hg2, cpy_a (by omega)]; exact t1
  rw [t2]
  refine ⟨hK2, by omega, by omega, fun g3 hg3 => ?_⟩
  have t3 : g3 o 10 = n := by rw [hg3, cpy_a (by omega)]; exact t2
  rw [t3]
  refine ⟨hK2, by omega, by omega, fun g4 hg4 => ?_⟩
  have t4 : g4 o 10 = n := by rw [hg4, cpy_a (by omega)]; exact t3
  rw [t4]
  refine ⟨hK2, by omega, by omega, fun g5 hg5 => ?_⟩
  have t5 : g5 o 10 = n := by rw [hg5, cpy_a (by omega)]; exact t4
  rw [t5]
  refine ⟨hK2, by omega, by omega, fun g6 hg6 => ?_⟩
  have t6 : g6 o 10 = n := by rw [hg6, cpy_a (by omega)]; exact t5
  rw [t6]
  refine ⟨hK2, by omega, by omega, fun g7 hg7 => ?_⟩
  have t7 : g7 o 10 = n := by rw [hg7, cpy_a (by omega)]; exact t6
  rw [t7]
  refine ⟨hK2, by omega, by omega, fun g8 hg8 => ?_⟩
  have t8 : g8 o 10 = n := by rw [hg8, cpy_a (by omega)]; exact t7
  rw [t8]
  refine ⟨hK2, by omega, by omega, fun g9 hg9 => ?_⟩
  have t9 : g9 o 10 = n := by rw [hg9, cpy_a (by omega)]; exact t8
  rw [t9]
  refine ⟨hK2, by omega, by omega, fun g10 hg10 => ?_⟩
  have t10 : g10 o 10 = n := by rw [hg10, cpy_a (by omega)]; exact t9
  rw [t10]
  refine ⟨hK2, by omega, by omega, fun g11 hg11 => ?_⟩
  have z : ∀ i k : Int, 0 + (i - 0) = i := fun i _ => by omega
  have fr : OFr g g11 o := fun c j hc => by
    rw [hg11, hg10, hg9, hg8, hg7, hg6, hg5, hg4, hg3, hg2, hg1]
    simp (disch := omega) only [up_a, cpy_a]
  have cp : ∀ k j : Int, 1 ≤ k → k ≤ 10 → 0 ≤ j → (j < n ∨ ((k = 6 ∨ k = 7) ∧ j < 3 * n) ∨ (k = 10 ∧ j < n + 1)) → g11 (o + k) j = g (p + k) j := by
    intro k j hk0 hk1 hj0 hj1
    have w : k = 1 ∨ k = 2 ∨ k = 3 ∨ k = 4 ∨ k = 5 ∨ k = 6 ∨ k = 7 ∨ k = 8 ∨ k = 9 ∨ k = 10 := by omega
    rw [hg11, hg10, hg9, hg8, hg7, hg6, hg5, hg4, hg3, hg2, hg1]
    rcases w with w | w | w | w | w | w | w | w | w | w
    all_goals subst w
    all_goals simp (disch := omega) only [up_a, cpy_a, cpy_e]
    all_goals rw [show 0 + (j - 0) = j by omega]
  refine h g11 fr ⟨?_, hn, fun e h1 h2 => ?_, fun q h1 h2 => ?_⟩ (fun e h1 h2 h7 => ?_)
  · rw [hg11, cpy_a (by omega)]; exact t10
  · rw [cp 1 e (by omega) (by omega) h1 (Or.inl h2), cp 2 e (by omega) (by omega) h1 (Or.inl h2), cp 3 e (by omega) (by omega) h1 (Or.inl h2), cp 4 e (by omega) (by omega) h1 (Or.inl h2), cp 5 e (by omega) (by omega) h1 (Or.inl h2), cp 9 e (by omega) (by omega) h1 (Or.inl h2)]
    have h3 := hv.2.2.1 e h1 h2
    exact ⟨h3.1, h3.2.1, h3.2.2.1, h3.2.2.2.1, h3.2.2.2.2.1, h3.2.2.2.2.2.1, fun h7 f hf0 hf1 => by rw [cp 6 _ (by omega) (by omega) (by omega) (Or.inr (Or.inl ⟨Or.inl rfl, by omega⟩))]; exact h3.2.2.2.2.2.2 h7 f hf0 hf1⟩
  · rw [cp 10 q (by omega) (by omega) h1 (Or.inr (Or.inr ⟨rfl, by omega⟩))]
    exact hv.2.2.2 q h1 h2
  · have h3 := hl e h1 h2 h7
    rw [cp 8 e (by omega) (by omega) h1 (Or.inl h2)]
    exact ⟨h3.1, fun f hf0 hf1 => by rw [cp 7 _ (by omega) (by omega) (by omega) (Or.inr (Or.inl ⟨Or.inr rfl, by omega⟩))]; exact h3.2 f hf0 hf1⟩
