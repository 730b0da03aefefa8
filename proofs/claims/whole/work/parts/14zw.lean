/-! SPECS, part zw: text, the reference's WORDS. -/
def chs0 (x : Int) : Int := (ab_nth ab_str x.toNat).getD 0
/-- where a WORD of the document starts -/
def wso : List Int := [0, 5, 9, 14, 19, 24, 30, 35, 40, 44, 48, 52, 57, 65, 70, 76, 81]
def wo (i : Nat) : Int := (ab_nth wso i).getD 86
theorem wo_tab : (List.range 17).all (fun i => decide (chs0 (wo (i + 1) - 1) = 32) && decide (0 ≤ wo i) && decide (wo i + 3 < wo (i + 1)) && decide (wo (i + 1) ≤ wo i + 8) && decide (wo (i + 1) ≤ 86) && (List.range (wo (i + 1) - 1 - wo i).toNat).all (fun j => decide (97 ≤ chs0 (wo i + j)) && decide (chs0 (wo i + j) ≤ 122))) = true := by decide +kernel
theorem wo_at {i : Nat} (hi : i < 17) : chs0 (wo (i + 1) - 1) = 32 ∧ 0 ≤ wo i ∧ wo i + 3 < wo (i + 1) ∧ wo (i + 1) ≤ wo i + 8 ∧ wo (i + 1) ≤ 86 ∧ ∀ j : Int, wo i ≤ j → j < wo (i + 1) - 1 → 97 ≤ chs0 j ∧ chs0 j ≤ 122 := by
  have h := List.all_eq_true.mp wo_tab i (List.mem_range.mpr hi)
  simp only [Bool.and_eq_true, decide_eq_true_eq, List.all_eq_true, List.mem_range] at h
  obtain ⟨⟨⟨⟨⟨h1, h2⟩, h3⟩, h4⟩, h5⟩, h6⟩ := h
  refine ⟨h1, h2, h3, h4, h5, fun j a b => ?_⟩
  have h7 := h6 (j - wo i).toNat (by omega)
  rw [show wo i + (((j - wo i).toNat : Nat) : Int) = j by omega] at h7
  exact h7
theorem wo_17 : wo 17 = 86 := rfl
/-- these letters are that WORD's -/
def WM (b : Int → Int) (p q : Int) (i : Nat) : Prop := q - p = wo (i + 1) - 1 - wo i ∧ ∀ j : Int, 0 ≤ j → j < q - p → b (p + j) = chs0 (wo i + j)
/-- the first WORD they are, if any -/
def WI (b : Int → Int) (p q : Int) : Nat → Nat → Int → Prop
  | 0, _, w => w = -1
  | m + 1, i, w => (WM b p q i ∧ w = i) ∨ (¬ WM b p q i ∧ WI b p q m (i + 1) w)
theorem l_M_word55 {K : Int} {S : Nat} {g r : ab_H} {l1 : Int} {i : Nat} (P : Int → ab_H → ab_H → Prop) (hr : SI r) (hK : 186 ≤ K) (hi : i < 17) (h : ab_Rn m_M_wordHere 4 [some (2, 161), some (0, l1 + 1), some (0, wo (i + 1)), none] [] (K, S, g, r) (ab_Qi K S P)) : ∀ (m : Nat) (l : Int), wo i ≤ l → l + m = wo (i + 1) - 1 → ab_Rn m_M_wordHere 55 [some (2, 161), some (0, l1), some (0, l), none] [] (K, S, g, r) (ab_Qi K S P)
  | 0, l, h0, hm => by
    have hw := wo_at hi
    have e : chs0 l = 32 := by rw [show l = wo (i + 1) - 1 by omega]; exact hw.1
    apply v_M_wordHere_55 _ hr hK
    refine ⟨by omega, And.intro (fun _ => ?_) (fun e2 => absurd (by show wr (chs0 l) = wr 32; rw [e]) e2)⟩
    rw [show l + 1 = wo (i + 1) by omega]
    exact h
  | m + 1, l, h0, hm => by
    have hw := wo_at hi
    have e := hw.2.2.2.2.2 l h0 (by omega)
    apply v_M_wordHere_55 _ hr hK
    refine ⟨by omega, And.intro (fun e2 => ?_) (fun _ => l_M_word55 P hr hK hi h m (l + 1) (by omega) (by omega))⟩
    have e2' : wr (chs0 l) = wr 32 := e2
    simp only [wr] at e2'
    omega
theorem l_M_word10 {K : Int} {S : Nat} {g r : ab_H} {b : Int → Int} {n p q l1 : Int} {i : Nat} (P : Int → ab_H → ab_H → Prop) (hr : SI r) (hK : 186 ≤ K) (hb : TxB b n) (ht : TxV g b n) (hp : g 161 19 = p) (hq : g 161 18 = q) (hpq : 0 ≤ p ∧ p ≤ q ∧ q ≤ n) (hi : i < 17) (h1 : WM b p q i → P l1 g r) (h2 : ¬ WM b p q i → ab_Rn m_M_wordHere 4 [some (2, 161), some (0, l1 + 1), some (0, wo (i + 1)), none] [] (K, S, g, r) (ab_Qi K S P)) : ∀ (m : Nat) (l3 : Int), 0 ≤ l3 → wo i + l3 + m = wo (i + 1) - 1 → l3 ≤ q - p → (∀ j : Int, 0 ≤ j → j < l3 → b (p + j) = chs0 (wo i + j)) → ab_Rn m_M_wordHere 10 [some (2, 161), some (0, l1), some (0, wo i), some (0, l3)] [] (K, S, g, r) (ab_Qi K S P)
  | m, l3, h0, hm, hl, hpre => by
    have hw := wo_at hi
    have hn := hb.1
    have no : ¬ WM b p q i → ab_Rn m_M_wordHere 55 [some (2, 161), some (0, l1), some (0, wo i), none] [] (K, S, g, r) (ab_Qi K S P) := fun hc => l_M_word55 P hr hK hi (h2 hc) (wo (i + 1) - 1 - wo i).toNat (wo i) (Int.le_refl _) (by omega)
    apply v_M_wordHere_10 _ hr hK
    rw [hp, hq]
    have hc : (ab_nth ab_str (wo i + l3).toNat).getD 0 = chs0 (wo i + l3) := rfl
    rw [hc]
    match m, hm with
    | 0, hm =>
      have e : chs0 (wo i + l3) = 32 := by rw [show wo i + l3 = wo (i + 1) - 1 by omega]; exact hw.1
      rw [e]
      refine ⟨by omega, And.intro (fun _ => ⟨by omega, And.intro (fun e2 => absurd rfl e2) (fun _ => And.intro (fun e3 => no (fun hc => ?_)) (fun e3 => h1 ⟨?_, fun j a b => hpre j a ?_⟩))⟩) (fun e2 => absurd rfl e2)⟩
      · have := hc.1
        simp only [wr] at e3
        omega
      · simp only [wr] at e3; omega
      · simp only [wr] at e3; omega
    | m + 1, hm =>
      have e := hw.2.2.2.2.2 (wo i + l3) (by omega) (by omega)
      refine ⟨by omega, And.intro (fun e2 => absurd e2 (by simp only [wr]; omega)) (fun _ => And.intro (fun e3 => ⟨by omega, And.intro (fun _ => no (fun hc => ?_)) (fun e4 => absurd e4 (by simp only [wr]; omega))⟩) (fun e3 => ⟨?_, by omega, And.intro (fun e4 => ⟨by omega, And.intro (fun _ => no (fun hc => ?_)) (fun e5 => absurd e5 (by simp only [wr]; omega))⟩) (fun e4 => ?_)⟩))⟩
      · have := hc.1
        simp only [wr] at e3
        omega
      · simp only [wr] at e3; omega
      · have h5 := hc.2 l3 h0 (by simp only [wr] at e3; omega)
        have h6 := hb.2 (p + l3) (by omega) (by simp only [wr] at e3; omega)
        rw [ht.2 (p + l3) (by omega) (by simp only [wr] at e3; omega), h5] at e4
        exact e4 rfl
      · have hlt : p + l3 < q := by simp only [wr] at e3; omega
        have h6 := hb.2 (p + l3) (by omega) (by omega)
        rw [ht.2 (p + l3) (by omega) (by omega)] at e4
        refine l_M_word10 P hr hK hb ht hp hq hpq hi h1 h2 m (l3 + 1) (by omega) (by omega) (by omega) (fun j a c => ?_)
        by_cases hj : j = l3
        · rw [hj]; simp only [wr] at e4; omega
        · exact hpre j a (by omega)
theorem l_M_word4 {K : Int} {S : Nat} {g r : ab_H} {b : Int → Int} {n p q w : Int} (P : Int → ab_H → ab_H → Prop) (hr : SI r) (hK : 186 ≤ K) (hb : TxB b n) (ht : TxV g b n) (hp : g 161 19 = p) (hq : g 161 18 = q) (hpq : 0 ≤ p ∧ p ≤ q ∧ q ≤ n) (h : P w g r) : ∀ (m i : Nat), m + i = 17 → WI b p q m i w → ab_Rn m_M_wordHere 4 [some (2, 161), some (0, (i : Int)), some (0, wo i), none] [] (K, S, g, r) (ab_Qi K S P)
  | 0, i, hm, hw => by
    have hi : i = 17 := by omega
    have hw1 : w = -1 := hw
    apply v_M_wordHere_4 _ hr hK
    rw [hi, wo_17]
    refine And.intro (fun _ => ?_) (fun e => absurd e (by simp only [wr]; omega))
    rw [← hw1]
    exact h
  | m + 1, i, hm, hw => by
    have hi : i < 17 := by omega
    have ho := wo_at hi
    apply v_M_wordHere_4 _ hr hK
    refine And.intro (fun e => absurd e (by simp only [wr]; omega)) (fun _ => ?_)
    refine l_M_word10 (i := i) P hr hK hb ht hp hq hpq hi (fun h1 => ?_) (fun h1 => ?_) (wo (i + 1) - 1 - wo i).toNat 0 (Int.le_refl _) (by omega) (by omega) (fun j a c => by omega)
    · rcases hw with hw | hw
      · rw [← hw.2]; exact h
      · exact absurd h1 hw.1
    · rcases hw with hw | hw
      · exact absurd hw.1 h1
      · exact l_M_word4 P hr hK hb ht hp hq hpq h m (i + 1) (by omega) hw.2
theorem s_M_wordHere {K : Int} {S : Nat} {g r : ab_H} {b : Int → Int} {n p q w : Int} (P : Int → ab_H → ab_H → Prop) (hr : SI r) (hK : 186 ≤ K) (hb : TxB b n) (ht : TxV g b n) (hp : g 161 19 = p) (hq : g 161 18 = q) (hpq : 0 ≤ p ∧ p ≤ q ∧ q ≤ n) (hw : WI b p q 17 0 w) (h : P w g r) : ab_RI m_M_wordHere [(2, 161)] K S g r P := by
  apply v_M_wordHere _ hr hK
  exact l_M_word4 P hr hK hb ht hp hq hpq h 17 0 rfl hw
