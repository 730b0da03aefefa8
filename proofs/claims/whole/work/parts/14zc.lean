/-! SPECS, part zc: bestPlace. -/
theorem latN_same {pl : Int → Int} {p m : Int} : ∀ n : Nat, (∀ i : Int, 0 ≤ i → i < n → (pl i ≤ p ↔ pl i ≤ m)) → latN pl p n = latN pl m n
  | 0, _ => rfl
  | n + 1, h => by
    show (if pl n ≤ p then pl n else latN pl p n) = (if pl n ≤ m then pl n else latN pl m n)
    have h1 := h n (by omega) (by omega)
    rw [latN_same n (fun i h0 h1 => h i h0 (by omega))]
    by_cases h2 : pl n ≤ p
    · rw [if_pos h2, if_pos (h1.mp h2)]
    · rw [if_neg h2, if_neg (fun hc => h2 (h1.mpr hc))]
theorem latN_ge {pl : Int → Int} {p : Int} : ∀ (n : Nat) (i : Int), 0 ≤ i → i < n → (∀ a b : Int, 0 ≤ a → a < b → b < n → pl a < pl b) → pl i ≤ p → pl i ≤ latN pl p n
  | 0, i, h0, h1, _, _ => by omega
  | n + 1, i, h0, h1, ha, hp => by
    show pl i ≤ (if pl n ≤ p then pl n else latN pl p n)
    split
    · by_cases h2 : i = n
      · rw [h2]; exact Int.le_refl _
      · exact Int.le_of_lt (ha i n h0 (by omega) (by omega))
    · rename_i h3
      by_cases h2 : i = n
      · rw [h2] at hp; exact absurd hp h3
      · exact latN_ge n i h0 (by omega) (fun a b c d e => ha a b c d (by omega)) hp
theorem nxtN_pr {pl : Int → Int} {p e z : Int} : ∀ m : Nat, (m : Int) ≤ z → (∀ i j : Int, 0 ≤ i → i < j → j < z → pl i < pl j) → (nxtN pl p e z m = e ∧ ∀ i : Int, z - m ≤ i → i < z → pl i ≤ p) ∨ (∃ i : Int, z - m ≤ i ∧ i < z ∧ nxtN pl p e z m = pl i ∧ p < pl i ∧ ∀ j : Int, z - m ≤ j → j < z → pl j ≤ p ∨ pl i ≤ pl j)
  | 0, _, _ => Or.inl ⟨rfl, fun i h0 h1 => by omega⟩
  | m + 1, hm, ha => by
    have hs : nxtN pl p e z (m + 1) = if p < pl (z - ((m : Int) + 1)) then pl (z - ((m : Int) + 1)) else nxtN pl p e z m := rfl
    rw [hs]
    by_cases h1 : p < pl (z - ((m : Int) + 1))
    · rw [if_pos h1]
      refine Or.inr ⟨z - ((m : Int) + 1), by omega, by omega, rfl, h1, fun j h2 h3 => Or.inr ?_⟩
      by_cases h4 : j = z - ((m : Int) + 1)
      · rw [h4]; exact Int.le_refl _
      · exact Int.le_of_lt (ha _ _ (by omega) (by omega) h3)
    · rw [if_neg h1]
      rcases nxtN_pr (p := p) (e := e) m (by omega) ha with h2 | h2
      · refine Or.inl ⟨h2.1, fun i h3 h4 => ?_⟩
        by_cases h5 : i = z - ((m : Int) + 1)
        · rw [h5]; omega
        · exact h2.2 i (by omega) h4
      · rcases h2 with ⟨i, a, b, c, d, f⟩
        refine Or.inr ⟨i, by omega, b, c, d, fun j h3 h4 => ?_⟩
        by_cases h5 : j = z - ((m : Int) + 1)
        · rw [h5]; exact Or.inl (by omega)
        · exact f j (by omega) h4
/-- what one more would save -/
def sav (s : Int → Int) (q : SN) (n m : Int) : Int := cst s q m * (nxt q m (n + 1) - m)
theorem nxt_in {q : SN} {kp n m : Int} (hok : SNok q kp n) (hm : 0 ≤ m ∧ m ≤ n) : m < nxt q m (n + 1) ∧ nxt q m (n + 1) ≤ n + 1 := by
  have hz := hok.1
  unfold nxt
  rcases nxtN_pr (pl := q.2) (p := m) (e := n + 1) (z := q.1) q.1.toNat (by omega) hok.2.2 with h | ⟨i, a, b, c, d, _⟩
  · rw [h.1]; omega
  · have := hok.2.1 i (by omega) b
    rw [c]; omega
theorem cwi_eq {s : Int → Int} {q : SN} {kp n m p : Int} (hE : EvOk s n) (hok : SNok q kp n) (hm : 0 ≤ m ∧ m ≤ n) (hp : 0 ≤ p ∧ p ≤ n) : cwi s q m p = cst s q p - (if m ≤ p ∧ p < nxt q m (n + 1) then cst s q m else 0) := by
  have hz := hok.1
  have hcm := cst_in hE hok hm
  have hcp := cst_in hE hok hp
  have hlm := lat_in hok hm.1
  have hlp := lat_in hok hp.1
  by_cases h1 : m ≤ p
  · by_cases h2 : p < nxt q m (n + 1)
    · rw [if_pos ⟨h1, h2⟩]
      have hl : lat q p = lat q m := by
        unfold lat
        refine latN_same _ (fun i a b => ?_)
        constructor
        · intro h3
          unfold nxt at h2
          rcases nxtN_pr (pl := q.2) (p := m) (e := n + 1) (z := q.1) q.1.toNat (by omega) hok.2.2 with h | ⟨k, c, d, e, f, g⟩
          · exact h.2 i (by omega) (by omega)
          · rw [e] at h2
            rcases g i (by omega) (by omega) with g1 | g1
            · exact g1
            · omega
        · intro h3; omega
      unfold cwi
      have e1 : cst s q p = psm (wts s) p - psm (wts s) (lat q m) := by unfold cst; rw [hl]
      have e2 : cst s q m = psm (wts s) m - psm (wts s) (lat q m) := rfl
      split
      · omega
      · rename_i h3
        have h4 : ¬ psm (wts s) p - psm (wts s) m < cst s q p := fun hc => h3 ⟨h1, hc⟩
        omega
    · rw [if_neg (fun hc => h2 hc.2)]
      have hl : m < lat q p := by
        unfold nxt at h2
        rcases nxtN_pr (pl := q.2) (p := m) (e := n + 1) (z := q.1) q.1.toNat (by omega) hok.2.2 with h | ⟨k, c, d, e, f, g⟩
        · rw [h.1] at h2; omega
        · rw [e] at h2
          have := latN_ge (p := p) q.1.toNat k (by omega) (by omega) (fun a b x y z => hok.2.2 a b x y (by omega)) (by omega)
          unfold lat
          omega
      have hw := W_mono hE hm.1 (by omega : m ≤ lat q p) (by omega)
      unfold cwi
      rw [if_neg (fun hc => by unfold cst at hc; omega)]
      omega
  · rw [if_neg (fun hc => h1 hc.1)]
    unfold cwi
    rw [if_neg (fun hc => h1 hc.1)]
    omega
theorem psm_sub {f f' : Int → Int} {n : Int} : psm (fun i => f i - f' i) n = psm f n - psm f' n := by
  have h : psm (fun i => (f i - f' i) + f' i) n = psm (fun i => f i - f' i) n + psm f' n := psm_add
  have h2 : (fun i => (f i - f' i) + f' i) = f := by funext i; omega
  rw [h2] at h
  omega
theorem psm_ind {m N c : Int} (hm : 0 ≤ m) (hN : m ≤ N) : ∀ k : Nat, psm (fun p => if m ≤ p ∧ p < N then c else 0) k = if (k : Int) ≤ m then 0 else if (k : Int) ≤ N then c * ((k : Int) - m) else c * (N - m)
  | 0 => by rw [if_pos (by omega)]; rfl
  | k + 1 => by
    rw [show ((k + 1 : Nat) : Int) = (k : Int) + 1 by omega, psm_s (by omega), psm_ind hm hN k]
    have e1 : c * ((k : Int) + 1 - m) = c * ((k : Int) - m) + c := by rw [show (k : Int) + 1 - m = ((k : Int) - m) + 1 by omega, Int.mul_add, Int.mul_one]
    by_cases h1 : (k : Int) < m
    · rw [if_pos (by omega : (k : Int) ≤ m), if_neg (fun hc : m ≤ (k : Int) ∧ (k : Int) < N => by omega), if_pos (by omega : (k : Int) + 1 ≤ m)]; rfl
    · by_cases h2 : (k : Int) < N
      · rw [if_neg (by omega : ¬ (k : Int) + 1 ≤ m), if_pos (by omega : (k : Int) + 1 ≤ N), e1]
        by_cases h3 : (k : Int) = m
        · rw [if_pos (by omega : (k : Int) ≤ m), if_pos (by omega), h3, Int.sub_self, Int.mul_zero]
        · rw [if_neg (by omega : ¬ (k : Int) ≤ m), if_pos (by omega : (k : Int) ≤ N), if_pos (by omega)]
      · by_cases h3 : (k : Int) + 1 ≤ m
        · omega
        · rw [if_neg h3, if_neg (by omega : ¬ (k : Int) + 1 ≤ N), if_neg (fun hc : m ≤ (k : Int) ∧ (k : Int) < N => h2 hc.2)]
          by_cases h4 : (k : Int) ≤ m
          · rw [if_pos h4, show N = m by omega, Int.sub_self, Int.mul_zero]; rfl
          · rw [if_neg h4]
            by_cases h5 : (k : Int) ≤ N
            · rw [if_pos h5, show (k : Int) = N by omega]; omega
            · rw [if_neg h5]; omega
/-- all COSTS, with one more -/
theorem cwi_sum {s : Int → Int} {q : SN} {kp n m : Int} (hE : EvOk s n) (hok : SNok q kp n) (hm : 0 ≤ m ∧ m ≤ n) : psm (cwi s q m) (n + 1) = psm (cst s q) (n + 1) - sav s q n m := by
  have hx := nxt_in hok hm
  have h1 : psm (cwi s q m) (n + 1) = psm (fun p => cst s q p - (if m ≤ p ∧ p < nxt q m (n + 1) then cst s q m else 0)) (n + 1) := psm_ext (fun p a b => cwi_eq hE hok hm ⟨a, by omega⟩)
  have h2 := psm_ind (c := cst s q m) hm.1 (Int.le_of_lt hx.1) (n + 1).toNat
  rw [show ((n + 1).toNat : Int) = n + 1 by omega, if_neg (by omega)] at h2
  rw [h1, psm_sub, h2]
  unfold sav
  by_cases h3 : n + 1 ≤ nxt q m (n + 1)
  · rw [if_pos h3, show nxt q m (n + 1) = n + 1 by omega]
  · rw [if_neg h3]
theorem sav_in {s : Int → Int} {q : SN} {kp n m : Int} (hE : EvOk s n) (hok : SNok q kp n) (hm : 0 ≤ m ∧ m ≤ n) (hn : n ≤ 120) : 0 ≤ sav s q n m ∧ sav s q n m ≤ 43560 := by
  have hx := nxt_in hok hm
  have hc := cst_in hE hok hm
  unfold sav
  have h1 := Int.mul_nonneg hc.1 (by omega : 0 ≤ nxt q m (n + 1) - m)
  have h2 := Int.mul_le_mul (by omega : cst s q m ≤ 360) (by omega : nxt q m (n + 1) - m ≤ 121) (by omega) (by omega : (0 : Int) ≤ 360)
  omega
/-- the best, and what it saves -/
def bsN (f : Int → Int) : Nat → Int × Int
  | 0 => (0, 0)
  | k + 1 => if (bsN f k).2 < f ((k : Int) + 1) then ((k : Int) + 1, f ((k : Int) + 1)) else bsN f k
theorem bsN_in {f : Int → Int} {n : Int} (hf : ∀ m : Int, 0 ≤ m → m ≤ n → 0 ≤ f m ∧ f m ≤ 43560) : ∀ k : Nat, (k : Int) ≤ n → (0 ≤ (bsN f k).1 ∧ (bsN f k).1 ≤ k) ∧ (0 ≤ (bsN f k).2 ∧ (bsN f k).2 ≤ 43560)
  | 0, _ => by show (0 ≤ (0 : Int) ∧ (0 : Int) ≤ ((0 : Nat) : Int)) ∧ (0 ≤ (0 : Int) ∧ (0 : Int) ≤ 43560); omega
  | k + 1, hk => by
    have h1 := bsN_in hf k (by omega)
    have h2 := hf ((k : Int) + 1) (by omega) (by omega)
    show (0 ≤ (if (bsN f k).2 < f ((k : Int) + 1) then ((k : Int) + 1, f ((k : Int) + 1)) else bsN f k).1 ∧ (if (bsN f k).2 < f ((k : Int) + 1) then ((k : Int) + 1, f ((k : Int) + 1)) else bsN f k).1 ≤ ((k + 1 : Nat) : Int)) ∧ (0 ≤ (if (bsN f k).2 < f ((k : Int) + 1) then ((k : Int) + 1, f ((k : Int) + 1)) else bsN f k).2 ∧ (if (bsN f k).2 < f ((k : Int) + 1) then ((k : Int) + 1, f ((k : Int) + 1)) else bsN f k).2 ≤ 43560)
    split
    · dsimp only; omega
    · omega
def V_best (g : ab_H) (w : Int) : Int := if 0 ≤ w ∧ w ≤ 1 then (if w = 0 then (bsN (sav (ss g) (qn g) (ss g 1080)) (ss g 1080).toNat).1 else psm (cst (ss g) (qn g)) (ss g 1080 + 1) - (bsN (sav (ss g) (qn g) (ss g 1080)) (ss g 1080).toNat).2) else -1
theorem sum_cst {s : Int → Int} {q : SN} {kp n m : Int} (hE : EvOk s n) (hok : SNok q kp n) (hm : 0 ≤ m ∧ m ≤ n + 1) (hn : n ≤ 120) : 0 ≤ psm (cst s q) m ∧ psm (cst s q) m ≤ 360 * m :=
  by
    have h := psm_bnd (f := cst s q) (lo := 0) (hi := 360) hm.1 (fun i a b => by have := cst_in hE hok (p := i) ⟨a, by omega⟩; omega)
    omega
theorem l_M_best {K : Int} {S : Nat} {g r : ab_H} {w n : Int} (P : Int → ab_H → ab_H → Prop) (hr : SI r) (hK : 186 ≤ K) (R : Rel g r) (hn : n = ss g 1080) (hw : 0 ≤ w ∧ w ≤ 1) (h : P (if w = 0 then (bsN (sav (ss g) (qn g) n) n.toNat).1 else psm (cst (ss g) (qn g)) (n + 1) - (bsN (sav (ss g) (qn g) n) n.toNat).2) g r) : ∀ (m : Nat) (i b l : Int), 1 ≤ i → i + m = n + 1 → b = (bsN (sav (ss g) (qn g) n) (i - 1).toNat).1 → l = psm (cst (ss g) (qn g)) (n + 1) - (bsN (sav (ss g) (qn g) n) (i - 1).toNat).2 → ab_Rn m_M_bestPlace 18 [some (2, 161), some (0, w), some (0, b), some (0, l), some (0, i), none] [] (K, S, g, r) (ab_Qi K S P)
  | 0, i, b, l, h0, hi, hb, hl => by
    have G := R.2.2.2.1.1
    have n1 := G.1
    apply v_M_bestPlace_18 _ hr hK
    apply s_M_many _ hr hK
    rw [Rel_many R]
    have e1 : (i - 1).toNat = n.toNat := by omega
    refine ⟨rfl, rfl, And.intro (fun _ => And.intro (fun h2 => ?_) (fun h2 => ?_)) (fun h1 => absurd h1 (by simp only [wr]; omega))⟩
    · rw [if_neg (by simp only [wr] at h2; omega)] at h
      rw [hl, e1]; exact h
    · rw [if_pos (by simp only [wr] at h2; omega)] at h
      rw [hb, e1]; exact h
  | m + 1, i, b, l, h0, hi, hb, hl => by
    have G := R.2.2.2.1.1
    have n1 := G.1
    have k1 := G.2.2.2.2.2.1
    have hok : SNok (qn g) (ss g 1090) (ss g 1080) := Rel_SNok R
    have hE := G.2.1
    rw [← hn] at hok hE n1
    have hcw := cwi_sum hE hok (m := i) (by omega)
    have hsv := sav_in hE hok (m := i) (by omega) n1.2
    have hall := sum_cst hE hok (m := n + 1) (by omega) n1.2
    have hbs := bsN_in (f := sav (ss g) (qn g) n) (n := n) (fun m a b => sav_in hE hok ⟨a, b⟩ n1.2) (i - 1).toNat (by omega)
    have hst : bsN (sav (ss g) (qn g) n) (i + 1 - 1).toNat = if (bsN (sav (ss g) (qn g) n) (i - 1).toNat).2 < sav (ss g) (qn g) n i then (i, sav (ss g) (qn g) n i) else bsN (sav (ss g) (qn g) n) (i - 1).toNat := by
      rw [show (i + 1 - 1).toNat = (i - 1).toNat + 1 by omega]
      show (if (bsN (sav (ss g) (qn g) n) (i - 1).toNat).2 < sav (ss g) (qn g) n (((i - 1).toNat : Int) + 1) then (((i - 1).toNat : Int) + 1, sav (ss g) (qn g) n (((i - 1).toNat : Int) + 1)) else bsN (sav (ss g) (qn g) n) (i - 1).toNat) = _
      rw [show ((i - 1).toNat : Int) + 1 = i by omega]
    apply v_M_bestPlace_18 _ hr hK
    apply s_M_many _ hr hK
    rw [Rel_many R, ← hn]
    refine ⟨rfl, rfl, And.intro (fun h1 => absurd h1 (by simp only [wr]; omega)) (fun _ => ?_)⟩
    apply s_M_costsWith (n := n) (kp := ss g 1090) (q := qn g) _ hr hK (Rel_EvS R) (by rw [Rel_many R, hn]) hE n1 (Rel_SnV R) hok (by omega) (by omega)
    rw [hcw]
    refine ⟨rfl, rfl, And.intro (fun h1 => ?_) (fun h1 => ?_)⟩
    · have h1' : (bsN (sav (ss g) (qn g) n) (i - 1).toNat).2 < sav (ss g) (qn g) n i := by simp only [wr] at h1; omega
      rw [if_pos h1'] at hst
      exact l_M_best P hr hK R hn hw h m (i + 1) _ _ (by omega) (by omega) (by rw [hst]) (by rw [hst])
    · have h1' : ¬ (bsN (sav (ss g) (qn g) n) (i - 1).toNat).2 < sav (ss g) (qn g) n i := by simp only [wr] at h1; omega
      rw [if_neg h1'] at hst
      exact l_M_best P hr hK R hn hw h m (i + 1) b l (by omega) (by omega) (by rw [hst]; exact hb) (by rw [hst]; exact hl)
theorem cst_0 {s : Int → Int} {q : SN} {kp n : Int} (hok : SNok q kp n) : cst s q 0 = 0 := by
  have h := lat_in hok (Int.le_refl 0)
  unfold cst
  rw [show lat q 0 = 0 by omega]
  omega
theorem m_bestPlace {K : Int} {S : Nat} {g r : ab_H} {w v : Int} (hr : SI r) (hK : 186 ≤ K) (R : Rel g r) (hw : I32 w) (hv : v = V_best g w) : MA m_M_bestPlace [(2, 161), (0, w)] K S g r v := by
  unfold I32 at hw
  unfold MA
  apply v_M_bestPlace _ hr hK
  intro g1 hg1
  have f1 := Scr_t R hg1
  have R1 := Rel_scr R f1
  have hv1 : v = V_best g1 w := by rw [hv]; unfold V_best; rw [Scr_qn f1, Scr_ss f1]
  have G1 := R1.2.2.2.1.1
  have n1 := G1.1
  have k1 := G1.2.2.2.2.2.1
  have hok : SNok (qn g1) (ss g1 1090) (ss g1 1080) := Rel_SNok R1
  unfold V_best at hv1
  refine And.intro (fun h1 => ⟨rfl, f1, ?_⟩) (fun h1 => And.intro (fun h2 => ?_) (fun h2 => ⟨rfl, f1, ?_⟩))
  · rw [hv1, if_neg (by simp only [wr] at h1; omega)]
  · have hh : 0 ≤ w ∧ w ≤ 1 := by simp only [wr] at h1 h2; omega
    rw [if_pos hh] at hv1
    apply s_M_costsWith (n := ss g1 1080) (kp := ss g1 1090) (q := qn g1) _ hr hK (Rel_EvS R1) (Rel_many R1) G1.2.1 n1 (Rel_SnV R1) hok (by omega) (by omega)
    rw [cwi_sum G1.2.1 hok (by omega)]
    refine ⟨rfl, rfl, l_M_best (n := ss g1 1080) _ hr hK R1 rfl hh ⟨rfl, f1, hv1⟩ (ss g1 1080).toNat 1 0 _ (by omega) (by omega) rfl ?_⟩
    have : sav (ss g1) (qn g1) (ss g1 1080) 0 = 0 := by unfold sav; rw [cst_0 hok, Int.zero_mul]
    rw [this]
    rfl
  · rw [hv1, if_neg (by simp only [wr] at h2; omega)]
theorem l_EL_best {K : Int} {S : Nat} {g r : ab_H} {w n : Int} (P : Int → ab_H → ab_H → Prop) (hr : SI r) (hK : 186 ≤ K) (R : Rel g r) (hn : n = ss g 1080) (hw : 0 ≤ w ∧ w ≤ 1) (h : P (if w = 0 then (bsN (sav (ss g) (qn g) n) n.toNat).1 else psm (cst (ss g) (qn g)) (n + 1) - (bsN (sav (ss g) (qn g) n) n.toNat).2) g r) : ∀ (m : Nat) (i a b l : Int), 0 ≤ i → i + m = n + 1 → a = psm (cst (ss g) (qn g)) i → b = (bsN (sav (ss g) (qn g) n) (i - 1).toNat).1 → l = (bsN (sav (ss g) (qn g) n) (i - 1).toNat).2 → ab_Rn m_EL_bestPlace 15 [some (2, 0), some (0, w), some (0, a), some (0, b), some (0, l), some (0, i), none, none] [] (K, S, g, r) (ab_Qi K S P)
  | 0, i, a, b, l, h0, hi, ha, hb, hl => by
    have S1 := R.2.2.2.1
    have n1 := S1.1.1
    apply v_EL_bestPlace_15 _ hr hK
    rw [S1.2.1.1, ← hn]
    have e1 : (i - 1).toNat = n.toNat := by omega
    have e2 : i = n + 1 := by omega
    refine ⟨Rel_Lg R, And.intro (fun _ => And.intro (fun h2 => ?_) (fun h2 => ?_)) (fun h1 => absurd h1 (by simp only [wr]; omega))⟩
    · rw [if_neg (by simp only [wr] at h2; omega)] at h
      rw [ha, hl, e1, e2]; exact h
    · rw [if_pos (by simp only [wr] at h2; omega)] at h
      rw [hb, e1]; exact h
  | m + 1, i, a, b, l, h0, hi, ha, hb, hl => by
    have S1 := R.2.2.2.1
    have G := S1.1
    have n1 := G.1
    have k1 := G.2.2.2.2.2.1
    have hok : SNok (qn g) (ss g 1090) (ss g 1080) := Rel_SNok R
    have hE := G.2.1
    have hsh : ShV g 57 (qn g) := S1.2.2.2.2.1
    have hsv := sav_in hE hok (m := i) (by omega) n1.2
    have hbs := bsN_in (f := sav (ss g) (qn g) n) (n := n) (fun m a b => by rw [hn]; exact sav_in hE hok ⟨a, by omega⟩ n1.2) (i - 1).toNat (by omega)
    have hps := psm_s (f := cst (ss g) (qn g)) h0
    apply v_EL_bestPlace_15 _ hr hK
    rw [S1.2.1.1]
    refine ⟨Rel_Lg R, And.intro (fun h1 => absurd h1 (by simp only [wr]; omega)) (fun _ => ?_)⟩
    apply s_EL_costOf _ hr hK R (by omega)
    refine ⟨rfl, rfl, Rel_Lg R, ?_⟩
    apply s_Sh_nextBehind _ hr hK (Or.inl rfl) hsh hok (by omega) (by omega) (by omega)
    intro x hx
    rw [hx]
    have esv : cst (ss g) (sn (ss g) (ss g 1089) (ss g 1090) (ss g 1080)) i * (nxt (qn g) i (ss g 1080 + 1) - i) = sav (ss g) (qn g) n i := by unfold sav; rw [hn]; rfl
    rw [esv]
    rw [← hn] at hsv
    refine ⟨rfl, rfl, And.intro (fun h1 => ?_) (fun h1 => ?_)⟩
    · have h1' : ¬ (bsN (sav (ss g) (qn g) n) (i - 1).toNat).2 < sav (ss g) (qn g) n i := by simp only [wr] at h1; omega
      have hst : bsN (sav (ss g) (qn g) n) (i + 1 - 1).toNat = bsN (sav (ss g) (qn g) n) (i - 1).toNat := by
        by_cases hi0 : i = 0
        · rw [show (i + 1 - 1).toNat = (i - 1).toNat by omega]
        · rw [show (i + 1 - 1).toNat = (i - 1).toNat + 1 by omega]
          show (if (bsN (sav (ss g) (qn g) n) (i - 1).toNat).2 < sav (ss g) (qn g) n (((i - 1).toNat : Int) + 1) then (((i - 1).toNat : Int) + 1, sav (ss g) (qn g) n (((i - 1).toNat : Int) + 1)) else bsN (sav (ss g) (qn g) n) (i - 1).toNat) = _
          rw [show ((i - 1).toNat : Int) + 1 = i by omega, if_neg h1']
      exact l_EL_best P hr hK R hn hw h m (i + 1) _ b l (by omega) (by omega) (by rw [hps, ha]; rfl) (by rw [hst]; exact hb) (by rw [hst]; exact hl)
    · have h1' : (bsN (sav (ss g) (qn g) n) (i - 1).toNat).2 < sav (ss g) (qn g) n i := by simp only [wr] at h1; omega
      have hi0 : i ≠ 0 := by
        intro hc
        rw [hc] at h1'
        have : sav (ss g) (qn g) n 0 = 0 := by unfold sav; rw [cst_0 hok, Int.zero_mul]
        rw [this] at h1'
        have h2 : (bsN (sav (ss g) (qn g) n) (0 - 1 : Int).toNat).2 = 0 := rfl
        omega
      have hst : bsN (sav (ss g) (qn g) n) (i + 1 - 1).toNat = (i, sav (ss g) (qn g) n i) := by
        rw [show (i + 1 - 1).toNat = (i - 1).toNat + 1 by omega]
        show (if (bsN (sav (ss g) (qn g) n) (i - 1).toNat).2 < sav (ss g) (qn g) n (((i - 1).toNat : Int) + 1) then (((i - 1).toNat : Int) + 1, sav (ss g) (qn g) n (((i - 1).toNat : Int) + 1)) else bsN (sav (ss g) (qn g) n) (i - 1).toNat) = _
        rw [show ((i - 1).toNat : Int) + 1 = i by omega, if_pos h1']
      exact l_EL_best P hr hK R hn hw h m (i + 1) _ _ _ (by omega) (by omega) (by rw [hps, ha]; rfl) (by rw [hst]) (by rw [hst])
theorem p_bestPlace {K : Int} {S : Nat} {g r : ab_H} {w : Int} (hr : SI r) (hK : 186 ≤ K) (R : Rel g r) (hw : I32 w) : PA m_EL_bestPlace [(2, 0), (0, w)] m_M_bestPlace [(2, 161), (0, w)] K S g r := by
  have hw' := hw
  unfold I32 at hw'
  have n1 := R.2.2.2.1.1.1
  unfold PA
  apply v_EL_bestPlace _ hr hK
  refine And.intro (fun h1 => ⟨rfl, Scr_rfl R, m_bestPlace hr hK R hw ?_⟩) (fun h1 => And.intro (fun h2 => ?_) (fun h2 => ⟨rfl, Scr_rfl R, m_bestPlace hr hK R hw ?_⟩))
  · unfold V_best; rw [if_neg (by simp only [wr] at h1; omega)]
  · have hh : 0 ≤ w ∧ w ≤ 1 := by simp only [wr] at h1 h2; omega
    refine l_EL_best (n := ss g 1080) _ hr hK R rfl hh ⟨rfl, Scr_rfl R, m_bestPlace hr hK R hw ?_⟩ (ss g 1080 + 1).toNat 0 0 0 0 (by omega) (by omega) rfl rfl rfl
    unfold V_best; rw [if_pos hh]
  · unfold V_best; rw [if_neg (by simp only [wr] at h2; omega)]
