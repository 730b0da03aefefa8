/-! SPECS, part zzc: text, the class's NUMBERS. -/
def sg (c : Int) : Int := if c < 128 then c else c - 256
theorem sg_r {c lo hi : Int} (hc : 0 ≤ c ∧ c < 256) (hl : 0 ≤ lo ∧ hi < 128) : (lo ≤ sg c ∧ sg c ≤ hi) ↔ (lo ≤ c ∧ c ≤ hi) := by
  unfold sg
  by_cases h : c < 128
  · rw [if_pos h]
  · rw [if_neg h]; constructor <;> intro h2 <;> omega
theorem sg_in {c : Int} (hc : 0 ≤ c ∧ c < 256) : -128 ≤ sg c ∧ sg c < 128 := by
  unfold sg
  by_cases h : c < 128
  · rw [if_pos h]; omega
  · rw [if_neg h]; omega
def TcV (g : ab_H) (b : Int → Int) (n : Int) : Prop := g 4 1 = n ∧ ∀ i : Int, 0 ≤ i → i < n → g 1 i = sg (b i)
def CKr (g g' : ab_H) : Prop := (∀ c : Int, c ≠ 4 → g' c = g c) ∧ ∀ j : Int, j < 2 ∨ 7 < j → g' 4 j = g 4 j
theorem CKr_tr {g g1 g2 : ab_H} (h : CKr g g1) (h2 : CKr g1 g2) : CKr g g2 := ⟨fun c a => by rw [h2.1 c a, h.1 c a], fun j a => by rw [h2.2 j a, h.2 j a]⟩
theorem CKr_up {g : ab_H} {k v : Int} (hk : 2 ≤ k ∧ k ≤ 7) : CKr g (ab_up g 4 k v) := ⟨fun c a => by rw [up_f a], fun j a => by rw [up_k (by omega)]⟩
theorem TcV_k {g g' : ab_H} {b : Int → Int} {n : Int} (h : TcV g b n) (hf : CKr g g') : TcV g' b n := ⟨by rw [hf.2 1 (by omega)]; exact h.1, fun i p q => by rw [hf.1 1 (by omega)]; exact h.2 i p q⟩
theorem s_To_isLetter {K : Int} {S : Nat} {g r : ab_H} {c : Int} (P : Int → ab_H → ab_H → Prop) (hr : SI r) (hK : 186 ≤ K) (hc : 0 ≤ c ∧ c < 256) (h : P (if fS c = true then 1 else 0) g r) : ab_RI m_To_isLetter [(0, sg c)] K S g r P := by
  have hs := sg_in hc
  have hr2 := sg_r (lo := 97) (hi := 122) hc (by omega)
  apply v_To_isLetter _ hr hK
  by_cases h1 : 97 ≤ c ∧ c ≤ 122
  · have h2 := hr2.mpr h1
    rw [if_pos (by unfold fS; exact decide_eq_true h1)] at h
    exact And.intro (fun e => absurd e (by simp only [wr]; omega)) (fun _ => And.intro (fun e => absurd e (by simp only [wr]; omega)) (fun _ => h))
  · rw [if_neg (by unfold fS; intro hc; exact h1 (of_decide_eq_true hc))] at h
    exact And.intro (fun _ => h) (fun e => And.intro (fun _ => h) (fun e2 => absurd (hr2.mp (by simp only [wr] at e e2; omega)) h1))
theorem s_To_isDigit {K : Int} {S : Nat} {g r : ab_H} {c : Int} (P : Int → ab_H → ab_H → Prop) (hr : SI r) (hK : 186 ≤ K) (hc : 0 ≤ c ∧ c < 256) (h : P (if fD c = true then 1 else 0) g r) : ab_RI m_To_isDigit [(0, sg c)] K S g r P := by
  have hs := sg_in hc
  have hr2 := sg_r (lo := 48) (hi := 57) hc (by omega)
  apply v_To_isDigit _ hr hK
  by_cases h1 : 48 ≤ c ∧ c ≤ 57
  · have h2 := hr2.mpr h1
    rw [if_pos (by unfold fD; exact decide_eq_true h1)] at h
    exact And.intro (fun e => absurd e (by simp only [wr]; omega)) (fun _ => And.intro (fun e => absurd e (by simp only [wr]; omega)) (fun _ => h))
  · rw [if_neg (by unfold fD; intro hc; exact h1 (of_decide_eq_true hc))] at h
    exact And.intro (fun _ => h) (fun e => And.intro (fun _ => h) (fun e2 => absurd (hr2.mp (by simp only [wr] at e e2; omega)) h1))
/-- the class's numeral -/
def num2 (b : Int → Int) (n : Int) : Nat → Int → Int → Int
  | 0, _, v => v
  | m + 1, p, v => if fD (hx b n p) = true then num2 b n m (p + 1) (if v < 1000000 then 10 * v + hx b n p - 48 else v) else v
/-- both numerals the same, or both too big -/
def NumR (v v' : Int) : Prop := (v = v' ∧ 0 ≤ v) ∨ (99999 < v ∧ 99999 < v')
theorem num_rel {b : Int → Int} {n : Int} : ∀ (m : Nat) (p v v' : Int), NumR v v' → NumR (num b n m p v) (num2 b n m p v')
  | 0, _, _, _, h => h
  | m + 1, p, v, v', h => by
    show NumR (if fD (hx b n p) = true then num b n m (p + 1) (if v ≤ 99999 then 10 * v + hx b n p - 48 else v) else v) (if fD (hx b n p) = true then num2 b n m (p + 1) (if v' < 1000000 then 10 * v' + hx b n p - 48 else v') else v')
    by_cases hd : fD (hx b n p) = true
    · rw [if_pos hd, if_pos hd]
      have hd2 : 48 ≤ hx b n p ∧ hx b n p ≤ 57 := of_decide_eq_true hd
      refine num_rel m (p + 1) _ _ ?_
      unfold NumR at h ⊢
      by_cases h1 : v ≤ 99999
      · rw [if_pos h1, if_pos (by omega)]; omega
      · rw [if_neg h1]
        by_cases h2 : v' < 1000000
        · rw [if_pos h2]; omega
        · rw [if_neg h2]; omega
    · rw [if_neg hd, if_neg hd]; exact h
theorem l_To_num3 {K : Int} {S : Nat} {r : ab_H} {b : Int → Int} {n : Int} (P : ab_H → ab_H → Prop) (hr : SI r) (hK : 186 ≤ K) (h40 : r 4 0 = 1) (hb : TxB b n) : ∀ (m : Nat) (p v : Int) (g : ab_H), TcV g b n → 0 ≤ p → p + m = n → g 4 2 = p → g 4 7 = v → (0 ≤ v ∧ v ≤ 9999999) → (∀ g' : ab_H, CKr g g' → g' 4 4 = g 4 4 → g' 4 6 = g 4 6 → g' 4 3 = 3 → g' 4 2 = scan fD b n m p → g' 4 7 = num2 b n m p v → P g' r) → ab_Rn m_To_readNumber 3 [some (2, 4)] [] (K, S, g, r) (ab_Qv K S P) := by
  have hn := hb.1
  have stop : ∀ (p v : Int) (g g1 : ab_H), g 4 2 = p → g 4 7 = v → g1 = ab_up g 4 3 3 → CKr g g1 ∧ g1 4 4 = g 4 4 ∧ g1 4 6 = g 4 6 ∧ g1 4 3 = 3 ∧ g1 4 2 = p ∧ g1 4 7 = v := fun p v g g1 hp hv h1 => ⟨by rw [h1]; exact CKr_up (by omega), by rw [h1, up_k (by omega)], by rw [h1, up_k (by omega)], by rw [h1, up_s], by rw [h1, up_k (by omega)]; exact hp, by rw [h1, up_k (by omega)]; exact hv⟩
  intro m
  induction m with
  | zero =>
    intro p v g ht h0 hm hp hv hv2 h
    apply v_To_readNumber_3 _ hr hK
    rw [ht.1, hp]
    refine And.intro (fun _ g1 hg1 => ?_) (fun e => absurd e (by simp only [wr]; omega))
    obtain ⟨u1, u2, u3, u4, u5, u6⟩ := stop p v g g1 hp hv hg1
    exact h g1 u1 u2 u3 u4 u5 u6
  | succ m ih =>
    intro p v g ht h0 hm hp hv hv2 h
    have hbp := hb.2 p h0 (by omega)
    have hxp : hx b n p = b p := if_pos (by omega)
    have es : scan fD b n (m + 1) p = if fD (hx b n p) = true then scan fD b n m (p + 1) else p := rfl
    have en : num2 b n (m + 1) p v = if fD (hx b n p) = true then num2 b n m (p + 1) (if v < 1000000 then 10 * v + hx b n p - 48 else v) else v := rfl
    rw [es, en] at h
    rw [hxp] at h
    apply v_To_readNumber_3 _ hr hK
    rw [ht.1, hp, ht.2 p h0 (by omega)]
    refine And.intro (fun e => absurd e (by simp only [wr]; omega)) (fun _ => ⟨h40, by omega, ?_⟩)
    apply s_To_isDigit _ hr hK hbp
    by_cases hd : fD (b p) = true
    · rw [if_pos hd, if_pos hd] at h
      have hd2 : 48 ≤ b p ∧ b p ≤ 57 := of_decide_eq_true hd
      have hsg : sg (b p) = b p := if_pos (by omega)
      rw [if_pos hd, hsg, hv]
      refine ⟨rfl, rfl, And.intro (fun e => absurd e (by decide)) (fun _ => And.intro (fun e g4 hg4 => ?_) (fun e => ⟨h40, by omega, fun g5 hg5 g6 hg6 => ?_⟩))⟩
      · have k : CKr g g4 := by rw [hg4]; exact CKr_up (by omega)
        refine ih (p + 1) v g4 (TcV_k ht k) (by omega) (by omega) (by rw [hg4, up_s]) (by rw [hg4, up_k (by omega)]; exact hv) hv2 (fun g' a b' c d e' f => h g' (CKr_tr k a) (by rw [b', hg4, up_k (by omega)]) (by rw [c, hg4, up_k (by omega)]) d e' (by rw [f, if_neg (by simp only [wr] at e; omega)]))
      · have k : CKr g g6 := by rw [hg6, hg5]; exact CKr_tr (CKr_up (by omega)) (CKr_up (by omega))
        refine ih (p + 1) (10 * v + b p - 48) g6 (TcV_k ht k) (by omega) (by omega) (by rw [hg6, up_s, hg5, up_k (by omega), hp]) (by rw [hg6, up_k (by omega), hg5, up_s]) (by simp only [wr] at e; omega) (fun g' a b' c d e' f => h g' (CKr_tr k a) (by rw [b', hg6, up_k (by omega), hg5, up_k (by omega)]) (by rw [c, hg6, up_k (by omega), hg5, up_k (by omega)]) d e' (by rw [f, if_pos (by simp only [wr] at e; omega)]))
    · rw [if_neg hd, if_neg hd] at h
      rw [if_neg hd]
      refine ⟨rfl, rfl, And.intro (fun _ g3 hg3 => ?_) (fun e => absurd rfl e)⟩
      obtain ⟨u1, u2, u3, u4, u5, u6⟩ := stop p v g g3 hp hv hg3
      exact h g3 u1 u2 u3 u4 u5 u6
theorem s_To_readNumber {K : Int} {S : Nat} {g r : ab_H} {b : Int → Int} {n p : Int} (P : ab_H → ab_H → Prop) (hr : SI r) (hK : 186 ≤ K) (h40 : r 4 0 = 1) (hb : TxB b n) (ht : TcV g b n) (h0 : 0 ≤ p ∧ p ≤ n) (hp : g 4 2 = p) (h : ∀ g' : ab_H, CKr g g' → g' 4 4 = g 4 4 → g' 4 6 = g 4 6 → g' 4 3 = 3 → g' 4 2 = scan fD b n (n - p).toNat p → g' 4 7 = num2 b n (n - p).toNat p 0 → P g' r) : ab_RV m_To_readNumber [(2, 4)] K S g r P := by
  apply v_To_readNumber _ hr hK
  intro g1 hg1
  have k : CKr g g1 := by rw [hg1]; exact CKr_up (by omega)
  exact l_To_num3 P hr hK h40 hb (n - p).toNat p 0 g1 (TcV_k ht k) h0.1 (by omega) (by rw [hg1, up_k (by omega)]; exact hp) (by rw [hg1, up_s]) (by omega) (fun g' a b' c d e f => h g' (CKr_tr k a) (by rw [b', hg1, up_k (by omega)]) (by rw [c, hg1, up_k (by omega)]) d e f)
