/-! SPECS, part zv: text, the reference's TOKENS. -/
def hx (b : Int → Int) (n p : Int) : Int := if p < n then b p else -1
def fB (c : Int) : Bool := decide (c = 10 ∨ c = 32)
def fS (c : Int) : Bool := decide (97 ≤ c ∧ c ≤ 122)
def fD (c : Int) : Bool := decide (48 ≤ c ∧ c ≤ 57)
/-- how far such characters go -/
def scan (f : Int → Bool) (b : Int → Int) (n : Int) : Nat → Int → Int
  | 0, p => p
  | m + 1, p => if f (hx b n p) = true then scan f b n m (p + 1) else p
/-- the reference's numeral -/
def num (b : Int → Int) (n : Int) : Nat → Int → Int → Int
  | 0, _, v => v
  | m + 1, p, v => if fD (hx b n p) = true then num b n m (p + 1) (if v ≤ 99999 then 10 * v + hx b n p - 48 else v) else v
def TxB (b : Int → Int) (n : Int) : Prop := (0 ≤ n ∧ n ≤ 900) ∧ ∀ i : Int, 0 ≤ i → i < n → 0 ≤ b i ∧ b i < 256
def TxV (g : ab_H) (b : Int → Int) (n : Int) : Prop := g 161 17 = n ∧ ∀ i : Int, 0 ≤ i → i < n → g 162 i = b i
def KFr (g g' : ab_H) : Prop := (∀ c : Int, c ≠ 161 → g' c = g c) ∧ ∀ j : Int, j < 18 ∨ 21 < j → g' 161 j = g 161 j
theorem KFr_tr {g g1 g2 : ab_H} (h : KFr g g1) (h2 : KFr g1 g2) : KFr g g2 := ⟨fun c a => by rw [h2.1 c a, h.1 c a], fun j a => by rw [h2.2 j a, h.2 j a]⟩
theorem KFr_up {g : ab_H} {k v : Int} (hk : 18 ≤ k ∧ k ≤ 21) : KFr g (ab_up g 161 k v) := ⟨fun c a => by rw [up_f a], fun j a => by rw [up_k (by omega)]⟩
theorem TxV_k {g g' : ab_H} {b : Int → Int} {n : Int} (h : TxV g b n) (hf : KFr g g') : TxV g' b n := ⟨by rw [hf.2 17 (by omega)]; exact h.1, fun i p q => by rw [hf.1 162 (by omega)]; exact h.2 i p q⟩
theorem hx_in {b : Int → Int} {n p : Int} (hb : TxB b n) (hp : 0 ≤ p) : -1 ≤ hx b n p ∧ hx b n p < 256 := by
  unfold hx
  by_cases h : p < n
  · rw [if_pos h]; have := hb.2 p hp h; omega
  · rw [if_neg h]; omega
theorem hx_no {b : Int → Int} {n p : Int} (h : n ≤ p) : hx b n p = -1 := if_neg (by omega)
theorem scan_in {f : Int → Bool} {b : Int → Int} {n : Int} : ∀ (m : Nat) (p : Int), p ≤ scan f b n m p ∧ scan f b n m p ≤ p + m
  | 0, p => by show p ≤ p ∧ p ≤ p + ((0 : Nat) : Int); omega
  | m + 1, p => by
    have h := scan_in (f := f) (b := b) (n := n) m (p + 1)
    show p ≤ (if f (hx b n p) = true then scan f b n m (p + 1) else p) ∧ (if f (hx b n p) = true then scan f b n m (p + 1) else p) ≤ p + ((m + 1 : Nat) : Int)
    split <;> omega
theorem s_M_isSmall {K : Int} {S : Nat} {g r : ab_H} {c : Int} (P : Int → ab_H → ab_H → Prop) (hr : SI r) (hK : 186 ≤ K) (hc : -1 ≤ c ∧ c < 256) (h : P (if fS c = true then 1 else 0) g r) : ab_RI m_M_isSmall [(0, c)] K S g r P := by
  apply v_M_isSmall _ hr hK
  by_cases h1 : 97 ≤ c ∧ c ≤ 122
  · rw [if_pos (by unfold fS; exact decide_eq_true h1)] at h
    exact And.intro (fun e => absurd e (by simp only [wr]; omega)) (fun _ => And.intro (fun e => absurd e (by simp only [wr]; omega)) (fun _ => h))
  · rw [if_neg (by unfold fS; intro hc; exact h1 (of_decide_eq_true hc))] at h
    exact And.intro (fun _ => h) (fun e => And.intro (fun _ => h) (fun e2 => absurd (by simp only [wr] at e e2; omega) h1))
theorem s_M_isDigit {K : Int} {S : Nat} {g r : ab_H} {c : Int} (P : Int → ab_H → ab_H → Prop) (hr : SI r) (hK : 186 ≤ K) (hc : -1 ≤ c ∧ c < 256) (h : P (if fD c = true then 1 else 0) g r) : ab_RI m_M_isDigit [(0, c)] K S g r P := by
  apply v_M_isDigit _ hr hK
  by_cases h1 : 48 ≤ c ∧ c ≤ 57
  · rw [if_pos (by unfold fD; exact decide_eq_true h1)] at h
    exact And.intro (fun e => absurd e (by simp only [wr]; omega)) (fun _ => And.intro (fun e => absurd e (by simp only [wr]; omega)) (fun _ => h))
  · rw [if_neg (by unfold fD; intro hc; exact h1 (of_decide_eq_true hc))] at h
    exact And.intro (fun _ => h) (fun e => And.intro (fun _ => h) (fun e2 => absurd (by simp only [wr] at e e2; omega) h1))
theorem s_M_here {K : Int} {S : Nat} {g r : ab_H} {b : Int → Int} {n p : Int} (P : Int → ab_H → ab_H → Prop) (hr : SI r) (hK : 186 ≤ K) (hb : TxB b n) (ht : TxV g b n) (hp : g 161 18 = p) (h0 : 0 ≤ p ∧ p ≤ n) (h : P (hx b n p) g r) : ab_RI m_M_here [(2, 161)] K S g r P := by
  have hn := hb.1
  unfold hx at h
  apply v_M_here _ hr hK
  rw [ht.1, hp]
  by_cases h1 : p < n
  · rw [if_pos h1, ← ht.2 p h0.1 h1] at h
    exact And.intro (fun e => absurd e (by simp only [wr]; omega)) (fun _ => ⟨by omega, h⟩)
  · rw [if_neg h1] at h
    exact And.intro (fun _ => h) (fun e => absurd e (by simp only [wr]; omega))
/-- a NUMERAL -/
theorem l_M_token81 {K : Int} {S : Nat} {r : ab_H} {b : Int → Int} {n : Int} (P : ab_H → ab_H → Prop) (hr : SI r) (hK : 186 ≤ K) (hb : TxB b n) : ∀ (m : Nat) (p v : Int) (g : ab_H), TxV g b n → 0 ≤ p → p + m = n → g 161 18 = p → g 161 21 = v → (0 ≤ v ∧ v ≤ 999999) → (∀ g' : ab_H, KFr g g' → g' 161 19 = g 161 19 → g' 161 20 = g 161 20 → g' 161 18 = scan fD b n m p → g' 161 21 = num b n m p v → P g' r) → ab_Rn m_M_token 81 [some (2, 161), none] [] (K, S, g, r) (ab_Qv K S P)
  | 0, p, v, g, ht, h0, hm, hp, hv, hv2, h => by
    apply v_M_token_81 _ hr hK
    apply s_M_here _ hr hK hb ht hp (by omega)
    refine ⟨rfl, rfl, ?_⟩
    rw [hx_no (by omega)]
    apply s_M_isDigit _ hr hK (by omega)
    refine ⟨rfl, rfl, And.intro (fun _ => h g ⟨fun _ _ => rfl, fun _ _ => rfl⟩ rfl rfl hp hv) (fun e => absurd e (by decide))⟩
  | m + 1, p, v, g, ht, h0, hm, hp, hv, hv2, h => by
    have hc := hx_in (p := p) hb h0
    apply v_M_token_81 _ hr hK
    apply s_M_here _ hr hK hb ht hp (by omega)
    refine ⟨rfl, rfl, ?_⟩
    apply s_M_isDigit _ hr hK hc
    have es : scan fD b n (m + 1) p = if fD (hx b n p) = true then scan fD b n m (p + 1) else p := rfl
    have en : num b n (m + 1) p v = if fD (hx b n p) = true then num b n m (p + 1) (if v ≤ 99999 then 10 * v + hx b n p - 48 else v) else v := rfl
    by_cases hd : fD (hx b n p) = true
    · rw [if_pos hd] at es en
      have hd2 : 48 ≤ hx b n p ∧ hx b n p ≤ 57 := of_decide_eq_true hd
      rw [if_pos hd]
      have step : ∀ (v' : Int) (g4 g5 : ab_H), (0 ≤ v' ∧ v' ≤ 999999) → v' = (if v ≤ 99999 then 10 * v + hx b n p - 48 else v) → g4 = ab_up g 161 21 v' → g5 = ab_up g4 161 18 (g4 161 18 + 1) → ab_Rn m_M_token 81 [some (2, 161), none] [] (K, S, g5, r) (ab_Qv K S P) := by
        intro v' g4 g5 hv' hve h4 h5
        have k : KFr g g5 := by rw [h5, h4]; exact KFr_tr (KFr_up (by omega)) (KFr_up (by omega))
        refine l_M_token81 P hr hK hb m (p + 1) v' g5 (TxV_k ht k) (by omega) (by omega) (by rw [h5, up_s, h4, up_k (by omega), hp]) (by rw [h5, up_k (by omega), h4, up_s]) hv' (fun g' a b' c d e => h g' (KFr_tr k a) ?_ ?_ ?_ ?_)
        · rw [b', h5, up_k (by omega), h4, up_k (by omega)]
        · rw [c, h5, up_k (by omega), h4, up_k (by omega)]
        · rw [d, es]
        · rw [e, en, hve]
      refine ⟨rfl, rfl, And.intro (fun e => absurd e (by decide)) (fun _ => ?_)⟩
      rw [hv]
      refine And.intro (fun e => ?_) (fun e g6 h6 g7 h7 => step v g6 g7 hv2 (by rw [if_neg (by simp only [wr] at e; omega)]) h6 h7)
      apply s_M_here _ hr hK hb ht hp (by omega)
      exact ⟨rfl, rfl, fun g4 h4 g5 h5 => step _ g4 g5 (by simp only [wr] at e; omega) (by rw [if_pos (by simp only [wr] at e; omega)]) h4 h5⟩
    · rw [if_neg hd] at es en
      rw [if_neg hd]
      refine ⟨rfl, rfl, And.intro (fun _ => h g ⟨fun _ _ => rfl, fun _ _ => rfl⟩ rfl rfl (by rw [es]; exact hp) (by rw [en]; exact hv)) (fun e => absurd e (by decide))⟩
