/-! SPECS, part zza: text, the reference's TOKENS, blanks and all. -/
def Tk1 (b : Int → Int) (n p q k v : Int) : Prop := (fS (hx b n p) = true ∧ q = scan fS b n (n - p).toNat p ∧ ∃ w : Int, WI b p q 17 0 w ∧ TkW b p q w k v) ∨ (fS (hx b n p) ≠ true ∧ fD (hx b n p) = true ∧ q = scan fD b n (n - p).toNat p ∧ k = 2 ∧ v = num b n (n - p).toNat p 0) ∨ (hx b n p = -1 ∧ q = p ∧ k = 4) ∨ (hx b n p = 59 ∧ q = p + 1 ∧ k = 3) ∨ ((fS (hx b n p) ≠ true ∧ fD (hx b n p) ≠ true ∧ hx b n p ≠ -1 ∧ hx b n p ≠ 59) ∧ q = p + 1 ∧ k = 5)
theorem l_M_token0 {K : Int} {S : Nat} {r : ab_H} {b : Int → Int} {n : Int} (P : ab_H → ab_H → Prop) (hr : SI r) (hK : 186 ≤ K) (hb : TxB b n) : ∀ (m : Nat) (p : Int) (g : ab_H), TxV g b n → 0 ≤ p → p + m = n → g 161 18 = p → (∀ (q k v : Int) (g' : ab_H), Tk1 b n (scan fB b n m p) q k v → KFr g g' → g' 161 19 = scan fB b n m p → g' 161 18 = q → g' 161 20 = k → g' 161 21 = v → P g' r) → ab_Rn m_M_token 0 [some (2, 161), none] [] (K, S, g, r) (ab_Qv K S P) := by
  have fin : ∀ (p : Int) (g : ab_H), TxV g b n → 0 ≤ p → p ≤ n → g 161 18 = p → (∀ (q k v : Int) (g' : ab_H), Tk1 b n p q k v → KFr g g' → g' 161 19 = p → g' 161 18 = q → g' 161 20 = k → g' 161 21 = v → P g' r) → ¬ fB (hx b n p) = true → ab_Rn m_M_token 0 [some (2, 161), none] [] (K, S, g, r) (ab_Qv K S P) := by
    intro p g ht h0 hpn hp h hnb
    have hc := hx_in (p := p) hb h0
    have hn := hb.1
    have hnb2 : ¬ (hx b n p = 10 ∨ hx b n p = 32) := fun hh => hnb (decide_eq_true hh)
    apply v_M_token_0 _ hr hK
    apply s_M_here _ hr hK hb ht hp ⟨h0, hpn⟩
    refine ⟨rfl, rfl, And.intro (fun e => absurd (Or.inl (by simp only [wr] at e; omega)) hnb2) (fun _ => ?_)⟩
    apply s_M_here _ hr hK hb ht hp ⟨h0, hpn⟩
    refine ⟨rfl, rfl, And.intro (fun _ g4 hg4 => ?_) (fun e => absurd (Or.inr (by simp only [wr] at e; omega)) hnb2)⟩
    rw [hp] at hg4
    have k4 : KFr g g4 := by rw [hg4]; exact KFr_up (by omega)
    have a18 : g4 161 18 = p := by rw [hg4, up_k (by omega)]; exact hp
    have a19 : g4 161 19 = p := by rw [hg4, up_s]
    have t4 := TxV_k ht k4
    apply s_M_here _ hr hK hb t4 a18 ⟨h0, hpn⟩
    refine ⟨rfl, rfl, And.intro (fun e1 => ?_) (fun e1 g14 hg14 => ?_)⟩
    · have e1' : hx b n p ≠ -1 := fun hh => e1 (by rw [hh])
      have hpl : p < n := by
        by_cases hh : p < n
        · exact hh
        · exact absurd (hx_no (by omega)) e1'
      apply s_M_isSmall _ hr hK hc
      refine ⟨rfl, rfl, And.intro (fun e2 => ?_) (fun e2 => ?_)⟩
      · have ns : fS (hx b n p) ≠ true := fun hh => by rw [if_pos hh] at e2; exact absurd e2 (by decide)
        apply s_M_isDigit _ hr hK hc
        refine ⟨rfl, rfl, And.intro (fun e3 => ?_) (fun e3 g12 hg12 g13 hg13 => ?_)⟩
        · have nd : fD (hx b n p) ≠ true := fun hh => by rw [if_pos hh] at e3; exact absurd e3 (by decide)
          have two : ∀ (x : Int) (g8 g9 : ab_H), g8 = ab_up g4 161 20 x → g9 = ab_up g8 161 18 (g8 161 18 + 1) → KFr g g9 ∧ g9 161 19 = p ∧ g9 161 18 = p + 1 ∧ g9 161 20 = x := fun x g8 g9 h8 h9 => ⟨by rw [h9, h8]; exact KFr_tr k4 (KFr_tr (KFr_up (by omega)) (KFr_up (by omega))), by rw [h9, up_k (by omega), h8, up_k (by omega)]; exact a19, by rw [h9, up_s, h8, up_k (by omega), a18], by rw [h9, up_k (by omega), h8, up_s]⟩
          refine And.intro (fun e4 g8 hg8 g9 hg9 => ?_) (fun e4 g10 hg10 g11 hg11 => ?_)
          · obtain ⟨u1, u2, u3, u4⟩ := two 5 g8 g9 hg8 hg9
            exact h (p + 1) 5 _ g9 (Or.inr (Or.inr (Or.inr (Or.inr ⟨⟨ns, nd, e1', fun hh => e4 (by rw [hh])⟩, rfl, rfl⟩)))) u1 u2 u3 u4 rfl
          · obtain ⟨u1, u2, u3, u4⟩ := two 3 g10 g11 hg10 hg11
            exact h (p + 1) 3 _ g11 (Or.inr (Or.inr (Or.inr (Or.inl ⟨by simp only [wr] at e4; omega, rfl, rfl⟩)))) u1 u2 u3 u4 rfl
        · have yd : fD (hx b n p) = true := by
            by_cases hh : fD (hx b n p) = true
            · exact hh
            · rw [if_neg hh] at e3; exact absurd rfl e3
          have k13 : KFr g4 g13 := by rw [hg13, hg12]; exact KFr_tr (KFr_up (by omega)) (KFr_up (by omega))
          refine l_M_token81 P hr hK hb (n - p).toNat p 0 g13 (TxV_k t4 k13) h0 (by omega) (by rw [hg13, up_k (by omega), hg12, up_k (by omega)]; exact a18) (by rw [hg13, up_s]) (by omega) (fun g' a b' c d e => h _ 2 _ g' (Or.inr (Or.inl ⟨ns, yd, rfl, rfl, rfl⟩)) (KFr_tr k4 (KFr_tr k13 a)) ?_ d ?_ e)
          · rw [b', hg13, up_k (by omega), hg12, up_k (by omega)]; exact a19
          · rw [c, hg13, up_k (by omega), hg12, up_s]
      · have ys : fS (hx b n p) = true := by
          by_cases hh : fS (hx b n p) = true
          · exact hh
          · rw [if_neg hh] at e2; exact absurd rfl e2
        exact l_M_token32 P hr hK hb h0 (n - p).toNat p g4 t4 (Int.le_refl _) (by omega) a18 a19 (fun j a c => by omega) (fun w k v g' a b' c d e f u => h _ k v g' (Or.inl ⟨ys, rfl, w, a, b'⟩) (KFr_tr k4 c) d e f u)
    · have e2 : hx b n p = -1 := by simp only [wr] at e1; omega
      exact h p 4 _ g14 (Or.inr (Or.inr (Or.inl ⟨e2, rfl, rfl⟩))) (by rw [hg14]; exact KFr_tr k4 (KFr_up (by omega))) (by rw [hg14, up_k (by omega)]; exact a19) (by rw [hg14, up_k (by omega)]; exact a18) (by rw [hg14, up_s]) rfl
  intro m
  induction m with
  | zero =>
    intro p g ht h0 hm hp h
    exact fin p g ht h0 (by omega) hp h (by rw [hx_no (by omega)]; decide)
  | succ m ih =>
    intro p g ht h0 hm hp h
    have es : scan fB b n (m + 1) p = if fB (hx b n p) = true then scan fB b n m (p + 1) else p := rfl
    by_cases hd : fB (hx b n p) = true
    · rw [if_pos hd] at es
      rw [es] at h
      have hd2 : hx b n p = 10 ∨ hx b n p = 32 := of_decide_eq_true hd
      have nxt1 : ∀ g2 : ab_H, g2 = ab_up g 161 18 (g 161 18 + 1) → ab_Rn m_M_token 0 [some (2, 161), none] [] (K, S, g2, r) (ab_Qv K S P) := by
        intro g2 hg2
        have k : KFr g g2 := by rw [hg2]; exact KFr_up (by omega)
        exact ih (p + 1) g2 (TxV_k ht k) (by omega) (by omega) (by rw [hg2, up_s, hp]) (fun q k' v g' a b' c d e f => h q k' v g' a (KFr_tr k b') c d e f)
      apply v_M_token_0 _ hr hK
      apply s_M_here _ hr hK hb ht hp (by omega)
      refine ⟨rfl, rfl, And.intro (fun _ g2 hg2 => nxt1 g2 hg2) (fun e => ?_)⟩
      apply s_M_here _ hr hK hb ht hp (by omega)
      refine ⟨rfl, rfl, And.intro (fun e2 => ?_) (fun _ g15 hg15 => nxt1 g15 hg15)⟩
      rcases hd2 with hd2 | hd2
      · exact absurd (by rw [hd2]) e
      · exact absurd (by rw [hd2]) e2
    · rw [if_neg hd] at es
      rw [es] at h
      exact fin p g ht h0 (by omega) hp h hd
theorem s_M_token {K : Int} {S : Nat} {g r : ab_H} {b : Int → Int} {n p : Int} (P : ab_H → ab_H → Prop) (hr : SI r) (hK : 186 ≤ K) (hb : TxB b n) (ht : TxV g b n) (hp : g 161 18 = p) (h0 : 0 ≤ p ∧ p ≤ n) (h : ∀ (q k v : Int) (g' : ab_H), Tk1 b n (scan fB b n (n - p).toNat p) q k v → KFr g g' → g' 161 19 = scan fB b n (n - p).toNat p → g' 161 18 = q → g' 161 20 = k → g' 161 21 = v → P g' r) : ab_RV m_M_token [(2, 161)] K S g r P := by
  apply v_M_token _ hr hK
  exact l_M_token0 P hr hK hb (n - p).toNat p g ht h0.1 (by omega) hp h
