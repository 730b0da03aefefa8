/-! SPECS, part zzh: text, the class's TOKENS whole. -/
theorem s_To_readWord {K : Int} {S : Nat} {g r : ab_H} {b : Int → Int} {n p : Int} (P : ab_H → ab_H → Prop) (hr : SI r) (hK : 186 ≤ K) (h40 : r 4 0 = 1) (hb : TxB b n) (ht : TcV g b n) (h0 : 0 ≤ p ∧ p ≤ n) (hp : g 4 2 = p) (h44 : g 4 4 = p) (h : ∀ (w : Int) (g' r' : ab_H), SI r' → WI b p (scan fS b n (n - p).toNat p) 17 0 w → TkC b p (scan fS b n (n - p).toNat p) w g g' r r' → P g' r') : ab_RV m_To_readWord [(2, 4)] K S g r P := by
  apply v_To_readWord _ hr hK
  exact l_To_word2 P hr hK h40 hb h0.1 (n - p).toNat p 0 g ht (Int.le_refl _) (by omega) hp h44 (fun j a c => by omega) (by rw [if_pos (by omega), show (p - p).toNat = 0 by omega]; rfl) h
def Tk2 (b : Int → Int) (n p : Int) (g g' r r' : ab_H) : Prop := (fS (hx b n p) = true ∧ ∃ w : Int, WI b p (scan fS b n (n - p).toNat p) 17 0 w ∧ TkC b p (scan fS b n (n - p).toNat p) w g g' r r') ∨ ((r' = r ∧ CKr g g' ∧ g' 4 4 = p) ∧ ((fS (hx b n p) ≠ true ∧ fD (hx b n p) = true ∧ g' 4 2 = scan fD b n (n - p).toNat p ∧ g' 4 3 = 3 ∧ g' 4 7 = num2 b n (n - p).toNat p 0) ∨ (hx b n p = -1 ∧ g' 4 2 = p ∧ g' 4 3 = 0) ∨ (hx b n p = 59 ∧ g' 4 2 = p + 1 ∧ g' 4 3 = 4) ∨ ((fS (hx b n p) ≠ true ∧ fD (hx b n p) ≠ true ∧ hx b n p ≠ -1 ∧ hx b n p ≠ 59) ∧ g' 4 2 = p + 1 ∧ g' 4 3 = 5)))
theorem Tk2_k {b : Int → Int} {n p : Int} {g g1 g' r r' : ab_H} (k : CKr g g1) (h : Tk2 b n p g1 g' r r') : Tk2 b n p g g' r r' := by
  rcases h with ⟨h1, w, h2, h3⟩ | ⟨⟨h1, h2, h3⟩, h4⟩
  · exact Or.inl ⟨h1, w, h2, TkC_k k h3⟩
  · exact Or.inr ⟨⟨h1, CKr_tr k h2, h3⟩, h4⟩
theorem l_To_adv {K : Int} {S : Nat} {r : ab_H} {b : Int → Int} {n : Int} (P : ab_H → ab_H → Prop) (hr : SI r) (hK : 186 ≤ K) (h40 : r 4 0 = 1) (hb : TxB b n) : ∀ (m : Nat) (p : Int) (g : ab_H), TcV g b n → 0 ≤ p → p + m = n → g 4 2 = p → (∀ g' r' : ab_H, SI r' → Tk2 b n (scan fB b n m p) g g' r r' → P g' r') → ab_Rn m_To_advance 0 [some (2, 4)] [] (K, S, g, r) (ab_Qv K S P) := by
  have hn := hb.1
  intro m
  induction m with
  | zero =>
    intro p g ht h0 hm hp h
    apply v_To_advance_0 _ hr hK
    rw [ht.1, hp]
    refine And.intro (fun _ g1 hg1 => ?_) (fun e => absurd e (by simp only [wr]; omega))
    have k1 : CKr g g1 := by rw [hg1]; exact CKr_up (by omega)
    have a2 : g1 4 2 = p := by rw [hg1, up_k (by omega)]; exact hp
    rw [(TcV_k ht k1).1, a2]
    refine And.intro (fun e => absurd e (by simp only [wr]; omega)) (fun _ g14 hg14 => h g14 r hr (Or.inr ⟨⟨rfl, by rw [hg14]; exact CKr_tr k1 (CKr_up (by omega)), by rw [hg14, up_k (by omega), hg1, up_s]; rfl⟩, Or.inr (Or.inl ⟨hx_no (by show n ≤ p; omega), by rw [hg14, up_k (by omega)]; exact a2, by rw [hg14, up_s]⟩)⟩))
  | succ m ih =>
    intro p g ht h0 hm hp h
    have hbp := hb.2 p (by omega) (by omega)
    have hxp : hx b n p = b p := if_pos (by omega)
    have hsg := sg_in hbp
    have sge : ∀ x : Int, 0 ≤ x → x < 128 → (wr (sg (b p)) = wr x ↔ b p = x) := fun x a c => by
      have h1 := sg_r (c := b p) (lo := x) (hi := x) hbp (by omega)
      constructor
      · intro e
        have := h1.mp (by simp only [wr] at e; omega)
        omega
      · intro e
        have := h1.mpr (by omega)
        rw [show sg (b p) = x by omega]
    have es : scan fB b n (m + 1) p = if fB (hx b n p) = true then scan fB b n m (p + 1) else p := rfl
    rw [hxp] at es
    apply v_To_advance_0 _ hr hK
    rw [ht.1, hp, ht.2 p (by omega) (by omega)]
    refine And.intro (fun e => absurd e (by simp only [wr]; omega)) (fun _ => ⟨h40, by omega, ?_⟩)
    by_cases hd : fB (b p) = true
    · rw [if_pos hd] at es
      rw [es] at h
      have hd2 : b p = 10 ∨ b p = 32 := of_decide_eq_true hd
      have next : ∀ g2 : ab_H, g2 = ab_up g 4 2 (p + 1) → ab_Rn m_To_advance 0 [some (2, 4)] [] (K, S, g2, r) (ab_Qv K S P) := by
        intro g2 hg2
        have k : CKr g g2 := by rw [hg2]; exact CKr_up (by omega)
        exact ih (p + 1) g2 (TcV_k ht k) (by omega) (by omega) (by rw [hg2, up_s]) (fun g' r' hs ht => h g' r' hs (Tk2_k k ht))
      refine And.intro (fun _ g15 hg15 => next g15 hg15) (fun e => ⟨h40, by omega, And.intro (fun e2 => ?_) (fun _ g30 hg30 => next g30 hg30)⟩)
      rcases hd2 with hd2 | hd2
      · exact absurd ((sge 10 (by omega) (by omega)).mpr hd2) e
      · exact absurd ((sge 32 (by omega) (by omega)).mpr hd2) e2
    · rw [if_neg hd] at es
      rw [es] at h
      have hd2 : ¬ (b p = 10 ∨ b p = 32) := fun hh => hd (decide_eq_true hh)
      refine And.intro (fun e => absurd (Or.inl ((sge 10 (by omega) (by omega)).mp e)) hd2) (fun _ => ⟨h40, by omega, And.intro (fun _ g16 hg16 => ?_) (fun e => absurd (Or.inr ((sge 32 (by omega) (by omega)).mp e)) hd2)⟩)
      have k1 : CKr g g16 := by rw [hg16]; exact CKr_up (by omega)
      have t1 := TcV_k ht k1
      have a2 : g16 4 2 = p := by rw [hg16, up_k (by omega)]; exact hp
      have a4 : g16 4 4 = p := by rw [hg16, up_s]
      rw [t1.1, a2, t1.2 p (by omega) (by omega)]
      refine And.intro (fun _ => ⟨h40, by omega, ?_⟩) (fun e => absurd e (by simp only [wr]; omega))
      apply s_To_isLetter _ hr hK hbp
      refine ⟨rfl, rfl, And.intro (fun e1 => ⟨h40, by omega, ?_⟩) (fun e1 => ?_)⟩
      · have ns : fS (hx b n p) ≠ true := fun hh => by rw [hxp] at hh; rw [if_pos hh] at e1; exact absurd e1 (by decide)
        apply s_To_isDigit _ hr hK hbp
        refine ⟨rfl, rfl, And.intro (fun e2 => ⟨h40, by omega, ?_⟩) (fun e2 => ?_)⟩
        · have nd : fD (hx b n p) ≠ true := fun hh => by rw [hxp] at hh; rw [if_pos hh] at e2; exact absurd e2 (by decide)
          have two : ∀ (x : Int) (g8 g9 : ab_H), g8 = ab_up g16 4 3 x → g9 = ab_up g8 4 2 (g8 4 2 + 1) → CKr g g9 ∧ g9 4 4 = p ∧ g9 4 2 = p + 1 ∧ g9 4 3 = x := fun x g8 g9 h8 h9 => ⟨by rw [h9, h8]; exact CKr_tr k1 (CKr_tr (CKr_up (by omega)) (CKr_up (by omega))), by rw [h9, up_k (by omega), h8, up_k (by omega)]; exact a4, by rw [h9, up_s, h8, up_k (by omega), a2], by rw [h9, up_k (by omega), h8, up_s]⟩
          refine And.intro (fun e4 g8 hg8 g9 hg9 => ?_) (fun e4 g10 hg10 g11 hg11 => ?_)
          · obtain ⟨u1, u2, u3, u4⟩ := two 5 g8 g9 hg8 hg9
            exact h g9 r hr (Or.inr ⟨⟨rfl, u1, u2⟩, Or.inr (Or.inr (Or.inr ⟨⟨ns, nd, by rw [hxp]; omega, fun hh => e4 ((sge 59 (by omega) (by omega)).mpr (by rw [← hxp]; exact hh))⟩, u3, u4⟩))⟩)
          · obtain ⟨u1, u2, u3, u4⟩ := two 4 g10 g11 hg10 hg11
            exact h g11 r hr (Or.inr ⟨⟨rfl, u1, u2⟩, Or.inr (Or.inr (Or.inl ⟨by rw [hxp]; exact (sge 59 (by omega) (by omega)).mp e4, u3, u4⟩))⟩)
        · have yd : fD (hx b n p) = true := by
            rw [hxp]
            by_cases hh : fD (b p) = true
            · exact hh
            · rw [if_neg hh] at e2; exact absurd rfl e2
          apply s_To_readNumber _ hr hK h40 hb t1 (by omega) a2
          intro g' a b' c d e f
          exact ⟨rfl, h g' r hr (Or.inr ⟨⟨rfl, CKr_tr k1 a, by rw [b']; exact a4⟩, Or.inl ⟨ns, yd, e, d, f⟩⟩)⟩
      · have ys : fS (hx b n p) = true := by
          rw [hxp]
          by_cases hh : fS (b p) = true
          · exact hh
          · rw [if_neg hh] at e1; exact absurd rfl e1
        apply s_To_readWord _ hr hK h40 hb t1 (by omega) a2 a4
        intro w g' r' hs hw htc
        exact ⟨hs, h g' r' hs (Or.inl ⟨ys, w, hw, TkC_k k1 htc⟩)⟩
