/-! SPECS, part zzg: text, the class's letters read. -/
theorem TkC_k {b : Int → Int} {p q w : Int} {g g1 g' r r' : ab_H} (k : CKr g g1) (h : TkC b p q w g1 g' r r') : TkC b p q w g g' r r' := ⟨h.1, h.2.1, CKr_tr k h.2.2.1, h.2.2.2⟩
theorem l_To_word2 {K : Int} {S : Nat} {r : ab_H} {b : Int → Int} {n p0 : Int} (P : ab_H → ab_H → Prop) (hr : SI r) (hK : 186 ≤ K) (h40 : r 4 0 = 1) (hb : TxB b n) (hp0 : 0 ≤ p0) : ∀ (m : Nat) (p l : Int) (g : ab_H), TcV g b n → p0 ≤ p → p + m = n → g 4 2 = p → g 4 4 = p0 → (∀ j : Int, p0 ≤ j → j < p → 97 ≤ b j ∧ b j ≤ 122) → l = pk (fun j => b (p0 + j) - 96) (if p - p0 ≤ 7 then (p - p0).toNat else 7) → (∀ (w : Int) (g' r' : ab_H), SI r' → WI b p0 (scan fS b n m p) 17 0 w → TkC b p0 (scan fS b n m p) w g g' r r' → P g' r') → ab_Rn m_To_readWord 2 [some (2, 4), some (1, l), none, none, none] [] (K, S, g, r) (ab_Qv K S P) := by
  have hn := hb.1
  intro m
  induction m with
  | zero =>
    intro p l g ht h0 hm hp h44 hl hlv h
    obtain ⟨w, hw⟩ := WI_ex (b := b) (p := p0) (q := p) 17 0
    have hf := l_To_fin (S := S) (g := g) P hr hK hb (by omega) hl hlv h44 hp hw (fun g' r' hs ht => h w g' r' hs hw ht)
    apply v_To_readWord_2 _ hr hK
    rw [ht.1, hp, h44]
    exact And.intro (fun _ => hf) (fun e => absurd e (by simp only [wr]; omega))
  | succ m ih =>
    intro p l g ht h0 hm hp h44 hl hlv h
    have hbp := hb.2 p (by omega) (by omega)
    have hxp : hx b n p = b p := if_pos (by omega)
    have es : scan fS b n (m + 1) p = if fS (hx b n p) = true then scan fS b n m (p + 1) else p := rfl
    rw [hxp] at es
    by_cases hd : fS (b p) = true
    · rw [if_pos hd] at es
      rw [es] at h
      have hd2 : 97 ≤ b p ∧ b p ≤ 122 := of_decide_eq_true hd
      have hsg : sg (b p) = b p := if_pos (by omega)
      have hl2 : ∀ j : Int, p0 ≤ j → j < p + 1 → 97 ≤ b j ∧ b j ≤ 122 := fun j a c => by
        by_cases hj : j = p
        · rw [hj]; exact hd2
        · exact hl j a (by omega)
      have next : ∀ (l' : Int) (g14 : ab_H), g14 = ab_up g 4 2 (p + 1) → l' = pk (fun j => b (p0 + j) - 96) (if p + 1 - p0 ≤ 7 then (p + 1 - p0).toNat else 7) → ab_Rn m_To_readWord 2 [some (2, 4), some (1, l'), none, none, none] [] (K, S, g14, r) (ab_Qv K S P) := by
        intro l' g14 hg14 hl'
        have k : CKr g g14 := by rw [hg14]; exact CKr_up (by omega)
        exact ih (p + 1) l' g14 (TcV_k ht k) (by omega) (by omega) (by rw [hg14, up_s]) (by rw [hg14, up_k (by omega)]; exact h44) hl2 hl' (fun w g' r' hs hw ht => h w g' r' hs hw (TkC_k k ht))
      apply v_To_readWord_2 _ hr hK
      rw [ht.1, hp, h44, ht.2 p (by omega) (by omega)]
      refine And.intro (fun e => absurd e (by simp only [wr]; omega)) (fun _ => ⟨h40, by omega, ?_⟩)
      apply s_To_isLetter _ hr hK hbp
      rw [if_pos hd, hsg]
      refine ⟨rfl, rfl, And.intro (fun e => absurd e (by decide)) (fun _ => And.intro (fun e g14 hg14 => next l g14 hg14 ?_) (fun e => ⟨h40, by omega, fun g15 hg15 => next _ g15 hg15 ?_⟩))⟩
      · have h7 : 7 ≤ p - p0 := by simp only [wr] at e; omega
        rw [hlv, if_neg (by omega : ¬ p + 1 - p0 ≤ 7)]
        by_cases h8 : p - p0 ≤ 7
        · rw [if_pos h8, show (p - p0).toNat = 7 by omega]
        · rw [if_neg h8]
      · have h7 : p - p0 < 7 := by simp only [wr] at e; omega
        have hf : ∀ j : Int, 0 ≤ j → j < ((p - p0).toNat : Nat) → 1 ≤ b (p0 + j) - 96 ∧ b (p0 + j) - 96 ≤ 26 := fun j a c => by have := hl (p0 + j) (by omega) (by omega); omega
        rw [if_pos (by omega)] at hlv
        have h1 := pkw_lt (f := fun j => b (p0 + j) - 96) (p - p0).toNat hf
        have h2 := pk_nn (f := fun j => b (p0 + j) - 96) (p - p0).toNat hf
        have h3 := (pw_7 (m := (p - p0).toNat) (by omega)).2 (by omega)
        have hwr : wr (b p - 97 + 1) = b p - 96 := by simp only [wr]; omega
        rw [hwr, bit_lor5 l (b p - 96) (by omega) (by omega), if_pos (by omega), show (p + 1 - p0).toNat = (p - p0).toNat + 1 by omega]
        show 32 * l + (b p - 96) = 32 * pk (fun j => b (p0 + j) - 96) (p - p0).toNat + (b (p0 + ((p - p0).toNat : Int)) - 96)
        rw [← hlv, show p0 + ((p - p0).toNat : Int) = p by omega]
    · rw [if_neg hd] at es
      rw [es] at h
      obtain ⟨w, hw⟩ := WI_ex (b := b) (p := p0) (q := p) 17 0
      have hf := l_To_fin (S := S) (g := g) P hr hK hb (by omega) hl hlv h44 hp hw (fun g' r' hs ht => h w g' r' hs hw ht)
      apply v_To_readWord_2 _ hr hK
      rw [ht.1, hp, h44, ht.2 p (by omega) (by omega)]
      refine And.intro (fun e => absurd e (by simp only [wr]; omega)) (fun _ => ⟨h40, by omega, ?_⟩)
      apply s_To_isLetter _ hr hK hbp
      rw [if_neg hd]
      exact ⟨rfl, rfl, And.intro (fun _ => hf) (fun e => absurd rfl e)⟩
