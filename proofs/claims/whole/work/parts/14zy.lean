/-! SPECS, part zy: text, the reference's TOKENS whole. -/
theorem WI_in {b : Int → Int} {p q w : Int} : ∀ (m i : Nat), WI b p q m i w → w = -1 ∨ ((i : Int) ≤ w ∧ w < i + m)
  | 0, i, h => Or.inl h
  | m + 1, i, h => by
    rcases h with h | h
    · exact Or.inr (by omega)
    · rcases WI_in m (i + 1) h.2 with h2 | h2
      · exact Or.inl h2
      · exact Or.inr (by omega)
theorem WI_ex {b : Int → Int} {p q : Int} : ∀ (m i : Nat), ∃ w : Int, WI b p q m i w
  | 0, i => ⟨-1, rfl⟩
  | m + 1, i => by
    by_cases h : WM b p q i
    · exact ⟨i, Or.inl ⟨h, rfl⟩⟩
    · obtain ⟨w, hw⟩ := WI_ex (b := b) (p := p) (q := q) m (i + 1)
      exact ⟨w, Or.inr ⟨h, hw⟩⟩
/-- what letters are -/
def TkW (b : Int → Int) (p q w k v : Int) : Prop := (w ≠ -1 ∧ k = 0 ∧ v = w) ∨ (w = -1 ∧ q - p ≤ 6 ∧ k = 1 ∧ v = nm b p q 6 0 0) ∨ (w = -1 ∧ 6 < q - p ∧ k = 5 ∧ v = -1)
theorem l_M_token32 {K : Int} {S : Nat} {r : ab_H} {b : Int → Int} {n p0 : Int} (P : ab_H → ab_H → Prop) (hr : SI r) (hK : 186 ≤ K) (hb : TxB b n) (hp0 : 0 ≤ p0) : ∀ (m : Nat) (p : Int) (g : ab_H), TxV g b n → p0 ≤ p → p + m = n → g 161 18 = p → g 161 19 = p0 → (∀ j : Int, p0 ≤ j → j < p → 97 ≤ b j ∧ b j ≤ 122) → (∀ (w k v : Int) (g' : ab_H), WI b p0 (scan fS b n m p) 17 0 w → TkW b p0 (scan fS b n m p) w k v → KFr g g' → g' 161 19 = p0 → g' 161 18 = scan fS b n m p → g' 161 20 = k → g' 161 21 = v → P g' r) → ab_Rn m_M_token 32 [some (2, 161), none] [] (K, S, g, r) (ab_Qv K S P) := by
  -- where the letters end
  have fin : ∀ (p : Int) (g : ab_H), TxV g b n → p0 ≤ p → p ≤ n → g 161 18 = p → g 161 19 = p0 → (∀ j : Int, p0 ≤ j → j < p → 97 ≤ b j ∧ b j ≤ 122) → (∀ (w k v : Int) (g' : ab_H), WI b p0 p 17 0 w → TkW b p0 p w k v → KFr g g' → g' 161 19 = p0 → g' 161 18 = p → g' 161 20 = k → g' 161 21 = v → P g' r) → ¬ fS (hx b n p) = true → ab_Rn m_M_token 32 [some (2, 161), none] [] (K, S, g, r) (ab_Qv K S P) := by
    intro p g ht h0 hpn hp h19 hl h hns
    have hc := hx_in (p := p) hb (by omega)
    have hn := hb.1
    obtain ⟨w, hw⟩ := WI_ex (b := b) (p := p0) (q := p) 17 0
    have hwr := WI_in 17 0 hw
    apply v_M_token_32 _ hr hK
    apply s_M_here _ hr hK hb ht hp (by omega)
    refine ⟨rfl, rfl, ?_⟩
    apply s_M_isSmall _ hr hK hc
    rw [if_neg hns]
    refine ⟨rfl, rfl, And.intro (fun _ => ?_) (fun e => absurd rfl e)⟩
    apply s_M_wordHere _ hr hK hb ht h19 hp (by omega) hw
    refine ⟨rfl, rfl, fun g4 hg4 => ?_⟩
    have k4 : KFr g g4 := by rw [hg4]; exact KFr_up (by omega)
    have a21 : g4 161 21 = w := by rw [hg4, up_s]
    have a18 : g4 161 18 = p := by rw [hg4, up_k (by omega)]; exact hp
    have a19 : g4 161 19 = p0 := by rw [hg4, up_k (by omega)]; exact h19
    have up20 : ∀ (x : Int) (g5 : ab_H), g5 = ab_up g4 161 20 x → KFr g g5 ∧ g5 161 20 = x ∧ g5 161 18 = p ∧ g5 161 19 = p0 ∧ g5 161 21 = w := fun x g5 h5 => ⟨by rw [h5]; exact KFr_tr k4 (KFr_up (by omega)), by rw [h5, up_s], by rw [h5, up_k (by omega)]; exact a18, by rw [h5, up_k (by omega)]; exact a19, by rw [h5, up_k (by omega)]; exact a21⟩
    rw [a21, a18, a19]
    refine And.intro (fun e1 => And.intro (fun e2 g5 hg5 => ?_) (fun e2 g8 hg8 => ?_)) (fun e1 g11 hg11 => ?_)
    · obtain ⟨u1, u2, u3, u4, u5⟩ := up20 1 g5 hg5
      rw [u2]
      refine And.intro (fun e => absurd rfl e) (fun _ => ?_)
      apply s_M_nameHere _ hr hK hb (TxV_k ht u1) u4 u3 (by omega) hl
      intro g6 hg6
      refine ⟨rfl, h w 1 (nm b p0 p 6 0 0) g6 hw (Or.inr (Or.inl ⟨by simp only [wr] at e1; omega, by simp only [wr] at e2; omega, rfl, rfl⟩)) (KFr_tr u1 ⟨fun c a => funext fun j => by rw [hg6 c j, up_a a], fun j a => by rw [hg6, up_k (by omega)]⟩) ?_ ?_ ?_ ?_⟩
      · rw [hg6, up_k (by omega)]; exact u4
      · rw [hg6, up_k (by omega)]; exact u3
      · rw [hg6, up_k (by omega)]; exact u2
      · rw [hg6, up_s]
    · obtain ⟨u1, u2, u3, u4, u5⟩ := up20 5 g8 hg8
      rw [u2]
      exact And.intro (fun _ => h w 5 w g8 hw (Or.inr (Or.inr ⟨by simp only [wr] at e1; omega, by simp only [wr] at e2; omega, rfl, by simp only [wr] at e1; omega⟩)) u1 u4 u3 u2 u5) (fun e => absurd e (by decide))
    · obtain ⟨u1, u2, u3, u4, u5⟩ := up20 0 g11 hg11
      rw [u2]
      exact And.intro (fun _ => h w 0 w g11 hw (Or.inl ⟨by simp only [wr] at e1; omega, rfl, rfl⟩) u1 u4 u3 u2 u5) (fun e => absurd e (by decide))
  intro m
  induction m with
  | zero =>
    intro p g ht h0 hm hp h19 hl h
    exact fin p g ht h0 (by omega) hp h19 hl h (by rw [hx_no (by omega)]; decide)
  | succ m ih =>
    intro p g ht h0 hm hp h19 hl h
    have es : scan fS b n (m + 1) p = if fS (hx b n p) = true then scan fS b n m (p + 1) else p := rfl
    by_cases hd : fS (hx b n p) = true
    · rw [if_pos hd] at es
      rw [es] at h
      have hd2 : 97 ≤ hx b n p ∧ hx b n p ≤ 122 := of_decide_eq_true hd
      have hbp : hx b n p = b p := if_pos (by omega)
      have hc := hx_in (p := p) hb (by omega)
      apply v_M_token_32 _ hr hK
      apply s_M_here _ hr hK hb ht hp (by omega)
      refine ⟨rfl, rfl, ?_⟩
      apply s_M_isSmall _ hr hK hc
      rw [if_pos hd]
      refine ⟨rfl, rfl, And.intro (fun e => absurd e (by decide)) (fun _ g14 hg14 => ?_)⟩
      have k : KFr g g14 := by rw [hg14]; exact KFr_up (by omega)
      refine ih (p + 1) g14 (TxV_k ht k) (by omega) (by omega) (by rw [hg14, up_s, hp]) (by rw [hg14, up_k (by omega)]; exact h19) (fun j a c => ?_) (fun w k' v g' a b' c d e f u => h w k' v g' a b' (KFr_tr k c) d e f u)
      by_cases hj : j = p
      · rw [hj]; omega
      · exact hl j a (by omega)
    · rw [if_neg hd] at es
      rw [es] at h
      exact fin p g ht h0 (by omega) hp h19 hl h hd
