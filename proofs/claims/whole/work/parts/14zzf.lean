/-! SPECS, part zzf: text, the class's WORDS read. -/
theorem pkw_lt {f : Int → Int} : ∀ m : Nat, (∀ j : Int, 0 ≤ j → j < m → 1 ≤ f j ∧ f j ≤ 26) → pk f m < pw m
  | 0, _ => by show (0 : Int) < 1; omega
  | m + 1, h => by
    have h1 := pkw_lt m (fun j a b => h j a (by omega))
    have h2 := h m (by omega) (by omega)
    show 32 * pk f m + f m < 32 * pw m
    omega
theorem pw_7 {m : Nat} (hm : m ≤ 7) : pw m ≤ 34359738368 ∧ (m ≤ 6 → pw m ≤ 1073741824) := by
  have h : m = 0 ∨ m = 1 ∨ m = 2 ∨ m = 3 ∨ m = 4 ∨ m = 5 ∨ m = 6 ∨ m = 7 := by omega
  rcases h with h | h | h | h | h | h | h | h
  all_goals (subst h; simp only [pw]; omega)
theorem pw_2 {m : Nat} (hm : m ≤ 6) : ((2 ^ (5 * m) : Nat) : Int) = pw m := by
  have h : m = 0 ∨ m = 1 ∨ m = 2 ∨ m = 3 ∨ m = 4 ∨ m = 5 ∨ m = 6 := by omega
  rcases h with h | h | h | h | h | h | h
  all_goals (subst h; rfl)
/-- what the class makes of letters -/
def TkC (b : Int → Int) (p q w : Int) (g g' r r' : ab_H) : Prop := (w = -1 → r' = r ∧ (q - p ≤ 6 → g' 4 3 = 2 ∧ g' 4 6 = nm b p q 6 0 0) ∧ (6 < q - p → g' 4 3 = 5)) ∧ (w ≠ -1 → g' 4 3 = 1 ∧ r' = ab_up r 4 5 (-5 - (cw w.toNat : Int))) ∧ CKr g g' ∧ g' 4 4 = p ∧ g' 4 2 = q
theorem l_To_fin {K : Int} {S : Nat} {g r : ab_H} {b : Int → Int} {n p q l w : Int} (P : ab_H → ab_H → Prop) (hr : SI r) (hK : 186 ≤ K) (hb : TxB b n) (hpq : 0 ≤ p ∧ p ≤ q ∧ q ≤ n) (hl : ∀ j : Int, p ≤ j → j < q → 97 ≤ b j ∧ b j ≤ 122) (hlv : l = pk (fun j => b (p + j) - 96) (if q - p ≤ 7 then (q - p).toNat else 7)) (h44 : g 4 4 = p) (h42 : g 4 2 = q) (hw : WI b p q 17 0 w) (h : ∀ g' r' : ab_H, SI r' → TkC b p q w g g' r r' → P g' r') : ((wr 6 < wr (q - p) → ∀ g1, g1 = ab_up g 4 3 5 → ((wr 6 < wr (q - p) → ∀ g2, g2 = ab_up g1 4 6 0 → ab_Rn m_To_readWord 74 [some (2, 4), some (1, l), none, some (0, q - p), some (0, 0)] [] (K, S, g2, r) (ab_Qv K S P)) ∧ (wr (q - p) ≤ wr 6 → ∀ g3, g3 = ab_up g1 4 6 (ab_lsh l (5 * (6 - (q - p)))) → ab_Rn m_To_readWord 74 [some (2, 4), some (1, l), none, some (0, q - p), some (0, 0)] [] (K, S, g3, r) (ab_Qv K S P)))) ∧ (wr (q - p) ≤ wr 6 → ∀ g4, g4 = ab_up g 4 3 2 → ((wr 6 < wr (q - p) → ∀ g5, g5 = ab_up g4 4 6 0 → ab_Rn m_To_readWord 74 [some (2, 4), some (1, l), none, some (0, q - p), some (0, 0)] [] (K, S, g5, r) (ab_Qv K S P)) ∧ (wr (q - p) ≤ wr 6 → ∀ g6, g6 = ab_up g4 4 6 (ab_lsh l (5 * (6 - (q - p)))) → ab_Rn m_To_readWord 74 [some (2, 4), some (1, l), none, some (0, q - p), some (0, 0)] [] (K, S, g6, r) (ab_Qv K S P))))) := by
  have hn := hb.1
  have hf : ∀ m : Nat, (m : Int) ≤ q - p → ∀ j : Int, 0 ≤ j → j < m → 1 ≤ b (p + j) - 96 ∧ b (p + j) - 96 ≤ 26 := fun m hm j a c => by have := hl (p + j) (by omega) (by omega); omega
  have hlb : 0 ≤ l ∧ l < 34359738368 := by
    by_cases h7 : q - p ≤ 7
    · rw [if_pos h7] at hlv
      have h1 := pkw_lt (f := fun j => b (p + j) - 96) (q - p).toNat (hf (q - p).toNat (by omega))
      have h2 := pk_nn (f := fun j => b (p + j) - 96) (q - p).toNat (hf (q - p).toNat (by omega))
      have h3 := (pw_7 (m := (q - p).toNat) (by omega)).1
      omega
    · rw [if_neg h7] at hlv
      have h1 := pkw_lt (f := fun j => b (p + j) - 96) 7 (hf 7 (by omega))
      have h2 := pk_nn (f := fun j => b (p + j) - 96) 7 (hf 7 (by omega))
      have h3 := (pw_7 (m := 7) (by omega)).1
      omega
  have go : ∀ g2 : ab_H, CKr g g2 → g2 4 4 = p → g2 4 2 = q → (q - p ≤ 6 → g2 4 3 = 2 ∧ g2 4 6 = nm b p q 6 0 0) → (6 < q - p → g2 4 3 = 5) → ab_Rn m_To_readWord 74 [some (2, 4), some (1, l), none, some (0, q - p), some (0, 0)] [] (K, S, g2, r) (ab_Qv K S P) := by
    intro g2 k2 a4 a2 n1 n2
    rcases WI_spec 17 0 hw with ⟨w1, w2⟩ | ⟨k, k1, w1, w2⟩
    · refine l_To_w74 P hK hlb 17 0 g2 r hr rfl (fun h7 j _ hj hh => ?_) (by omega) (h g2 r hr ⟨fun _ => ⟨rfl, n1, n2⟩, fun hne => absurd w1 hne, k2, a4, a2⟩)
      obtain ⟨i, hi, hij⟩ := (cw_at hj).2
      rw [if_pos h7] at hlv
      exact w2 i (by omega) (by omega) ((WM_key hi hpq.2.1 hl).mpr (by rw [← hlv, hij, hh]))
    · have hk := wo_at (i := k) (by omega)
      have hlen : q - p ≤ 7 := by have := w2.1; omega
      rw [if_pos hlen] at hlv
      have hkey : wkey (cw k) = l := by rw [hlv]; exact ((WM_key (by omega) hpq.2.1 hl).mp w2).symm
      refine l_To_w74h (k := cw k) P hr hK hlb (cw_at (by omega)).1 hkey (by omega) (h _ _ (SI_up hr (by decide)) ⟨fun hne => by omega, fun _ => ⟨up_s, by rw [w1]; rfl⟩, CKr_tr k2 (CKr_up (by omega)), ?_, ?_⟩) 17 0 rfl (by omega)
      · rw [up_k (by omega)]; exact a4
      · rw [up_k (by omega)]; exact a2
  have two : ∀ (x y : Int) (g1 g2 : ab_H), g1 = ab_up g 4 3 x → g2 = ab_up g1 4 6 y → CKr g g2 ∧ g2 4 4 = p ∧ g2 4 2 = q ∧ g2 4 3 = x ∧ g2 4 6 = y := fun x y g1 g2 h1 h2 => ⟨by rw [h2, h1]; exact CKr_tr (CKr_up (by omega)) (CKr_up (by omega)), by rw [h2, up_k (by omega), h1, up_k (by omega)]; exact h44, by rw [h2, up_k (by omega), h1, up_k (by omega)]; exact h42, by rw [h2, up_k (by omega), h1, up_s], by rw [h2, up_s]⟩
  refine And.intro (fun e g1 hg1 => And.intro (fun _ g2 hg2 => ?_) (fun e2 => absurd e2 (by omega))) (fun e g4 hg4 => And.intro (fun e2 => absurd e (by omega)) (fun _ g6 hg6 => ?_))
  · obtain ⟨u1, u2, u3, u4, u5⟩ := two _ _ g1 g2 hg1 hg2
    exact go g2 u1 u2 u3 (fun h6 => by simp only [wr] at e; omega) (fun _ => u4)
  · obtain ⟨u1, u2, u3, u4, u5⟩ := two _ _ g4 g6 hg4 hg6
    have h6 : q - p ≤ 6 := by simp only [wr] at e; omega
    refine go g6 u1 u2 u3 (fun _ => ⟨u4, ?_⟩) (fun hh => by omega)
    rw [if_pos (by omega)] at hlv
    have h1 := pkw_lt (f := fun j => b (p + j) - 96) (q - p).toNat (hf (q - p).toNat (by omega))
    have h3 := (pw_7 (m := (q - p).toNat) (by omega)).2 (by omega)
    have hs := bit_lsh l (5 * (6 - (q - p).toNat)) (by omega) (by omega)
    have he : ((5 * (6 - (q - p).toNat) : Nat) : Int) = 5 * (6 - (q - p)) := by omega
    rw [he] at hs
    have hn2 := nm_pk (b := b) (p := p) (q := q) (q - p).toNat 0 6 (by omega) (by omega)
    have hz : nm b p q 6 0 0 = pw (6 - (q - p).toNat) * pk (fun j => b (p + j) - 96) (0 + (q - p).toNat) := hn2
    rw [u5, hs, pw_2 (by omega), hz, Nat.zero_add, ← hlv, Int.mul_comm]
