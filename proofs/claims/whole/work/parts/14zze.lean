/-! SPECS, part zze: text, the class's WORDS found. -/
theorem wkey_b_tab : (List.range 17).all (fun i => decide (0 ≤ wkey i) && decide (wkey i < 34359738368)) = true := by decide +kernel
theorem wkey_b {i : Nat} (hi : i < 17) : 0 ≤ wkey i ∧ wkey i < 34359738368 := by
  have h := List.all_eq_true.mp wkey_b_tab i (List.mem_range.mpr hi)
  simp only [Bool.and_eq_true, decide_eq_true_eq] at h
  exact h
theorem cmp_eq {x y : Int} (hx : 0 ≤ x ∧ x < 34359738368) (hy : 0 ≤ y ∧ y < 34359738368) : wr (ab_cmp x y) = wr 0 ↔ x = y := by
  unfold ab_cmp
  have e1 : wl x = x := by unfold wl; omega
  have e2 : wl y = y := by unfold wl; omega
  rw [e1, e2]
  by_cases h1 : x < y
  · rw [if_pos h1]; exact ⟨fun h => absurd h (by decide), fun h => by omega⟩
  · rw [if_neg h1]
    by_cases h2 : x = y
    · rw [if_pos h2]; exact ⟨fun _ => h2, fun _ => rfl⟩
    · rw [if_neg h2]; exact ⟨fun h => absurd h (by decide), fun h => absurd h h2⟩
theorem l_To_w74 {K : Int} {S : Nat} {l len : Int} (P : ab_H → ab_H → Prop) (hK : 186 ≤ K) (hl : 0 ≤ l ∧ l < 34359738368) : ∀ (m i : Nat) (g r : ab_H), SI r → m + i = 17 → (len ≤ 7 → ∀ j : Nat, i ≤ j → j < 17 → wkey j ≠ l) → (0 ≤ len ∧ len ≤ 900) → P g r → ab_Rn m_To_readWord 74 [some (2, 4), some (1, l), none, some (0, len), some (0, (i : Int))] [] (K, S, g, r) (ab_Qv K S P)
  | 0, i, g, r, hr, hm, hj, hlen, h => by
    apply v_To_readWord_74 _ hr hK
    exact And.intro (fun _ => h) (fun e => absurd e (by simp only [wr]; omega))
  | m + 1, i, g, r, hr, hm, hj, hlen, h => by
    apply v_To_readWord_74 _ hr hK
    refine And.intro (fun e => absurd e (by simp only [wr]; omega)) (fun _ => And.intro (fun _ => h) (fun e7 => ⟨by omega, ?_⟩))
    have h7 : len ≤ 7 := by simp only [wr] at e7; omega
    have ei : ((ab_nth ab_wt (-5 - (-5 - (i : Int))).toNat).getD (0, 0, 0)).1 = wkey i := by
      rw [show (-5 - (-5 - (i : Int))).toNat = i by omega]; rfl
    rw [ei]
    refine And.intro (fun _ => l_To_w74 P hK hl m (i + 1) g r hr (by omega) (fun a j b c => hj a j (by omega) c) hlen h) (fun e => absurd ((cmp_eq (wkey_b (by omega)) hl).mp e) (hj h7 i (Nat.le_refl _) (by omega)))
theorem l_To_w74h {K : Int} {S : Nat} {g r : ab_H} {l len : Int} {k : Nat} (P : ab_H → ab_H → Prop) (hr : SI r) (hK : 186 ≤ K) (hl : 0 ≤ l ∧ l < 34359738368) (hk : k < 17) (hkl : wkey k = l) (hlen : 0 ≤ len ∧ len ≤ 7) (h : P (ab_up g 4 3 1) (ab_up r 4 5 (-5 - k))) : ∀ (m i : Nat), m + i = 17 → i ≤ k → ab_Rn m_To_readWord 74 [some (2, 4), some (1, l), none, some (0, len), some (0, (i : Int))] [] (K, S, g, r) (ab_Qv K S P)
  | 0, i, hm, hi => by omega
  | m + 1, i, hm, hi => by
    apply v_To_readWord_74 _ hr hK
    refine And.intro (fun e => absurd e (by simp only [wr]; omega)) (fun _ => And.intro (fun e => absurd e (by simp only [wr]; omega)) (fun e7 => ⟨by omega, ?_⟩))
    have ei : ((ab_nth ab_wt (-5 - (-5 - (i : Int))).toNat).getD (0, 0, 0)).1 = wkey i := by
      rw [show (-5 - (-5 - (i : Int))).toNat = i by omega]; rfl
    rw [ei]
    refine And.intro (fun e => ?_) (fun e g2 hg2 => ⟨by omega, fun r4 hr4 => ?_⟩)
    · have hne : i ≠ k := fun hh => e ((cmp_eq (wkey_b (by omega)) hl).mpr (by rw [hh]; exact hkl))
      exact l_To_w74h P hr hK hl hk hkl hlen h m (i + 1) (by omega) (by omega)
    · have hik : i = k := wkey_inj (by omega) hk (by rw [(cmp_eq (wkey_b (by omega)) hl).mp e, hkl])
      have hr2 : SI r4 := by rw [hr4]; exact SI_up hr (by decide)
      refine l_To_w74 P hK hl m (i + 1) g2 r4 hr2 (by omega) (fun _ j a c hh => ?_) ⟨hlen.1, by omega⟩ ?_
      · have := wkey_inj c hk (by rw [hh, hkl])
        omega
      · rw [hg2, hr4, hik]; exact h
