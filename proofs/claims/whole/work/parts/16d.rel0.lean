/-! THE START: class and reference, new, agree. -/
theorem Rel_new {g r : ab_H} (hRR : RelR r) (hwd : isWd (r 4 5)) (h3 : r 0 3 = 5) (h5 : r 0 5 = 23) (h6 : r 0 6 = 34)
    (hz : ∀ c j : Int, 0 ≤ c → c ≤ 160 → c ≠ 2 → c ≠ 5 → c ≠ 14 → c ≠ 57 → g c j = 0) (h2 : g 2 6 = 0 ∧ g 2 7 = -1) (ht : g 5 1 = 0 ∧ g 5 5 = 0 ∧ g 5 12 = 0) (h57 : g 57 1 = 0 ∧ g 57 2 = 20 ∧ g 57 3 = 3)
    (h161 : g 161 2 = 0 ∧ g 161 24 = 0 ∧ g 161 25 = -1 ∧ g 161 30 = 0 ∧ g 161 31 = 0 ∧ g 161 34 = -1 ∧ g 161 35 = 0) (h163 : g 163 0 = 0 ∧ g 163 1 = 0 ∧ g 163 4 = 0) (h168 : ∀ j : Int, 0 ≤ j → j < 14 → g 168 j = 0)
    (hs : g 174 1080 = 0 ∧ g 174 1081 = 0 ∧ g 174 1089 = 20 ∧ g 174 1090 = 3) (hty : ∀ j : Int, 1091 ≤ j → j < 1607 → g 174 j = 0) : Rel g r := by
  have s0 : ss g 1080 = 0 := by unfold ss; rw [cn_in (by omega) (by omega)]; exact hs.1
  have s1 : ss g 1081 = 0 := by unfold ss; rw [cn_in (by omega) (by omega)]; exact hs.2.1
  have s2 : ss g 1089 = 20 := by unfold ss; rw [cn_in (by omega) (by omega)]; exact hs.2.2.1
  have s3 : ss g 1090 = 3 := by unfold ss; rw [cn_in (by omega) (by omega)]; exact hs.2.2.2
  have s4 : ∀ j : Int, 1091 ≤ j → j < 1607 → ss g j = 0 := fun j a b => by unfold ss; rw [cn_in (by omega) (by omega)]; exact hty j a b
  obtain ⟨a1, a2, a3, a4, a5, a6, a7⟩ := h161
  obtain ⟨b1, b2, b3⟩ := h163
  have T0 : ∀ i : Int, 0 ≤ i → i < 14 → (tt g).1 i = 0 := fun i a b => h168 i a b
  refine ⟨hRR, ⟨⟨?_, ?_, ?_⟩, fun i a b => absurd b (by omega), ?_, ?_⟩, ⟨?_, ?_, ?_, ?_, ?_, ?_, ?_⟩, ⟨⟨?_, ?_, ?_, ?_, ?_, ?_, ?_, ?_⟩, ?_, ?_, ?_, ?_, ?_, ?_⟩, ⟨⟨?_, ?_, ?_⟩, fun j a b => absurd b (by omega), fun i j a b e => absurd e (by omega)⟩, ⟨⟨?_, Or.inl a5⟩, fun e => absurd e (by omega)⟩, a6, by rw [a7]; omega, hwd, ?_⟩
  · rw [hz 0 1 (by omega) (by omega) (by omega) (by omega) (by omega) (by omega), a1]
  · rw [a1]; omega
  · rw [a1]; omega
  · rw [h2.1, a2]
  · rw [h2.2, a3]
  · intro i a b
    rw [T0 i a b]
    exact ⟨⟨by omega, by omega⟩, fun k p q => absurd q (by omega)⟩
  · intro i a b
    rw [T0 i a b, h3]
    exact ⟨hz _ _ (by omega) (by omega) (by omega) (by omega) (by omega) (by omega), fun k p q => absurd q (by omega)⟩
  · rw [h3, b1]; exact ⟨ht.1, by omega, by omega⟩
  · intro i a b
    exact absurd b (by omega)
  · rw [h3, b2]; exact ⟨ht.2.1, by omega, by omega⟩
  · intro t a b
    exact absurd b (by omega)
  · rw [h3, b3]; exact ⟨ht.2.2, by omega, by omega⟩
  · rw [s0]; omega
  · rw [s0]; intro e a b; exact absurd b (by omega)
  · rw [s0]
    exact ⟨fun e a b => absurd b (by omega), fun e a b => absurd b (by omega)⟩
  · rw [s0]; intro e a b; exact absurd b (by omega)
  · rw [s2]; omega
  · rw [s3]; omega
  · rw [s0]
    exact ⟨s1, fun i a b => absurd b (by show ¬ i < 0; omega)⟩
  · exact TyOk_0 s4 (by rw [s0]; omega)
  · rw [s0, h5]
    refine ⟨hz _ _ (by omega) (by omega) (by omega) (by omega) (by omega) (by omega), by omega, fun e a b => absurd b (by omega), fun p a b => ?_⟩
    obtain rfl : p = 0 := by omega
    rw [hz _ _ (by omega) (by omega) (by omega) (by omega) (by omega) (by omega)]
    rfl
  · rw [s0]; intro e a b; exact absurd b (by omega)
  · rw [s2, s3]; exact ⟨h57.2.1, h57.2.2⟩
  · rw [s0]
    exact ⟨h57.1, fun i a b => absurd b (by show ¬ i < 0; omega)⟩
  · rw [s0]
    refine ⟨fun a p q => ⟨?_, ?_, ?_, ?_⟩, fun e p q => absurd q (by omega)⟩ <;> exact hz _ _ (by omega) (by omega) (by omega) (by omega) (by omega) (by omega)
  · refine ⟨fun t a b => ?_, fun e a b => ⟨?_, fun t p q => ?_⟩⟩
    · rw [hz _ _ (by omega) (by omega) (by omega) (by omega) (by omega) (by omega)]
      exact (s4 _ (by omega) (by omega)).symm
    · rw [hz _ _ (by omega) (by omega) (by omega) (by omega) (by omega) (by omega)]; omega
    · rw [hz _ _ (by omega) (by omega) (by omega) (by omega) (by omega) (by omega)]
      show bt 0 t = (if ss g (1091 + 129 * t + 9 + e) = 0 then 0 else 1)
      rw [if_pos (s4 _ (by omega) (by omega))]
      have h4 : t = 0 ∨ t = 1 ∨ t = 2 ∨ t = 3 := by omega
      rcases h4 with rfl | rfl | rfl | rfl <;> decide
  · rw [hz 0 14 (by omega) (by omega) (by omega) (by omega) (by omega) (by omega), a4]
  · rw [a4]; omega
  · rw [a4]; omega
  · rw [hz 0 17 (by omega) (by omega) (by omega) (by omega) (by omega) (by omega), a5]
  · rw [h6]
    exact hz _ _ (by omega) (by omega) (by omega) (by omega) (by omega) (by omega)
