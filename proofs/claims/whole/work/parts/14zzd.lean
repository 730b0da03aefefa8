/-! SPECS, part zzd: text, the class's WORDS and NAMES. -/
theorem bit_nat64 (v : Int) : (BitVec.ofInt 64 v).toNat = (v % 18446744073709551616).toNat := by
  rw [BitVec.toNat_ofInt]
  rfl
theorem bit_lsh (v : Int) (k : Nat) (hk : k ≤ 30) (hv : 0 ≤ v ∧ v < 1073741824) : ab_lsh v (k : Int) = v * (2 ^ k : Nat) := by
  unfold ab_lsh
  show (BitVec.ofInt 64 v <<< (((Int32.ofInt (k : Int)).toInt64 &&& 63).toBitVec.smod 64)).toInt = _
  have e : (((Int32.ofInt (k : Int)).toInt64 &&& 63).toBitVec.smod 64).toNat = k := by
    have : k = 0 ∨ k = 1 ∨ k = 2 ∨ k = 3 ∨ k = 4 ∨ k = 5 ∨ k = 6 ∨ k = 7 ∨ k = 8 ∨ k = 9 ∨ k = 10 ∨ k = 11 ∨ k = 12 ∨ k = 13 ∨ k = 14 ∨ k = 15 ∨ k = 16 ∨ k = 17 ∨ k = 18 ∨ k = 19 ∨ k = 20 ∨ k = 21 ∨ k = 22 ∨ k = 23 ∨ k = 24 ∨ k = 25 ∨ k = 26 ∨ k = 27 ∨ k = 28 ∨ k = 29 ∨ k = 30 := by omega
    rcases this with h | h | h | h | h | h | h | h | h | h | h | h | h | h | h | h | h | h | h | h | h | h | h | h | h | h | h | h | h | h | h
    all_goals (subst h; rfl)
  have hp : (2 ^ k : Nat) ≤ 2 ^ 30 := Nat.pow_le_pow_right (by omega) hk
  have hm : v.toNat * 2 ^ k < 2 ^ 65 / 4 := by
    have h1 : v.toNat * 2 ^ k ≤ v.toNat * 2 ^ 30 := Nat.mul_le_mul_left _ hp
    have h2 : v.toNat * 2 ^ 30 < 1073741824 * 2 ^ 30 := Nat.mul_lt_mul_of_pos_right (by omega) (by decide)
    omega
  have h : (BitVec.ofInt 64 v <<< (((Int32.ofInt (k : Int)).toInt64 &&& 63).toBitVec.smod 64)).toNat = v.toNat * 2 ^ k := by
    show (BitVec.ofInt 64 v <<< ((((Int32.ofInt (k : Int)).toInt64 &&& 63).toBitVec.smod 64).toNat)).toNat = _
    rw [e, BitVec.toNat_shiftLeft, bit_nat64, Nat.shiftLeft_eq]
    rw [show (v % 18446744073709551616).toNat = v.toNat by omega]
    exact Nat.mod_eq_of_lt (by omega)
  rw [BitVec.toInt_eq_toNat_of_lt (by rw [h]; omega), h, Int.natCast_mul, show ((v.toNat : Nat) : Int) = v by omega]
theorem bit_lor5 (v c : Int) (hv : 0 ≤ v ∧ v < 1073741824) (hc : 0 ≤ c ∧ c < 32) : ab_lor (ab_lsh v 5) c = 32 * v + c := by
  have h5 := bit_lsh v 5 (by omega) (by omega)
  rw [show ((5 : Nat) : Int) = 5 from rfl] at h5
  rw [h5]
  unfold ab_lor
  show (BitVec.ofInt 64 (v * (2 ^ 5 : Nat)) ||| BitVec.ofInt 64 c).toInt = _
  have h : (BitVec.ofInt 64 (v * (2 ^ 5 : Nat)) ||| BitVec.ofInt 64 c).toNat = 32 * v.toNat + c.toNat := by
    rw [BitVec.toNat_or, bit_nat64, bit_nat64]
    rw [show (v * (2 ^ 5 : Nat) % 18446744073709551616).toNat = v.toNat <<< 5 by rw [Nat.shiftLeft_eq]; omega, show (c % 18446744073709551616).toNat = c.toNat by omega]
    rw [← Nat.shiftLeft_add_eq_or_of_lt (by omega : c.toNat < 2 ^ 5), Nat.shiftLeft_eq]
    omega
  rw [BitVec.toInt_eq_toNat_of_lt (by rw [h]; omega), h]
  omega
/-- no WORD, or the only one -/
theorem WI_spec {b : Int → Int} {p q w : Int} : ∀ (m i : Nat), WI b p q m i w → (w = -1 ∧ ∀ j : Nat, i ≤ j → j < i + m → ¬ WM b p q j) ∨ (∃ k : Nat, (i ≤ k ∧ k < i + m) ∧ w = k ∧ WM b p q k)
  | 0, i, h => Or.inl ⟨h, fun j a c => by omega⟩
  | m + 1, i, h => by
    rcases h with h | h
    · exact Or.inr ⟨i, by omega, h.2, h.1⟩
    · rcases WI_spec m (i + 1) h.2 with h2 | ⟨k, h2, h3, h4⟩
      · refine Or.inl ⟨h2.1, fun j a c => ?_⟩
        by_cases hj : j = i
        · rw [hj]; exact h.1
        · exact h2.2 j (by omega) (by omega)
      · exact Or.inr ⟨k, by omega, h3, h4⟩
theorem wkey_inj_tab : (List.range 17).all (fun i => (List.range 17).all (fun j => decide (wkey i = wkey j → i = j))) = true := by decide +kernel
theorem wkey_inj {i j : Nat} (hi : i < 17) (hj : j < 17) (h : wkey i = wkey j) : i = j := by
  have h1 := List.all_eq_true.mp wkey_inj_tab i (List.mem_range.mpr hi)
  have h2 := List.all_eq_true.mp h1 j (List.mem_range.mpr hj)
  exact of_decide_eq_true h2 h
theorem nm_pw {b : Int → Int} {p q : Int} : ∀ (m i : Nat) (v : Int), q ≤ p + i → nm b p q m i v = pw m * v
  | 0, i, v, _ => by show v = 1 * v; omega
  | m + 1, i, v, h => by
    show nm b p q m (i + 1) (32 * v + (if p + i < q then b (p + i) - 96 else 0)) = 32 * pw m * v
    rw [if_neg (by omega), nm_pw m (i + 1) _ (by omega), Int.add_zero, ← Int.mul_assoc, Int.mul_comm (pw m) 32]
theorem nm_pk {b : Int → Int} {p q : Int} : ∀ (d i m : Nat), p + i + d = q → d ≤ m → nm b p q m i (pk (fun j => b (p + j) - 96) i) = pw (m - d) * pk (fun j => b (p + j) - 96) (i + d)
  | 0, i, m, h, _ => by rw [nm_pw m i _ (by omega)]; rfl
  | d + 1, i, 0, _, h2 => by omega
  | d + 1, i, m + 1, h, h2 => by
    show nm b p q m (i + 1) (32 * pk (fun j => b (p + j) - 96) i + (if p + i < q then b (p + i) - 96 else 0)) = _
    rw [if_pos (by omega)]
    have e := nm_pk (b := b) (p := p) (q := q) d (i + 1) m (by omega) (by omega)
    rw [show m + 1 - (d + 1) = m - d by omega, show i + (d + 1) = i + 1 + d by omega]
    exact e
