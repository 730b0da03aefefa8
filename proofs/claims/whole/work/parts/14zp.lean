/-! SPECS, part zp: bits. -/
theorem bit_bv (v : Int) : (Int32.ofInt v).toBitVec = BitVec.ofInt 32 v := rfl
theorem bit_nat (v : Int) : (BitVec.ofInt 32 v).toNat = (v % 4294967296).toNat := by
  rw [BitVec.toNat_ofInt]
  rfl
theorem bit_and255 (y : Int) : ab_and y 255 = y % 256 := by
  unfold ab_and
  show (BitVec.ofInt 32 y &&& BitVec.ofInt 32 255).toInt = _
  have h : (BitVec.ofInt 32 y &&& BitVec.ofInt 32 255).toNat = (y % 4294967296).toNat % 256 := by
    rw [BitVec.toNat_and, bit_nat]
    show (y % 4294967296).toNat &&& (2 ^ 8 - 1) = _
    rw [Nat.and_two_pow_sub_one_eq_mod]
  rw [BitVec.toInt_eq_toNat_of_lt (by rw [h]; omega), h]
  omega
theorem bit_andmax (y : Int) : ab_and y 2147483647 = y % 2147483648 := by
  unfold ab_and
  show (BitVec.ofInt 32 y &&& BitVec.ofInt 32 2147483647).toInt = _
  have h : (BitVec.ofInt 32 y &&& BitVec.ofInt 32 2147483647).toNat = (y % 4294967296).toNat % 2147483648 := by
    rw [BitVec.toNat_and, bit_nat]
    show (y % 4294967296).toNat &&& (2 ^ 31 - 1) = _
    rw [Nat.and_two_pow_sub_one_eq_mod]
  rw [BitVec.toInt_eq_toNat_of_lt (by rw [h]; omega), h]
  omega
theorem bit_toInt (v : Int) : (BitVec.ofInt 32 v).toInt = wr v := by
  have := ab_i32 v
  exact this
theorem bit_shr (v : Int) (k : Nat) (hk : k < 32) : ab_shr v (k : Int) = wr v / (2 ^ k : Nat) := by
  unfold ab_shr
  show ((BitVec.ofInt 32 v).sshiftRight' ((Int32.ofInt (k : Int) &&& 31).toBitVec.smod 32)).toInt = _
  have e : ((Int32.ofInt (k : Int) &&& 31).toBitVec.smod 32).toNat = k := by
    have : k = 0 ∨ k = 1 ∨ k = 2 ∨ k = 3 ∨ k = 4 ∨ k = 5 ∨ k = 6 ∨ k = 7 ∨ k = 8 ∨ k = 9 ∨ k = 10 ∨ k = 11 ∨ k = 12 ∨ k = 13 ∨ k = 14 ∨ k = 15 ∨ k = 16 ∨ k = 17 ∨ k = 18 ∨ k = 19 ∨ k = 20 ∨ k = 21 ∨ k = 22 ∨ k = 23 ∨ k = 24 ∨ k = 25 ∨ k = 26 ∨ k = 27 ∨ k = 28 ∨ k = 29 ∨ k = 30 ∨ k = 31 := by omega
    rcases this with h | h | h | h | h | h | h | h | h | h | h | h | h | h | h | h | h | h | h | h | h | h | h | h | h | h | h | h | h | h | h | h
    all_goals (subst h; rfl)
  show ((BitVec.ofInt 32 v).sshiftRight (((Int32.ofInt (k : Int) &&& 31).toBitVec.smod 32).toNat)).toInt = _
  rw [e, BitVec.toInt_sshiftRight, Int.shiftRight_eq_div_pow, bit_toInt]
theorem bit_i2b (x : Int) : ab_i2b x = (x + 128) % 256 - 128 := by
  unfold ab_i2b
  rw [Int8.toInt_toInt32, Int32.toInt_toInt8, ab_i32]
  rw [Int.bmod_def]
  unfold wr
  split <;> omega
theorem bit_ush (v : Int) (k : Nat) (hk : k < 32) : ab_ush v (k : Int) = wr ((v % 4294967296) / (2 ^ k : Nat)) := by
  unfold ab_ush
  have e : ((Int32.ofInt (k : Int)).toUInt32 &&& Int32.toUInt32 31).toNat = k := by
    have : k = 0 ∨ k = 1 ∨ k = 2 ∨ k = 3 ∨ k = 4 ∨ k = 5 ∨ k = 6 ∨ k = 7 ∨ k = 8 ∨ k = 9 ∨ k = 10 ∨ k = 11 ∨ k = 12 ∨ k = 13 ∨ k = 14 ∨ k = 15 ∨ k = 16 ∨ k = 17 ∨ k = 18 ∨ k = 19 ∨ k = 20 ∨ k = 21 ∨ k = 22 ∨ k = 23 ∨ k = 24 ∨ k = 25 ∨ k = 26 ∨ k = 27 ∨ k = 28 ∨ k = 29 ∨ k = 30 ∨ k = 31 := by omega
    rcases this with h | h | h | h | h | h | h | h | h | h | h | h | h | h | h | h | h | h | h | h | h | h | h | h | h | h | h | h | h | h | h | h
    all_goals (subst h; rfl)
  have h1 : ((Int32.ofInt v).toUInt32 >>> ((Int32.ofInt (k : Int)).toUInt32 &&& Int32.toUInt32 31)).toNat = (v % 4294967296).toNat / 2 ^ k := by
    rw [UInt32.toNat_shiftRight, e, Nat.mod_eq_of_lt hk, Nat.shiftRight_eq_div_pow]
    have : (Int32.ofInt v).toUInt32.toNat = (v % 4294967296).toNat := bit_nat v
    rw [this]
  have h2 : ∀ u : UInt32, u.toInt32.toInt = wr (u.toNat : Int) := by
    intro u
    show u.toBitVec.toInt = _
    rw [BitVec.toInt_eq_toNat_bmod]
    show ((u.toNat : Int)).bmod (2 ^ 32) = _
    rw [Int.bmod_def]
    unfold wr
    split <;> omega
  rw [h2, h1]
  congr 1
  rw [Int.natCast_ediv]
  congr 1
  omega
theorem bit_max (x y : Int) : ab_max x y = if wr x < wr y then y else x := rfl
/-- a byte of four: what the class keeps, what the reference keeps -/
theorem byte_c (v : Int) (k : Nat) (hk : k = 0 ∨ k = 8 ∨ k = 16 ∨ k = 24) : (-128 ≤ ab_i2b (ab_i2b (ab_ush v (k : Int))) ∧ ab_i2b (ab_i2b (ab_ush v (k : Int))) < 128) ∧ ab_and (ab_shr v (k : Int)) 255 = ab_i2b (ab_i2b (ab_ush v (k : Int))) % 256 := by
  rw [bit_i2b, bit_i2b, bit_and255, bit_shr v k (by omega), bit_ush v k (by omega)]
  unfold wr
  rcases hk with h | h | h | h
  · subst h
    show (_ ∧ _) ∧ _ / ((1 : Nat) : Int) % 256 = _
    simp only [show ((2 ^ 0 : Nat) : Int) = 1 from rfl, show ((1 : Nat) : Int) = 1 from rfl]
    omega
  · subst h
    simp only [show ((2 ^ 8 : Nat) : Int) = 256 from rfl]
    omega
  · subst h
    simp only [show ((2 ^ 16 : Nat) : Int) = 65536 from rfl]
    omega
  · subst h
    simp only [show ((2 ^ 24 : Nat) : Int) = 16777216 from rfl]
    omega
theorem rem4_c : (List.range 20).all (fun k => decide (ab_rem k 4 = (k : Int) % 4)) = true := by decide +kernel
theorem rem4 {k : Int} (h : 0 ≤ k ∧ k < 20) : ab_rem k 4 = k % 4 := by
  have h1 := List.all_eq_true.mp rem4_c k.toNat (List.mem_range.mpr (by omega))
  simp only [decide_eq_true_eq, show ((k.toNat : Nat) : Int) = k by omega] at h1
  exact h1
/-- the next number, what is drawn -/
theorem draw_in {x b : Int} (hx : 0 ≤ x ∧ x < 2147483648) (hb : 0 < b ∧ b ≤ 1000) : 0 ≤ ab_rem (ab_shr x 16) b ∧ ab_rem (ab_shr x 16) b < b := by
  have h1 : ab_shr x 16 = x / 65536 := by
    have := bit_shr x 16 (by omega)
    rw [wr_of (by omega) (by omega)] at this
    exact this
  have h2 : 0 ≤ x / 65536 ∧ x / 65536 < 32768 := by omega
  rw [h1]
  generalize x / 65536 = y at h2
  have m1 : Int32.minValue.toInt = -2147483648 := rfl
  have m2 : Int32.maxValue.toInt = 2147483647 := rfl
  have h3 : ab_rem y b = y - (y.tdiv b) * b := by
    unfold ab_rem
    have e : (Int32.ofInt y - Int32.ofInt y / Int32.ofInt b * Int32.ofInt b) = Int32.ofInt (y - y.tdiv b * b) := by
      rw [Int32.ofInt_sub, Int32.ofInt_mul, Int32.ofInt_tdiv (by rw [m1]; omega) (by rw [m2]; omega) (by rw [m1]; omega) (by rw [m2]; omega)]
    rw [e, ab_i32]
    have h4 := Int.tmod_def y b
    have h5 := Int.tmod_nonneg b h2.1
    have h6 := Int.tmod_lt_of_pos y hb.1
    rw [Int.mul_comm] at h4
    rw [wr_of (by omega) (by omega)]
  rw [h3]
  have h4 := Int.tmod_def y b
  have h5 := Int.tmod_nonneg b h2.1
  have h6 := Int.tmod_lt_of_pos y hb.1
  rw [Int.mul_comm] at h4
  omega
