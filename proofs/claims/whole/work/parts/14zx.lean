/-! SPECS, part zx: text, the reference's NAMES; its TOKENS whole. -/
theorem bit_shl5 (v : Int) (hv : 0 ≤ v ∧ v < 33554432) : ab_shl v 5 = 32 * v := by
  unfold ab_shl
  show (BitVec.ofInt 32 v <<< ((Int32.ofInt 5 &&& 31).toBitVec.smod 32)).toInt = _
  have e5 : ((Int32.ofInt 5 &&& 31).toBitVec.smod 32).toNat = 5 := rfl
  have h : (BitVec.ofInt 32 v <<< ((Int32.ofInt 5 &&& 31).toBitVec.smod 32)).toNat = 32 * v.toNat := by
    show (BitVec.ofInt 32 v <<< (((Int32.ofInt 5 &&& 31).toBitVec.smod 32).toNat)).toNat = _
    rw [e5, BitVec.toNat_shiftLeft, bit_nat, Nat.shiftLeft_eq]
    omega
  rw [BitVec.toInt_eq_toNat_of_lt (by rw [h]; omega), h]
  omega
theorem bit_or5 (v c : Int) (hv : 0 ≤ v ∧ v < 33554432) (hc : 0 ≤ c ∧ c < 32) : ab_or (32 * v) c = 32 * v + c := by
  unfold ab_or
  show (BitVec.ofInt 32 (32 * v) ||| BitVec.ofInt 32 c).toInt = _
  have h : (BitVec.ofInt 32 (32 * v) ||| BitVec.ofInt 32 c).toNat = 32 * v.toNat + c.toNat := by
    rw [BitVec.toNat_or, bit_nat, bit_nat]
    rw [show (32 * v % 4294967296).toNat = v.toNat <<< 5 by rw [Nat.shiftLeft_eq]; omega, show (c % 4294967296).toNat = c.toNat by omega]
    rw [← Nat.shiftLeft_add_eq_or_of_lt (by omega : c.toNat < 2 ^ 5), Nat.shiftLeft_eq]
    omega
  rw [BitVec.toInt_eq_toNat_of_lt (by rw [h]; omega), h]
  omega
def pw : Nat → Int
  | 0 => 1
  | m + 1 => 32 * pw m
/-- a NAME as a number -/
def nm (b : Int → Int) (p q : Int) : Nat → Nat → Int → Int
  | 0, _, v => v
  | m + 1, i, v => nm b p q m (i + 1) (32 * v + (if p + i < q then b (p + i) - 96 else 0))
theorem l_M_name5 {K : Int} {S : Nat} {r : ab_H} {b : Int → Int} {n p q : Int} (P : ab_H → ab_H → Prop) (hr : SI r) (hK : 186 ≤ K) (hb : TxB b n) (hpq : 0 ≤ p ∧ p ≤ q ∧ q ≤ n) (hl : ∀ j : Int, p ≤ j → j < q → 97 ≤ b j ∧ b j ≤ 122) : ∀ (m i : Nat) (v : Int) (g : ab_H), m + i = 6 → TxV g b n → g 161 19 = p → g 161 18 = q → g 161 21 = v → 0 ≤ v ∧ v < pw i → (∀ g' : ab_H, g' = ab_up g 161 21 (nm b p q m i v) ∨ (∀ c j : Int, g' c j = ab_up g 161 21 (nm b p q m i v) c j) → P g' r) → ab_Rn m_M_nameHere 5 [some (2, 161), some (0, (i : Int))] [] (K, S, g, r) (ab_Qv K S P)
  | 0, i, v, g, hm, ht, hp, hq, hv, hv2, h => by
    apply v_M_nameHere_5 _ hr hK
    refine And.intro (fun _ => h g (Or.inr (fun c j => ?_))) (fun e => absurd e (by simp only [wr]; omega))
    show g c j = ab_up g 161 21 v c j
    by_cases h1 : c = 161 ∧ j = 21
    · rw [h1.1, h1.2, up_s]; exact hv
    · unfold ab_up; rw [if_neg h1]
  | m + 1, i, v, g, hm, ht, hp, hq, hv, hv2, h => by
    have hn := hb.1
    have hb5 : v < 33554432 := by
      have hi : i = 0 ∨ i = 1 ∨ i = 2 ∨ i = 3 ∨ i = 4 ∨ i = 5 := by omega
      have hv3 := hv2.2
      rcases hi with e | e | e | e | e | e
      all_goals (rw [e] at hv3; simp only [pw] at hv3; omega)
    have step : ∀ (x : Int) (g1 : ab_H), (0 ≤ x ∧ x < 32) → x = (if p + i < q then b (p + i) - 96 else 0) → g1 = ab_up g 161 21 (ab_or (ab_shl (g 161 21) 5) x) → ab_Rn m_M_nameHere 5 [some (2, 161), some (0, (i : Int) + 1)] [] (K, S, g1, r) (ab_Qv K S P) := by
      intro x g1 hx1 hx2 hg1
      rw [hv, bit_shl5 v ⟨hv2.1, hb5⟩, bit_or5 v x ⟨hv2.1, hb5⟩ hx1] at hg1
      have k : KFr g g1 := by rw [hg1]; exact KFr_up (by omega)
      have hpw : 32 * v + x < pw (i + 1) := by show _ < 32 * pw i; omega
      refine l_M_name5 P hr hK hb hpq hl m (i + 1) (32 * v + x) g1 (by omega) (TxV_k ht k) (by rw [hg1, up_k (by omega)]; exact hp) (by rw [hg1, up_k (by omega)]; exact hq) (by rw [hg1, up_s]) ⟨by omega, hpw⟩ (fun g' hg' => h g' (Or.inr (fun c j => ?_)))
      have e : nm b p q (m + 1) i v = nm b p q m (i + 1) (32 * v + x) := by rw [hx2]; rfl
      rw [e]
      have e2 : ab_up g1 161 21 (nm b p q m (i + 1) (32 * v + x)) c j = ab_up g 161 21 (nm b p q m (i + 1) (32 * v + x)) c j := by
        by_cases h1 : c = 161 ∧ j = 21
        · rw [h1.1, h1.2, up_s, up_s]
        · unfold ab_up; rw [if_neg h1, if_neg h1, hg1]; unfold ab_up; rw [if_neg h1]
      rcases hg' with hg' | hg'
      · rw [hg']; exact e2
      · rw [hg' c j]; exact e2
    apply v_M_nameHere_5 _ hr hK
    rw [hq, hp]
    refine And.intro (fun e => absurd e (by simp only [wr]; omega)) (fun _ => And.intro (fun e g1 hg1 => step 0 g1 (by omega) (by rw [if_neg (by simp only [wr] at e; omega)]) hg1) (fun e => ⟨by simp only [wr] at e; omega, fun g1 hg1 => ?_⟩))
    have hlt : p + i < q := by simp only [wr] at e; omega
    have h1 := hl (p + i) (by omega) hlt
    rw [ht.2 (p + i) (by omega) (by omega)] at hg1
    exact step (b (p + i) - 97 + 1) g1 (by omega) (by rw [if_pos hlt]; omega) hg1
theorem s_M_nameHere {K : Int} {S : Nat} {g r : ab_H} {b : Int → Int} {n p q : Int} (P : ab_H → ab_H → Prop) (hr : SI r) (hK : 186 ≤ K) (hb : TxB b n) (ht : TxV g b n) (hp : g 161 19 = p) (hq : g 161 18 = q) (hpq : 0 ≤ p ∧ p ≤ q ∧ q ≤ n) (hl : ∀ j : Int, p ≤ j → j < q → 97 ≤ b j ∧ b j ≤ 122) (h : ∀ g' : ab_H, (∀ c j : Int, g' c j = ab_up g 161 21 (nm b p q 6 0 0) c j) → P g' r) : ab_RV m_M_nameHere [(2, 161)] K S g r P := by
  apply v_M_nameHere _ hr hK
  intro g1 hg1
  have k : KFr g g1 := by rw [hg1]; exact KFr_up (by omega)
  refine l_M_name5 P hr hK hb hpq hl 6 0 0 g1 rfl (TxV_k ht k) (by rw [hg1, up_k (by omega)]; exact hp) (by rw [hg1, up_k (by omega)]; exact hq) (by rw [hg1, up_s]) ⟨by omega, by show (0 : Int) < 1; omega⟩ (fun g' hg' => h g' (fun c j => ?_))
  have e2 : ab_up g1 161 21 (nm b p q 6 0 0) c j = ab_up g 161 21 (nm b p q 6 0 0) c j := by
    by_cases h1 : c = 161 ∧ j = 21
    · rw [h1.1, h1.2, up_s, up_s]
    · unfold ab_up; rw [if_neg h1, if_neg h1, hg1]; unfold ab_up; rw [if_neg h1]
  rcases hg' with hg' | hg'
  · rw [hg']; exact e2
  · rw [hg' c j]; exact e2
