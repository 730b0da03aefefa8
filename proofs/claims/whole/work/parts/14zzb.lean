/-! SPECS, part zzb: text, WORDS by their number. -/
def pk (f : Int → Int) : Nat → Int
  | 0 => 0
  | m + 1 => 32 * pk f m + f m
theorem pk_nn {f : Int → Int} : ∀ m : Nat, (∀ j : Int, 0 ≤ j → j < m → 1 ≤ f j ∧ f j ≤ 26) → 0 ≤ pk f m
  | 0, _ => Int.le_refl 0
  | m + 1, h => by
    have h1 := pk_nn m (fun j a b => h j a (by omega))
    have h2 := h m (by omega) (by omega)
    show 0 ≤ 32 * pk f m + f m
    omega
theorem pk_inj {f f' : Int → Int} : ∀ m m' : Nat, (∀ j : Int, 0 ≤ j → j < m → 1 ≤ f j ∧ f j ≤ 26) → (∀ j : Int, 0 ≤ j → j < m' → 1 ≤ f' j ∧ f' j ≤ 26) → pk f m = pk f' m' → m = m' ∧ ∀ j : Int, 0 ≤ j → j < m → f j = f' j
  | 0, 0, _, _, _ => ⟨rfl, fun j a b => by omega⟩
  | 0, m' + 1, _, h', he => by
    have h1 := pk_nn m' (fun j a b => h' j a (by omega))
    have h2 := h' m' (by omega) (by omega)
    have he' : 0 = 32 * pk f' m' + f' m' := he
    omega
  | m + 1, 0, h, _, he => by
    have h1 := pk_nn m (fun j a b => h j a (by omega))
    have h2 := h m (by omega) (by omega)
    have he' : 32 * pk f m + f m = 0 := he
    omega
  | m + 1, m' + 1, h, h', he => by
    have h2 := h m (by omega) (by omega)
    have h3 := h' m' (by omega) (by omega)
    have he' : 32 * pk f m + f m = 32 * pk f' m' + f' m' := he
    have hi := pk_inj m m' (fun j a b => h j a (by omega)) (fun j a b => h' j a (by omega)) (by omega)
    refine ⟨by omega, fun j a b => ?_⟩
    by_cases hj : j < m
    · exact hi.2 j a hj
    · have e : j = m := by omega
      rw [e]
      have : f' (m : Int) = f' (m' : Int) := by rw [hi.1]
      omega
theorem pk_ext {f f' : Int → Int} : ∀ m : Nat, (∀ j : Int, 0 ≤ j → j < m → f j = f' j) → pk f m = pk f' m
  | 0, _ => rfl
  | m + 1, h => by
    show 32 * pk f m + f m = 32 * pk f' m + f' m
    rw [pk_ext m (fun j a b => h j a (by omega)), h m (by omega) (by omega)]
/-- where the class's table has a WORD of the reference's -/
def cwl : List Nat := [6, 7, 8, 9, 10, 11, 12, 5, 13, 14, 15, 16, 0, 1, 2, 3, 4]
def cw (i : Nat) : Nat := (ab_nth cwl i).getD 17
/-- a WORD's number -/
def wkey (i : Nat) : Int := ((ab_nth ab_wt i).getD (0, 0, 0)).1
theorem wkey_tab : (List.range 17).all (fun i => decide (wkey (cw i) = pk (fun j => chs0 (wo i + j) - 96) (wo (i + 1) - 1 - wo i).toNat)) = true := by decide +kernel
theorem wkey_at {i : Nat} (hi : i < 17) : wkey (cw i) = pk (fun j => chs0 (wo i + j) - 96) (wo (i + 1) - 1 - wo i).toNat := by
  have h := List.all_eq_true.mp wkey_tab i (List.mem_range.mpr hi)
  exact of_decide_eq_true h
/-- letters are a WORD's when their number is -/
theorem WM_key {b : Int → Int} {p q : Int} {i : Nat} (hi : i < 17) (hpq : p ≤ q) (hl : ∀ j : Int, p ≤ j → j < q → 97 ≤ b j ∧ b j ≤ 122) : WM b p q i ↔ pk (fun j => b (p + j) - 96) (q - p).toNat = wkey (cw i) := by
  have ho := wo_at hi
  rw [wkey_at hi]
  constructor
  · intro h
    have e : (q - p).toNat = (wo (i + 1) - 1 - wo i).toNat := by have := h.1; omega
    rw [← e]
    exact pk_ext _ (fun j a c => by have := h.2 j a (by omega); show b (p + j) - 96 = chs0 (wo i + j) - 96; omega)
  · intro h
    have h1 := pk_inj _ _ (fun j a c => by have := hl (p + j) (by omega) (by omega); show 1 ≤ b (p + j) - 96 ∧ b (p + j) - 96 ≤ 26; omega) (fun j a c => by have := ho.2.2.2.2.2 (wo i + j) (by omega) (by omega); show 1 ≤ chs0 (wo i + j) - 96 ∧ chs0 (wo i + j) - 96 ≤ 26; omega) h
    refine ⟨by have := h1.1; omega, fun j a c => ?_⟩
    have h2 : b (p + j) - 96 = chs0 (wo i + j) - 96 := h1.2 j a (by omega)
    omega
theorem cw_tab : (List.range 17).all (fun i => decide (cw i < 17) && (List.range 17).all (fun j => decide (cw i = cw j → i = j)) && (List.range 17).any (fun j => decide (cw j = i))) = true := by decide +kernel
theorem cw_at {i : Nat} (hi : i < 17) : cw i < 17 ∧ ∃ j : Nat, j < 17 ∧ cw j = i := by
  have h := List.all_eq_true.mp cw_tab i (List.mem_range.mpr hi)
  simp only [Bool.and_eq_true, decide_eq_true_eq] at h
  obtain ⟨j, h1, h2⟩ := List.any_eq_true.mp h.2
  exact ⟨h.1.1, j, List.mem_range.mp h1, of_decide_eq_true h2⟩
