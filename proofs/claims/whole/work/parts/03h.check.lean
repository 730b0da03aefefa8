theorem ab_mks : (List.range 245).all ab_mk = true := by decide +kernel
theorem ab_mkg : (List.range 245).all (fun k => (ab_mw k).all fun q => goodWord q.2) = true := by decide +kernel
set_option maxRecDepth 100000 in
theorem ab_mcs0 : (List.range' 0 40).map (fun k => (ab_mw k).map fun q => ab_gw q.1) = (List.range' 0 40).map (fun k => (ab_mw k).map fun q => some q.2) := rfl
set_option maxRecDepth 100000 in
theorem ab_mcs1 : (List.range' 40 40).map (fun k => (ab_mw k).map fun q => ab_gw q.1) = (List.range' 40 40).map (fun k => (ab_mw k).map fun q => some q.2) := rfl
set_option maxRecDepth 100000 in
theorem ab_mcs2 : (List.range' 80 40).map (fun k => (ab_mw k).map fun q => ab_gw q.1) = (List.range' 80 40).map (fun k => (ab_mw k).map fun q => some q.2) := rfl
set_option maxRecDepth 100000 in
theorem ab_mcs3 : (List.range' 120 40).map (fun k => (ab_mw k).map fun q => ab_gw q.1) = (List.range' 120 40).map (fun k => (ab_mw k).map fun q => some q.2) := rfl
set_option maxRecDepth 100000 in
theorem ab_mcs4 : (List.range' 160 40).map (fun k => (ab_mw k).map fun q => ab_gw q.1) = (List.range' 160 40).map (fun k => (ab_mw k).map fun q => some q.2) := rfl
set_option maxRecDepth 100000 in
theorem ab_mcs5 : (List.range' 200 40).map (fun k => (ab_mw k).map fun q => ab_gw q.1) = (List.range' 200 40).map (fun k => (ab_mw k).map fun q => some q.2) := rfl
set_option maxRecDepth 100000 in
theorem ab_mcs6 : (List.range' 240 5).map (fun k => (ab_mw k).map fun q => ab_gw q.1) = (List.range' 240 5).map (fun k => (ab_mw k).map fun q => some q.2) := rfl
set_option maxRecDepth 100000 in
theorem ab_mss : (List.range' 0 245).map ab_ms = (List.range' 0 245).map ab_ms2 := rfl
theorem ab_nth_lt {α : Type} : ∀ {l : List α} {i : Nat} {a : α}, ab_nth l i = some a → i < l.length := by
  intro l
  induction l with
  | nil => intro i a h; simp [ab_nth] at h
  | cons x t ih =>
    intro i a h
    cases i with
    | zero => simp
    | succ i => exact Nat.succ_lt_succ (ih h)
theorem ab_rg {p : Nat → Bool} {a n k : Nat} (h : (List.range' a n).all p = true) (h1 : a ≤ k) (h2 : k < a + n) : p k = true :=
  List.all_eq_true.mp h k (List.mem_range'_1.mpr ⟨h1, h2⟩)
theorem ab_rgm {α : Type} {p q : Nat → α} {a n k : Nat} (h : (List.range' a n).map p = (List.range' a n).map q) (h1 : a ≤ k) (h2 : k < a + n) : p k = q k := by
  have h3 := List.map_inj_left.mp h
  exact h3 k (List.mem_range'_1.mpr ⟨h1, h2⟩)
theorem ab_k247 {k i : Nat} {o : ab_O} (hn : ab_nth (ab_cod k) i = some o) : k < 247 := by
  rcases Nat.lt_or_ge k 247 with h | h
  · exact h
  · have : ab_cod k = [] := by
      unfold ab_cod
      cases h2 : ab_nth ab_codL k with
      | none => rfl
      | some c =>
        have h3 : ab_codL.length = 247 := by decide +kernel
        have h4 := ab_nth_lt h2
        rw [h3] at h4
        exact absurd h4 (by omega)
    rw [this] at hn; simp [ab_nth] at hn
theorem ab_ck_ok2 {k i : Nat} {o : ab_O} (hn : ab_nth (ab_cod k) i = some o) : (ab_ck k i && ab_ckw k i) = true ∧ ab_gwI k i = ab_ewI k i := by
  have hi := ab_nth_lt hn
  have hk := ab_k247 hn
  have g : ∀ {a n : Nat}, (List.range' a n).all (fun k => (List.range (ab_cod k).length).all (fun i => ab_ck k i && ab_ckw k i)) = true → (List.range' a n).map ab_gwM = (List.range' a n).map ab_ewM → a ≤ k → k < a + n → (ab_ck k i && ab_ckw k i) = true ∧ ab_gwI k i = ab_ewI k i := fun h h3 h1 h2 => ⟨List.all_eq_true.mp (ab_rg h h1 h2) i (List.mem_range.mpr hi), List.map_inj_left.mp (ab_rgm h3 h1 h2) i (List.mem_range.mpr hi)⟩
  rcases Nat.lt_or_ge k 7 with h0 | h0
  · exact g ab_ckg0 ab_cwg0 (by omega) (by omega)
  rcases Nat.lt_or_ge k 16 with h1 | h1
  · exact g ab_ckg1 ab_cwg1 (by omega) (by omega)
  rcases Nat.lt_or_ge k 23 with h2 | h2
  · exact g ab_ckg2 ab_cwg2 (by omega) (by omega)
  rcases Nat.lt_or_ge k 30 with h3 | h3
  · exact g ab_ckg3 ab_cwg3 (by omega) (by omega)
  rcases Nat.lt_or_ge k 37 with h4 | h4
  · exact g ab_ckg4 ab_cwg4 (by omega) (by omega)
  rcases Nat.lt_or_ge k 51 with h5 | h5
  · exact g ab_ckg5 ab_cwg5 (by omega) (by omega)
  rcases Nat.lt_or_ge k 59 with h6 | h6
  · exact g ab_ckg6 ab_cwg6 (by omega) (by omega)
  rcases Nat.lt_or_ge k 66 with h7 | h7
  · exact g ab_ckg7 ab_cwg7 (by omega) (by omega)
  rcases Nat.lt_or_ge k 78 with h8 | h8
  · exact g ab_ckg8 ab_cwg8 (by omega) (by omega)
  rcases Nat.lt_or_ge k 83 with h9 | h9
  · exact g ab_ckg9 ab_cwg9 (by omega) (by omega)
  rcases Nat.lt_or_ge k 84 with h10 | h10
  · exact g ab_ckg10 ab_cwg10 (by omega) (by omega)
  rcases Nat.lt_or_ge k 88 with h11 | h11
  · exact g ab_ckg11 ab_cwg11 (by omega) (by omega)
  rcases Nat.lt_or_ge k 96 with h12 | h12
  · exact g ab_ckg12 ab_cwg12 (by omega) (by omega)
  rcases Nat.lt_or_ge k 106 with h13 | h13
  · exact g ab_ckg13 ab_cwg13 (by omega) (by omega)
  rcases Nat.lt_or_ge k 110 with h14 | h14
  · exact g ab_ckg14 ab_cwg14 (by omega) (by omega)
  rcases Nat.lt_or_ge k 113 with h15 | h15
  · exact g ab_ckg15 ab_cwg15 (by omega) (by omega)
  rcases Nat.lt_or_ge k 116 with h16 | h16
  · exact g ab_ckg16 ab_cwg16 (by omega) (by omega)
  rcases Nat.lt_or_ge k 127 with h17 | h17
  · exact g ab_ckg17 ab_cwg17 (by omega) (by omega)
  rcases Nat.lt_or_ge k 137 with h18 | h18
  · exact g ab_ckg18 ab_cwg18 (by omega) (by omega)
  rcases Nat.lt_or_ge k 144 with h19 | h19
  · exact g ab_ckg19 ab_cwg19 (by omega) (by omega)
  rcases Nat.lt_or_ge k 151 with h20 | h20
  · exact g ab_ckg20 ab_cwg20 (by omega) (by omega)
  rcases Nat.lt_or_ge k 157 with h21 | h21
  · exact g ab_ckg21 ab_cwg21 (by omega) (by omega)
  rcases Nat.lt_or_ge k 163 with h22 | h22
  · exact g ab_ckg22 ab_cwg22 (by omega) (by omega)
  rcases Nat.lt_or_ge k 172 with h23 | h23
  · exact g ab_ckg23 ab_cwg23 (by omega) (by omega)
  rcases Nat.lt_or_ge k 181 with h24 | h24
  · exact g ab_ckg24 ab_cwg24 (by omega) (by omega)
  rcases Nat.lt_or_ge k 188 with h25 | h25
  · exact g ab_ckg25 ab_cwg25 (by omega) (by omega)
  rcases Nat.lt_or_ge k 200 with h26 | h26
  · exact g ab_ckg26 ab_cwg26 (by omega) (by omega)
  rcases Nat.lt_or_ge k 209 with h27 | h27
  · exact g ab_ckg27 ab_cwg27 (by omega) (by omega)
  rcases Nat.lt_or_ge k 213 with h28 | h28
  · exact g ab_ckg28 ab_cwg28 (by omega) (by omega)
  rcases Nat.lt_or_ge k 225 with h29 | h29
  · exact g ab_ckg29 ab_cwg29 (by omega) (by omega)
  rcases Nat.lt_or_ge k 236 with h30 | h30
  · exact g ab_ckg30 ab_cwg30 (by omega) (by omega)
  rcases Nat.lt_or_ge k 241 with h31 | h31
  · exact g ab_ckg31 ab_cwg31 (by omega) (by omega)
  rcases Nat.lt_or_ge k 246 with h32 | h32
  · exact g ab_ckg32 ab_cwg32 (by omega) (by omega)
  obtain rfl : k = 246 := by omega
  have hl9 : (ab_cod 246).length = 943 := by decide +kernel
  rw [hl9] at hi
  rcases Nat.lt_or_ge i 60 with h100 | h100
  · exact ⟨ab_rg ab_ckl0 (by omega) (by omega), ab_rgm ab_cwl0 (by omega) (by omega)⟩
  rcases Nat.lt_or_ge i 120 with h101 | h101
  · exact ⟨ab_rg ab_ckl1 (by omega) (by omega), ab_rgm ab_cwl1 (by omega) (by omega)⟩
  rcases Nat.lt_or_ge i 180 with h102 | h102
  · exact ⟨ab_rg ab_ckl2 (by omega) (by omega), ab_rgm ab_cwl2 (by omega) (by omega)⟩
  rcases Nat.lt_or_ge i 240 with h103 | h103
  · exact ⟨ab_rg ab_ckl3 (by omega) (by omega), ab_rgm ab_cwl3 (by omega) (by omega)⟩
  rcases Nat.lt_or_ge i 300 with h104 | h104
  · exact ⟨ab_rg ab_ckl4 (by omega) (by omega), ab_rgm ab_cwl4 (by omega) (by omega)⟩
  rcases Nat.lt_or_ge i 360 with h105 | h105
  · exact ⟨ab_rg ab_ckl5 (by omega) (by omega), ab_rgm ab_cwl5 (by omega) (by omega)⟩
  rcases Nat.lt_or_ge i 420 with h106 | h106
  · exact ⟨ab_rg ab_ckl6 (by omega) (by omega), ab_rgm ab_cwl6 (by omega) (by omega)⟩
  rcases Nat.lt_or_ge i 480 with h107 | h107
  · exact ⟨ab_rg ab_ckl7 (by omega) (by omega), ab_rgm ab_cwl7 (by omega) (by omega)⟩
  rcases Nat.lt_or_ge i 540 with h108 | h108
  · exact ⟨ab_rg ab_ckl8 (by omega) (by omega), ab_rgm ab_cwl8 (by omega) (by omega)⟩
  rcases Nat.lt_or_ge i 600 with h109 | h109
  · exact ⟨ab_rg ab_ckl9 (by omega) (by omega), ab_rgm ab_cwl9 (by omega) (by omega)⟩
  rcases Nat.lt_or_ge i 660 with h110 | h110
  · exact ⟨ab_rg ab_ckl10 (by omega) (by omega), ab_rgm ab_cwl10 (by omega) (by omega)⟩
  rcases Nat.lt_or_ge i 720 with h111 | h111
  · exact ⟨ab_rg ab_ckl11 (by omega) (by omega), ab_rgm ab_cwl11 (by omega) (by omega)⟩
  rcases Nat.lt_or_ge i 780 with h112 | h112
  · exact ⟨ab_rg ab_ckl12 (by omega) (by omega), ab_rgm ab_cwl12 (by omega) (by omega)⟩
  rcases Nat.lt_or_ge i 840 with h113 | h113
  · exact ⟨ab_rg ab_ckl13 (by omega) (by omega), ab_rgm ab_cwl13 (by omega) (by omega)⟩
  rcases Nat.lt_or_ge i 900 with h114 | h114
  · exact ⟨ab_rg ab_ckl14 (by omega) (by omega), ab_rgm ab_cwl14 (by omega) (by omega)⟩
  rcases Nat.lt_or_ge i 943 with h115 | h115
  · exact ⟨ab_rg ab_ckl15 (by omega) (by omega), ab_rgm ab_cwl15 (by omega) (by omega)⟩
  exact absurd hi (by omega)
theorem ab_nw_ok {k i : Nat} {o : ab_O} (hn : ab_nth (ab_cod k) i = some o) {q : Nat × Cond} (hq : q ∈ ab_nw k i o) : (goodWord q.2 = true ∧ q.2 ∈ ab_TB) ∨ (ab_isN q.2 = true ∧ q.2 ∈ ab_NW) := by
  obtain ⟨h1, h2⟩ := ab_ck_ok2 hn
  simp only [Bool.and_eq_true] at h1
  have h3 := h1.2
  unfold ab_ckw at h3
  rw [hn] at h3
  have h4 := List.all_eq_true.mp h3 q hq
  unfold ab_gwI ab_ewI at h2
  rw [hn] at h2
  have h5 : ab_gw q.1 = some q.2 := List.map_inj_left.mp h2 q hq
  simp only [Bool.or_eq_true] at h4
  rcases h4 with h4 | h4
  · exact Or.inl ⟨h4, ab_in_TB h5 h4⟩
  · exact Or.inr ⟨h4, ab_in_NW h5 h4⟩
theorem ab_mw_ok {k : Nat} (hk : k < 245) {q : Nat × Cond} (hq : q ∈ ab_mw k) : goodWord q.2 = true ∧ q.2 ∈ ab_TB := by
  have h1 := List.all_eq_true.mp (List.all_eq_true.mp ab_mkg k (List.mem_range.mpr hk)) q hq
  have h2 : (ab_mw k).map (fun q => ab_gw q.1) = (ab_mw k).map (fun q => some q.2) := by
    rcases Nat.lt_or_ge k 40 with h0 | h0
    · exact ab_rgm (p := fun k => (ab_mw k).map fun q => ab_gw q.1) (q := fun k => (ab_mw k).map fun q => some q.2) ab_mcs0 (by omega) (by omega)
    rcases Nat.lt_or_ge k 80 with h40 | h40
    · exact ab_rgm (p := fun k => (ab_mw k).map fun q => ab_gw q.1) (q := fun k => (ab_mw k).map fun q => some q.2) ab_mcs1 (by omega) (by omega)
    rcases Nat.lt_or_ge k 120 with h80 | h80
    · exact ab_rgm (p := fun k => (ab_mw k).map fun q => ab_gw q.1) (q := fun k => (ab_mw k).map fun q => some q.2) ab_mcs2 (by omega) (by omega)
    rcases Nat.lt_or_ge k 160 with h120 | h120
    · exact ab_rgm (p := fun k => (ab_mw k).map fun q => ab_gw q.1) (q := fun k => (ab_mw k).map fun q => some q.2) ab_mcs3 (by omega) (by omega)
    rcases Nat.lt_or_ge k 200 with h160 | h160
    · exact ab_rgm (p := fun k => (ab_mw k).map fun q => ab_gw q.1) (q := fun k => (ab_mw k).map fun q => some q.2) ab_mcs4 (by omega) (by omega)
    rcases Nat.lt_or_ge k 240 with h200 | h200
    · exact ab_rgm (p := fun k => (ab_mw k).map fun q => ab_gw q.1) (q := fun k => (ab_mw k).map fun q => some q.2) ab_mcs5 (by omega) (by omega)
    rcases Nat.lt_or_ge k 245 with h240 | h240
    · exact ab_rgm (p := fun k => (ab_mw k).map fun q => ab_gw q.1) (q := fun k => (ab_mw k).map fun q => some q.2) ab_mcs6 (by omega) (by omega)
    omega
  have h3 : ab_gw q.1 = some q.2 := List.map_inj_left.mp h2 q hq
  exact ⟨h1, ab_in_TB h3 h1⟩
theorem ab_mk_ok {k : Nat} (h : k < 245) : ab_mk k = true := List.all_eq_true.mp ab_mks k (List.mem_range.mpr h)
theorem ab_ms_ok {k : Nat} (h : k < 245) : ab_ms k = ab_ms2 k := ab_rgm ab_mss (by omega) (by omega)
theorem ab_ck_ok {k i : Nat} {o : ab_O} (hn : ab_nth (ab_cod k) i = some o) : ab_ck k i = true := by
  have h := (ab_ck_ok2 hn).1
  simp only [Bool.and_eq_true] at h
  exact h.1
