/-! SPECS, part w: what may change without the relation's change; the class's small ones. -/
def Scr (g g' r : ab_H) : Prop :=
 (∀ c j : Int, c ≤ 160 → ¬ (51 ≤ c ∧ c ≤ 56) → ¬ (59 ≤ c ∧ c ≤ 60) → c ≠ 64 → ¬ (r 0 6 ≤ c ∧ c ≤ r 0 6 + 10 ∧ (c ≠ r 0 6 + 10 ∨ j ≠ 0)) → g' c j = g c j) ∧ (∀ c : Int, 162 ≤ c → c ≤ 173 → g' c = g c) ∧ g' 176 = g 176 ∧ g' 177 = g 177 ∧ ss g' = ss g ∧ (∀ j : Int, j ≠ 0 → j ≠ 32 → j ≠ 35 → j ≠ 41 → j ≠ 42 → j ≠ 43 → j ≠ 45 → g' 161 j = g 161 j) ∧ (-1 ≤ g' 161 35 ∧ g' 161 35 ≤ 7)
theorem Scr_tr {g g1 g2 r : ab_H} (h : Scr g g1 r) (h2 : Scr g1 g2 r) : Scr g g2 r :=
  ⟨fun c j a b d e f => by rw [h2.1 c j a b d e f, h.1 c j a b d e f], fun c a b => by rw [h2.2.1 c a b, h.2.1 c a b], by rw [h2.2.2.1, h.2.2.1], by rw [h2.2.2.2.1, h.2.2.2.1], by rw [h2.2.2.2.2.1, h.2.2.2.2.1], fun j a b c d e f k => by rw [h2.2.2.2.2.2.1 j a b c d e f k, h.2.2.2.2.2.1 j a b c d e f k], h2.2.2.2.2.2.2⟩
theorem Scr_rfl {g r : ab_H} (h : Rel g r) : Scr g g r := ⟨fun _ _ _ _ _ _ _ => rfl, fun _ _ _ => rfl, rfl, rfl, rfl, fun _ _ _ _ _ _ _ _ => rfl, h.2.2.2.2.2.2.2.1⟩
theorem Scr_tt {g g' r : ab_H} (h : Scr g g' r) : tt g' = tt g := by
  unfold tt
  rw [h.2.1 168 (by omega) (by omega), h.2.1 169 (by omega) (by omega), h.2.1 170 (by omega) (by omega), h.2.1 171 (by omega) (by omega)]
theorem MkV_mono {g g' : ab_H} {M : Int} {x : Int → Int} (h : MkV g M x) (hf : ∀ c i : Int, M ≤ c → c ≤ M + 3 → g' c i = g c i) : MkV g' M x :=
  ⟨by rw [hf _ _ (by omega) (by omega)]; exact h.1, by rw [hf _ _ (by omega) (by omega)]; exact h.2.1, by rw [hf _ _ (by omega) (by omega)]; exact h.2.2.1, TaP_mono h.2.2.2 (fun c i a b => hf c i (by omega) (by omega))⟩
theorem Rel_scr {g g' r : ab_H} (R : Rel g r) (h : Scr g g' r) : Rel g' r := by
  have e1 := h.1
  have e2 := h.2.1
  have e6 := h.2.2.2.2.2.1
  have hss := h.2.2.2.2.1
  have htt := Scr_tt h
  have hr0 := R.1
  have hr5 := hr0.2.2.1
  have hr3 := hr0.2.1
  have hsj : ∀ j : Int, sj g' j = sj g j := fun j => by unfold sj; rw [h.2.2.2.1]
  have hsi : si g' = si g := by unfold si; rw [h.2.2.1]
  refine ⟨R.1, ?_, ?_, ?_, ?_, ?_, ?_, h.2.2.2.2.2.2, ⟨R.2.2.2.2.2.2.2.2.1, by rw [e1 (r 0 6 + 10) 0 (by omega) (by omega) (by omega) (by omega) (by omega)]; exact R.2.2.2.2.2.2.2.2.2⟩⟩
  · have h1 := R.2.1
    refine ⟨?_, fun i a b => ?_, ?_, ?_⟩
    · rw [e1 0 1 (by omega) (by omega) (by omega) (by omega) (by omega), e6 2 (by omega) (by omega) (by omega) (by omega) (by omega) (by omega) (by omega)]; exact h1.1
    · rw [e6 2 (by omega) (by omega) (by omega) (by omega) (by omega) (by omega) (by omega)] at b
      rw [e1 1 i (by omega) (by omega) (by omega) (by omega) (by omega), e2 162 (by omega) (by omega)]; exact h1.2.1 i a b
    · rw [e1 2 6 (by omega) (by omega) (by omega) (by omega) (by omega), e6 24 (by omega) (by omega) (by omega) (by omega) (by omega) (by omega) (by omega)]; exact h1.2.2.1
    · rw [e1 2 7 (by omega) (by omega) (by omega) (by omega) (by omega), e6 25 (by omega) (by omega) (by omega) (by omega) (by omega) (by omega) (by omega)]; exact h1.2.2.2
  · have h1 := R.2.2.1
    have f : ∀ c j : Int, r 0 3 ≤ c → c ≤ r 0 3 + 8 → g' c j = g c j := fun c j a b => e1 c j (by omega) (by omega) (by omega) (by omega) (by omega)
    refine ⟨by rw [htt]; exact h1.1, by rw [htt]; exact TeV_mono h1.2.1 f, ?_, ?_, ?_, ?_, ?_⟩
    · rw [f _ _ (by omega) (by omega), e2 163 (by omega) (by omega)]; exact h1.2.2.1
    · intro i a b
      rw [e2 163 (by omega) (by omega)] at b
      rw [f (r 0 3 + 1) i (by omega) (by omega), e2 164 (by omega) (by omega)]; exact h1.2.2.2.1 i a b
    · rw [f _ _ (by omega) (by omega), e2 163 (by omega) (by omega)]; exact h1.2.2.2.2.1
    · intro i a b
      rw [e2 163 (by omega) (by omega)] at b
      rw [f (r 0 3 + 2) i (by omega) (by omega), f (r 0 3 + 3) i (by omega) (by omega), f (r 0 3 + 4) i (by omega) (by omega), e2 165 (by omega) (by omega), e2 166 (by omega) (by omega), e2 167 (by omega) (by omega)]; exact h1.2.2.2.2.2.1 i a b
    · rw [f _ _ (by omega) (by omega), e2 163 (by omega) (by omega)]; exact h1.2.2.2.2.2.2
  · have h1 := R.2.2.2.1
    have f : ∀ c j : Int, r 0 5 ≤ c → c ≤ r 0 5 + 10 → g' c j = g c j := fun c j a b => e1 c j (by omega) (by omega) (by omega) (by omega) (by omega)
    unfold RelS LL BB
    rw [htt, hss, e2 167 (by omega) (by omega), e2 163 (by omega) (by omega)]
    refine ⟨h1.1, LgV_mono h1.2.1 f, LgL_mono h1.2.2.1 f, ?_, ShV_mono h1.2.2.2.2.1 (fun c i a b => e1 c i (by omega) (by omega) (by omega) (by omega) (by omega)), StV_mono h1.2.2.2.2.2.1 (fun c i a b => e1 c i (by omega) (by omega) (by omega) (by omega) (by omega)), TaP_mono h1.2.2.2.2.2.2 (fun c i a b => e1 c i (by omega) (by omega) (by omega) (by omega) (by omega))⟩
    rw [e1 57 2 (by omega) (by omega) (by omega) (by omega) (by omega), e1 57 3 (by omega) (by omega) (by omega) (by omega) (by omega)]
    exact h1.2.2.2.1
  · have h1 := R.2.2.2.2.1
    have hU := e6 30 (by omega) (by omega) (by omega) (by omega) (by omega) (by omega) (by omega)
    unfold RelU
    rw [hU, htt, hss, e2 167 (by omega) (by omega), e2 163 (by omega) (by omega), e1 0 14 (by omega) (by omega) (by omega) (by omega) (by omega)]
    refine ⟨h1.1, fun j a b => ?_, fun i j a b c => ?_⟩
    · have h2 := h1.2.1 j a b
      have hm := hr0.2.2.2.1 j a (by have := h1.1; omega)
      have hm2 := hm.1
      unfold isMk at hm2
      rw [hsj]
      exact ⟨h2.1, MkV_mono h2.2.1 (fun c i a b => e1 c i (by omega) (by omega) (by omega) (by omega) (by omega)), h2.2.2⟩
    · rw [hsj, hsj]; exact h1.2.2 i j a b c
  · have h1 := R.2.2.2.2.2.1
    have h31 := e6 31 (by omega) (by omega) (by omega) (by omega) (by omega) (by omega) (by omega)
    unfold RelI LL BB
    rw [h31, htt, hsi, e2 167 (by omega) (by omega), e2 163 (by omega) (by omega), e1 0 17 (by omega) (by omega) (by omega) (by omega) (by omega)]
    refine ⟨h1.1, fun a => ?_⟩
    have h2 := h1.2 a
    exact ⟨h2.1, LgV_mono h2.2.1 (fun c i a b => e1 c i (by omega) (by omega) (by omega) (by omega) (by omega)), LgL_mono h2.2.2.1 (fun c i a b => e1 c i (by omega) (by omega) (by omega) (by omega) (by omega)), MkV_mono h2.2.2.2 (fun c i a b => e1 c i (by omega) (by omega) (by omega) (by omega) (by omega))⟩
  · rw [e6 34 (by omega) (by omega) (by omega) (by omega) (by omega) (by omega) (by omega)]; exact R.2.2.2.2.2.2.1
/-- class's scratch: the guess alone -/
theorem Scr_guess {g g' r : ab_H} (R : Rel g r) (h : ∀ c j : Int, c < 51 ∨ 56 < c → g' c j = g c j) : Scr g g' r := by
  have hc : ∀ c : Int, 56 < c → g' c = g c := fun c hc => funext fun j => h c j (Or.inr hc)
  refine ⟨fun c j a b _ _ _ => h c j (by omega), fun c a _ => hc c (by omega), hc _ (by omega), hc _ (by omega), ?_, fun j _ _ _ _ _ _ _ => by rw [hc 161 (by omega)], ?_⟩
  · unfold ss; rw [hc _ (by omega)]
  · rw [hc 161 (by omega)]; exact R.2.2.2.2.2.2.2.1
/-- the reference's scratch -/
theorem Scr_M {g g' r : ab_H} (R : Rel g r) (h : MFr g g') : Scr g g' r := by
  refine ⟨fun c j a _ _ _ _ => by rw [h.1 c (by omega) (by omega)], fun c a b => h.1 c (by omega) (by omega), h.1 _ (by omega) (by omega), h.1 _ (by omega) (by omega), ?_, fun j _ _ _ a b c _ => h.2 j a b c, ?_⟩
  · unfold ss; rw [h.1 _ (by omega) (by omega)]
  · rw [h.2 35 (by omega) (by omega) (by omega)]; exact R.2.2.2.2.2.2.2.1
theorem Scr_t {g g' r : ab_H} (R : Rel g r) {v : Int} (h : g' = ab_up g 161 0 v) : Scr g g' r := by
  have hc : ∀ c : Int, c ≠ 161 → g' c = g c := fun c hc => by rw [h, up_f hc]
  refine ⟨fun c j a _ _ _ _ => by rw [hc c (by omega)], fun c a b => hc c (by omega), hc _ (by omega), hc _ (by omega), ?_, fun j a _ _ _ _ _ _ => by rw [h, up_k a], ?_⟩
  · unfold ss; rw [hc _ (by omega)]
  · rw [h, up_k (by omega)]; exact R.2.2.2.2.2.2.2.1
theorem s_EL_isAccount {K : Int} {S : Nat} {g r : ab_H} {a : Int} (P : Int → ab_H → ab_H → Prop) (hr : SI r) (hK : 186 ≤ K) (R : Rel g r) (ha : -2147483648 ≤ a ∧ a ≤ 2147483647) (h : ∀ x : Int, ((x = 1 ∧ (0 ≤ a ∧ a < g 163 0)) ∨ (x = 0 ∧ ¬ (0 ≤ a ∧ a < g 163 0))) → P x g r) : ab_RI m_EL_isAccount [(2, 0), (0, a)] K S g r P := by
  have h1 := R.2.2.1.2.2.1
  have h3 : isTe (r 0 3) := by unfold isTe; have := R.1.2.1; omega
  apply v_EL_isAccount _ hr hK
  rw [h1.1]
  refine And.intro (fun h2 => h 0 (Or.inr ⟨rfl, by simp only [wr] at h2; omega⟩)) (fun h2 => ⟨h3, And.intro (fun h4 => h 0 (Or.inr ⟨rfl, by simp only [wr] at h2 h4; omega⟩)) (fun h4 => h 1 (Or.inl ⟨rfl, by simp only [wr] at h2 h4; omega⟩))⟩)
theorem s_EL_isTally {K : Int} {S : Nat} {g r : ab_H} {a : Int} (P : Int → ab_H → ab_H → Prop) (hr : SI r) (hK : 186 ≤ K) (R : Rel g r) (ha : -2147483648 ≤ a ∧ a ≤ 2147483647) (h : ∀ x : Int, ((x = 1 ∧ (0 ≤ a ∧ a < g 163 1)) ∨ (x = 0 ∧ ¬ (0 ≤ a ∧ a < g 163 1))) → P x g r) : ab_RI m_EL_isTally [(2, 0), (0, a)] K S g r P := by
  have h1 := R.2.2.1.2.2.2.2.1
  have h3 : isTe (r 0 3) := by unfold isTe; have := R.1.2.1; omega
  apply v_EL_isTally _ hr hK
  rw [h1.1]
  refine And.intro (fun h2 => h 0 (Or.inr ⟨rfl, by simp only [wr] at h2; omega⟩)) (fun h2 => ⟨h3, And.intro (fun h4 => h 0 (Or.inr ⟨rfl, by simp only [wr] at h2 h4; omega⟩)) (fun h4 => h 1 (Or.inl ⟨rfl, by simp only [wr] at h2 h4; omega⟩))⟩)
theorem s_EL_isTime {K : Int} {S : Nat} {g r : ab_H} {a : Int} (P : Int → ab_H → ab_H → Prop) (hr : SI r) (hK : 186 ≤ K) (ha : -2147483648 ≤ a ∧ a ≤ 2147483647) (h : ∀ x : Int, ((x = 1 ∧ (0 ≤ a ∧ a ≤ 9999)) ∨ (x = 0 ∧ ¬ (0 ≤ a ∧ a ≤ 9999))) → P x g r) : ab_RI m_EL_isTime [(0, a)] K S g r P := by
  apply v_EL_isTime _ hr hK
  simp only [wr]
  repeat' (first | refine And.intro ?_ ?_ | intro _)
  all_goals first | omega | (apply h; omega)
theorem s_EL_isNumber {K : Int} {S : Nat} {g r : ab_H} {a : Int} (P : Int → ab_H → ab_H → Prop) (hr : SI r) (hK : 186 ≤ K) (ha : -2147483648 ≤ a ∧ a ≤ 2147483647) (h : ∀ x : Int, ((x = 1 ∧ (0 ≤ a ∧ a ≤ 99999)) ∨ (x = 0 ∧ ¬ (0 ≤ a ∧ a ≤ 99999))) → P x g r) : ab_RI m_EL_isNumber [(0, a)] K S g r P := by
  apply v_EL_isNumber _ hr hK
  simp only [wr]
  repeat' (first | refine And.intro ?_ ?_ | intro _)
  all_goals first | omega | (apply h; omega)
theorem Rel_Lg {g r : ab_H} (R : Rel g r) : isLg (r 0 5) := by unfold isLg; have := R.1.2.2.1; omega
theorem Rel_Te {g r : ab_H} (R : Rel g r) : isTe (r 0 3) := by unfold isTe; have := R.1.2.1; omega
theorem Rel_SNok {g r : ab_H} (R : Rel g r) : SNok (sn (ss g) (ss g 1089) (ss g 1090) (ss g 1080)) (ss g 1090) (ss g 1080) := SNok_sn R.2.2.2.1.1.2.2.2.2.2.1.1 R.2.2.2.1.1.1.1
theorem Rel_SnV {g r : ab_H} (R : Rel g r) : SnV (g 174) (sn (ss g) (ss g 1089) (ss g 1090) (ss g 1080)) := by
  have h := R.2.2.2.1.1.2.2.2.2.2.2.1
  have hz := Rel_SNok R
  have h6 := R.2.2.2.1.1.2.2.2.2.2.1
  have hz1 := hz.1
  refine ⟨by rw [← cn_in (x := g 174) (by omega) (by omega)]; exact h.1, fun i a b => ?_⟩
  rw [← cn_in (x := g 174) (by omega) (by omega)]; exact h.2 i a b
theorem s_EL_costOf {K : Int} {S : Nat} {g r : ab_H} {p : Int} (P : Int → ab_H → ab_H → Prop) (hr : SI r) (hK : 186 ≤ K) (R : Rel g r) (hp : 0 ≤ p ∧ p ≤ ss g 1080) (h : P (cst (ss g) (sn (ss g) (ss g 1089) (ss g 1090) (ss g 1080)) p) g r) : ab_RI m_EL_costOf [(2, 0), (0, p)] K S g r P := by
  have S1 := R.2.2.2.1
  have hn := S1.1.1
  have h6 := S1.1.2.2.2.2.2.1
  have hl := lat_in (Rel_SNok R) hp.1
  apply v_EL_costOf _ hr hK
  refine ⟨Rel_Lg R, ?_⟩
  apply s_Sh_latestUpTo _ hr hK (Or.inl rfl) S1.2.2.2.2.1 (Rel_SNok R) (by omega) (by omega) (by omega)
  intro x hx
  refine ⟨rfl, rfl, ?_⟩
  rw [hx]
  apply s_Lg_weights _ hr hK (Rel_Lg R) S1.2.1 (by omega) hp
  exact ⟨rfl, rfl, h⟩
