/-! SPECS, part zf: what the class marks. -/
theorem isTa_Mk {M : Int} (h : isMk M) : isTa (M + 1) := by unfold isTa; unfold isMk at h; omega
theorem s_EL_fillMark {K : Int} {S : Nat} {g r : ab_H} {M n ev kp : Int} {Q : Int → Int} {C : Int → Int → Int} (P : ab_H → ab_H → Prop) (hr : SI r) (hK : 186 ≤ K) (hK2 : 187 ≤ K) (hM : isMk M) (hL : isLg (r 0 5)) (hn : g (r 0 5) 10 = n) (hev : g 57 2 = ev) (hkp : g 57 3 = kp) (ht : TaP g 61 Q C) (h : ∀ g' : ab_H, (∀ c j : Int, c < M ∨ M + 3 < c → g' c j = g c j) → g' M 0 = n → g' M 1 = ev → g' M 2 = kp → TaP g' (M + 1) Q C → P g' r) : ab_RV m_EL_fillMark [(2, 0), (2, M)] K S g r P := by
  have hM' := hM
  unfold isMk at hM'
  apply v_EL_fillMark _ hr hK hM
  refine ⟨hL, fun g2 hg2 g3 hg3 g4 hg4 => ?_⟩
  have f4 : ∀ c j : Int, c ≠ M → g4 c j = g c j := fun c j hc => by rw [hg4, hg3, hg2, up_a hc, up_a hc, up_a hc]
  have m0 : g4 M 0 = n := by rw [hg4, up_k (by omega), hg3, up_k (by omega), hg2, up_s, hn]
  have m1 : g4 M 1 = ev := by rw [hg4, up_k (by omega), hg3, up_s, hg2, up_a (by omega), hev]
  have m2 : g4 M 2 = kp := by rw [hg4, up_s, hg3, up_a (by omega), hg2, up_a (by omega), hkp]
  apply s_Ta_copyFrom _ hr hK hK2 (isTa_Mk hM) (Or.inl rfl) (by omega) (TaP_mono ht (fun c i a b => f4 c i (by omega)))
  intro g5 f5 ht5
  exact ⟨rfl, h g5 (fun c j hc => by rw [f5 c j (by omega) (by omega), f4 c j (by omega)]) (by rw [f5 M 0 (by omega) (by omega)]; exact m0) (by rw [f5 M 1 (by omega) (by omega)]; exact m1) (by rw [f5 M 2 (by omega) (by omega)]; exact m2) ht5⟩
def U0 (U : Int) : Int := if U = 20 then 19 else U
/-- one more marked: g', r' against g, r -/
def Mkd (g r g' r' : ab_H) : Prop := (∀ c : Int, c ≠ 65 → r' c = r c) ∧ (∀ j : Int, 0 ≤ j → j < U0 (g 0 14) → r' 65 j = r 65 (if g 0 14 = 20 then j + 1 else j)) ∧ (∀ j : Int, 0 ≤ j → j < 20 → isMk (r' 65 j) ∧ r' 65 j ≠ 77) ∧ (∀ i j : Int, 0 ≤ i → i < j → j < 20 → r' 65 i ≠ r' 65 j) ∧ (∀ c j : Int, (c < r' 65 (U0 (g 0 14)) ∨ r' 65 (U0 (g 0 14)) + 3 < c) → c ≠ 0 ∨ j ≠ 14 → g' c j = g c j) ∧ g' 0 14 = U0 (g 0 14) + 1
theorem l_EL_mark {K : Int} {S : Nat} {g r0 : ab_H} {n ev kp : Int} {Q : Int → Int} {C : Int → Int → Int} (P : ab_H → ab_H → Prop) (hK : 186 ≤ K) (hK2 : 187 ≤ K) (hU : g 0 14 = 20) (hp : ∀ j : Int, 0 ≤ j → j < 20 → isMk (r0 65 j) ∧ r0 65 j ≠ 77) (hd : ∀ i j : Int, 0 ≤ i → i < j → j < 20 → r0 65 i ≠ r0 65 j) (hL : isLg (r0 0 5)) (hn : g (r0 0 5) 10 = n) (hev : g 57 2 = ev) (hkp : g 57 3 = kp) (ht : TaP g 61 Q C) (h : ∀ g' r' : ab_H, SI r' → Mkd g r0 g' r' → g' (r' 65 19) 0 = n → g' (r' 65 19) 1 = ev → g' (r' 65 19) 2 = kp → TaP g' (r' 65 19 + 1) Q C → P g' r') : ∀ (m : Nat) (i : Int) (r : ab_H), SI r → 1 ≤ i → i + m = 20 → (∀ c : Int, c ≠ 65 → r c = r0 c) → (∀ j : Int, 0 ≤ j → j < i - 1 → r 65 j = r0 65 (j + 1)) → (∀ j : Int, i - 1 ≤ j → j < 20 → r 65 j = r0 65 j) → ab_Rn m_EL_mark 11 [some (2, 0), some (2, r0 65 0), some (0, i)] [] (K, S, g, r) (ab_Qv K S P)
  | 0, i, r, hr, h0, hi, f1, f2, f3 => by
    have hi2 : i = 20 := by omega
    subst hi2
    apply v_EL_mark_11 _ hr hK (hp 0 (by omega) (by omega)).1
    refine And.intro (fun _ => ⟨by omega, fun r1 hr1 g3 hg3 => ?_⟩) (fun h1 => absurd h1 (by decide))
    have hr1' : SI r1 := by rw [hr1]; exact SI_upx hr (by decide)
    have h14 : g3 0 14 = 19 := by rw [hg3, up_s]
    have h19 : r1 65 19 = r0 65 0 := by rw [hr1, up_s]
    have e1 : ∀ c : Int, c ≠ 65 → r1 c = r0 c := fun c hc => by rw [hr1, up_f hc]; exact f1 c hc
    have e2 : ∀ j : Int, 0 ≤ j → j < 19 → r1 65 j = r0 65 (j + 1) := fun j a b => by rw [hr1, up_k (by omega)]; exact f2 j a (by omega)
    have hm0 := (hp 0 (by omega) (by omega)).1
    have hm0' := hm0
    unfold isMk at hm0'
    have hg : ∀ c j : Int, c ≠ 0 ∨ j ≠ 14 → g3 c j = g c j := fun c j hc => by rw [hg3]; rcases hc with hc | hc; exact up_a hc; exact up_k hc
    have hL3 := hL
    unfold isLg at hL3
    rw [h14, h19]
    refine ⟨by omega, hm0, ?_⟩
    apply s_EL_fillMark (n := n) (ev := ev) (kp := kp) (Q := Q) (C := C) _ hr1' hK hK2 hm0 (by rw [e1 0 (by omega)]; exact hL) (by rw [e1 0 (by omega), hg _ _ (by omega)]; exact hn) (by rw [hg _ _ (by omega)]; exact hev) (by rw [hg _ _ (by omega)]; exact hkp) (TaP_mono ht (fun c i a b => hg c i (by omega)))
    intro g5 f5 a0 a1 a2 at5
    refine ⟨rfl, fun g7 hg7 => ?_⟩
    have hg7' : ∀ c j : Int, c ≠ 0 ∨ j ≠ 14 → g7 c j = g5 c j := fun c j hc => by rw [hg7]; rcases hc with hc | hc; exact up_a hc; exact up_k hc
    have hu : U0 (g 0 14) = 19 := by unfold U0; rw [if_pos hU]
    refine h g7 r1 hr1' ⟨e1, fun j a b => ?_, fun j a b => ?_, fun i j a b c => ?_, fun c j a b => ?_, ?_⟩ ?_ ?_ ?_ ?_
    · rw [hu] at b; rw [if_pos hU]; exact e2 j a b
    · by_cases h1 : j = 19
      · rw [h1, h19]; exact hp 0 (by omega) (by omega)
      · rw [e2 j a (by omega)]; exact hp (j + 1) (by omega) (by omega)
    · by_cases h1 : j = 19
      · rw [h1, h19, e2 i a (by omega)]
        intro hc; exact hd 0 (i + 1) (by omega) (by omega) (by omega) hc.symm
      · rw [e2 i a (by omega), e2 j (by omega) (by omega)]
        exact hd (i + 1) (j + 1) (by omega) (by omega) (by omega)
    · rw [hu, h19] at a
      rw [hg7' c j b, f5 c j a, hg c j b]
    · rw [hg7, up_s, f5 0 14 (by omega), h14, hu]
    · rw [h19, hg7' _ _ (by omega)]; exact a0
    · rw [h19, hg7' _ _ (by omega)]; exact a1
    · rw [h19, hg7' _ _ (by omega)]; exact a2
    · rw [h19]; exact TaP_mono at5 (fun c i a b => hg7' c i (by omega))
  | m + 1, i, r, hr, h0, hi, f1, f2, f3 => by
    apply v_EL_mark_11 _ hr hK (hp 0 (by omega) (by omega)).1
    refine And.intro (fun h1 => absurd h1 (by simp only [wr]; omega)) (fun _ => ⟨by omega, by rw [f3 i (by omega) (by omega)]; exact (hp i (by omega) (by omega)).1, by omega, fun r9 hr9 => ?_⟩)
    refine l_EL_mark P hK hK2 hU hp hd hL hn hev hkp ht h m (i + 1) r9 (by rw [hr9]; exact SI_upx hr (by decide)) (by omega) (by omega) (fun c hc => by rw [hr9, up_f hc]; exact f1 c hc) (fun j a b => ?_) (fun j a b => by rw [hr9, up_k (by omega)]; exact f3 j (by omega) b)
    rw [hr9, up_i]
    by_cases h1 : j = i - 1
    · rw [if_pos h1, f3 i (by omega) (by omega), h1]; congr 1; omega
    · rw [if_neg h1]; exact f2 j a (by omega)
theorem s_EL_mark {K : Int} {S : Nat} {g r : ab_H} {n ev kp : Int} {Q : Int → Int} {C : Int → Int → Int} (P : ab_H → ab_H → Prop) (hr : SI r) (hK : 186 ≤ K) (hK2 : 187 ≤ K) (hU : 0 ≤ g 0 14 ∧ g 0 14 ≤ 20) (hp : ∀ j : Int, 0 ≤ j → j < 20 → isMk (r 65 j) ∧ r 65 j ≠ 77) (hd : ∀ i j : Int, 0 ≤ i → i < j → j < 20 → r 65 i ≠ r 65 j) (hL : isLg (r 0 5)) (hn : g (r 0 5) 10 = n) (hev : g 57 2 = ev) (hkp : g 57 3 = kp) (ht : TaP g 61 Q C) (h : ∀ g' r' : ab_H, SI r' → Mkd g r g' r' → g' (r' 65 (U0 (g 0 14))) 0 = n → g' (r' 65 (U0 (g 0 14))) 1 = ev → g' (r' 65 (U0 (g 0 14))) 2 = kp → TaP g' (r' 65 (U0 (g 0 14)) + 1) Q C → P g' r') : ab_RV m_EL_mark [(2, 0)] K S g r P := by
  apply v_EL_mark _ hr hK
  refine And.intro (fun h1 => ?_) (fun h1 => ⟨by omega, (hp 0 (by omega) (by omega)).1, ?_⟩)
  · have hU2 : g 0 14 ≠ 20 := by simp only [wr] at h1; omega
    have hu : U0 (g 0 14) = g 0 14 := by unfold U0; rw [if_neg hU2]
    have hm := (hp (g 0 14) hU.1 (by omega)).1
    have hm' := hm
    unfold isMk at hm'
    refine ⟨by omega, hm, ?_⟩
    apply s_EL_fillMark _ hr hK hK2 hm hL hn hev hkp ht
    intro g2 f2 a0 a1 a2 at2
    refine ⟨rfl, fun g4 hg4 => ?_⟩
    have hg4' : ∀ c j : Int, c ≠ 0 ∨ j ≠ 14 → g4 c j = g2 c j := fun c j hc => by rw [hg4]; rcases hc with hc | hc; exact up_a hc; exact up_k hc
    rw [hu] at h
    refine h g4 r hr ⟨fun _ _ => rfl, fun j a b => by rw [if_neg hU2], hp, hd, fun c j a b => ?_, ?_⟩ ?_ ?_ ?_ ?_
    · rw [hu] at a; rw [hg4' c j b, f2 c j a]
    · rw [hg4, up_s, f2 0 14 (by omega), hu]
    · rw [hg4' _ _ (by omega)]; exact a0
    · rw [hg4' _ _ (by omega)]; exact a1
    · rw [hg4' _ _ (by omega)]; exact a2
    · exact TaP_mono at2 (fun c i a b => hg4' c i (by omega))
  · have hU2 : g 0 14 = 20 := by simp only [wr] at h1; omega
    have hu : U0 (g 0 14) = 19 := by unfold U0; rw [if_pos hU2]
    rw [hu] at h
    exact l_EL_mark P hK hK2 hU2 hp hd hL hn hev hkp ht h 19 1 r hr (by omega) (by omega) (fun _ _ => rfl) (fun j a b => by omega) (fun _ _ _ => rfl)
/-- under the relation: what is marked, what is remembered -/
def MkU (g g' r' : ab_H) : Prop := ∀ j : Int, 0 ≤ j → j < U0 (g 0 14) → MkV g' (r' 65 j) (sj g (if g 0 14 = 20 then j + 1 else j))
theorem t_EL_mark {K : Int} {S : Nat} {g r : ab_H} (P : ab_H → ab_H → Prop) (hr : SI r) (hK : 186 ≤ K) (hK2 : 187 ≤ K) (R : Rel g r) (h : ∀ g' r' : ab_H, RelR r' → Mkd g r g' r' → MkU g g' r' → MkV g' (r' 65 (U0 (g 0 14))) (ss g) → P g' r') : ab_RV m_EL_mark [(2, 0)] K S g r P := by
  have S1 := R.2.2.2.1
  have U1 := R.2.2.2.2.1
  have R0 := R.1
  apply s_EL_mark (n := ss g 1080) (ev := ss g 1089) (kp := ss g 1090) _ hr hK hK2 (by have := U1.1; omega) R0.2.2.2.1 R0.2.2.2.2 (Rel_Lg R) S1.2.1.1 S1.2.2.2.1.1 S1.2.2.2.1.2 S1.2.2.2.2.2.2
  intro g' r' hr' hM a0 a1 a2 a3
  refine h g' r' ⟨hr', ?_, ?_, hM.2.2.1, hM.2.2.2.1⟩ hM (fun j a b => ?_) ⟨a0, a1, a2, a3⟩
  · rw [hM.1 0 (by omega)]; exact R0.2.1
  · rw [hM.1 0 (by omega)]; exact R0.2.2.1
  · have hu : U0 (g 0 14) < 20 ∧ 0 ≤ U0 (g 0 14) := by unfold U0; have := U1.1; split <;> omega
    have hp1 := (hM.2.2.1 j a (by omega)).1
    have hp2 := (hM.2.2.1 (U0 (g 0 14)) hu.2 hu.1).1
    have hne := hM.2.2.2.1 j (U0 (g 0 14)) a b hu.1
    unfold isMk at hp1 hp2
    have hold := hM.2.1 j a b
    have hmv : MkV g (r 65 (if g 0 14 = 20 then j + 1 else j)) (sj g (if g 0 14 = 20 then j + 1 else j)) := by
      refine (U1.2.1 _ (by split <;> omega) ?_).2.1
      rw [← U1.1.1]
      unfold U0 at b
      split at b
      · rename_i hc; rw [if_pos hc]; omega
      · rename_i hc; rw [if_neg hc]; exact b
    rw [← hold] at hmv
    refine MkV_mono hmv (fun c i x y => hM.2.2.2.2.1 c i (by omega) (by omega))
