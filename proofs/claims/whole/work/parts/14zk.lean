/-! SPECS, part zk: event, old. -/
/-- the reference as it was, but for what each call resets -/
def MS (g g7 : ab_H) : Prop := (∀ c : Int, 161 < c → c < 178 → g7 c = g c) ∧ ∀ j : Int, j ≠ 0 → g7 161 j = g 161 j
/-- what EVENT may be told by call -/
def EvC (nA k a o t x y : Int) : Prop := ((0 ≤ k ∧ k ≤ 6) ∧ (0 ≤ a ∧ a < nA) ∧ (k = 6 → (0 ≤ o ∧ o < nA) ∧ o ≠ a)) ∧ (0 ≤ t ∧ t ≤ 9999) ∧ (0 ≤ x ∧ x ≤ 99999) ∧ (0 ≤ y ∧ y ≤ 99999)
/-- the reference's end when an EVENT came -/
def MFin (g g7 g' : ab_H) (k a o t sh x y : Int) : Prop := (∀ c : Int, c ≤ 160 → g' c = g7 c) ∧ (∀ c : Int, 161 < c → c ≠ 174 → c ≠ 177 → c < 178 → g' c = g c) ∧ (∀ j : Int, j = 2 ∨ j = 24 ∨ j = 25 ∨ j = 31 ∨ j = 34 ∨ j = 35 → g' 161 j = g 161 j) ∧ g' 161 30 = U0 (g 0 14) + 1 ∧ (∀ j : Int, 0 ≤ j → j < U0 (g 0 14) → sj g' j = sj g (if g 0 14 = 20 then j + 1 else j)) ∧ sj g' (U0 (g 0 14)) = ss g ∧ (∀ j : Int, 0 ≤ j → j < 1080 → ss g' j = evadd (ss g) (ss g 1080) k a o t sh x y 0 j) ∧ ss g' 1080 = ss g 1080 + 1 ∧ SnV (ss g') (sstep (evadd (ss g) (ss g 1080) k a o t sh x y 0) (psm (wts (evadd (ss g) (ss g 1080) k a o t sh x y 0))) (ss g 1089) (ss g 1090) (qn g) (ss g 1080)) ∧ ∀ j : Int, 1089 ≤ j → j < 1607 → ss g' j = ss g j
theorem MS_EvS {g g7 r : ab_H} (R : Rel g r) (h : MS g g7) : EvS g7 (ss g) := fun j a b => by rw [h.1 174 (by omega) (by omega)]; exact Rel_EvS R j a b
theorem evadd_fld {s : Int → Int} {n k a o t sh x y : Int} : fu (fu (evadd s n k a o t sh 0 0 0) (9 * n + 5) x) (9 * n + 6) y = evadd s n k a o t sh x y 0 := by
  funext j
  simp only [fu]
  unfold evadd
  by_cases h6 : j = 9 * n + 6
  · rw [if_pos h6, if_pos (by omega), h6]
    simp (config := {decide := true}) only [Int.add_right_inj, if_true, if_false]
  · rw [if_neg h6]
    by_cases h5 : j = 9 * n + 5
    · rw [if_pos h5, if_pos (by omega), h5]
      simp (config := {decide := true}) only [Int.add_right_inj, if_true, if_false]
    · rw [if_neg h5]
      by_cases h : 9 * n ≤ j ∧ j < 9 * n + 9
      · rw [if_pos h, if_pos h, if_neg h5, if_neg h6, if_neg h5, if_neg h6]
      · rw [if_neg h, if_neg h]
/-- an EVENT comes to the reference, after it has remembered -/
theorem t_M_comes {K : Int} {S : Nat} {g g7 r r1 : ab_H} {k a o t sh : Int} (P : ab_H → ab_H → Prop) (hr : SI r1) (hK : 186 ≤ K) (R : Rel g r) (hMS : MS g g7) (hn : ss g 1080 < 120) (hN : EvNew (ss g) (ss g 1080) k a o t sh) (h : ∀ g8 g' : ab_H, Rem g7 g8 → CFr g8 g' (ss g 1080) → MFin g g7 g' k a o t sh 0 0 → g' 174 1080 = ss g 1080 + 1 → P g' r1) : ab_RV m_M_remembers [(2, 161)] K S g7 r1 (fun g8 r' => r' = r1 ∧ ab_RV m_M_comes [(2, 161), (0, k), (0, a), (0, o), (0, t), (0, sh)] K S g8 r1 P) := by
  have G := R.2.2.2.1.1
  have n1 := G.1
  have k1 := G.2.2.2.2.2.1
  have U1 := R.2.2.2.2.1.1
  have h730 : g7 161 30 = g 0 14 := by rw [hMS.2 30 (by omega)]; exact U1.1.symm
  apply s_M_remembers _ hr hK (by omega)
  intro g8 hrem
  have hsj := Rem_sj hrem h730 (hMS.1 177 (by omega) (by omega)) (hMS.1 174 (by omega) (by omega)) (by omega)
  have e8 : ∀ c : Int, 161 < c → c < 178 → c ≠ 177 → g8 c = g c := fun c a b d => by rw [hrem.1 c (by omega) d, hMS.1 c a b]
  have e174 := e8 174 (by omega) (by omega) (by omega)
  have hcn : ∀ j : Int, 0 ≤ j → j < 1607 → g8 174 j = ss g j := fun j a b => by rw [e174]; exact (cn_in a b).symm
  refine ⟨rfl, ?_⟩
  apply s_M_comes (n := ss g 1080) (ev := ss g 1089) (kp := ss g 1090) (q := qn g) (s := ss g) _ hr hK (fun j a b => hcn j a (by omega)) (hcn _ (by omega) (by omega)) G.2.1 ⟨n1.1, hn⟩ hN (by rw [e174]; exact Rel_SnV R) (Rel_SNok R) (hcn _ (by omega) (by omega)) (hcn _ (by omega) (by omega)) k1 G.2.2.2.2.1
  intro g' f' hev hm hsn _
  have hss : ∀ j : Int, 0 ≤ j → j < 1607 → ss g' j = g' 174 j := fun j a b => cn_in a b
  have hsjs : ∀ j : Int, sj g' j = sj g8 j := fun j => by unfold sj; rw [f'.1 177 (by omega) (by omega)]
  refine h g8 g' hrem f' ⟨fun c hc => by rw [f'.1 c (by omega) (by omega), hrem.1 c (by omega) (by omega)], fun c a b d e => by rw [f'.1 c b (by omega), e8 c a e d], fun j hj => by rw [f'.2.1 j (by omega), hrem.2.1 j (by omega), hMS.2 j (by omega)], by rw [f'.2.1 30 (by omega)]; exact hsj.1, fun j a b => by rw [hsjs]; exact hsj.2.1 j a b, by rw [hsjs]; exact hsj.2.2, fun j a b => by rw [hss j a (by omega)]; exact hev j a b, by rw [hss _ (by omega) (by omega)]; exact hm, ?_, fun j a b => by rw [hss j (by omega) b, f'.2.2 j (by omega), hcn j (by omega) b]⟩ hm
  have hsn' := hsn
  have hok := SNok_step (s := evadd (ss g) (ss g 1080) k a o t sh 0 0 0) (W := psm (wts (evadd (ss g) (ss g 1080) k a o t sh 0 0 0))) (ev := ss g 1089) (Rel_SNok R) n1.1
  exact SnV_ext (fun j a b => hss j (by omega) (by omega)) hok k1.2 hsn'
theorem MFin_fld {g g7 g' g1 g2 : ab_H} {k a o t sh x y : Int} (hn : 0 ≤ ss g 1080 ∧ ss g 1080 < 120) (hk1 : 0 ≤ ss g 1090 ∧ ss g 1090 ≤ 6) (hok : SNok (qn g) (ss g 1090) (ss g 1080)) (h : MFin g g7 g' k a o t sh 0 0) (h1 : g1 = ab_up g' 174 (9 * ss g 1080 + 5) x) (h2 : g2 = ab_up g1 174 (9 * ss g 1080 + 6) y) : MFin g g7 g2 k a o t sh x y := by
  have c : ∀ c : Int, c ≠ 174 → g2 c = g' c := fun c hc => by rw [h2, h1, up_f hc, up_f hc]
  have s : ∀ j : Int, j ≠ 9 * ss g 1080 + 5 → j ≠ 9 * ss g 1080 + 6 → g2 174 j = g' 174 j := fun j a b => by rw [h2, up_k b, h1, up_k a]
  have hss : ∀ j : Int, 0 ≤ j → j < 1607 → ss g2 j = g2 174 j := fun j a b => cn_in a b
  have hss' : ∀ j : Int, 0 ≤ j → j < 1607 → ss g' j = g' 174 j := fun j a b => cn_in a b
  have hsjs : ∀ j : Int, sj g2 j = sj g' j := fun j => by unfold sj; rw [c 177 (by omega)]
  have hev : ∀ j : Int, 0 ≤ j → j < 1080 → ss g2 j = evadd (ss g) (ss g 1080) k a o t sh x y 0 j := by
    intro j p q
    rw [hss j p (by omega), ← evadd_fld, h2, up_i, h1, up_i]
    simp only [fu]
    by_cases h6 : j = 9 * ss g 1080 + 6
    · rw [if_pos h6, if_pos h6]
    · rw [if_neg h6, if_neg h6]
      by_cases h5 : j = 9 * ss g 1080 + 5
      · rw [if_pos h5, if_pos h5]
      · rw [if_neg h5, if_neg h5, ← hss' j p (by omega)]
        exact h.2.2.2.2.2.2.1 j p q
  have hk : KEq (evadd (ss g) (ss g 1080) k a o t sh 0 0 0) (evadd (ss g) (ss g 1080) k a o t sh x y 0) (ss g 1080 + 1) := by
    intro e p q
    rw [← evadd_fld (x := x) (y := y)]
    have z : ∀ f : Int, 0 ≤ f → f < 5 → fu (fu (evadd (ss g) (ss g 1080) k a o t sh 0 0 0) (9 * ss g 1080 + 5) x) (9 * ss g 1080 + 6) y (9 * e + f) = evadd (ss g) (ss g 1080) k a o t sh 0 0 0 (9 * e + f) := fun f u v => by rw [fu_n (by omega), fu_n (by omega)]
    rw [z 0 (by omega) (by omega), z 2 (by omega) (by omega), z 4 (by omega) (by omega)]
    exact ⟨rfl, fun _ => rfl, rfl⟩
  refine ⟨fun d hd => by rw [c d (by omega)]; exact h.1 d hd, fun d p q u v => by rw [c d q]; exact h.2.1 d p q u v, fun j hj => by rw [c 161 (by omega)]; exact h.2.2.1 j hj, by rw [c 161 (by omega)]; exact h.2.2.2.1, fun j p q => by rw [hsjs]; exact h.2.2.2.2.1 j p q, by rw [hsjs]; exact h.2.2.2.2.2.1, hev, ?_, ?_, fun j p q => ?_⟩
  · rw [hss _ (by omega) (by omega), s 1080 (by omega) (by omega), ← hss' _ (by omega) (by omega)]; exact h.2.2.2.2.2.2.2.1
  · have h9 := h.2.2.2.2.2.2.2.2.1
    rw [sstep_ext hk ⟨hn.1, by omega⟩ hok] at h9
    have hok2 := SNok_step (s := evadd (ss g) (ss g 1080) k a o t sh x y 0) (W := psm (wts (evadd (ss g) (ss g 1080) k a o t sh x y 0))) (ev := ss g 1089) hok hn.1
    exact SnV_ext (fun j p q => by rw [hss j (by omega) (by omega), s j (by omega) (by omega), hss' j (by omega) (by omega)]) hok2 hk1.2 h9
  · rw [hss j (by omega) q, s j (by omega) (by omega), ← hss' j (by omega) q]; exact h.2.2.2.2.2.2.2.2.2 j p q
theorem t_M_eventOf {K : Int} {S : Nat} {g g7 r r1 : ab_H} {k a o t sh x y : Int} (P : Int → ab_H → ab_H → Prop) (hr : SI r1) (hK : 186 ≤ K) (R : Rel g r) (hMS : MS g g7) (hk : I32 k) (ha : I32 a) (ho : I32 o) (ht : I32 t) (hsh : sh = 1 ∨ sh = 3) (hx : I32 x) (hy : I32 y) (h1 : ¬ EvC (g 163 0) k a o t x y → P (-1) g7 r1) (h2 : EvC (g 163 0) k a o t x y → (0 < ss g 1080 ∧ t < ss g (9 * (ss g 1080 - 1) + 3)) → P (-2) g7 r1) (h3 : EvC (g 163 0) k a o t x y → ¬ (0 < ss g 1080 ∧ t < ss g (9 * (ss g 1080 - 1) + 3)) → ss g 1080 = 120 → P (-3) g7 r1) (h4 : EvC (g 163 0) k a o t x y → ¬ (0 < ss g 1080 ∧ t < ss g (9 * (ss g 1080 - 1) + 3)) → ss g 1080 < 120 → ∀ g' : ab_H, MFin g g7 g' k a (if k = 6 then o else -2) t sh x y → P (ss g 1080) g' r1) : ab_RI m_M_eventOf [(2, 161), (0, k), (0, a), (0, o), (0, t), (0, sh), (0, x), (0, y)] K S g7 r1 P := by
  unfold I32 at hk ha ho ht hx hy
  have G := R.2.2.2.1.1
  have n1 := G.1
  have T1 := R.2.2.1.2.2.1
  have h163 : g7 163 0 = g 163 0 := by rw [hMS.1 163 (by omega) (by omega)]
  have hm7 : g7 174 1080 = ss g 1080 := by rw [hMS.1 174 (by omega) (by omega)]; exact Rel_many R
  have hevs := MS_EvS R hMS
  have no25 : ¬ ((0 ≤ k ∧ k ≤ 6) ∧ (0 ≤ a ∧ a < g 163 0) ∧ (k = 6 → (0 ≤ o ∧ o < g 163 0) ∧ o ≠ a)) → ab_Rn m_M_eventOf 25 [none, none, none, none, none, none, none, none, none, none] [] (K, S, g7, r1) (ab_Qi K S P) := by
    intro hc
    apply v_M_eventOf_25 _ hr hK
    exact h1 (fun hh => hc hh.1)
  have c27 : ∀ z : Int, (z = 0 ∨ z = 1) → (z = 1 ↔ k = 6) → ((0 ≤ k ∧ k ≤ 6) ∧ (0 ≤ a ∧ a < g 163 0) ∧ (k = 6 → (0 ≤ o ∧ o < g 163 0) ∧ o ≠ a)) → ab_Rn m_M_eventOf 27 [some (2, 161), some (0, k), some (0, a), some (0, o), some (0, t), some (0, sh), some (0, x), some (0, y), some (0, z), none] [] (K, S, g7, r1) (ab_Qi K S P) := by
    intro z hz hz2 hcan
    have no40 : ¬ ((0 ≤ t ∧ t ≤ 9999) ∧ (0 ≤ x ∧ x ≤ 99999) ∧ (0 ≤ y ∧ y ≤ 99999)) → ab_Rn m_M_eventOf 40 [none, none, none, none, none, none, none, none, none, none] [] (K, S, g7, r1) (ab_Qi K S P) := by
      intro hc
      apply v_M_eventOf_40 _ hr hK
      exact h1 (fun hh => hc hh.2)
    apply v_M_eventOf_27 _ hr hK
    apply s_M_isTime _ hr hK ht
    intro u hu
    refine ⟨rfl, rfl, And.intro (fun e1 => no40 (by simp only [wr] at e1; omega)) (fun e1 => And.intro (fun e2 => no40 (by simp only [wr] at e2; omega)) (fun e2 => And.intro (fun e3 => no40 (by simp only [wr] at e3; omega)) (fun e3 => And.intro (fun e4 => no40 (by simp only [wr] at e4; omega)) (fun e4 => And.intro (fun e5 => ?_) (fun e5 => no40 (by simp only [wr] at e5; omega))))))⟩
    have hC : EvC (g 163 0) k a o t x y := ⟨hcan, by simp only [wr] at e1; omega, by simp only [wr] at e2 e3; omega, by simp only [wr] at e4 e5; omega⟩
    have hC2 := hC.2.1
    apply s_M_latestTime _ hr hK hevs hm7 n1
    have hlt : 0 < ss g 1080 → 0 ≤ ss g (9 * (ss g 1080 - 1) + 3) ∧ ss g (9 * (ss g 1080 - 1) + 3) ≤ 9999 := fun hp => (G.2.1 (ss g 1080 - 1) (by omega) (by omega)).2.2.2.2.1
    have hlc : (if 0 < ss g 1080 then ss g (9 * (ss g 1080 - 1) + 3) else 0) ≤ t ↔ ¬ (0 < ss g 1080 ∧ t < ss g (9 * (ss g 1080 - 1) + 3)) := by
      by_cases hp : 0 < ss g 1080
      · rw [if_pos hp]; omega
      · rw [if_neg hp]; omega
    have hlb : 0 ≤ (if 0 < ss g 1080 then ss g (9 * (ss g 1080 - 1) + 3) else 0) ∧ (if 0 < ss g 1080 then ss g (9 * (ss g 1080 - 1) + 3) else 0) ≤ 9999 := by
      by_cases hp : 0 < ss g 1080
      · rw [if_pos hp]; exact hlt hp
      · rw [if_neg hp]; omega
    generalize hL : (if 0 < ss g 1080 then ss g (9 * (ss g 1080 - 1) + 3) else 0) = L at hlc hlb ⊢
    refine ⟨rfl, rfl, And.intro (fun e6 => ?_) (fun e6 => h2 hC (by
      by_cases hq : 0 < ss g 1080 ∧ t < ss g (9 * (ss g 1080 - 1) + 3)
      · exact hq
      · exfalso; have := hlc.mpr hq; simp only [wr] at e6; omega))⟩
    have hnl := hlc.mp (by simp only [wr] at e6; omega)
    apply s_M_many _ hr hK
    rw [hm7]
    refine ⟨rfl, rfl, And.intro (fun e7 => ?_) (fun e7 => h3 hC hnl (by simp only [wr] at e7; omega))⟩
    have hn120 : ss g 1080 < 120 := by simp only [wr] at e7; omega
    have hcan3 := hcan.2.2
    have fin : ∀ oo : Int, oo = (if k = 6 then o else -2) → ab_RV m_M_remembers [(2, 161)] K S g7 r1 (fun g8 r' => r' = r1 ∧ ab_RV m_M_comes [(2, 161), (0, k), (0, a), (0, oo), (0, t), (0, sh)] K S g8 r1 (fun g6 r' => r' = r1 ∧ (ab_RI m_M_many [(2, 161)] K S g6 r1 (fun x8 g' r' => g' = g6 ∧ r' = r1 ∧ (((0 : Int) ≤ 9 * (x8 - 1) + 5 ∧ (9 * (x8 - 1) + 5 : Int) < 1607) ∧ ∀ g9, g9 = ab_up g6 174 (9 * (x8 - 1) + 5) x → ((0 : Int) ≤ 9 * (x8 - 1) + 5 + 1 ∧ (9 * (x8 - 1) + 5 + 1 : Int) < 1607) ∧ ∀ g10, g10 = ab_up g9 174 (9 * (x8 - 1) + 5 + 1) y → P (x8 - 1) g10 r1))))) := by
      intro oo hoo
      apply t_M_comes _ hr hK R hMS hn120 ⟨by omega, fun _ => ⟨by omega, by omega⟩, fun h6 => by rw [hoo, if_pos h6]; have := (hcan3 h6).1; omega, fun h7 => by omega, hC2⟩
      intro g8 g6 hrem hcf hfin hm6
      refine ⟨rfl, ?_⟩
      apply s_M_many _ hr hK
      rw [hm6, show ss g 1080 + 1 - 1 = ss g 1080 by omega]
      refine ⟨rfl, rfl, by omega, fun g9 hg9 => ⟨by omega, fun g10 hg10 => ?_⟩⟩
      rw [show 9 * ss g 1080 + 5 + 1 = 9 * ss g 1080 + 6 by omega] at hg10
      have hf := MFin_fld ⟨n1.1, hn120⟩ G.2.2.2.2.2.1 (Rel_SNok R) hfin hg9 hg10
      rw [hoo] at hf
      exact h4 hC hnl hn120 g10 hf
    by_cases h6 : k = 6
    · have hz1 : z = 1 := hz2.mpr h6
      refine (fin o (by rw [if_pos h6])).mono (fun g4 r' hh => ⟨hh.1, And.intro (fun e8 => absurd e8 (by rw [hz1]; decide)) (fun _ => hh.2)⟩)
    · have hz1 : z = 0 := by
        rcases hz with hz | hz
        · exact hz
        · exact absurd (hz2.mp hz) h6
      refine (fin (-2) (by rw [if_neg h6])).mono (fun g4 r' hh => ⟨hh.1, And.intro (fun _ => hh.2) (fun e8 => absurd (by rw [hz1]) e8)⟩)
  apply v_M_eventOf _ hr hK
  refine And.intro (fun e0 => And.intro (fun e1 => no25 (by simp only [wr] at e1; omega)) (fun e1 => And.intro (fun e2 => no25 (by simp only [wr] at e2; omega)) (fun e2 => ?_))) (fun e0 => And.intro (fun e1 => no25 (by simp only [wr] at e1; omega)) (fun e1 => And.intro (fun e2 => no25 (by simp only [wr] at e2; omega)) (fun e2 => ?_)))
  · apply s_M_isAccount _ hr hK h163 T1.2 ha
    intro u hu
    refine ⟨rfl, rfl, And.intro (fun e3 => no25 (by simp only [wr] at e3; omega)) (fun e3 => And.intro (fun _ => c27 0 (Or.inl rfl) ⟨fun hc => by omega, fun hc => by simp only [wr] at e0; omega⟩ ⟨by simp only [wr] at e1 e2; omega, by simp only [wr] at e3; omega, fun hc => by simp only [wr] at e0; omega⟩) (fun e4 => absurd rfl e4))⟩
  · apply s_M_isAccount _ hr hK h163 T1.2 ha
    intro u hu
    refine ⟨rfl, rfl, And.intro (fun e3 => no25 (by simp only [wr] at e3; omega)) (fun e3 => And.intro (fun e4 => absurd e4 (by decide)) (fun _ => ?_))⟩
    apply s_M_isAccount _ hr hK h163 T1.2 ho
    intro v hv
    refine ⟨rfl, rfl, And.intro (fun e5 => no25 (by simp only [wr] at e0 e5; omega)) (fun e5 => And.intro (fun e6 => c27 1 (Or.inr rfl) ⟨fun _ => by simp only [wr] at e0; omega, fun _ => rfl⟩ ⟨by simp only [wr] at e1 e2; omega, by simp only [wr] at e3; omega, fun _ => ⟨by simp only [wr] at e5; omega, by simp only [wr] at e6; omega⟩⟩) (fun e6 => no25 (by simp only [wr] at e0 e6; omega)))⟩
