/-! SPECS, part zm: revoke. -/
theorem CFin_of {g g1 g14 g12 r r1 : ab_H} {k a o t sh x y w : Int} (R : Rel g r) (hR1 : RelR r1) (hM : Mkd g r g1 r1) (hMU : MkU g g1 r1) (hml : MkV g1 (r1 65 (U0 (g 0 14))) (ss g)) (lo12 : ∀ c j : Int, ¬ (r 0 5 ≤ c ∧ c ≤ r 0 5 + 10) → g12 c j = g1 c j) (hv12 : LgV g12 (r 0 5) (evadd (ss g) (ss g 1080) k a o t sh x y w) (ss g 1080 + 1)) (hl12 : LgL g12 (r 0 5) (evadd (ss g) (ss g 1080) k a o t sh x y w) (LF (tt g) (evadd (ss g) (ss g 1080) k a o t sh x y w) (-1) (-1)) (BF (tt g) (evadd (ss g) (ss g 1080) k a o t sh x y w) (-1) (-1)) (ss g 1080 + 1)) (f14 : ∀ c j : Int, c < 45 ∨ (50 < c ∧ c < 57) ∨ 58 < c → g14 c j = g12 c j) (f57 : ∀ j : Int, j ≠ 1 → g14 57 j = g12 57 j) (hs14 : ShV g14 57 (sn (evadd (ss g) (ss g 1080) k a o t sh x y w) (ss g 1089) (ss g 1090) (ss g 1080 + 1))) (hq14 : StV g14 45 (rep (evadd (ss g) (ss g 1080) k a o t sh x y w) (LF (tt g) (evadd (ss g) (ss g 1080) k a o t sh x y w) (-1) (-1)) (BF (tt g) (evadd (ss g) (ss g 1080) k a o t sh x y w) (-1) (-1)) (-1) 120 (ss g 1080 + 1)) (ss g 1080 + 1)) : CFin g g14 r r1 k a o t sh x y w := by
  have U1 := R.2.2.2.2.1.1
  have hi := Mkd_hi hM (by omega)
  have hr5 := R.1.2.2.1
  refine ⟨g1, hR1, hM, hMU, hml, fun c j u v w1 w2 w3 => by rw [f14 c j (by omega), lo12 c j w3], ⟨?_, ?_⟩, LgV_mono hv12 (fun c i u v => f14 c i (by omega)), LgL_mono hl12 (fun c i u v => f14 c i (by omega)), hs14, hq14⟩
  · rw [f57 2 (by omega), lo12 57 2 (by omega), hi.2.1 57 2 (by omega) (by omega)]
  · rw [f57 3 (by omega), lo12 57 3 (by omega), hi.2.1 57 3 (by omega) (by omega)]
def RvC (g : ab_H) (e t : Int) : Prop := ((0 ≤ e ∧ e < ss g 1080) ∧ ss g (9 * e + 0) ≠ 7 ∧ ss g (9 * e + 8) = 0) ∧ (0 ≤ t ∧ t ≤ 9999)
theorem p_revoke {K : Int} {S : Nat} {g r : ab_H} {e t : Int} (hr : SI r) (hK : 186 ≤ K) (hK2 : 187 ≤ K) (R : Rel g r) (he : I32 e) (ht : I32 t) : PB m_EL_revoke [(2, 0), (0, e), (0, t)] m_M_revoke [(2, 161), (0, e), (0, t)] K S g r := by
  have he' := he
  have ht' := ht
  unfold I32 at he' ht'
  have S1 := R.2.2.2.1
  have G := S1.1
  have n1 := G.1
  have k1 := G.2.2.2.2.2.1
  have hr5 := R.1.2.2.1
  have U1 := R.2.2.2.2.1.1
  have hlt : 0 < ss g 1080 → 0 ≤ ss g (9 * (ss g 1080 - 1) + 3) ∧ ss g (9 * (ss g 1080 - 1) + 3) ≤ 9999 := fun hp => (G.2.1 (ss g 1080 - 1) (by omega) (by omega)).2.2.2.2.1
  have hlc : (if 0 < ss g 1080 then ss g (9 * (ss g 1080 - 1) + 3) else 0) ≤ t ↔ ¬ ((0 < ss g 1080 ∧ t < ss g (9 * (ss g 1080 - 1) + 3)) ∨ (¬ 0 < ss g 1080 ∧ t < 0)) := by
    by_cases hp : 0 < ss g 1080
    · rw [if_pos hp]; omega
    · rw [if_neg hp]; omega
  have hlb : 0 ≤ (if 0 < ss g 1080 then ss g (9 * (ss g 1080 - 1) + 3) else 0) ∧ (if 0 < ss g 1080 then ss g (9 * (ss g 1080 - 1) + 3) else 0) ≤ 9999 := by
    by_cases hp : 0 < ss g 1080
    · rw [if_pos hp]; exact hlt hp
    · rw [if_neg hp]; omega
  -- the reference, from a state as good as g
  have mref : ∀ (P : Int → ab_H → ab_H → Prop) (g6 r1 : ab_H), SI r1 → (∀ c : Int, 161 ≤ c → g6 c = g c) → (∀ g7 : ab_H, g7 = ab_up g6 161 0 0 → ¬ RvC g e t → P (-1) g7 r1) → (∀ g7 : ab_H, g7 = ab_up g6 161 0 0 → RvC g e t → (0 < ss g 1080 ∧ t < ss g (9 * (ss g 1080 - 1) + 3)) → P (-2) g7 r1) → (∀ g7 : ab_H, g7 = ab_up g6 161 0 0 → RvC g e t → ¬ (0 < ss g 1080 ∧ t < ss g (9 * (ss g 1080 - 1) + 3)) → ss g 1080 = 120 → P (-3) g7 r1) → (∀ g7 : ab_H, g7 = ab_up g6 161 0 0 → RvC g e t → ¬ (0 < ss g 1080 ∧ t < ss g (9 * (ss g 1080 - 1) + 3)) → ss g 1080 < 120 → ∀ g' : ab_H, MFin g g7 g' 7 (-2) e t 0 0 0 → P (ss g 1080) g' r1) → ab_RI m_M_revoke [(2, 161), (0, e), (0, t)] K S g6 r1 P := by
    intro P g6 r1 hr1 h6 q1 q2 q3 q4
    apply v_M_revoke _ hr1 hK
    intro g7 hg7
    have hms : MS g g7 := ⟨fun c a b => by rw [hg7, up_f (by omega), h6 c (by omega)], fun j hj => by rw [hg7, up_k hj, h6 161 (by omega)]⟩
    have hevs := MS_EvS R hms
    have hm7 : g7 174 1080 = ss g 1080 := by rw [hms.1 174 (by omega) (by omega)]; exact Rel_many R
    apply s_M_isEvent _ hr1 hK hm7 n1 he
    intro x hx
    refine ⟨rfl, rfl, And.intro (fun e1 => q1 g7 hg7 (fun hc => absurd hc.1.1 (by simp only [wr] at e1; omega))) (fun e1 => ?_)⟩
    have he2 : 0 ≤ e ∧ e < ss g 1080 := by simp only [wr] at e1; omega
    have c0 := G.2.1 e he2.1 he2.2
    have s0 := hevs (9 * e + 0) (by omega) (by omega)
    have s8 := hevs (9 * e + 8) (by omega) (by omega)
    apply s_M_isTime _ hr1 hK ht
    intro y hy
    refine ⟨rfl, rfl, And.intro (fun e2 => q1 g7 hg7 (fun hc => absurd hc.2 (by simp only [wr] at e2; omega))) (fun e2 => ?_)⟩
    have ht2 : 0 ≤ t ∧ t ≤ 9999 := by simp only [wr] at e2; omega
    apply s_M_isVoid _ hr1 hK (by omega) (by omega)
    intro z hz
    rw [s0] at hz
    refine ⟨rfl, rfl, And.intro (fun e3 => q1 g7 hg7 (fun hc => absurd hc.1.2.1 (by simp only [wr] at e3; omega))) (fun e3 => ?_)⟩
    apply s_M_isVoided _ hr1 hK (by omega) (by omega)
    intro z2 hz2
    rw [s8] at hz2
    refine ⟨rfl, rfl, And.intro (fun e4 => ?_) (fun e4 => q1 g7 hg7 (fun hc => absurd hc.1.2.2 (by simp only [wr] at e4; omega)))⟩
    have hC : RvC g e t := ⟨⟨he2, by simp only [wr] at e3; omega, by simp only [wr] at e4; omega⟩, ht2⟩
    apply s_M_latestTime _ hr1 hK hevs hm7 n1
    generalize hL : (if 0 < ss g 1080 then ss g (9 * (ss g 1080 - 1) + 3) else 0) = L at hlc hlb ⊢
    refine ⟨rfl, rfl, And.intro (fun e6 => ?_) (fun e6 => q2 g7 hg7 hC (by
      by_cases hq : 0 < ss g 1080 ∧ t < ss g (9 * (ss g 1080 - 1) + 3)
      · exact hq
      · exfalso
        have := hlc.mpr (by omega)
        simp only [wr] at e6; omega))⟩
    have hnl : ¬ (0 < ss g 1080 ∧ t < ss g (9 * (ss g 1080 - 1) + 3)) := by
      have := hlc.mp (by simp only [wr] at e6; omega)
      omega
    apply s_M_many _ hr1 hK
    rw [hm7]
    refine ⟨rfl, rfl, And.intro (fun e7 => ?_) (fun e7 => q3 g7 hg7 hC hnl (by simp only [wr] at e7; omega))⟩
    have hn120 : ss g 1080 < 120 := by simp only [wr] at e7; omega
    apply t_M_comes _ hr1 hK R hms hn120 ⟨by omega, fun h7 => absurd rfl h7, fun h6' => by omega, fun _ => ⟨hC.1.1, hC.1.2.1, rfl⟩, ht2⟩
    intro g8 g10 hrem hcf hfin hm10
    refine ⟨rfl, ?_⟩
    apply s_M_many _ hr1 hK
    rw [hm10, show ss g 1080 + 1 - 1 = ss g 1080 by omega]
    exact ⟨rfl, rfl, q4 g7 hg7 hC hnl hn120 g10 hfin⟩
  have scr7 : ∀ g7 : ab_H, g7 = ab_up g 161 0 0 → Rel g7 r ∧ ∀ c : Int, c < 0 → g7 c = g c ∧ r c = r c := fun g7 hg7 => ⟨Rel_scr R (Scr_t R hg7), fun c hc => ⟨by rw [hg7, up_f (by omega)], rfl⟩⟩
  have rf : ∀ v : Int, ((¬ RvC g e t ∧ v = -1) ∨ (RvC g e t ∧ (0 < ss g 1080 ∧ t < ss g (9 * (ss g 1080 - 1) + 3)) ∧ v = -2) ∨ (RvC g e t ∧ ¬ (0 < ss g 1080 ∧ t < ss g (9 * (ss g 1080 - 1) + 3)) ∧ ss g 1080 = 120 ∧ v = -3)) → ab_RI m_M_revoke [(2, 161), (0, e), (0, t)] K S g r (fun y g2 r2 => v = y ∧ Rel g2 r2 ∧ (∀ c : Int, c < 0 → g2 c = g c ∧ r2 c = r c)) := by
    intro v hv
    refine mref _ g r hr (fun _ _ => rfl) (fun g7 hg7 c1 => ⟨?_, scr7 g7 hg7⟩) (fun g7 hg7 c1 c2 => ⟨?_, scr7 g7 hg7⟩) (fun g7 hg7 c1 c2 c3 => ⟨?_, scr7 g7 hg7⟩) (fun g7 hg7 c1 c2 c3 g' _ => ?_)
    · rcases hv with hv | hv | hv
      · exact hv.2
      · exact absurd hv.1 c1
      · exact absurd hv.1 c1
    · rcases hv with hv | hv | hv
      · exact absurd c1 hv.1
      · exact hv.2.2
      · exact absurd c2 hv.2.1
    · rcases hv with hv | hv | hv
      · exact absurd c1 hv.1
      · exact absurd hv.2.1 c2
      · exact hv.2.2.2
    · rcases hv with hv | hv | hv
      · exact absurd c1 hv.1
      · exact absurd hv.2.1 c2
      · exfalso; have := hv.2.2.1; omega
  unfold PB
  apply v_EL_revoke _ hr hK
  refine ⟨Rel_Lg R, ?_⟩
  apply s_Lg_holdsPlain _ hr hK (Rel_Lg R) S1.2.1 G.2.1 he
  intro x hx
  refine ⟨rfl, rfl, And.intro (fun e1 => rf _ (Or.inl ⟨fun hc => absurd hc.1 (by simp only [wr] at e1; omega), rfl⟩)) (fun e1 => ?_)⟩
  have hpl : (0 ≤ e ∧ e < ss g 1080) ∧ ss g (9 * e + 0) ≠ 7 := by simp only [wr] at e1; omega
  have e0 := S1.2.1.2.2.1 e hpl.1.1 hpl.1.2
  have c0 := G.2.1 e hpl.1.1 hpl.1.2
  rw [e0.2.2.2.2.2.1]
  refine ⟨Rel_Lg R, by omega, And.intro (fun e2 => rf _ (Or.inl ⟨fun hc => absurd hc.1.2.2 (by simp only [wr] at e2; omega), rfl⟩)) (fun e2 => ?_)⟩
  apply s_EL_isTime _ hr hK ht
  intro y hy
  refine ⟨rfl, rfl, And.intro (fun e3 => ?_) (fun e3 => rf _ (Or.inl ⟨fun hc => absurd hc.2 (by simp only [wr] at e3; omega), rfl⟩))⟩
  have hC : RvC g e t := ⟨⟨hpl.1, hpl.2, by simp only [wr] at e2; omega⟩, by simp only [wr] at e3; omega⟩
  apply s_EL_refusalAt _ hr hK R hC.2
  intro z hz
  refine ⟨rfl, rfl, And.intro (fun e4 => ?_) (fun e4 => ?_)⟩
  · have hok : ¬ (0 < ss g 1080 ∧ t < ss g (9 * (ss g 1080 - 1) + 3)) ∧ ss g 1080 < 120 := by simp only [wr] at e4; omega
    apply t_EL_mark _ hr hK hK2 R
    intro g1 r1 hR1 hM hMU hml
    have hi := Mkd_hi hM (by omega)
    have hr0 : r1 0 = r 0 := hi.2.2 0 (by omega)
    have hN : EvNew (ss g) (ss g 1080) 7 (-2) e t 0 := ⟨by omega, fun h7 => absurd rfl h7, fun h6' => by omega, fun _ => ⟨hC.1.1, hC.1.2.1, rfl⟩, hC.2⟩
    have hv1 : LgV g1 (r 0 5) (ss g) (ss g 1080) := LgV_mono S1.2.1 (fun c i a b => hi.2.1 c i (by omega) (by omega))
    rw [hr0]
    refine ⟨hR1.1, Rel_Lg R, ?_⟩
    apply s_Lg_addVoid _ hR1.1 hK (Rel_Lg R) hv1 hok.2 G.2.1 hN
    intro g12 f12 hv12 h127 h128
    have hE' := EvOk_add (x := 0) (y := 0) (w := 0) G.2.1 hN n1.1 (by omega) (by omega) (by omega)
    have hl12 : LgL g12 (r 0 5) (evadd (ss g) (ss g 1080) 7 (-2) e t 0 0 0 0) (LF (tt g) (evadd (ss g) (ss g 1080) 7 (-2) e t 0 0 0 0) (-1) (-1)) (BF (tt g) (evadd (ss g) (ss g 1080) 7 (-2) e t 0 0 0 0) (-1) (-1)) (ss g 1080 + 1) := by
      intro i p q h7
      by_cases hin : i = ss g 1080
      · exfalso
        rw [hin, evadd_new (by omega)] at h7
        exact h7 (if_pos rfl)
      · have hi2 : 0 ≤ i ∧ i < ss g 1080 := by omega
        rw [evadd_old hi2 (by omega : (0 : Int) ≤ 0 ∧ (0 : Int) < 9) (Or.inl (by omega))] at h7
        have h3' := S1.2.2.1 i p hi2.2 h7
        rw [(LF_pre EvPre_add p hi2.2).1, (LF_pre EvPre_add p hi2.2).2, h128 i hi2.2, hi.2.1 (r 0 5 + 8) i (by omega) (by omega)]
        refine ⟨h3'.1, fun f u v => ?_⟩
        rw [h127, hi.2.1 (r 0 5 + 7) _ (by omega) (by omega)]
        exact h3'.2 f u v
    have lo12 : ∀ c j : Int, ¬ (r 0 5 ≤ c ∧ c ≤ r 0 5 + 10) → g12 c j = g1 c j := fun c j hcj => f12 c j (by omega)
    refine ⟨rfl, ?_⟩
    apply t_EL_rebuild (n := ss g 1080 + 1) (T := tt g) (ev := ss g 1089) (kp := ss g 1090) (s := evadd (ss g) (ss g 1080) 7 (-2) e t 0 0 0 0) _ hR1.1 hK (by rw [hr0]; exact Rel_Lg R) (by rw [hr0]; exact hv12) (by rw [hr0]; exact hl12) R.2.2.1.1 hE' (by rw [lo12 57 2 (by omega), hi.2.1 57 2 (by omega) (by omega)]; exact S1.2.2.2.1.1) (by rw [lo12 57 3 (by omega), hi.2.1 57 3 (by omega) (by omega)]; exact S1.2.2.2.1.2) k1 G.2.2.2.2.1
    intro g14 f14 f57 hs14 hq14
    have hcf := CFin_of R hR1 hM hMU hml lo12 hv12 hl12 f14 f57 hs14 hq14
    have hlo := CFin_lo R hcf
    have hn14 : g14 (r 0 5) 10 - 1 = ss g 1080 := by rw [f14 _ _ (by omega), hv12.1]; omega
    refine ⟨rfl, Rel_Lg R, ?_⟩
    rw [hn14]
    refine mref _ g14 r1 hR1.1 (fun c hc => hlo.1 c (Or.inr hc)) (fun g7 hg7 c1 => absurd hC c1) (fun g7 hg7 c1 c2 => absurd c2 hok.1) (fun g7 hg7 c1 c2 c3 => by have := hok.2; omega) (fun g7 hg7 c1 c2 c3 g' hfin => ⟨rfl, ?_⟩)
    have hms := MS_t R hcf hg7
    exact Rel_fin R hok.2 hN (by omega) (by omega) (fun h7 => absurd rfl h7) ⟨fun h6' => by omega, fun _ => rfl, fun _ h7 => absurd rfl h7⟩ (fun _ => hC.1.2.2) hcf hms.2 hfin
  · refine rf _ ?_
    rcases hz with hz | hz | hz
    · exact Or.inr (Or.inl ⟨hC, hz.1, hz.2⟩)
    · exact Or.inr (Or.inr ⟨hC, hz.1, hz.2.1, hz.2.2⟩)
    · exact absurd hz.2.2 (by simp only [wr] at e4; omega)
