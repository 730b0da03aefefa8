/-! SPECS, part zl: event, old: the class, the pairs. -/
theorem ar_row {K : Int} (hK : 186 ≤ K) : ab_AR K 64 100 3 := ⟨rfl, by omega, by omega⟩
theorem s_EL_canBe {K : Int} {S : Nat} {g r : ab_H} {k a o : Int} (P : Int → ab_H → ab_H → Prop) (hr : SI r) (hK : 186 ≤ K) (R : Rel g r) (hk : I32 k) (ha : I32 a) (ho : I32 o) (h : ∀ x : Int, ((x = 1 ∧ ((0 ≤ k ∧ k ≤ 6) ∧ (0 ≤ a ∧ a < g 163 0) ∧ (k = 6 → (0 ≤ o ∧ o < g 163 0) ∧ o ≠ a))) ∨ (x = 0 ∧ ¬ ((0 ≤ k ∧ k ≤ 6) ∧ (0 ≤ a ∧ a < g 163 0) ∧ (k = 6 → (0 ≤ o ∧ o < g 163 0) ∧ o ≠ a)))) → P x g r) : ab_RI m_EL_canBe [(2, 0), (0, k), (0, a), (0, o)] K S g r P := by
  have hk' := hk
  have ha' := ha
  have ho' := ho
  unfold I32 at hk' ha' ho'
  apply v_EL_canBe _ hr hK
  refine And.intro (fun e1 => h 0 (Or.inr ⟨rfl, by simp only [wr] at e1; omega⟩)) (fun e1 => And.intro (fun e2 => h 0 (Or.inr ⟨rfl, by simp only [wr] at e2; omega⟩)) (fun e2 => ?_))
  apply s_EL_isAccount _ hr hK R ha
  intro u hu
  refine ⟨rfl, rfl, And.intro (fun e3 => And.intro (fun e4 => h 1 (Or.inl ⟨rfl, by simp only [wr] at e1 e2; omega, by simp only [wr] at e3; omega, fun hc => by simp only [wr] at e4; omega⟩)) (fun e4 => ?_)) (fun e3 => h 0 (Or.inr ⟨rfl, by simp only [wr] at e3; omega⟩))⟩
  apply s_EL_isAccount _ hr hK R ho
  intro v hv
  refine ⟨rfl, rfl, And.intro (fun e5 => h 0 (Or.inr ⟨rfl, by simp only [wr] at e4 e5; omega⟩)) (fun e5 => And.intro (fun e6 => h 0 (Or.inr ⟨rfl, by simp only [wr] at e4 e6; omega⟩)) (fun e6 => h 1 (Or.inl ⟨rfl, by simp only [wr] at e1 e2; omega, by simp only [wr] at e3; omega, fun _ => ⟨by simp only [wr] at e5; omega, by simp only [wr] at e6; omega⟩⟩)))⟩
theorem s_EL_refusalAt {K : Int} {S : Nat} {g r : ab_H} {t : Int} (P : Int → ab_H → ab_H → Prop) (hr : SI r) (hK : 186 ≤ K) (R : Rel g r) (ht : 0 ≤ t ∧ t ≤ 9999) (h : ∀ x : Int, ((0 < ss g 1080 ∧ t < ss g (9 * (ss g 1080 - 1) + 3)) ∧ x = -2) ∨ (¬ (0 < ss g 1080 ∧ t < ss g (9 * (ss g 1080 - 1) + 3)) ∧ ss g 1080 = 120 ∧ x = -3) ∨ (¬ (0 < ss g 1080 ∧ t < ss g (9 * (ss g 1080 - 1) + 3)) ∧ ss g 1080 < 120 ∧ x = 0) → P x g r) : ab_RI m_EL_refusalAt [(2, 0), (0, t)] K S g r P := by
  have S1 := R.2.2.2.1
  have n1 := S1.1.1
  have hlt : 0 < ss g 1080 → 0 ≤ ss g (9 * (ss g 1080 - 1) + 3) ∧ ss g (9 * (ss g 1080 - 1) + 3) ≤ 9999 := fun hp => (S1.1.2.1 (ss g 1080 - 1) (by omega) (by omega)).2.2.2.2.1
  apply v_EL_refusalAt _ hr hK
  refine ⟨Rel_Lg R, ?_⟩
  apply s_Lg_latestTime _ hr hK (Rel_Lg R) S1.2.1
  rw [S1.2.1.1]
  by_cases hp : 0 < ss g 1080
  · have h1 := hlt hp
    rw [if_pos hp]
    exact ⟨rfl, rfl, And.intro (fun e1 => ⟨Rel_Lg R, And.intro (fun e2 => h 0 (Or.inr (Or.inr ⟨by simp only [wr] at e1; omega, by simp only [wr] at e2; omega, rfl⟩))) (fun e2 => h (-3) (Or.inr (Or.inl ⟨by simp only [wr] at e1; omega, by simp only [wr] at e2; omega, rfl⟩)))⟩) (fun e1 => h (-2) (Or.inl ⟨by simp only [wr] at e1; omega, rfl⟩))⟩
  · rw [if_neg hp]
    exact ⟨rfl, rfl, And.intro (fun e1 => ⟨Rel_Lg R, And.intro (fun e2 => h 0 (Or.inr (Or.inr ⟨by omega, by simp only [wr] at e2; omega, rfl⟩))) (fun e2 => h (-3) (Or.inr (Or.inl ⟨by omega, by simp only [wr] at e2; omega, rfl⟩)))⟩) (fun e1 => absurd e1 (by simp only [wr]; omega))⟩
/-- the class's end when an EVENT came -/
def CFin (g g6 r r2 : ab_H) (k a o t sh x y w : Int) : Prop := ∃ g1 : ab_H, RelR r2 ∧ Mkd g r g1 r2 ∧ MkU g g1 r2 ∧ MkV g1 (r2 65 (U0 (g 0 14))) (ss g) ∧ (∀ c j : Int, ¬ (45 ≤ c ∧ c ≤ 50) → c ≠ 57 → c ≠ 58 → c ≠ 64 → ¬ (r 0 5 ≤ c ∧ c ≤ r 0 5 + 10) → g6 c j = g1 c j) ∧ (g6 57 2 = g 57 2 ∧ g6 57 3 = g 57 3) ∧ LgV g6 (r 0 5) (evadd (ss g) (ss g 1080) k a o t sh x y w) (ss g 1080 + 1) ∧ LgL g6 (r 0 5) (evadd (ss g) (ss g 1080) k a o t sh x y w) (LF (tt g) (evadd (ss g) (ss g 1080) k a o t sh x y w) (-1) (-1)) (BF (tt g) (evadd (ss g) (ss g 1080) k a o t sh x y w) (-1) (-1)) (ss g 1080 + 1) ∧ ShV g6 57 (sn (evadd (ss g) (ss g 1080) k a o t sh x y w) (ss g 1089) (ss g 1090) (ss g 1080 + 1)) ∧ StV g6 45 (rep (evadd (ss g) (ss g 1080) k a o t sh x y w) (LF (tt g) (evadd (ss g) (ss g 1080) k a o t sh x y w) (-1) (-1)) (BF (tt g) (evadd (ss g) (ss g 1080) k a o t sh x y w) (-1) (-1)) (-1) 120 (ss g 1080 + 1)) (ss g 1080 + 1)
theorem t_EL_comes {K : Int} {S : Nat} {g0 g r : ab_H} {k a o t sh x y : Int} (P : Int → ab_H → ab_H → Prop) (hr : SI r) (hK : 186 ≤ K) (hK2 : 187 ≤ K) (R0 : Rel g0 r) (hg : ∀ c j : Int, c ≠ 64 → g c j = g0 c j) (hrow : g 64 0 = x ∧ g 64 1 = y ∧ g 64 2 = 0) (hk : (0 ≤ k ∧ k ≤ 6) ∧ (0 ≤ a ∧ a < g0 163 0) ∧ (k = 6 → (0 ≤ o ∧ o < g0 163 0) ∧ o ≠ a)) (ht : 0 ≤ t ∧ t ≤ 9999) (hsh : sh = 1 ∨ sh = 3) (hx : 0 ≤ x ∧ x ≤ 99999) (hy : 0 ≤ y ∧ y ≤ 99999) (h2 : (0 < ss g0 1080 ∧ t < ss g0 (9 * (ss g0 1080 - 1) + 3)) → P (-2) g r) (h3 : ¬ (0 < ss g0 1080 ∧ t < ss g0 (9 * (ss g0 1080 - 1) + 3)) → ss g0 1080 = 120 → P (-3) g r) (h4 : ¬ (0 < ss g0 1080 ∧ t < ss g0 (9 * (ss g0 1080 - 1) + 3)) → ss g0 1080 < 120 → ∀ g6 r2 : ab_H, CFin g0 g6 r r2 k a (if k = 6 then o else -2) t sh x y 0 → P (ss g0 1080) g6 r2) : ab_RI m_EL_comes [(2, 0), (0, k), (0, a), (0, o), (0, t), (0, sh)] K S g r P := by
  have hc : ∀ c : Int, c ≠ 64 → g c = g0 c := fun c hc => funext fun j => hg c j hc
  have hScr : Scr g0 g r := by
    refine ⟨fun c j a _ _ d _ => hg c j d, fun c a b => hc c (by omega), hc _ (by omega), hc _ (by omega), ?_, fun j _ _ _ _ _ _ _ => hg 161 j (by omega), ?_⟩
    · unfold ss; rw [hc 174 (by omega)]
    · rw [hg 161 35 (by omega)]; exact R0.2.2.2.2.2.2.2.1
  have R := Rel_scr R0 hScr
  have hss : ss g = ss g0 := Scr_ss hScr
  have S1 := R.2.2.2.1
  have S0 := R0.2.2.2.1
  have G := S0.1
  have n1 := G.1
  have T1 := R0.2.2.1.2.2.1
  have k1 := G.2.2.2.2.2.1
  have U1 := R0.2.2.2.2.1.1
  have hr5 := R0.1.2.2.1
  have hr3 := R0.1.2.1
  apply v_EL_comes _ hr hK
  apply s_EL_refusalAt _ hr hK R ht
  rw [hss]
  intro z hz
  refine ⟨rfl, rfl, And.intro (fun e1 => ?_) (fun e1 => ?_)⟩
  · have hok : ¬ (0 < ss g0 1080 ∧ t < ss g0 (9 * (ss g0 1080 - 1) + 3)) ∧ ss g0 1080 < 120 := by simp only [wr] at e1; omega
    apply t_EL_mark _ hr hK hK2 R
    intro g1 r1 hR1 hM hMU hml
    have h14 : g 0 14 = g0 0 14 := hg 0 14 (by omega)
    have hi := Mkd_hi hM (by omega)
    have hr0 : r1 0 = r 0 := hi.2.2 0 (by omega)
    -- the marks speak of g0 as well
    have hM0 : ∀ c j : Int, (c < r1 65 (U0 (g0 0 14)) ∨ r1 65 (U0 (g0 0 14)) + 3 < c) → c ≠ 0 ∨ j ≠ 14 → g1 c j = g c j := by
      have := hM.2.2.2.2.1
      rw [h14] at this
      exact this
    have hn1 : g1 (r 0 5) 10 = ss g0 1080 := by rw [hi.2.1 _ _ (by omega) (by omega), hg _ _ (by omega)]; exact S0.2.1.1
    have hv1 : LgV g1 (r 0 5) (ss g0) (ss g0 1080) := LgV_mono S0.2.1 (fun c i a b => by rw [hi.2.1 c i (by omega) (by omega), hg c i (by omega)])
    rw [hr0]
    have hN : EvNew (ss g0) (ss g0 1080) k a (if k = 6 then o else -2) t sh := ⟨by omega, fun _ => ⟨by omega, by omega⟩, fun h6 => by rw [if_pos h6]; have := (hk.2.2 h6).1; omega, fun h7 => by omega, ht⟩
    refine ⟨hR1.1, Rel_Lg R0, Rel_Lg R0, ?_⟩
    apply s_Lg_add (b := if k = 6 then o else -2) (x := x) (y := y) (w := 0) _ hR1.1 hK hK2 (Rel_Lg R0) (ar_row hK) (by omega) hv1 hok.2 G.2.1 hN (by omega) (fun h6 => if_pos h6) ((hi.2.1 64 0 (by omega) (by omega)).trans hrow.1) ((hi.2.1 64 1 (by omega) (by omega)).trans hrow.2.1) ((hi.2.1 64 2 (by omega) (by omega)).trans hrow.2.2)
    intro g8 f8 hv8 h87 h88
    have hE' := EvOk_add (x := x) (y := y) (w := 0) G.2.1 hN n1.1 hx hy (by omega)
    have e8 := hv8.2.2.1 (ss g0 1080) n1.1 (by omega)
    rw [hn1]
    refine ⟨rfl, Rel_Te R0, Rel_Lg R0, ?_⟩
    have hTe8 : TeV g8 (r 0 3) (tt g0) := TeV_mono R0.2.2.1.2.1 (fun c i a b => by rw [f8 c i (by omega), hi.2.1 c i (by omega) (by omega), hg c i (by omega)])
    apply s_Te_lift (s := evadd (ss g0) (ss g0 1080) k a (if k = 6 then o else -2) t sh x y 0) (n := ss g0 1080 + 1) _ hR1.1 hK hK2 (Rel_Te R0) (Rel_Lg R0) R0.2.2.1.1 hTe8 e8.1 e8.2.2.2.2.1 e8.2.2.2.2.2.2 hE' ⟨n1.1, by omega⟩ (by omega) (by omega) (by omega)
    intro g12 f12 hl12
    have hv12 : LgV g12 (r 0 5) (evadd (ss g0) (ss g0 1080) k a (if k = 6 then o else -2) t sh x y 0) (ss g0 1080 + 1) := by
      refine ⟨by rw [f12 _ _ (by omega) (by omega)]; exact hv8.1, hv8.2.1, fun e p q => ?_, fun p u v => by rw [f12 _ _ (by omega) (by omega)]; exact hv8.2.2.2 p u v⟩
      have h3' := hv8.2.2.1 e p q
      rw [f12 (r 0 5 + 1) e (by omega) (by omega), f12 (r 0 5 + 2) e (by omega) (by omega), f12 (r 0 5 + 3) e (by omega) (by omega), f12 (r 0 5 + 4) e (by omega) (by omega), f12 (r 0 5 + 5) e (by omega) (by omega), f12 (r 0 5 + 9) e (by omega) (by omega)]
      exact ⟨h3'.1, h3'.2.1, h3'.2.2.1, h3'.2.2.2.1, h3'.2.2.2.2.1, h3'.2.2.2.2.2.1, fun h7 f c d => by rw [f12 (r 0 5 + 6) _ (by omega) (by omega)]; exact h3'.2.2.2.2.2.2 h7 f c d⟩
    have hl12' : LgL g12 (r 0 5) (evadd (ss g0) (ss g0 1080) k a (if k = 6 then o else -2) t sh x y 0) (LF (tt g0) (evadd (ss g0) (ss g0 1080) k a (if k = 6 then o else -2) t sh x y 0) (-1) (-1)) (BF (tt g0) (evadd (ss g0) (ss g0 1080) k a (if k = 6 then o else -2) t sh x y 0) (-1) (-1)) (ss g0 1080 + 1) := by
      intro e p q h7
      by_cases he : e = ss g0 1080
      · rw [he] at h7 ⊢; exact hl12 h7
      · have he2 : 0 ≤ e ∧ e < ss g0 1080 := by omega
        rw [evadd_old he2 (by omega : (0 : Int) ≤ 0 ∧ (0 : Int) < 9) (Or.inl (by omega))] at h7
        have h3' := S0.2.2.1 e p he2.2 h7
        rw [(LF_pre EvPre_add p he2.2).1, (LF_pre EvPre_add p he2.2).2, f12 (r 0 5 + 8) e (by omega) (by omega), h88 e he2.2, hi.2.1 (r 0 5 + 8) e (by omega) (by omega), hg (r 0 5 + 8) e (by omega)]
        refine ⟨h3'.1, fun f u v => ?_⟩
        rw [f12 (r 0 5 + 7) _ (by omega) (by omega), h87, hi.2.1 (r 0 5 + 7) _ (by omega) (by omega), hg (r 0 5 + 7) _ (by omega)]
        exact h3'.2 f u v
    have lo12 : ∀ c j : Int, ¬ (r 0 5 ≤ c ∧ c ≤ r 0 5 + 10) → g12 c j = g1 c j := fun c j hcj => by rw [f12 c j (by omega) (by omega), f8 c j (by omega)]
    have h572 : g12 57 2 = g0 57 2 := by rw [lo12 57 2 (by omega), hi.2.1 57 2 (by omega) (by omega), hg 57 2 (by omega)]
    have h573 : g12 57 3 = g0 57 3 := by rw [lo12 57 3 (by omega), hi.2.1 57 3 (by omega) (by omega), hg 57 3 (by omega)]
    refine ⟨rfl, ?_⟩
    apply t_EL_rebuild (n := ss g0 1080 + 1) (T := tt g0) (ev := ss g0 1089) (kp := ss g0 1090) (s := evadd (ss g0) (ss g0 1080) k a (if k = 6 then o else -2) t sh x y 0) _ hR1.1 hK (by rw [hr0]; exact Rel_Lg R0) (by rw [hr0]; exact hv12) (by rw [hr0]; exact hl12') R0.2.2.1.1 hE' (by rw [h572]; exact S0.2.2.2.1.1) (by rw [h573]; exact S0.2.2.2.1.2) k1 G.2.2.2.2.1
    intro g14 f14 f57 hs14 hq14
    have hx1 : ∀ c j : Int, c ≠ 64 → (fun c => if c = 64 then g0 64 else g1 c : ab_H) c j = g1 c j := fun c j hne => by
      show (if c = 64 then g0 64 else g1 c) j = g1 c j
      rw [if_neg hne]
    have hu : 0 ≤ U0 (g0 0 14) ∧ U0 (g0 0 14) < 20 := by unfold U0; split <;> omega
    have hjg : ∀ i : Int, sj g i = sj g0 i := fun i => by unfold sj; rw [hc 177 (by omega)]
    refine ⟨rfl, h4 hok.1 hok.2 g14 r1 ⟨fun c => if c = 64 then g0 64 else g1 c, hR1, ?_, ?_, ?_, fun c j u v w1 w2 w3 => ?_, ⟨?_, ?_⟩, ?_, ?_, hs14, hq14⟩⟩
    · refine ⟨hM.1, ?_, hM.2.2.1, hM.2.2.2.1, fun c j u v => ?_, ?_⟩
      · have := hM.2.1; rw [h14] at this; exact this
      · by_cases h64 : c = 64
        · show (if c = 64 then g0 64 else g1 c) j = g0 c j
          rw [if_pos h64, h64]
        · rw [hx1 c j h64, hM0 c j u v, hg c j h64]
      · rw [hx1 0 14 (by omega)]
        have := hM.2.2.2.2.2; rw [h14] at this; exact this
    · intro j u v
      have hp := (hM.2.2.1 j u (by omega)).1
      unfold isMk at hp
      have h5 := hMU j u (by rw [h14]; exact v)
      rw [h14, hjg] at h5
      exact MkV_mono h5 (fun c i p q => hx1 c i (by omega))
    · have hp := (hM.2.2.1 _ hu.1 hu.2).1
      unfold isMk at hp
      have h5 := hml
      rw [h14, hss] at h5
      exact MkV_mono h5 (fun c i p q => hx1 c i (by omega))
    · rw [hx1 c j w2]; rw [f14 c j (by omega)]; exact lo12 c j w3
    · rw [f57 2 (by omega)]; exact h572
    · rw [f57 3 (by omega)]; exact h573
    · exact LgV_mono hv12 (fun c i u v => f14 c i (by omega))
    · exact LgL_mono hl12' (fun c i u v => f14 c i (by omega))
  · rcases hz with hz | hz | hz
    · rw [hz.2]; exact h2 hz.1
    · rw [hz.2.2]; exact h3 hz.1 hz.2.1
    · exact absurd hz.2.2 (by simp only [wr] at e1; omega)
theorem CFin_lo {g g6 r r2 : ab_H} {k a o t sh x y w : Int} (R : Rel g r) (h : CFin g g6 r r2 k a o t sh x y w) : (∀ c : Int, c < 0 ∨ 161 ≤ c → g6 c = g c) ∧ (∀ c : Int, c ≠ 65 → r2 c = r c) := by
  rcases h with ⟨g1, _, hM, _, _, hc6, _⟩
  have U1 := R.2.2.2.2.1.1
  have hi := Mkd_hi hM (by omega)
  have hr5 := R.1.2.2.1
  exact ⟨fun c hc => by rw [← hi.1 c hc]; exact funext fun j => hc6 c j (by omega) (by omega) (by omega) (by omega) (by omega), hi.2.2⟩
theorem Rel_fin {g g6 g7 g2 r r2 : ab_H} {k a o t sh x y : Int} (R : Rel g r) (hn : ss g 1080 < 120) (hN : EvNew (ss g) (ss g 1080) k a o t sh) (hfx : 0 ≤ x ∧ x ≤ 99999) (hfy : 0 ≤ y ∧ y ≤ 99999) (ha : k ≠ 7 → a < g 163 0) (ho : (k = 6 → o < g 163 0) ∧ (k = 7 → a = -2) ∧ (k ≠ 6 → k ≠ 7 → o = -2)) (h7 : k = 7 → ss g (9 * o + 8) = 0) (hC : CFin g g6 r r2 k a o t sh x y 0) (h67 : ∀ c : Int, c ≤ 160 → g7 c = g6 c) (hM2 : MFin g g7 g2 k a o t sh x y) : Rel g2 r2 ∧ ∀ c : Int, c < 0 → g2 c = g c ∧ r2 c = r c := by
  have hlo := CFin_lo R hC
  rcases hC with ⟨g1, hR2, hM, hMU, hml, hc6, h57, hv6, hl6, hs6, hq6⟩
  rcases hM2 with ⟨m1, m2, m3, m4, m5, m6, m7, m8, m9, m10⟩
  refine ⟨Rel_add (g1 := g1) (g6 := g6) R hR2 hn hN hfx hfy (by omega) ha ho h7 hM hMU hml (fun c j _ => hc6 c j) h57 hv6 hl6 hs6 hq6 (fun c hc => by rw [m1 c hc, h67 c hc]) m2 m3 m4 m5 m6 m7 m8 m9 m10, fun c hc => ⟨?_, hlo.2 c (by omega)⟩⟩
  rw [m1 c (by omega), h67 c (by omega), hlo.1 c (Or.inl hc)]
theorem MS_t {g g6 g7 r r2 : ab_H} {k a o t sh x y w v : Int} (R : Rel g r) (h : CFin g g6 r r2 k a o t sh x y w) (hg : g7 = ab_up g6 161 0 v) : MS g g7 ∧ ∀ c : Int, c ≤ 160 → g7 c = g6 c := by
  have hlo := CFin_lo R h
  exact ⟨⟨fun c a b => by rw [hg, up_f (by omega), hlo.1 c (by omega)], fun j hj => by rw [hg, up_k hj, hlo.1 161 (by omega)]⟩, fun c hc => by rw [hg, up_f (by omega)]⟩
theorem MS_s {g g5 g7 r : ab_H} {v : Int} (h : ∀ c : Int, c ≠ 64 → g5 c = g c) (hg : g7 = ab_up g5 161 0 v) : MS g g7 := ⟨fun c a b => by rw [hg, up_f (by omega), h c (by omega)], fun j hj => by rw [hg, up_k hj, h 161 (by omega)]⟩
/-- the reference refuses: from a state that is as good as g -/
theorem rf_ev {K : Int} {S : Nat} {g g5 r : ab_H} {k a o t sh x y v : Int} (hr : SI r) (hK : 186 ≤ K) (R : Rel g r) (h5 : ∀ c : Int, c ≠ 64 → g5 c = g c) (hk : I32 k) (ha : I32 a) (ho : I32 o) (ht : I32 t) (hsh : sh = 1 ∨ sh = 3) (hx : I32 x) (hy : I32 y) (hv : (¬ EvC (g 163 0) k a o t x y ∧ v = -1) ∨ (EvC (g 163 0) k a o t x y ∧ (0 < ss g 1080 ∧ t < ss g (9 * (ss g 1080 - 1) + 3)) ∧ v = -2) ∨ (EvC (g 163 0) k a o t x y ∧ ¬ (0 < ss g 1080 ∧ t < ss g (9 * (ss g 1080 - 1) + 3)) ∧ ss g 1080 = 120 ∧ v = -3)) : ∀ g7 : ab_H, g7 = ab_up g5 161 0 0 → ab_RI m_M_eventOf [(2, 161), (0, k), (0, a), (0, o), (0, t), (0, sh), (0, x), (0, y)] K S g7 r (fun x3 g2 r' => r' = r ∧ (v = x3 ∧ Rel g2 r ∧ (∀ c : Int, c < 0 → g2 c = g c ∧ r c = r c))) := by
  intro g7 hg7
  have n1 := R.2.2.2.1.1.1
  have c7 : ∀ c : Int, c ≠ 64 → c ≠ 161 → g7 c = g c := fun c p q => by rw [hg7, up_f q, h5 c p]
  have hS : Scr g g7 r := by
    refine ⟨fun c j p _ _ d _ => by rw [c7 c d (by omega)], fun c p q => c7 c (by omega) (by omega), c7 _ (by omega) (by omega), c7 _ (by omega) (by omega), ?_, fun j p _ _ _ _ _ _ => by rw [hg7, up_k p, h5 161 (by omega)], ?_⟩
    · unfold ss; rw [c7 174 (by omega) (by omega)]
    · rw [hg7, up_k (by omega), h5 161 (by omega)]; exact R.2.2.2.2.2.2.2.1
  have fin : Rel g7 r ∧ ∀ c : Int, c < 0 → g7 c = g c ∧ r c = r c := ⟨Rel_scr R hS, fun c hc => ⟨c7 c (by omega) (by omega), rfl⟩⟩
  refine t_M_eventOf _ hr hK R (MS_s (r := r) h5 hg7) hk ha ho ht hsh hx hy (fun e1 => ⟨rfl, ?_, fin⟩) (fun e1 e2 => ⟨rfl, ?_, fin⟩) (fun e1 e2 e3 => ⟨rfl, ?_, fin⟩) (fun e1 e2 e3 => ?_)
  · rcases hv with hv | hv | hv
    · exact hv.2
    · exact absurd hv.1 e1
    · exact absurd hv.1 e1
  · rcases hv with hv | hv | hv
    · exact absurd e1 hv.1
    · exact hv.2.2
    · exact absurd e2 hv.2.1
  · rcases hv with hv | hv | hv
    · exact absurd e1 hv.1
    · exact absurd hv.2.1 e2
    · exact hv.2.2.2
  · rcases hv with hv | hv | hv
    · exact absurd e1 hv.1
    · exact absurd hv.2.1 e2
    · exfalso; have := hv.2.2.1; omega
theorem fillRow_c {g g1 g2 g3 : ab_H} {x y : Int} (h1 : g1 = ab_up g 64 0 x) (h2 : g2 = ab_up g1 64 1 y) (h3 : g3 = ab_up g2 64 2 0) : (∀ c j : Int, c ≠ 64 → g3 c j = g c j) ∧ (g3 64 0 = x ∧ g3 64 1 = y ∧ g3 64 2 = 0) :=
  ⟨fun c j hc => by rw [h3, h2, h1, up_a hc, up_a hc, up_a hc], by rw [h3, up_k (by omega), h2, up_k (by omega), h1, up_s], by rw [h3, up_k (by omega), h2, up_s], by rw [h3, up_s]⟩
theorem p_event {K : Int} {S : Nat} {g r : ab_H} {k a o t x y : Int} (hr : SI r) (hK : 186 ≤ K) (hK2 : 187 ≤ K) (R : Rel g r) (hk : I32 k) (ha : I32 a) (ho : I32 o) (ht : I32 t) (hx : I32 x) (hy : I32 y) : PB m_EL_event [(2, 0), (0, k), (0, a), (0, o), (0, t), (0, x), (0, y)] m_M_event [(2, 161), (0, k), (0, a), (0, o), (0, t), (0, x), (0, y)] K S g r := by
  have n1 := R.2.2.2.1.1.1
  have rf : ∀ v : Int, ¬ EvC (g 163 0) k a o t x y → v = -1 → ab_RI m_M_event [(2, 161), (0, k), (0, a), (0, o), (0, t), (0, x), (0, y)] K S g r (fun y g2 r2 => v = y ∧ Rel g2 r2 ∧ (∀ c : Int, c < 0 → g2 c = g c ∧ r2 c = r c)) := by
    intro v h1 h2
    apply v_M_event _ hr hK
    intro g7 hg7
    exact rf_ev hr hK R (fun _ _ => rfl) hk ha ho ht (Or.inr rfl) hx hy (Or.inl ⟨h1, h2⟩) g7 hg7
  unfold PB
  apply v_EL_event _ hr hK
  apply s_EL_canBe _ hr hK R hk ha ho
  intro u hu
  refine ⟨rfl, rfl, And.intro (fun e1 => rf _ (fun hh => absurd hh.1 (by simp only [wr] at e1; omega)) rfl) (fun e1 => ?_)⟩
  apply s_EL_isTime _ hr hK ht
  intro z hz
  refine ⟨rfl, rfl, And.intro (fun e2 => rf _ (fun hh => absurd hh.2.1 (by simp only [wr] at e2; omega)) rfl) (fun e2 => ?_)⟩
  apply s_EL_isNumber _ hr hK hx
  intro z3 hz3
  refine ⟨rfl, rfl, And.intro (fun e3 => rf _ (fun hh => absurd hh.2.2.1 (by simp only [wr] at e3; omega)) rfl) (fun e3 => ?_)⟩
  apply s_EL_isNumber _ hr hK hy
  intro z4 hz4
  refine ⟨rfl, rfl, And.intro (fun e4 => ?_) (fun e4 => rf _ (fun hh => absurd hh.2.2.2 (by simp only [wr] at e4; omega)) rfl)⟩
  have hC : EvC (g 163 0) k a o t x y := ⟨by simp only [wr] at e1; omega, by simp only [wr] at e2; omega, by simp only [wr] at e3; omega, by simp only [wr] at e4; omega⟩
  apply v_EL_fillRow _ hr hK
  refine ⟨by omega, fun a1 ha1 => ⟨by omega, fun a2 ha2 => ⟨by omega, fun g5 hg5 => ⟨rfl, ?_⟩⟩⟩⟩
  have hrow := fillRow_c ha1 ha2 hg5
  have h5 : ∀ c : Int, c ≠ 64 → g5 c = g c := fun c hc => funext fun j => hrow.1 c j hc
  apply t_EL_comes _ hr hK hK2 R hrow.1 hrow.2 hC.1 hC.2.1 (Or.inr rfl) hC.2.2.1 hC.2.2.2
  · intro h2
    refine ⟨hr, ?_⟩
    apply v_M_event _ hr hK
    intro g7 hg7
    exact rf_ev hr hK R h5 hk ha ho ht (Or.inr rfl) hx hy (Or.inr (Or.inl ⟨hC, h2, rfl⟩)) g7 hg7
  · intro h2 h3
    refine ⟨hr, ?_⟩
    apply v_M_event _ hr hK
    intro g7 hg7
    exact rf_ev hr hK R h5 hk ha ho ht (Or.inr rfl) hx hy (Or.inr (Or.inr ⟨hC, h2, h3, rfl⟩)) g7 hg7
  · intro h2 h3 g6 r2 hcf
    have hr2 : SI r2 := by rcases hcf with ⟨g1, hR2, _⟩; exact hR2.1
    refine ⟨hr2, ?_⟩
    apply v_M_event _ hr2 hK
    intro g7 hg7
    have hms := MS_t R hcf hg7
    refine t_M_eventOf _ hr2 hK R hms.1 hk ha ho ht (Or.inr rfl) hx hy (fun e => absurd hC e) (fun _ e => absurd e h2) (fun _ _ e => by omega) (fun _ _ _ g' hfin => ⟨rfl, rfl, ?_⟩)
    exact Rel_fin R h3 ⟨by have := hC.1.1; omega, fun _ => ⟨by have := hC.1.2.1; have := R.2.2.1.2.2.1; omega, by omega⟩, fun h6 => by rw [if_pos h6]; have := (hC.1.2.2 h6).1; have := R.2.2.1.2.2.1; omega, fun h7 => by have := hC.1.1; omega, hC.2.1⟩ hC.2.2.1 hC.2.2.2 (fun _ => hC.1.2.1.2) ⟨fun h6 => by rw [if_pos h6]; exact (hC.1.2.2 h6).1.2, fun h7 => by have := hC.1.1; omega, fun h6 _ => if_neg h6⟩ (fun h7 => by have := hC.1.1; omega) hcf hms.2 hfin
theorem p_old {K : Int} {S : Nat} {g r : ab_H} {k a o t x : Int} (hr : SI r) (hK : 186 ≤ K) (hK2 : 187 ≤ K) (R : Rel g r) (hk : I32 k) (ha : I32 a) (ho : I32 o) (ht : I32 t) (hx : I32 x) : PB m_EL_old [(2, 0), (0, k), (0, a), (0, o), (0, t), (0, x)] m_M_old [(2, 161), (0, k), (0, a), (0, o), (0, t), (0, x)] K S g r := by
  have hy : I32 0 := by unfold I32; omega
  have rf : ∀ v : Int, ¬ EvC (g 163 0) k a o t x 0 → v = -1 → ab_RI m_M_old [(2, 161), (0, k), (0, a), (0, o), (0, t), (0, x)] K S g r (fun y g2 r2 => v = y ∧ Rel g2 r2 ∧ (∀ c : Int, c < 0 → g2 c = g c ∧ r2 c = r c)) := by
    intro v h1 h2
    apply v_M_old _ hr hK
    intro g7 hg7
    exact rf_ev hr hK R (fun _ _ => rfl) hk ha ho ht (Or.inl rfl) hx hy (Or.inl ⟨h1, h2⟩) g7 hg7
  unfold PB
  apply v_EL_old _ hr hK
  apply s_EL_canBe _ hr hK R hk ha ho
  intro u hu
  refine ⟨rfl, rfl, And.intro (fun e1 => rf _ (fun hh => absurd hh.1 (by simp only [wr] at e1; omega)) rfl) (fun e1 => ?_)⟩
  apply s_EL_isTime _ hr hK ht
  intro z hz
  refine ⟨rfl, rfl, And.intro (fun e2 => rf _ (fun hh => absurd hh.2.1 (by simp only [wr] at e2; omega)) rfl) (fun e2 => ?_)⟩
  apply s_EL_isNumber _ hr hK hx
  intro z3 hz3
  refine ⟨rfl, rfl, And.intro (fun e3 => ?_) (fun e3 => rf _ (fun hh => absurd hh.2.2.1 (by simp only [wr] at e3; omega)) rfl)⟩
  have hC : EvC (g 163 0) k a o t x 0 := ⟨by simp only [wr] at e1; omega, by simp only [wr] at e2; omega, by simp only [wr] at e3; omega, by omega⟩
  apply v_EL_fillRow _ hr hK
  refine ⟨by omega, fun a1 ha1 => ⟨by omega, fun a2 ha2 => ⟨by omega, fun g5 hg5 => ⟨rfl, ?_⟩⟩⟩⟩
  have hrow := fillRow_c ha1 ha2 hg5
  have h5 : ∀ c : Int, c ≠ 64 → g5 c = g c := fun c hc => funext fun j => hrow.1 c j hc
  apply t_EL_comes _ hr hK hK2 R hrow.1 hrow.2 hC.1 hC.2.1 (Or.inl rfl) hC.2.2.1 hC.2.2.2
  · intro h2
    refine ⟨hr, ?_⟩
    apply v_M_old _ hr hK
    intro g7 hg7
    exact rf_ev hr hK R h5 hk ha ho ht (Or.inl rfl) hx hy (Or.inr (Or.inl ⟨hC, h2, rfl⟩)) g7 hg7
  · intro h2 h3
    refine ⟨hr, ?_⟩
    apply v_M_old _ hr hK
    intro g7 hg7
    exact rf_ev hr hK R h5 hk ha ho ht (Or.inl rfl) hx hy (Or.inr (Or.inr ⟨hC, h2, h3, rfl⟩)) g7 hg7
  · intro h2 h3 g6 r2 hcf
    have hr2 : SI r2 := by rcases hcf with ⟨g1, hR2, _⟩; exact hR2.1
    refine ⟨hr2, ?_⟩
    apply v_M_old _ hr2 hK
    intro g7 hg7
    have hms := MS_t R hcf hg7
    refine t_M_eventOf _ hr2 hK R hms.1 hk ha ho ht (Or.inl rfl) hx hy (fun e => absurd hC e) (fun _ e => absurd e h2) (fun _ _ e => by omega) (fun _ _ _ g' hfin => ⟨rfl, rfl, ?_⟩)
    exact Rel_fin R h3 ⟨by have := hC.1.1; omega, fun _ => ⟨by have := hC.1.2.1; have := R.2.2.1.2.2.1; omega, by omega⟩, fun h6 => by rw [if_pos h6]; have := (hC.1.2.2 h6).1; have := R.2.2.1.2.2.1; omega, fun h7 => by have := hC.1.1; omega, hC.2.1⟩ hC.2.2.1 hC.2.2.2 (fun _ => hC.1.2.1.2) ⟨fun h6 => by rw [if_pos h6]; exact (hC.1.2.2 h6).1.2, fun h7 => by have := hC.1.1; omega, fun h6 _ => if_neg h6⟩ (fun h7 => by have := hC.1.1; omega) hcf hms.2 hfin
