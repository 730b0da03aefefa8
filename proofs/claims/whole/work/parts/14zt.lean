/-! SPECS, part zt: chance, the class's; the pair. -/
theorem psm_nil {f : Int → Int} : ∀ m : Nat, (∀ i : Int, 0 ≤ i → i < m → f i = 0) → psm f m = 0
  | 0, _ => psm_0
  | m + 1, h => by
    rw [show ((m + 1 : Nat) : Int) = (m : Int) + 1 by omega, psm_s (by omega), psm_nil m (fun i a b => h i a (by omega)), h m (by omega) (by omega)]
    rfl
theorem stk_nil {s : Int → Int} {ev kp since : Int} (hs : 0 ≤ since) : psm (stk s ev kp since) since = 0 := by
  have h := psm_nil (f := stk s ev kp since) since.toNat (fun i a b => by unfold stk; rw [if_neg (by omega)])
  rw [show (since.toNat : Int) = since by omega] at h
  exact h
theorem cht_max {g r : ab_H} (R : Rel g r) : ab_max 0 (if 0 < ss g 1080 then ss g (9 * (ss g 1080 - 1) + 3) else -2) = cht g := by
  have G := R.2.2.2.1.1
  have h := cht_in R
  unfold cht at h ⊢
  rw [bit_max]
  by_cases hp : 0 < ss g 1080
  · rw [if_pos hp] at h ⊢
    rw [if_pos hp]
    by_cases h1 : wr 0 < wr (ss g (9 * (ss g 1080 - 1) + 3))
    · rw [if_pos h1]
    · rw [if_neg h1]; simp only [wr] at h1; omega
  · rw [if_neg hp, if_neg hp]; rfl
/-- the class's log of what came by chance -/
def ChL (g0 g r : ab_H) (sd n : Int) : Prop := (∀ c j : Int, c ≠ 64 → ¬ (r 0 6 ≤ c ∧ c ≤ r 0 6 + 10) → g c j = g0 c j) ∧ LgV g (r 0 6) (chs g0 sd n) (ss g0 1080 + n) ∧ LgL g (r 0 6) (chs g0 sd n) (LF (tt g0) (chs g0 sd n) (-1) (-1)) (BF (tt g0) (chs g0 sd n) (-1) (-1)) (ss g0 1080 + n)
theorem s_EL_addByChance {K : Int} {S : Nat} {g g0 r : ab_H} {sd n w d : Int} (P : ab_H → ab_H → Prop) (hr : SI r) (hK : 186 ≤ K) (hK2 : 187 ≤ K) (R : Rel g0 r) (hC : ChC g0 sd n w) (hd : d = if sd = -1 then g0 163 4 else sd) (hf : OFr g0 g (r 0 6)) (hv : LgV g (r 0 6) (ss g0) (ss g0 1080)) (hl : LgL g (r 0 6) (ss g0) (LF (tt g0) (ss g0) (-1) (-1)) (BF (tt g0) (ss g0) (-1) (-1)) (ss g0 1080)) (h : ∀ g' : ab_H, ChL g0 g' r sd n → P g' r) : ab_RV m_EL_addByChance [(2, 0), (0, d), (0, n)] K S g r P := by
  have G := R.2.2.2.1.1
  have hr6 := R.1.2.2.1
  have T1 := R.2.2.1.2.2.1
  have hc1 := hC.1
  have hc2 := hC.2
  have hL5 : LgV g (r 0 5) (ss g0) (ss g0 1080) := LgV_mono R.2.2.2.1.2.1 (fun c j a b => hf c j (by omega))
  apply v_EL_addByChance _ hr hK
  refine ⟨Rel_Lg R, ?_⟩
  apply s_Lg_latestTime _ hr hK (Rel_Lg R) hL5
  rw [cht_max R]
  refine ⟨rfl, rfl, ?_⟩
  have hnt : (n.toNat : Int) = n := by omega
  refine l_EL_add (N := 0) (nA := g0 163 0) P hr hK hK2 R rfl ⟨hc2.1, T1.2.2⟩ (cht_in R) hc1.2.1.2 n.toNat 0 (ss g0 1080) d (ss g0) g (by omega) (by omega) G.1.1 (by omega) G.2.1 (fun c j a b => hf c j (by omega)) hv hl (fun g' a b c => h g' ?_)
  rw [hnt, hd] at b c
  exact ⟨a, b, c⟩
theorem Ch_Scr {g0 g g' r : ab_H} {sd n : Int} (R : Rel g0 r) (h : ChL g0 g r sd n) (h2 : ∀ c j : Int, ¬ (51 ≤ c ∧ c ≤ 56) → ¬ (59 ≤ c ∧ c ≤ 60) → g' c j = g c j) : Scr g0 g' r := by
  have hr6 := R.1.2.2.1
  have hc : ∀ c : Int, 161 ≤ c → g' c = g0 c := fun c a => funext fun j => by rw [h2 c j (by omega) (by omega), h.1 c j (by omega) (by omega)]
  exact ⟨fun c j a b d e f => by
      by_cases e10 : c = r 0 6 + 10 ∧ j = 0
      · have n1 := h.2.1.2.1
        have h10 := h.2.1.2.2.2 0 (Int.le_refl _) n1.1
        rw [psm_0] at h10
        rw [h2 c j b d, e10.1, e10.2, h10, R.2.2.2.2.2.2.2.2.2]
      · rw [h2 c j b d, h.1 c j e (by omega)], fun c a b => hc c (by omega), hc _ (by omega), hc _ (by omega), by unfold ss; rw [hc 174 (by omega)], fun j _ _ _ _ _ _ _ => by rw [hc 161 (by omega)], by rw [hc 161 (by omega)]; exact R.2.2.2.2.2.2.2.1⟩
theorem Ch_ev {g0 r : ab_H} {sd n w : Int} (R : Rel g0 r) (hC : ChC g0 sd n w) : EvOk (chs g0 sd n) (ss g0 1080 + n) ∧ AcOk (chs g0 sd n) (ss g0 1080 + n) (g0 163 0) := by
  have G := R.2.2.2.1.1
  have T1 := R.2.2.1.2.2.1
  have hc1 := hC.1
  have hc2 := hC.2
  have hnt : (n.toNat : Int) = n := by omega
  have h1 := chF_ok (nA := g0 163 0) (t := cht g0) ⟨hc2.1, T1.2.2⟩ (cht_in R) n.toNat (ss g0 1080) (if sd = -1 then g0 163 4 else sd) (ss g0) G.1.1 G.2.1
  have h2 := chF_ac (nA := g0 163 0) (t := cht g0) ⟨hc2.1, T1.2.2⟩ n.toNat (ss g0 1080) (if sd = -1 then g0 163 4 else sd) (ss g0) G.1.1 G.2.2.2.1
  rw [hnt] at h1 h2
  exact ⟨h1, h2⟩
/-- replayed -/
theorem s_EL_chR {K : Int} {S : Nat} {g g0 r : ab_H} {sd n w : Int} (P : ab_H → ab_H → Prop) (hr : SI r) (hK : 186 ≤ K) (R : Rel g0 r) (hC : ChC g0 sd n w) (hL : ChL g0 g r sd n) (h : ∀ g' : ab_H, Scr g0 g' r → StV g' 51 (chq g0 sd n) (ss g0 1080 + n) → g' (r 0 6) 10 = ss g0 1080 + n → g' (r 0 5) 10 = ss g0 1080 → P g' r) : ab_RV m_St_replay [(2, 51), (2, r 0 6), (0, g (r 0 6) 10), (0, g (r 0 6) 10), (0, (-1))] K S g r P := by
  have G := R.2.2.2.1.1
  have hr6 := R.1.2.2.1
  have L6 : isLg (r 0 6) := by unfold isLg; omega
  have hE := (Ch_ev R hC).1
  have hc1 := hC.1
  have hc2 := hC.2
  have n1 := G.1
  rw [hL.2.1.1]
  apply s_St_replay (s := chs g0 sd n) (n := ss g0 1080 + n) (Lf := LF (tt g0) (chs g0 sd n) (-1) (-1)) (B := BF (tt g0) (chs g0 sd n) (-1) (-1)) _ hr hK (Or.inr rfl) L6 hL.2.1 hL.2.2 hE (LfOk_lft R.2.2.1.1 hE) ⟨by omega, Int.le_refl _⟩ (by omega) (by omega)
  intro g5 f5 hq
  have hvo : rep (chs g0 sd n) (LF (tt g0) (chs g0 sd n) (-1) (-1)) (BF (tt g0) (chs g0 sd n) (-1) (-1)) (-1) (ss g0 1080 + n) (ss g0 1080 + n) = chq g0 sd n := rep_vo (by omega) (fun e a b => by have := (hE e a b).2.2.2.2.2; omega)
  rw [hvo] at hq
  refine h g5 (Ch_Scr R hL (fun c j a _ => f5 c j (by omega))) hq ?_ ?_
  · rw [f5 _ _ (by omega)]; exact hL.2.1.1
  · rw [f5 _ _ (by omega), hL.1 _ _ (by omega) (by omega)]; exact R.2.2.2.1.2.1.1
/-- what the class says of it, from there -/
theorem s_EL_chT {K : Int} {S : Nat} {g g0 r : ab_H} {sd n w : Int} (P : Int → ab_H → ab_H → Prop) (hr : SI r) (hK : 186 ≤ K) (R : Rel g0 r) (hC : ChC g0 sd n w) (hL : ChL g0 g r sd n) (h : ∀ g' : ab_H, Scr g0 g' r → P (V_chance g0 sd n w) g' r) : (¬ wr w = wr 2 → (isLg (r 0 6)) ∧ (isLg (r 0 6)) ∧ (isLg (r 0 6)) ∧ ab_RV m_St_replay [(2, 51), (2, r 0 6), (0, g (r 0 6) 10), (0, g (r 0 6) 10), (0, (-1))] K S g r (fun g12 r' => r' = r ∧ (((¬ wr w = wr 0 → ab_RI m_St_sumBalances [(2, 51)] K S g12 r (fun x14 g' r' => g' = g12 ∧ r' = r ∧ (P x14 g12 r))) ∧ (wr w = wr 0 → (isLg (r 0 5)) ∧ (isLg (r 0 6)) ∧ ab_RI m_St_countAside [(2, 51), (0, g12 (r 0 5) 10), (0, g12 (r 0 6) 10)] K S g12 r (fun x17 g' r' => g' = g12 ∧ r' = r ∧ (P x17 g12 r))))))) ∧ (wr w = wr 2 → ∀ g18, g18 = ab_up g 59 2 (g 57 2) → ∀ g19, g19 = ab_up g18 59 3 (g18 57 3) → (isLg (r 0 6)) ∧ (isLg (r 0 5)) ∧ ab_RI m_Sh_retake [(2, 59), (2, r 0 6), (0, g19 (r 0 5) 10)] K S g19 r (fun x23 g22 r' => r' = r ∧ (P x23 g22 r))) := by
  have G := R.2.2.2.1.1
  have S1 := R.2.2.2.1
  have hr6 := R.1.2.2.1
  have L6 : isLg (r 0 6) := by unfold isLg; omega
  have L5 := Rel_Lg R
  have hE := Ch_ev R hC
  have T1 := R.2.2.1.2.2.1
  have n1 := G.1
  have hc1 := hC.1
  have hc2 := hC.2
  have e1 := G.2.2.2.2.1
  have k1 := G.2.2.2.2.2.1
  refine And.intro (fun h1 => ⟨L6, L6, L6, ?_⟩) (fun h1 g18 hg18 g19 hg19 => ⟨L6, L5, ?_⟩)
  · apply s_EL_chR _ hr hK R hC hL
    intro g12 f12 hq h10 h5
    refine ⟨rfl, And.intro (fun h2 => ?_) (fun h2 => ⟨L5, L6, ?_⟩)⟩
    · apply s_St_sumBalances _ hr hK (Or.inr rfl) hq
      intro y hy
      refine ⟨rfl, rfl, ?_⟩
      have hz : psm (chq g0 sd n).1 8 = psm (chq g0 sd n).1 (g0 163 0) := psm_z T1.2.1 (fun a b c => (rep_none hE.1 hE.2 (by omega) b).1) T1.2.2
      have hV : V_chance g0 sd n w = y := by
        unfold V_chance
        rw [if_neg (by simp only [wr] at h2; omega), if_pos (by simp only [wr] at h1 h2; omega), hy, hz]
      rw [← hV]
      exact h g12 f12
    · rw [h10, h5]
      apply s_St_countAside _ hr hK (Or.inr rfl) (by omega) (Int.le_refl _) (by omega) hq rep_cau
      intro y hy
      refine ⟨rfl, rfl, ?_⟩
      have hV : V_chance g0 sd n w = y := by
        unfold V_chance
        rw [if_pos (by simp only [wr] at h2; omega), hy]
      rw [← hV]
      exact h g12 f12
  · have f18 : ∀ c j : Int, ¬ (59 ≤ c ∧ c ≤ 60) → g18 c j = g c j := fun c j a => by rw [hg18, up_a (by omega)]
    have f19 : ∀ c j : Int, ¬ (59 ≤ c ∧ c ≤ 60) → g19 c j = g c j := fun c j a => by rw [hg19, up_a (by omega), f18 c j a]
    have e2 : g19 59 2 = ss g0 1089 := by rw [hg19, up_k (by omega), hg18, up_s, hL.1 57 2 (by omega) (by omega)]; exact S1.2.2.2.1.1
    have e3 : g19 59 3 = ss g0 1090 := by rw [hg19, up_s, f18 57 3 (by omega), hL.1 57 3 (by omega) (by omega)]; exact S1.2.2.2.1.2
    have e5 : g19 (r 0 5) 10 = ss g0 1080 := by rw [f19 _ _ (by omega), hL.1 _ _ (by omega) (by omega)]; exact S1.2.1.1
    rw [e5]
    apply s_Sh_retake (s := chs g0 sd n) (n := ss g0 1080 + n) (ev := ss g0 1089) (kp := ss g0 1090) _ hr hK (Or.inr rfl) L6 (LgV_mono hL.2.1 (fun c j a b => f19 c j (by omega))) hE.1 e2 e3 k1 e1 (by omega)
    intro y g' fs hy _
    refine ⟨rfl, ?_⟩
    have hV : V_chance g0 sd n w = y := by
      unfold V_chance
      rw [if_neg (by simp only [wr] at h1; omega), if_neg (by simp only [wr] at h1; omega), hy]
      have h9 := chT_eq (nA := g0 163 0) (t := cht g0) (ev := ss g0 1089) (kp := ss g0 1090) (since := ss g0 1080) k1.1 n.toNat (ss g0 1080) (if sd = -1 then g0 163 4 else sd) (ss g0) n1.1 (Int.le_refl _)
      have h8 := stk_nil (s := chF (g0 163 0) (cht g0) n.toNat (ss g0 1080) (ss g0) (if sd = -1 then g0 163 4 else sd)) (ev := ss g0 1089) (kp := ss g0 1090) n1.1
      have hnt : (n.toNat : Int) = n := by omega
      rw [hnt] at h9
      show _ = psm (stk (chF (g0 163 0) (cht g0) n.toNat (ss g0 1080) (ss g0) (if sd = -1 then g0 163 4 else sd)) (ss g0 1089) (ss g0 1090) (ss g0 1080)) (ss g0 1080 + n)
      omega
    rw [← hV]
    exact h g' (Ch_Scr R hL (fun c j _ b => by rw [fs c j (by omega) (by omega), f19 c j b]))
theorem p_chance {K : Int} {S : Nat} {g r : ab_H} {sd n w : Int} (hr : SI r) (hK : 186 ≤ K) (hK2 : 187 ≤ K) (R : Rel g r) (hsd : I32 sd) (hn : I32 n) (hw : I32 w) : PA m_EL_chance [(2, 0), (0, sd), (0, n), (0, w)] m_M_chance [(2, 161), (0, sd), (0, n), (0, w)] K S g r := by
  have hsd' := hsd
  have hn' := hn
  have hw' := hw
  unfold I32 at hsd' hn' hw'
  have G := R.2.2.2.1.1
  have S1 := R.2.2.2.1
  have hr6 := R.1.2.2.1
  have L6 : isLg (r 0 6) := by unfold isLg; omega
  have L5 := Rel_Lg R
  have n1 := G.1
  have T1 := R.2.2.1.2.2.1
  have T7 := R.2.2.1.2.2.2.2.2.2
  have tail : ∀ g' : ab_H, Scr g g' r → ChC g sd n w → ab_RI m_M_chance [(2, 161), (0, sd), (0, n), (0, w)] K S g' r (fun y g2 r2 => r2 = r ∧ Scr g' g2 r ∧ V_chance g sd n w = y) := by
    intro g' f' hC
    refine m_chance hr hK (Rel_scr R f') hsd hn hw ⟨fun _ => (Scr_Vch f' sd n w).symm, fun hc => absurd ((Scr_ChC f' sd n w).mpr hC) hc⟩
  have no : ¬ ChC g sd n w → ∀ x : Int, x = (if w = 1 then -2147483648 else -1) → (r = r ∧ Scr g g r ∧ ab_RI m_M_chance [(2, 161), (0, sd), (0, n), (0, w)] K S g r (fun y g2 r2 => r2 = r ∧ Scr g g2 r ∧ x = y)) :=
    fun hc x hx => ⟨rfl, Scr_rfl R, m_chance hr hK R hsd hn hw ⟨fun h => absurd h hc, fun _ => hx⟩⟩
  have yes : ChC g sd n w → ab_RV m_Lg_copyFrom [(2, r 0 6), (2, r 0 5)] K S g r (fun g5 r' => r' = r ∧ (OFr g g5 (r 0 6) ∧ LgV g5 (r 0 6) (ss g) (ss g 1080) ∧ LgL g5 (r 0 6) (ss g) (LF (tt g) (ss g) (-1) (-1)) (BF (tt g) (ss g) (-1) (-1)) (ss g 1080))) := by
    intro hC
    exact s_Lg_copyFrom _ hr hK hK2 L6 L5 (by omega) S1.2.1 S1.2.2.1 (fun g' a b c => ⟨rfl, a, b, c⟩)
  unfold PA
  apply v_EL_chance _ hr hK
  refine And.intro (fun hw1 => ?_) (fun hw1 => ?_)
  all_goals
    have hw1' := hw1
    simp only [wr] at hw1'
    refine And.intro (fun e1 => v_EL_chance_21 _ hr hK (no (fun hc => by have := hc.1; simp only [wr] at e1; omega) _ ?_)) (fun e1 => And.intro (fun e2 => v_EL_chance_21 _ hr hK (no (fun hc => by have := hc.1; simp only [wr] at e2; omega) _ ?_)) (fun e2 => And.intro (fun e3 => v_EL_chance_21 _ hr hK (no (fun hc => by have := hc.1; simp only [wr] at e3; omega) _ ?_)) (fun e3 => And.intro (fun e4 => v_EL_chance_21 _ hr hK (no (fun hc => by have := hc.1; simp only [wr] at e4; omega) _ ?_)) (fun e4 => And.intro (fun e5 => ⟨Rel_Te R, And.intro (fun e6 => v_EL_chance_34 _ hr hK (no (fun hc => by have := hc.2; rw [T1.1] at e6; simp only [wr] at e6; omega) _ ?_)) (fun e6 => ⟨L5, And.intro (fun e7 => ⟨L6, L5, ?_⟩) (fun e7 => v_EL_chance_34 _ hr hK (no (fun hc => by have := hc.2; rw [S1.2.1.1] at e7; simp only [wr] at e7 e2 e3; omega) _ ?_))⟩)⟩) (fun e5 => v_EL_chance_21 _ hr hK (no (fun hc => by have := hc.1; simp only [wr] at e5; omega) _ ?_))))))
  all_goals first
    | rw [if_neg (by omega)]
    | rw [if_pos (by omega)]
    | skip
  all_goals
    have hC : ChC g sd n w := by
      rw [T1.1] at e6
      rw [S1.2.1.1] at e7
      exact ⟨by simp only [wr] at e1 e2 e3 e4 e5; omega, by simp only [wr] at e6; omega, by simp only [wr] at e7 e2 e3; omega⟩
    refine (yes hC).mono (fun g5 r' h5 => ?_)
    obtain ⟨hx, h5⟩ := h5
    refine ⟨hx, ?_⟩
    refine And.intro (fun e8 => ?_) (fun e8 => ?_)
    · apply s_EL_addByChance (w := w) _ hr hK hK2 R hC (by rw [if_neg (by simp only [wr] at e8; omega)]) h5.1 h5.2.1 h5.2.2
      intro g7 hL
      exact ⟨rfl, s_EL_chT (fun x g1 r1 => r1 = r ∧ Scr g g1 r ∧ ab_RI m_M_chance [(2, 161), (0, sd), (0, n), (0, w)] K S g1 r (fun y g2 r2 => r2 = r ∧ Scr g1 g2 r ∧ x = y)) hr hK R hC hL (fun g' f' => ⟨rfl, f', tail g' f' hC⟩)⟩
    · have e12 : g5 (r 0 3) 12 = g 163 4 := by
        have hr3 := R.1.2.1
        rw [h5.1 _ _ (by omega)]; exact T7.1
      rw [e12]
      refine ⟨Rel_Te R, ?_⟩
      apply s_EL_addByChance (w := w) _ hr hK hK2 R hC (by rw [if_pos (by simp only [wr] at e8; omega)]) h5.1 h5.2.1 h5.2.2
      intro g7 hL
      exact ⟨rfl, s_EL_chT (fun x g1 r1 => r1 = r ∧ Scr g g1 r ∧ ab_RI m_M_chance [(2, 161), (0, sd), (0, n), (0, w)] K S g1 r (fun y g2 r2 => r2 = r ∧ Scr g1 g2 r ∧ x = y)) hr hK R hC hL (fun g' f' => ⟨rfl, f', tail g' f' hC⟩)⟩
