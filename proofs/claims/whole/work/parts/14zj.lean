/-! SPECS, part zj: rebuilding; what an EVENT more does. -/
theorem t_EL_rebuild {K : Int} {S : Nat} {g r : ab_H} {n ev kp : Int} {T : TT} {s : Int → Int} (P : ab_H → ab_H → Prop) (hr : SI r) (hK : 186 ≤ K) (hL : isLg (r 0 5)) (hv : LgV g (r 0 5) s n) (hl : LgL g (r 0 5) s (LF T s (-1) (-1)) (BF T s (-1) (-1)) n) (hT : TOk T) (hE : EvOk s n) (h2 : g 57 2 = ev) (h3 : g 57 3 = kp) (hkp : 0 ≤ kp ∧ kp ≤ 6) (hev : 1 ≤ ev ∧ ev ≤ 999) (h : ∀ g' : ab_H, (∀ c j : Int, c < 45 ∨ (50 < c ∧ c < 57) ∨ 58 < c → g' c j = g c j) → (∀ j : Int, j ≠ 1 → g' 57 j = g 57 j) → ShV g' 57 (sn s ev kp n) → StV g' 45 (rep s (LF T s (-1) (-1)) (BF T s (-1) (-1)) (-1) 120 n) n → P g' r) : ab_RV m_EL_rebuild [(2, 0)] K S g r P := by
  have hL' := hL
  unfold isLg at hL'
  have n1 := hv.2.1
  apply v_EL_rebuild _ hr hK
  refine ⟨hL, ?_⟩
  apply s_Sh_retake _ hr hK (Or.inl rfl) hL hv hE h2 h3 hkp hev (by omega)
  intro y g2 f2 _ hq2
  have hv2 : LgV g2 (r 0 5) s n := LgV_mono hv (fun c i a b => f2 c i (by omega) (by omega))
  rw [hv2.1]
  refine ⟨rfl, hL, hL, hL, ?_⟩
  apply s_St_replay _ hr hK (Or.inl rfl) hL hv2 (LgL_mono hl (fun c i a b => f2 c i (by omega) (by omega))) hE (LfOk_lft hT hE) ⟨n1.1, Int.le_refl _⟩ (by omega) (by omega)
  intro g7 f7 hq7
  refine ⟨rfl, h g7 (fun c j a => by rw [f7 c j (by omega), f2 c j (by omega) (by omega)]) (fun j a => by rw [f7 57 j (by omega), f2 57 j (by omega) (Or.inr a)]) (ShV_mono hq2 (fun c i a b => f7 c i (by omega))) ?_⟩
  have hvo : rep s (LF T s (-1) (-1)) (BF T s (-1) (-1)) (-1) n n = rep s (LF T s (-1) (-1)) (BF T s (-1) (-1)) (-1) 120 n := rep_vo n1.1 (fun e a b => by have := (hE e a b).2.2.2.2.2; omega)
  rw [hvo] at hq7
  exact hq7
theorem VdOk_add {s : Int → Int} {n k a o t sh x y w : Int} (hV : VdOk s n) (hE : EvOk s n) (hN : EvNew s n k a o t sh) (hn : 0 ≤ n) (ho : k = 7 → s (9 * o + 8) = 0) : VdOk (evadd s n k a o t sh x y w) (n + 1) := by
  have o0 : ∀ e : Int, 0 ≤ e → e < n → evadd s n k a o t sh x y w (9 * e + 0) = s (9 * e + 0) := fun e p q => evadd_old ⟨p, q⟩ (by omega) (Or.inl (by omega))
  have o2 : ∀ e : Int, 0 ≤ e → e < n → evadd s n k a o t sh x y w (9 * e + 2) = s (9 * e + 2) := fun e p q => evadd_old ⟨p, q⟩ (by omega) (Or.inl (by omega))
  have n0 : evadd s n k a o t sh x y w (9 * n + 0) = k := by rw [evadd_new (by omega)]; exact if_pos rfl
  have n2 : evadd s n k a o t sh x y w (9 * n + 2) = o := by
    rw [evadd_new (by omega)]
    simp (config := {decide := true}) only [if_true, if_false]
  have n8 : evadd s n k a o t sh x y w (9 * n + 8) = 0 := by
    rw [evadd_new (by omega)]
    simp (config := {decide := true}) only [if_true, if_false]
  have o8 : ∀ e : Int, 0 ≤ e → e < n → evadd s n k a o t sh x y w (9 * e + 8) = if k = 7 ∧ e = o then n + 1 else s (9 * e + 8) := by
    intro e p q
    by_cases h : k = 7 ∧ e = o
    · rw [if_pos h]
      unfold evadd
      rw [if_neg (by omega), if_pos (by omega)]
    · rw [if_neg h]
      exact evadd_old ⟨p, q⟩ (by omega) (by omega)
  refine ⟨fun e p q c => ?_, fun v p q c => ?_⟩
  · by_cases he : e = n
    · rw [he, n8] at c; exact absurd rfl c
    · rw [o8 e p (by omega)] at c ⊢
      by_cases h : k = 7 ∧ e = o
      · rw [if_pos h, show n + 1 - 1 = n by omega, n0, n2]
        exact ⟨by omega, h.1, h.2.symm⟩
      · rw [if_neg h] at c ⊢
        have h1 := hV.1 e p (by omega) c
        rw [o0 _ (by omega) (by omega), o2 _ (by omega) (by omega)]
        exact ⟨by omega, h1.2⟩
  · by_cases hv : v = n
    · rw [hv, n0] at c
      have h1 := hN.2.2.2.1 c
      rw [hv, n2, o8 o h1.1.1 h1.1.2, if_pos ⟨c, rfl⟩]
      exact ⟨h1.1, rfl⟩
    · rw [o0 v p (by omega)] at c
      have h1 := hV.2 v p (by omega) c
      rw [o2 v p (by omega), o8 _ h1.1.1 (by omega)]
      refine ⟨h1.1, ?_⟩
      by_cases h : k = 7 ∧ s (9 * v + 2) = o
      · have h3 := ho h.1
        have h4 := h1.2
        rw [h.2, h3] at h4
        omega
      · rw [if_neg h]; exact h1.2
theorem AcOk_add {s : Int → Int} {n k a o t sh x y w nA : Int} (hA : AcOk s n nA) (ha : k ≠ 7 → a < nA) (ho : (k = 6 → o < nA) ∧ (k = 7 → a = -2) ∧ (k ≠ 6 → k ≠ 7 → o = -2)) : AcOk (evadd s n k a o t sh x y w) (n + 1) nA := by
  intro e p q
  by_cases he : e = n
  · rw [he, evadd_new (by omega : (0 : Int) ≤ 0 ∧ (0 : Int) < 9), evadd_new (by omega : (0 : Int) ≤ 1 ∧ (1 : Int) < 9), evadd_new (by omega : (0 : Int) ≤ 2 ∧ (2 : Int) < 9)]
    simp (config := {decide := true}) only [if_true, if_false]
    exact ⟨ha, ho⟩
  · have he2 : 0 ≤ e ∧ e < n := by omega
    rw [evadd_old he2 (by omega : (0 : Int) ≤ 0 ∧ (0 : Int) < 9) (Or.inl (by omega)), evadd_old he2 (by omega : (0 : Int) ≤ 1 ∧ (1 : Int) < 9) (Or.inl (by omega)), evadd_old he2 (by omega : (0 : Int) ≤ 2 ∧ (2 : Int) < 9) (Or.inl (by omega))]
    exact hA e p he2.2
/-- the EVENTS ahead of a PLACE the same, but for what voids them -/
def EvPre (s s' : Int → Int) (n : Int) : Prop := ∀ e f : Int, 0 ≤ e → e < n → 0 ≤ f → f < 8 → s' (9 * e + f) = s (9 * e + f)
theorem EvPre_add {s : Int → Int} {n k a o t sh x y w : Int} : EvPre s (evadd s n k a o t sh x y w) n := fun e f p q u v => evadd_old ⟨p, q⟩ (by omega) (Or.inl (by omega))
theorem LF_pre {T : TT} {s s' : Int → Int} {n pk ps e : Int} (h : EvPre s s' n) (h0 : 0 ≤ e) (h1 : e < n) : LF T s' pk ps e = LF T s pk ps e ∧ BF T s' pk ps e = BF T s pk ps e :=
  LF_ext (h e 0 h0 h1 (by omega) (by omega)) (h e 4 h0 h1 (by omega) (by omega)) (fun f a b => by rw [show 9 * e + 5 + f = 9 * e + (5 + f) by omega]; exact h e (5 + f) h0 h1 (by omega) (by omega))
/-- TALLIES stay, EVENTS come -/
theorem TyOk_add {T : TT} {tf x y : Int → Int} {n : Int} (hn : x 1080 = n) (hn2 : 0 ≤ n ∧ n ≤ 120) (hm : n ≤ y 1080) (hpre : EvPre x y n) (ho : ∀ j : Int, 1091 ≤ j → j < 1607 → y j = x j) (hx : TyOk T tf x) : TyOk T tf y := by
  intro t a b
  have h2 := hx t a b
  have hp0 := h2.2.1
  have hc : ∀ e : Int, 0 ≤ e → e < 120 → tcx y t e = tcx x t e := fun e c d => ho _ (by omega) (by omega)
  have hp : tpx y t = tpx x t := ho _ (by omega) (by omega)
  refine ⟨⟨rfl, fun _ _ _ => rfl, fun e c d => ?_⟩, ?_, fun e c d => ?_⟩
  · rw [ho _ (by omega) (by omega), h2.1.2.2 e c d]
    refine psm_ext (fun i u v => ?_)
    unfold tcn
    rw [hc i u v]
    rcases h2.2.2 i u v with h3 | h3
    · rw [if_neg (fun hh => hh.1 h3), if_neg (fun hh => hh.1 h3)]
    · rw [hpre i 1 u (by omega) (by omega) (by omega)]
  · rw [hp]; omega
  · rw [hc e c d, hp]
    rcases h2.2.2 e c d with h3 | h3
    · exact Or.inl h3
    · refine Or.inr ⟨⟨h3.1.1, by rw [hpre e 0 c (by omega) (by omega) (by omega)]; exact h3.1.2⟩, h3.2.1, ?_⟩
      rw [h3.2.2]
      try dsimp only
      rw [(LF_pre hpre c (by omega)).1]
theorem CutOf_add {s s' xj : Int → Int} {n m : Int} (hm : m ≤ n) (hpre : EvPre s s' n) (h8 : ∀ e : Int, 0 ≤ e → e < n → s' (9 * e + 8) = s (9 * e + 8) ∨ (s (9 * e + 8) = 0 ∧ n < s' (9 * e + 8))) (h : CutOf s xj m) : CutOf s' xj m := by
  intro e a b
  have h1 := h e a b
  refine ⟨fun f c d e8 => ?_, ?_⟩
  · rw [h1.1 f c d e8, hpre e f a (by omega) c (by omega)]
  · rw [h1.2]
    rcases h8 e a (by omega) with h2 | h2
    · rw [h2]
    · rw [if_pos (by omega : m < s' (9 * e + 8)), h2.1]
      split <;> rfl
/-- the relation after a mark, a remembrance and an EVENT -/
theorem Rel_add {g r g1 g6 g2 r2 : ab_H} {k a o t sh x y w : Int} (R : Rel g r) (hR2 : RelR r2) (hn : ss g 1080 < 120) (hN : EvNew (ss g) (ss g 1080) k a o t sh) (hfx : 0 ≤ x ∧ x ≤ 99999) (hfy : 0 ≤ y ∧ y ≤ 99999) (hfw : 0 ≤ w ∧ w ≤ 99999) (ha : k ≠ 7 → a < g 163 0) (ho : (k = 6 → o < g 163 0) ∧ (k = 7 → a = -2) ∧ (k ≠ 6 → k ≠ 7 → o = -2)) (h7 : k = 7 → ss g (9 * o + 8) = 0) (hM : Mkd g r g1 r2) (hMU : MkU g g1 r2) (hml : MkV g1 (r2 65 (U0 (g 0 14))) (ss g)) (hc6 : ∀ c j : Int, c ≤ 160 → ¬ (45 ≤ c ∧ c ≤ 50) → c ≠ 57 → c ≠ 58 → c ≠ 64 → ¬ (r 0 5 ≤ c ∧ c ≤ r 0 5 + 10) → g6 c j = g1 c j) (h57 : g6 57 2 = g 57 2 ∧ g6 57 3 = g 57 3) (hv6 : LgV g6 (r 0 5) (evadd (ss g) (ss g 1080) k a o t sh x y w) (ss g 1080 + 1)) (hl6 : LgL g6 (r 0 5) (evadd (ss g) (ss g 1080) k a o t sh x y w) (LF (tt g) (evadd (ss g) (ss g 1080) k a o t sh x y w) (-1) (-1)) (BF (tt g) (evadd (ss g) (ss g 1080) k a o t sh x y w) (-1) (-1)) (ss g 1080 + 1)) (hs6 : ShV g6 57 (sn (evadd (ss g) (ss g 1080) k a o t sh x y w) (ss g 1089) (ss g 1090) (ss g 1080 + 1))) (hq6 : StV g6 45 (rep (evadd (ss g) (ss g 1080) k a o t sh x y w) (LF (tt g) (evadd (ss g) (ss g 1080) k a o t sh x y w) (-1) (-1)) (BF (tt g) (evadd (ss g) (ss g 1080) k a o t sh x y w) (-1) (-1)) (-1) 120 (ss g 1080 + 1)) (ss g 1080 + 1)) (hc2 : ∀ c : Int, c ≤ 160 → g2 c = g6 c) (h2 : ∀ c : Int, 161 < c → c ≠ 174 → c ≠ 177 → c < 178 → g2 c = g c) (h161 : ∀ j : Int, j = 2 ∨ j = 24 ∨ j = 25 ∨ j = 31 ∨ j = 34 ∨ j = 35 → g2 161 j = g 161 j) (hU2 : g2 161 30 = U0 (g 0 14) + 1) (hj : ∀ j : Int, 0 ≤ j → j < U0 (g 0 14) → sj g2 j = sj g (if g 0 14 = 20 then j + 1 else j)) (hl : sj g2 (U0 (g 0 14)) = ss g) (hev : ∀ j : Int, 0 ≤ j → j < 1080 → ss g2 j = evadd (ss g) (ss g 1080) k a o t sh x y w j) (h1080 : ss g2 1080 = ss g 1080 + 1) (hsn : SnV (ss g2) (sstep (evadd (ss g) (ss g 1080) k a o t sh x y w) (psm (wts (evadd (ss g) (ss g 1080) k a o t sh x y w))) (ss g 1089) (ss g 1090) (qn g) (ss g 1080))) (hhi : ∀ j : Int, 1089 ≤ j → j < 1607 → ss g2 j = ss g j) : Rel g2 r2 := by
  have S1 := R.2.2.2.1
  have G := S1.1
  have n1 := G.1
  have k1 := G.2.2.2.2.2.1
  have U1 := R.2.2.2.2.1.1
  have hi := Mkd_hi hM (by omega)
  have htt := tt_new (g := g) (g2 := g2) (fun c a b => h2 c (by omega) (by omega) (by omega) (by omega))
  have hr0 : r2 0 = r 0 := hi.2.2 0 (by omega)
  have hr5 := R.1.2.2.1
  have hr3 := R.1.2.1
  have hE' := EvOk_add (x := x) (y := y) (w := w) G.2.1 hN n1.1 hfx hfy hfw
  have lo : ∀ c j : Int, c ≤ 80 → ¬ (45 ≤ c ∧ c ≤ 50) → c ≠ 57 → c ≠ 58 → c ≠ 64 → ¬ (r 0 5 ≤ c ∧ c ≤ r 0 5 + 10) → c ≠ 0 ∨ j ≠ 14 → g2 c j = g c j := fun c j a b d e e2 e3 e4 => by rw [hc2 c (by omega), hc6 c j (by omega) b d e e2 e3, hi.2.1 c j a e4]
  have m89 := hhi 1089 (by omega) (by omega)
  have m90 := hhi 1090 (by omega) (by omega)
  have hpre : EvPre (ss g) (ss g2) (ss g 1080) := fun e f p q u v => by rw [hev _ (by omega) (by omega)]; exact EvPre_add e f p q u v
  have hqs : sstep (evadd (ss g) (ss g 1080) k a o t sh x y w) (psm (wts (evadd (ss g) (ss g 1080) k a o t sh x y w))) (ss g 1089) (ss g 1090) (qn g) (ss g 1080) = sn (evadd (ss g) (ss g 1080) k a o t sh x y w) (ss g 1089) (ss g 1090) (ss g 1080 + 1) := by
    rw [sn_s n1.1, ← sn_ext k1.1 evadd_k]
    rfl
  rw [hqs] at hsn
  have hsn2 : sn (ss g2) (ss g 1089) (ss g 1090) (ss g 1080 + 1) = sn (evadd (ss g) (ss g 1080) k a o t sh x y w) (ss g 1089) (ss g 1090) (ss g 1080 + 1) := (sn_ext k1.1 (KEq_ext hev (by omega))).symm
  refine ⟨hR2, ?_, ?_, ?_, ?_, ?_, ?_, ?_, ⟨by rw [hM.1 4 (by omega)]; exact R.2.2.2.2.2.2.2.2.1, ?_⟩⟩
  · exact RelP_new R.2.1 (lo 0 1 (by omega) (by omega) (by omega) (by omega) (by omega) (by omega) (by omega)) (fun j => lo 1 j (by omega) (by omega) (by omega) (by omega) (by omega) (by omega) (by omega)) (fun j => lo 2 j (by omega) (by omega) (by omega) (by omega) (by omega) (by omega) (by omega)) (h2 162 (by omega) (by omega) (by omega) (by omega)) (h161 2 (by omega)) (h161 24 (by omega)) (h161 25 (by omega))
  · rw [hr0]
    exact RelT_new R.2.2.1 (fun c j a b => lo c j (by omega) (by omega) (by omega) (by omega) (by omega) (by omega) (by omega)) (fun c a b => h2 c (by omega) (by omega) (by omega) (by omega))
  · have hty : TyOk (tt g) (g 167) (ss g2) := TyOk_add rfl n1 (by omega) hpre (fun j a b => hhi j (by omega) b) (Rel_TyOk R)
    unfold RelS
    rw [hr0, h1080, m89, m90, hsn2]
    refine ⟨?_, ?_, ?_, ?_, ?_, ?_, ?_⟩
    · unfold GoodS
      rw [htt, h2 167 (by omega) (by omega) (by omega) (by omega), h2 163 (by omega) (by omega) (by omega) (by omega), h1080, m89, m90, hsn2]
      exact ⟨by omega, EvOk_ext hev (by omega) hE', VdOk_ext hev (by omega) (VdOk_add G.2.2.1 G.2.1 hN n1.1 h7), AcOk_ext hev (by omega) (AcOk_add G.2.2.2.1 ha ho), G.2.2.2.2.1, k1, hsn, hty⟩
    · exact LgV_ext hev (LgV_mono hv6 (fun c i a b => by rw [hc2 c (by omega)]))
    · have hl1 : LgL g2 (r 0 5) (evadd (ss g) (ss g 1080) k a o t sh x y w) (LF (tt g) (evadd (ss g) (ss g 1080) k a o t sh x y w) (-1) (-1)) (BF (tt g) (evadd (ss g) (ss g 1080) k a o t sh x y w) (-1) (-1)) (ss g 1080 + 1) := LgL_mono hl6 (fun c i a b => by rw [hc2 c (by omega)])
      unfold LL BB
      rw [htt]
      exact LgL_ext hev (by omega) hl1
    · rw [hc2 57 (by omega), h57.1, h57.2]; exact S1.2.2.2.1
    · exact ShV_mono hs6 (fun c i a b => by rw [hc2 c (by omega)])
    · unfold LL BB
      rw [htt, rep_same hev (by omega) (by omega)]
      exact StV_mono hq6 (fun c i a b => by rw [hc2 c (by omega)])
    · refine TaP_ext (TaP_mono S1.2.2.2.2.2.2 (fun c i a b => lo c i (by omega) (by omega) (by omega) (by omega) (by omega) (by omega) (by omega))) (fun u a b => (hhi _ (by omega) (by omega)).symm) (fun u e a b c d => ?_)
      have : tcx (ss g2) u e = tcx (ss g) u e := hhi _ (by omega) (by omega)
      try dsimp only
      unfold ne0
      rw [this]
  · refine RelU_new R (fun c a b => h2 c (by omega) (by omega) (by omega) (by omega)) (by rw [hc2 0 (by omega), hc6 0 14 (by omega) (by omega) (by omega) (by omega) (by omega) (by omega)]; exact hM.2.2.2.2.2) hU2 hj hl (fun j a b => ?_) ?_ (by omega) (fun xj m hm hcut => ?_)
    · have hu : U0 (g 0 14) < 20 := by unfold U0; split <;> omega
      have hp := (hM.2.2.1 j a (by omega)).1
      unfold isMk at hp
      have hp2 := (hM.2.2.1 j a (by omega)).2
      exact MkV_mono (hMU j a b) (fun c i x y => by rw [hc2 c (by omega)]; exact hc6 c i (by omega) (by omega) (by omega) (by omega) (by omega) (by omega))
    · have hu : 0 ≤ U0 (g 0 14) ∧ U0 (g 0 14) < 20 := by unfold U0; split <;> omega
      have hp := (hM.2.2.1 _ hu.1 hu.2).1
      unfold isMk at hp
      exact MkV_mono hml (fun c i x y => by rw [hc2 c (by omega)]; exact hc6 c i (by omega) (by omega) (by omega) (by omega) (by omega) (by omega))
    · refine CutOf_add hm hpre (fun e a b => ?_) hcut
      rw [hev _ (by omega) (by omega)]
      by_cases h8 : k = 7 ∧ e = o
      · refine Or.inr ⟨by rw [h8.2]; exact h7 h8.1, ?_⟩
        unfold evadd
        rw [if_neg (by omega), if_pos (by omega)]
        omega
      · exact Or.inl (evadd_old ⟨a, b⟩ (by omega) (by omega))
  · exact RelI_new R.2.2.2.2.2.1 (fun c j a b => lo c j (by omega) (by omega) (by omega) (by omega) (by omega) (by omega) (by omega)) (fun c a b => h2 c (by omega) (by omega) (by omega) (by omega)) (h2 176 (by omega) (by omega) (by omega) (by omega)) (h161 31 (by omega)) (lo 0 17 (by omega) (by omega) (by omega) (by omega) (by omega) (by omega) (by omega))
  · rw [h161 34 (by omega)]; exact R.2.2.2.2.2.2.1
  · rw [h161 35 (by omega)]; exact R.2.2.2.2.2.2.2.1
  · have hr6 := R.1.2.2.1
    rw [hM.1 0 (by omega), lo (r 0 6 + 10) 0 (by omega) (by omega) (by omega) (by omega) (by omega) (by omega) (by omega)]; exact R.2.2.2.2.2.2.2.2.2
