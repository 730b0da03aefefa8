/-! SPECS, part zg: the relation made anew. -/
theorem LgV_ext {g : ab_H} {o n : Int} {s s' : Int → Int} (h : ∀ j : Int, 0 ≤ j → j < 1080 → s' j = s j) (hv : LgV g o s n) : LgV g o s' n := by
  have hn := hv.2.1
  refine ⟨hv.1, hn, fun e a b => ?_, fun p a b => ?_⟩
  · have h3 := hv.2.2.1 e a b
    rw [h (9 * e + 0) (by omega) (by omega), h (9 * e + 1) (by omega) (by omega), h (9 * e + 2) (by omega) (by omega), h (9 * e + 3) (by omega) (by omega), h (9 * e + 4) (by omega) (by omega), h (9 * e + 8) (by omega) (by omega)]
    exact ⟨h3.1, h3.2.1, h3.2.2.1, h3.2.2.2.1, h3.2.2.2.2.1, h3.2.2.2.2.2.1, fun h7 f c d => by rw [h (9 * e + 5 + f) (by omega) (by omega)]; exact h3.2.2.2.2.2.2 h7 f c d⟩
  · rw [hv.2.2.2 p a b]
    exact psm_ext (fun i c d => wts_ext (h _ (by omega) (by omega)).symm (h _ (by omega) (by omega)).symm)
theorem LgL_ext {g : ab_H} {o n : Int} {T : TT} {s s' : Int → Int} {pk ps : Int} (h : ∀ j : Int, 0 ≤ j → j < 1080 → s' j = s j) (hn : n ≤ 120) (hl : LgL g o s (LF T s pk ps) (BF T s pk ps) n) : LgL g o s' (LF T s' pk ps) (BF T s' pk ps) n := by
  intro e a b c
  rw [h (9 * e + 0) (by omega) (by omega)] at c
  rw [(LFB_EvS h hn a b).1, (LFB_EvS h hn a b).2]
  exact hl e a b c
theorem KEq_ext {s s' : Int → Int} {n : Int} (h : ∀ j : Int, 0 ≤ j → j < 1080 → s' j = s j) (hn : n ≤ 120) : KEq s s' n := fun e a b => ⟨(h _ (by omega) (by omega)).symm, fun _ => (h _ (by omega) (by omega)).symm, (h _ (by omega) (by omega)).symm⟩
theorem rep_same {T : TT} {s s' : Int → Int} {pk ps but vo n : Int} (h : ∀ j : Int, 0 ≤ j → j < 1080 → s' j = s j) (h0 : 0 ≤ n) (hn : n ≤ 120) : rep s' (LF T s' pk ps) (BF T s' pk ps) but vo n = rep s (LF T s pk ps) (BF T s pk ps) but vo n :=
  rep_ext h0 (fun e f a b c d => h _ (by omega) (by omega)) (fun e a b => (LFB_EvS h hn a b).1) (fun e a b => (LFB_EvS h hn a b).2)
theorem VdOk_ext {s s' : Int → Int} {n : Int} (h : ∀ j : Int, 0 ≤ j → j < 1080 → s' j = s j) (hn : n ≤ 120) (hv : VdOk s n) : VdOk s' n := by
  refine ⟨fun e a b c => ?_, fun v a b c => ?_⟩
  · rw [h (9 * e + 8) (by omega) (by omega)] at c ⊢
    have h1 := hv.1 e a b c
    rw [h (9 * (s (9 * e + 8) - 1) + 0) (by omega) (by omega), h (9 * (s (9 * e + 8) - 1) + 2) (by omega) (by omega)]
    exact h1
  · rw [h (9 * v + 0) (by omega) (by omega)] at c
    have h1 := hv.2 v a b c
    rw [h (9 * v + 2) (by omega) (by omega), h (9 * (s (9 * v + 2)) + 8) (by omega) (by omega)]
    exact h1
theorem AcOk_ext {s s' : Int → Int} {n nA : Int} (h : ∀ j : Int, 0 ≤ j → j < 1080 → s' j = s j) (hn : n ≤ 120) (hv : AcOk s n nA) : AcOk s' n nA := by
  intro e a b
  rw [h (9 * e + 0) (by omega) (by omega), h (9 * e + 1) (by omega) (by omega), h (9 * e + 2) (by omega) (by omega)]
  exact hv e a b
theorem SnV_ext {x y : Int → Int} {q : SN} {kp n : Int} (h : ∀ j : Int, 1081 ≤ j → j < 1089 → y j = x j) (hok : SNok q kp n) (hkp : kp ≤ 6) (hv : SnV x q) : SnV y q := by
  have hz := hok.1
  exact ⟨by rw [h _ (by omega) (by omega)]; exact hv.1, fun i a b => by rw [h _ (by omega) (by omega)]; exact hv.2 i a b⟩
/-- GoodS with other TALLIES -/
theorem GoodS_ty {T : TT} {tf : Int → Int} {nA : Int} {x y : Int → Int} (h : ∀ j : Int, 0 ≤ j → j < 1091 → y j = x j) (ht : TyOk T tf y) (hg : GoodS T tf nA x) : GoodS T tf nA y := by
  have h' : ∀ j : Int, 0 ≤ j → j < 1080 → y j = x j := fun j a b => h j a (by omega)
  have n1 := hg.1
  have k1 := hg.2.2.2.2.2.1
  refine ⟨?_, ?_, ?_, ?_, ?_, ?_, ?_, ht⟩
  · rw [h 1080 (by omega) (by omega)]; exact n1
  · rw [h 1080 (by omega) (by omega)]; exact EvOk_ext h' n1.2 hg.2.1
  · rw [h 1080 (by omega) (by omega)]; exact VdOk_ext h' n1.2 hg.2.2.1
  · rw [h 1080 (by omega) (by omega)]; exact AcOk_ext h' n1.2 hg.2.2.2.1
  · rw [h 1089 (by omega) (by omega)]; exact hg.2.2.2.2.1
  · rw [h 1090 (by omega) (by omega)]; exact k1
  · rw [h 1080 (by omega) (by omega), h 1089 (by omega) (by omega), h 1090 (by omega) (by omega), ← sn_ext k1.1 (KEq_ext h' n1.2)]
    exact SnV_ext (fun j a b => h j (by omega) (by omega)) (SNok_sn k1.1 n1.1) k1.2 hg.2.2.2.2.2.2.1
/-- one TALLY's row, the EVENTS the same -/
theorem TyOne {T : TT} {x y : Int → Int} {t fl p : Int} {c : Int → Int} (h : ∀ j : Int, 0 ≤ j → j < 1080 → y j = x j) (hn : 0 ≤ x 1080 ∧ x 1080 ≤ 120) (hm : y 1080 = x 1080) (ht : 0 ≤ t ∧ t < 4) (hty : TyV y (1091 + 129 * t) x p c) (hok : TcOk x c p (x 1080) (fun e => LF T x (-1) (-1) e fl)) : TyV y (1091 + 129 * t) y (tpx y t) (tcx y t) ∧ TcOk y (tcx y t) (tpx y t) (y 1080) (fun e => LF T y (-1) (-1) e fl) := by
  have hp : tpx y t = p := hty.1
  have hp0 := hok.1
  refine ⟨⟨rfl, fun _ _ _ => rfl, fun a b d => ?_⟩, ?_, fun e a b => ?_⟩
  · rw [hty.2.2 a b d]
    refine psm_ext (fun e u v => ?_)
    have hc : tcx y t e = c e := hty.2.1 e u v
    unfold tcn
    rw [hc, h (9 * e + 1) (by omega) (by omega)]
  · rw [hp, hm]; exact hok.1
  · have hc : tcx y t e = c e := hty.2.1 e a b
    rw [hc, hp]
    rcases hok.2 e a b with h1 | h1
    · exact Or.inl h1
    · refine Or.inr ⟨⟨h1.1.1, by rw [h (9 * e + 0) (by omega) (by omega)]; exact h1.1.2⟩, h1.2.1, ?_⟩
      rw [h1.2.2]
      dsimp only
      rw [(LFB_EvS h hn.2 a (by omega)).1]
theorem TyOk_one {T : TT} {tf x y : Int → Int} {t : Int} (h : ∀ j : Int, 0 ≤ j → j < 1091 → y j = x j) (hn : 0 ≤ x 1080 ∧ x 1080 ≤ 120) (ht : 0 ≤ t ∧ t < 4) (ho : ∀ j : Int, 1091 ≤ j → j < 1607 → ¬ (1091 + 129 * t ≤ j ∧ j < 1091 + 129 * t + 129) → y j = x j) (hx : TyOk T tf x) (h1 : TyV y (1091 + 129 * t) y (tpx y t) (tcx y t) ∧ TcOk y (tcx y t) (tpx y t) (y 1080) (fun e => LF T y (-1) (-1) e (tf t - 1))) : TyOk T tf y := by
  intro u a b
  by_cases hu : u = t
  · rw [hu]; exact h1
  · have h2 := hx u a b
    refine TyOne (p := tpx x u) (c := tcx x u) (fun j c d => h j c (by omega)) hn (h 1080 (by omega) (by omega)) ⟨a, b⟩ ⟨ho _ (by omega) (by omega) (by omega), fun e c d => ?_, fun e c d => ?_⟩ h2.2
    · exact ho _ (by omega) (by omega) (by omega)
    · rw [ho _ (by omega) (by omega) (by omega)]
      exact h2.1.2.2 e c d
theorem RelP_new {g g2 : ab_H} (h : RelP g) (h1 : g2 0 1 = g 0 1) (h2 : ∀ j : Int, g2 1 j = g 1 j) (h3 : ∀ j : Int, g2 2 j = g 2 j) (h4 : g2 162 = g 162) (h5 : g2 161 2 = g 161 2) (h6 : g2 161 24 = g 161 24) (h7 : g2 161 25 = g 161 25) : RelP g2 :=
  ⟨by rw [h1, h5]; exact h.1, fun i a b => by rw [h2, h4]; rw [h5] at b; exact h.2.1 i a b, by rw [h3, h6]; exact h.2.2.1, by rw [h3, h7]; exact h.2.2.2⟩
theorem RelT_new {g g2 : ab_H} {o : Int} (h : RelT g o) (h1 : ∀ c j : Int, o ≤ c → c ≤ o + 8 → g2 c j = g c j) (h2 : ∀ c : Int, 163 ≤ c → c ≤ 171 → g2 c = g c) : RelT g2 o := by
  have htt : tt g2 = tt g := by
    unfold tt
    rw [h2 168 (by omega) (by omega), h2 169 (by omega) (by omega), h2 170 (by omega) (by omega), h2 171 (by omega) (by omega)]
  refine ⟨by rw [htt]; exact h.1, by rw [htt]; exact TeV_mono h.2.1 h1, ?_, ?_, ?_, ?_, ?_⟩
  · rw [h1 _ _ (by omega) (by omega), h2 163 (by omega) (by omega)]; exact h.2.2.1
  · intro i a b
    rw [h2 163 (by omega) (by omega)] at b
    rw [h1 (o + 1) i (by omega) (by omega), h2 164 (by omega) (by omega)]; exact h.2.2.2.1 i a b
  · rw [h1 _ _ (by omega) (by omega), h2 163 (by omega) (by omega)]; exact h.2.2.2.2.1
  · intro i a b
    rw [h2 163 (by omega) (by omega)] at b
    rw [h1 (o + 2) i (by omega) (by omega), h1 (o + 3) i (by omega) (by omega), h1 (o + 4) i (by omega) (by omega), h2 165 (by omega) (by omega), h2 166 (by omega) (by omega), h2 167 (by omega) (by omega)]; exact h.2.2.2.2.2.1 i a b
  · rw [h1 _ _ (by omega) (by omega), h2 163 (by omega) (by omega)]; exact h.2.2.2.2.2.2
theorem tt_new {g g2 : ab_H} (h2 : ∀ c : Int, 163 ≤ c → c ≤ 171 → g2 c = g c) : tt g2 = tt g := by
  unfold tt
  rw [h2 168 (by omega) (by omega), h2 169 (by omega) (by omega), h2 170 (by omega) (by omega), h2 171 (by omega) (by omega)]
theorem RelI_new {g g2 : ab_H} (h : RelI g) (h1 : ∀ c j : Int, 66 ≤ c → c ≤ 80 → g2 c j = g c j) (h2 : ∀ c : Int, 163 ≤ c → c ≤ 171 → g2 c = g c) (h3 : g2 176 = g 176) (h4 : g2 161 31 = g 161 31) (h5 : g2 0 17 = g 0 17) : RelI g2 := by
  have htt := tt_new h2
  have hsi : si g2 = si g := by unfold si; rw [h3]
  unfold RelI LL BB
  rw [h4, htt, hsi, h2 167 (by omega) (by omega), h2 163 (by omega) (by omega), h5]
  refine ⟨h.1, fun a => ?_⟩
  have h6 := h.2 a
  exact ⟨h6.1, LgV_mono h6.2.1 (fun c i a b => h1 c i (by omega) (by omega)), LgL_mono h6.2.2.1 (fun c i a b => h1 c i (by omega) (by omega)), MkV_mono h6.2.2.2 (fun c i a b => h1 c i (by omega) (by omega))⟩
/-- after a mark and a remembrance -/
theorem RelU_new {g r g2 r2 : ab_H} (R : Rel g r) (h2 : ∀ c : Int, 163 ≤ c → c ≤ 171 → g2 c = g c) (hU : g2 0 14 = U0 (g 0 14) + 1) (hU2 : g2 161 30 = U0 (g 0 14) + 1) (hj : ∀ j : Int, 0 ≤ j → j < U0 (g 0 14) → sj g2 j = sj g (if g 0 14 = 20 then j + 1 else j)) (hl : sj g2 (U0 (g 0 14)) = ss g) (hm : ∀ j : Int, 0 ≤ j → j < U0 (g 0 14) → MkV g2 (r2 65 j) (sj g (if g 0 14 = 20 then j + 1 else j))) (hml : MkV g2 (r2 65 (U0 (g 0 14))) (ss g)) (hn : ss g 1080 ≤ ss g2 1080) (hc : ∀ (x : Int → Int) (m : Int), m ≤ ss g 1080 → CutOf (ss g) x m → CutOf (ss g2) x m) : RelU g2 r2 := by
  have U1 := R.2.2.2.2.1
  have G := R.2.2.2.1.1
  have hu : 0 ≤ U0 (g 0 14) ∧ U0 (g 0 14) < 20 := by unfold U0; have := U1.1; split <;> omega
  have hidx : ∀ j : Int, 0 ≤ j → j < U0 (g 0 14) → 0 ≤ (if g 0 14 = 20 then j + 1 else j) ∧ (if g 0 14 = 20 then j + 1 else j) < g 161 30 := by
    intro j a b
    have := U1.1
    unfold U0 at b
    split at b
    · rename_i h; rw [if_pos h]; omega
    · rename_i h; rw [if_neg h]; omega
  have hself : CutOf (ss g2) (ss g) (ss g 1080) := by
    refine hc _ _ (Int.le_refl _) (fun e a b => ⟨fun _ _ _ _ => rfl, ?_⟩)
    have := (G.2.1 e a b).2.2.2.2.2
    rw [if_neg (by omega)]
  unfold RelU
  rw [hU2, tt_new h2, h2 167 (by omega) (by omega), h2 163 (by omega) (by omega)]
  refine ⟨⟨hU, by omega, by omega⟩, fun j a b => ?_, fun i j a b c => ?_⟩
  · by_cases h1 : j = U0 (g 0 14)
    · rw [h1, hl]
      exact ⟨G, hml, hself, hn⟩
    · have hx := hidx j a (by omega)
      have h3 := U1.2.1 _ hx.1 hx.2
      rw [hj j a (by omega)]
      exact ⟨h3.1, hm j a (by omega), hc _ _ h3.2.2.2 h3.2.2.1, by have := h3.2.2.2; omega⟩
  · by_cases h1 : j = U0 (g 0 14)
    · have hx := hidx i a (by omega)
      rw [h1, hl, hj i a (by omega)]
      exact (U1.2.1 _ hx.1 hx.2).2.2.2
    · have hx := hidx i a (by omega)
      have hy := hidx j (by omega) (by omega)
      rw [hj i a (by omega), hj j (by omega) (by omega)]
      refine U1.2.2 _ _ hx.1 ?_ hy.2
      split <;> omega
theorem Rem_sj {g ga gb : ab_H} (hrem : Rem ga gb) (h30 : ga 161 30 = g 0 14) (h7 : ga 177 = g 177) (h4 : ga 174 = g 174) (hU : 0 ≤ g 0 14 ∧ g 0 14 ≤ 20) : gb 161 30 = U0 (g 0 14) + 1 ∧ (∀ j : Int, 0 ≤ j → j < U0 (g 0 14) → sj gb j = sj g (if g 0 14 = 20 then j + 1 else j)) ∧ sj gb (U0 (g 0 14)) = ss g := by
  refine ⟨?_, fun j a b => ?_, ?_⟩
  · rw [hrem.2.2.1, h30]; unfold U0; split <;> omega
  · unfold sj
    refine cn_ext (fun i c d => ?_)
    have h1 := hrem.2.2.2.1 j i a (by rw [h30]; exact b) c d
    rw [h30, h7] at h1
    exact h1
  · unfold sj ss
    refine cn_ext (fun i c d => ?_)
    have h1 := hrem.2.2.2.2 i c d
    rw [h30, h4] at h1
    exact h1
