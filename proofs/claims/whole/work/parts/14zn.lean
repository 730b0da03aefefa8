/-! SPECS, part zn: undo, keep, back. -/
theorem t_EL_restore {K : Int} {S : Nat} {g r : ab_H} {M n : Int} {T : TT} {x : Int → Int} (P : ab_H → ab_H → Prop) (hr : SI r) (hK : 186 ≤ K) (hK2 : 187 ≤ K) (hM : isMk M) (hL : isLg (r 0 5)) (hmk : MkV g M x) (hv : LgV g (r 0 5) x n) (hl : LgL g (r 0 5) x (LF T x (-1) (-1)) (BF T x (-1) (-1)) n) (hT : TOk T) (hE : EvOk x n) (hkp : 0 ≤ x 1090 ∧ x 1090 ≤ 6) (hev : 1 ≤ x 1089 ∧ x 1089 ≤ 999) (h : ∀ g' : ab_H, (∀ c j : Int, ¬ (45 ≤ c ∧ c ≤ 50) → c ≠ 57 → c ≠ 58 → c ≠ 62 → c ≠ 63 → g' c j = g c j) → (g' 57 2 = x 1089 ∧ g' 57 3 = x 1090) → ShV g' 57 (sn x (x 1089) (x 1090) n) → StV g' 45 (rep x (LF T x (-1) (-1)) (BF T x (-1) (-1)) (-1) 120 n) n → TaP g' 61 (tpx x) (fun t => ne0 (tcx x t)) → P g' r) : ab_RV m_EL_restore [(2, 0), (2, M)] K S g r P := by
  have hM' := hM
  unfold isMk at hM'
  have hL' := hL
  unfold isLg at hL'
  apply v_EL_restore _ hr hK hM
  intro g1 hg1 g2 hg2
  have f2 : ∀ c j : Int, c ≠ 57 → g2 c j = g c j := fun c j hc => by rw [hg2, hg1, up_a hc, up_a hc]
  have a2 : g2 57 2 = x 1089 := by rw [hg2, up_k (by omega), hg1, up_s]; exact hmk.2.1
  have a3 : g2 57 3 = x 1090 := by rw [hg2, up_s, hg1, up_a (by omega)]; exact hmk.2.2.1
  apply s_Ta_copyFrom _ hr hK hK2 (Or.inl rfl) (isTa_Mk hM) (by omega) (TaP_mono hmk.2.2.2 (fun c i a b => f2 c i (by omega)))
  intro g3 f3 hta
  have f3' : ∀ c j : Int, c ≠ 57 → c ≠ 62 → c ≠ 63 → g3 c j = g c j := fun c j a b d => by rw [f3 c j b d, f2 c j a]
  refine ⟨rfl, ?_⟩
  apply t_EL_rebuild (n := n) (T := T) (s := x) _ hr hK hL (LgV_mono hv (fun c i a b => f3' c i (by omega) (by omega) (by omega))) (LgL_mono hl (fun c i a b => f3' c i (by omega) (by omega) (by omega))) hT hE (by rw [f3 57 2 (by omega) (by omega)]; exact a2) (by rw [f3 57 3 (by omega) (by omega)]; exact a3) hkp hev
  intro g5 f5 f57 hs hq
  exact ⟨rfl, h g5 (fun c j a b d e f => by rw [f5 c j (by omega), f3' c j b e f]) ⟨by rw [f57 2 (by omega), f3 57 2 (by omega) (by omega)]; exact a2, by rw [f57 3 (by omega), f3 57 3 (by omega) (by omega)]; exact a3⟩ hs hq (TaP_mono hta (fun c i a b => f5 c i (by omega)))⟩
/-- the relation when the EVENTS are those of a row kept -/
theorem Rel_row {g r g6 g2 : ab_H} {x : Int → Int} (R : Rel g r) (hx : GoodS (tt g) (g 167) (g 163 0) x) (hc6 : ∀ c j : Int, c ≤ 160 → ¬ (45 ≤ c ∧ c ≤ 50) → c ≠ 57 → c ≠ 58 → c ≠ 62 → c ≠ 63 → ¬ (r 0 5 ≤ c ∧ c ≤ r 0 5 + 10) → c ≠ 0 ∨ j ≠ 14 → g6 c j = g c j) (hv6 : LgV g6 (r 0 5) x (x 1080)) (hl6 : LgL g6 (r 0 5) x (LF (tt g) x (-1) (-1)) (BF (tt g) x (-1) (-1)) (x 1080)) (h57 : g6 57 2 = x 1089 ∧ g6 57 3 = x 1090) (hs6 : ShV g6 57 (sn x (x 1089) (x 1090) (x 1080))) (hq6 : StV g6 45 (rep x (LF (tt g) x (-1) (-1)) (BF (tt g) x (-1) (-1)) (-1) 120 (x 1080)) (x 1080)) (hta : TaP g6 61 (tpx x) (fun t => ne0 (tcx x t))) (hc2 : ∀ c : Int, c ≤ 160 → g2 c = g6 c) (h2 : ∀ c : Int, 161 < c → c ≠ 174 → c < 178 → g2 c = g c) (h161 : ∀ j : Int, j = 2 ∨ j = 24 ∨ j = 25 ∨ j = 31 ∨ j = 34 ∨ j = 35 → g2 161 j = g 161 j) (hss : ss g2 = x) (hU : RelU g2 r) : Rel g2 r := by
  have htt := tt_new (g := g) (g2 := g2) (fun c a b => h2 c (by omega) (by omega) (by omega))
  have hr5 := R.1.2.2.1
  have hr3 := R.1.2.1
  have lo : ∀ c j : Int, c ≤ 160 → ¬ (45 ≤ c ∧ c ≤ 50) → c ≠ 57 → c ≠ 58 → c ≠ 62 → c ≠ 63 → ¬ (r 0 5 ≤ c ∧ c ≤ r 0 5 + 10) → c ≠ 0 ∨ j ≠ 14 → g2 c j = g c j := fun c j a b d e e2 e3 e4 e5 => by rw [hc2 c a, hc6 c j a b d e e2 e3 e4 e5]
  refine ⟨R.1, ?_, ?_, ?_, hU, ?_, ?_, ?_, ⟨R.2.2.2.2.2.2.2.2.1, ?_⟩⟩
  · exact RelP_new R.2.1 (lo 0 1 (by omega) (by omega) (by omega) (by omega) (by omega) (by omega) (by omega) (by omega)) (fun j => lo 1 j (by omega) (by omega) (by omega) (by omega) (by omega) (by omega) (by omega) (by omega)) (fun j => lo 2 j (by omega) (by omega) (by omega) (by omega) (by omega) (by omega) (by omega) (by omega)) (h2 162 (by omega) (by omega) (by omega)) (h161 2 (by omega)) (h161 24 (by omega)) (h161 25 (by omega))
  · exact RelT_new R.2.2.1 (fun c j a b => lo c j (by omega) (by omega) (by omega) (by omega) (by omega) (by omega) (by omega) (by omega)) (fun c a b => h2 c (by omega) (by omega) (by omega))
  · unfold RelS LL BB
    rw [hss, htt, h2 167 (by omega) (by omega) (by omega), h2 163 (by omega) (by omega) (by omega)]
    refine ⟨hx, LgV_mono hv6 (fun c i a b => by rw [hc2 c (by omega)]), LgL_mono hl6 (fun c i a b => by rw [hc2 c (by omega)]), ?_, ShV_mono hs6 (fun c i a b => by rw [hc2 c (by omega)]), StV_mono hq6 (fun c i a b => by rw [hc2 c (by omega)]), TaP_mono hta (fun c i a b => by rw [hc2 c (by omega)])⟩
    rw [hc2 57 (by omega)]; exact h57
  · exact RelI_new R.2.2.2.2.2.1 (fun c j a b => lo c j (by omega) (by omega) (by omega) (by omega) (by omega) (by omega) (by omega) (by omega)) (fun c a b => h2 c (by omega) (by omega) (by omega)) (h2 176 (by omega) (by omega) (by omega)) (h161 31 (by omega)) (lo 0 17 (by omega) (by omega) (by omega) (by omega) (by omega) (by omega) (by omega) (by omega))
  · rw [h161 34 (by omega)]; exact R.2.2.2.2.2.2.1
  · rw [h161 35 (by omega)]; exact R.2.2.2.2.2.2.2.1
  · have hr6 := R.1.2.2.1
    rw [lo (r 0 6 + 10) 0 (by omega) (by omega) (by omega) (by omega) (by omega) (by omega) (by omega) (by omega)]; exact R.2.2.2.2.2.2.2.2.2
theorem CutOf_pre {s x : Int → Int} {m : Int} (h : CutOf s x m) : EvPre s x m := fun e f a b c d => (h e a b).1 f c (by omega) (by omega)
theorem CutOf_tr {s x y : Int → Int} {m k : Int} (hm : CutOf s x m) (hk : CutOf s y k) (h : k ≤ m) (h0 : 0 ≤ k) : CutOf x y k := by
  intro e a b
  have h1 := hm e a (by omega)
  have h2 := hk e a b
  refine ⟨fun f c d e8 => by rw [h2.1 f c d e8, h1.1 f c d e8], ?_⟩
  rw [h2.2, h1.2]
  by_cases h3 : m < s (9 * e + 8)
  · rw [if_pos h3, if_pos (by omega), if_neg (by omega)]
  · rw [if_neg h3]
theorem p_undo {K : Int} {S : Nat} {g r : ab_H} (hr : SI r) (hK : 186 ≤ K) (hK2 : 187 ≤ K) (R : Rel g r) : PB m_EL_undo [(2, 0)] m_M_undo [(2, 161)] K S g r := by
  have S1 := R.2.2.2.1
  have G := S1.1
  have n1 := G.1
  have U := R.2.2.2.2.1
  have U1 := U.1
  have hr5 := R.1.2.2.1
  unfold PB
  apply v_EL_undo _ hr hK
  refine And.intro (fun e1 g1 hg1 => ?_) (fun e1 => ?_)
  · have hU0 : 0 < g 0 14 := by simp only [wr] at e1; omega
    have h14 : g1 0 14 = g 0 14 - 1 := by rw [hg1, up_s]
    have f1 : ∀ c j : Int, c ≠ 0 ∨ j ≠ 14 → g1 c j = g c j := fun c j hc => by rw [hg1]; rcases hc with hc | hc; exact up_a hc; exact up_k hc
    have hu := U.2.1 (g 0 14 - 1) (by omega) (by omega)
    have hp := R.1.2.2.2.1 (g 0 14 - 1) (by omega) (by omega)
    have hp' := hp.1
    unfold isMk at hp'
    rw [h14]
    refine ⟨by omega, hp.1, Rel_Lg R, ?_⟩
    have hm0 : g1 (r 65 (g 0 14 - 1)) 0 = sj g (g 0 14 - 1) 1080 := by rw [f1 _ _ (by omega)]; exact hu.2.1.1
    rw [hm0]
    generalize hx : sj g (g 0 14 - 1) = x at hu
    have n2 := hu.1.1
    have k2 := hu.1.2.2.2.2.2.1
    apply s_Lg_cutTo _ hr hK (Rel_Lg R) (LgV_mono S1.2.1 (fun c i a b => f1 c i (by omega))) G.2.1 G.2.2.1 ⟨n2.1, hu.2.2.2⟩ hu.2.2.1
    intro g4 f4 hv4 h47 h48
    have hpre := CutOf_pre hu.2.2.1
    have hl4 : LgL g4 (r 0 5) x (LF (tt g) x (-1) (-1)) (BF (tt g) x (-1) (-1)) (x 1080) := by
      intro e a b h7
      rw [hpre e 0 a b (by omega) (by omega)] at h7
      have h3 := S1.2.2.1 e a (by omega) h7
      rw [(LF_pre hpre a b).1, (LF_pre hpre a b).2, h48, f1 _ _ (by omega)]
      exact ⟨h3.1, fun f c d => by rw [h47, f1 _ _ (by omega)]; exact h3.2 f c d⟩
    refine ⟨rfl, ?_⟩
    have hmk4 : MkV g4 (r 65 (g 0 14 - 1)) x := MkV_mono hu.2.1 (fun c i a b => by rw [f4 c i (by omega), f1 c i (by omega)])
    apply t_EL_restore _ hr hK hK2 hp.1 (Rel_Lg R) hmk4 hv4 hl4 R.2.2.1.1 hu.1.2.1 k2 hu.1.2.2.2.2.1
    intro g6 f6 h57 hs6 hq6 hta6
    refine ⟨rfl, ?_⟩
    have h6 : ∀ c : Int, c < 0 ∨ 161 ≤ c → g6 c = g c := fun c hc => by
      funext j
      rw [f6 c j (by omega) (by omega) (by omega) (by omega) (by omega), f4 c j (by omega), f1 c j (by omega)]
    have h614 : g6 0 14 = g 0 14 - 1 := by rw [f6 0 14 (by omega) (by omega) (by omega) (by omega) (by omega), f4 0 14 (by omega), h14]
    rw [h614]
    apply v_M_undo _ hr hK
    intro a1 ha1
    have g30 : a1 161 30 = g 0 14 := by rw [ha1, up_k (by omega), h6 161 (by omega)]; exact U1.1.symm
    rw [g30]
    refine And.intro (fun _ a2 ha2 => ?_) (fun e2 => absurd e2 (by simp only [wr]; omega))
    have g230 : a2 161 30 = g 0 14 - 1 := by rw [ha2, up_s]
    rw [g230]
    apply s_M_copies _ hr hK (ar_pasts hK) (ar_s hK) (by omega) (by omega) (by omega)
    intro a3 c1 c2 c3
    have e3 : ∀ c : Int, c ≠ 161 → c ≠ 174 → a3 c = g6 c := fun c p q => by rw [c1 c q, ha2, up_f p, ha1, up_f p]
    have hss : ss a3 = x := by
      rw [← hx]
      unfold ss sj
      refine cn_ext (fun l a b => ?_)
      have := c3 l a b
      rw [show (0 : Int) + l = l by omega] at this
      rw [this, ha2, up_a (by omega), ha1, up_a (by omega), h6 177 (by omega)]
    have hsjs : ∀ j : Int, sj a3 j = sj g j := fun j => by unfold sj; rw [e3 177 (by omega) (by omega), h6 177 (by omega)]
    have h161 : ∀ j : Int, j ≠ 0 → j ≠ 30 → a3 161 j = g 161 j := fun j p q => by rw [c1 161 (by omega), ha2, up_k q, ha1, up_k p, h6 161 (by omega)]
    have h330 : a3 161 30 = g 0 14 - 1 := by rw [c1 161 (by omega)]; exact g230
    refine ⟨rfl, h330.symm, ?_, fun c hc => ⟨by rw [e3 c (by omega) (by omega), h6 c (Or.inl hc)], rfl⟩⟩
    have hi2 : ∀ c : Int, 161 < c → c ≠ 174 → a3 c = g c := fun c p q => by rw [e3 c (by omega) q, h6 c (by omega)]
    refine Rel_row (g6 := g6) R hu.1 (fun c j a b d e e2 e4 e5 e6 => ?_) (LgV_mono hv4 (fun c i a b => f6 c i (by omega) (by omega) (by omega) (by omega) (by omega))) (LgL_mono hl4 (fun c i a b => f6 c i (by omega) (by omega) (by omega) (by omega) (by omega))) h57 hs6 hq6 hta6 (fun c hc => e3 c (by omega) (by omega)) (fun c a b d => hi2 c a b) (fun j hj => h161 j (by omega) (by omega)) hss ?_
    · rw [f6 c j b d e e2 e4, f4 c j (by omega), f1 c j e6]
    · unfold RelU
      rw [h330, hss, tt_new (fun c a b => hi2 c (by omega) (by omega)), hi2 167 (by omega) (by omega), hi2 163 (by omega) (by omega), e3 0 (by omega) (by omega), h614]
      refine ⟨⟨rfl, by omega, by omega⟩, fun j a b => ?_, fun i j a b c => ?_⟩
      · have h3 := U.2.1 j a (by omega)
        have hpj := (R.1.2.2.2.1 j a (by omega))
        have hpj' := hpj.1
        unfold isMk at hpj'
        have hle := U.2.2 j (g 0 14 - 1) a b (by omega)
        rw [hx] at hle
        rw [hsjs]
        refine ⟨h3.1, MkV_mono h3.2.1 (fun c i p q => ?_), CutOf_tr hu.2.2.1 h3.2.2.1 hle h3.1.1.1, hle⟩
        rw [e3 c (by omega) (by omega), f6 c i (by omega) (by omega) (by omega) (by omega) (by omega), f4 c i (by omega), f1 c i (by omega)]
      · rw [hsjs, hsjs]; exact U.2.2 i j a b (by omega)
  · have hU0 : g 0 14 = 0 := by simp only [wr] at e1; omega
    apply v_M_undo _ hr hK
    intro g1 hg1
    have f1 := Scr_t R hg1
    have h30 : g1 161 30 = 0 := by rw [hg1, up_k (by omega), ← U1.1, hU0]
    rw [h30]
    exact And.intro (fun e2 => absurd rfl e2) (fun _ => ⟨rfl, Rel_scr R f1, fun c hc => ⟨Scr_neg R f1 c hc, rfl⟩⟩)
theorem p_back {K : Int} {S : Nat} {g r : ab_H} (hr : SI r) (hK : 186 ≤ K) (hK2 : 187 ≤ K) (R : Rel g r) : PB m_EL_back [(2, 0)] m_M_back [(2, 161)] K S g r := by
  have I := R.2.2.2.2.2.1
  have I1 := I.1
  have hr5 := R.1.2.2.1
  unfold PB
  apply v_EL_back _ hr hK
  rw [I1.1]
  refine And.intro (fun e1 => ⟨Rel_Lg R, ?_⟩) (fun e1 => ?_)
  · have h31 : g 161 31 = 1 := by
      rcases I1.2 with h | h
      · exact absurd (by rw [h]) e1
      · exact h
    have i1 := I.2 h31
    have n2 := i1.1.1
    have k2 := i1.1.2.2.2.2.2.1
    apply s_Lg_copyFrom _ hr hK hK2 (Rel_Lg R) (Or.inr (Or.inr rfl)) (by omega) i1.2.1 i1.2.2.1
    intro g2 f2 hv2 hl2
    refine ⟨rfl, ?_⟩
    have hmk2 : MkV g2 77 (si g) := MkV_mono i1.2.2.2 (fun c i a b => f2 c i (by omega))
    have hM77 : isMk 77 := by unfold isMk; omega
    apply t_EL_restore (T := tt g) _ hr hK hK2 hM77 (Rel_Lg R) hmk2 hv2 hl2 R.2.2.1.1 i1.1.2.1 k2 i1.1.2.2.2.2.1
    intro g4 f4 h57 hs4 hq4 hta4
    refine ⟨rfl, fun g6 hg6 => ⟨Rel_Lg R, ?_⟩⟩
    have f6 : ∀ c j : Int, c ≠ 0 ∨ j ≠ 14 → g6 c j = g4 c j := fun c j hc => by rw [hg6]; rcases hc with hc | hc; exact up_a hc; exact up_k hc
    have hn6 : g6 (r 0 5) 10 = si g 1080 := by rw [f6 _ _ (by omega), f4 _ _ (by omega) (by omega) (by omega) (by omega) (by omega)]; exact hv2.1
    rw [hn6]
    have h6 : ∀ c : Int, c < 0 ∨ 161 ≤ c → g6 c = g c := fun c hc => by
      funext j
      rw [f6 c j (by omega), f4 c j (by omega) (by omega) (by omega) (by omega) (by omega), f2 c j (by omega)]
    apply v_M_back _ hr hK
    intro a1 ha1
    have g31 : a1 161 31 = 1 := by rw [ha1, up_k (by omega), h6 161 (by omega)]; exact h31
    rw [g31]
    refine And.intro (fun _ => ?_) (fun e2 => absurd e2 (by decide))
    apply s_M_copies _ hr hK (ar_image hK) (ar_s hK) (by omega) (by omega) (by omega)
    intro a2 c1 c2 c3
    refine ⟨rfl, fun a3 ha3 => ?_⟩
    have e3 : ∀ c : Int, c ≠ 161 → c ≠ 174 → a3 c = g6 c := fun c p q => by rw [ha3, up_f p, c1 c q, ha1, up_f p]
    have hss : ss a3 = si g := by
      unfold ss si
      refine cn_ext (fun l a b => ?_)
      have := c3 l a b
      rw [show (0 : Int) + l = l by omega] at this
      rw [ha3, up_a (by omega), this, ha1, up_a (by omega), h6 176 (by omega)]
    have hm : a3 174 1080 = si g 1080 := by rw [← hss]; exact (cn_in (by omega) (by omega)).symm
    apply s_M_many _ hr hK
    rw [hm]
    have h161 : ∀ j : Int, j ≠ 0 → j ≠ 30 → a3 161 j = g 161 j := fun j p q => by rw [ha3, up_k q, c1 161 (by omega), ha1, up_k p, h6 161 (by omega)]
    have h330 : a3 161 30 = 0 := by rw [ha3, up_s]
    refine ⟨rfl, rfl, rfl, ?_, fun c hc => ⟨by rw [e3 c (by omega) (by omega), h6 c (Or.inl hc)], rfl⟩⟩
    have hi2 : ∀ c : Int, 161 < c → c ≠ 174 → a3 c = g c := fun c p q => by rw [e3 c (by omega) q, h6 c (by omega)]
    refine Rel_row (g6 := g6) R i1.1 (fun c j a b d e e2 e4 e5 e6 => ?_) (LgV_mono hv2 (fun c i a b => by rw [f6 c i (by omega), f4 c i (by omega) (by omega) (by omega) (by omega) (by omega)])) (LgL_mono hl2 (fun c i a b => by rw [f6 c i (by omega), f4 c i (by omega) (by omega) (by omega) (by omega) (by omega)])) ⟨by rw [f6 57 2 (by omega)]; exact h57.1, by rw [f6 57 3 (by omega)]; exact h57.2⟩ (ShV_mono hs4 (fun c i a b => f6 c i (by omega))) (StV_mono hq4 (fun c i a b => f6 c i (by omega))) (TaP_mono hta4 (fun c i a b => f6 c i (by omega))) (fun c hc => e3 c (by omega) (by omega)) (fun c a b d => hi2 c a b) (fun j hj => h161 j (by omega) (by omega)) hss ?_
    · rw [f6 c j e6, f4 c j b d e e2 e4, f2 c j (by omega)]
    · unfold RelU
      rw [h330, e3 0 (by omega) (by omega), hg6, up_s]
      exact ⟨⟨rfl, by omega, by omega⟩, fun j a b => by omega, fun i j a b c => by omega⟩
  · have h31 : g 161 31 = 0 := by
      rcases I1.2 with h | h
      · exact h
      · rw [h] at e1; exact absurd e1 (by decide)
    apply v_M_back _ hr hK
    intro g1 hg1
    have f1 := Scr_t R hg1
    have h30 : g1 161 31 = 0 := by rw [hg1, up_k (by omega), h31]
    rw [h30]
    exact And.intro (fun e2 => absurd rfl e2) (fun _ => ⟨rfl, Rel_scr R f1, fun c hc => ⟨Scr_neg R f1 c hc, rfl⟩⟩)
theorem p_keep {K : Int} {S : Nat} {g r : ab_H} (hr : SI r) (hK : 186 ≤ K) (hK2 : 187 ≤ K) (R : Rel g r) : PB m_EL_keep [(2, 0)] m_M_keep [(2, 161)] K S g r := by
  have S1 := R.2.2.2.1
  have n1 := S1.1.1
  have hr5 := R.1.2.2.1
  have hr3 := R.1.2.1
  have U := R.2.2.2.2.1
  unfold PB
  apply v_EL_keep _ hr hK
  refine ⟨Rel_Lg R, ?_⟩
  apply s_Lg_copyFrom _ hr hK hK2 (Or.inr (Or.inr rfl)) (Rel_Lg R) (by omega) S1.2.1 S1.2.2.1
  intro g2 f2 hv2 hl2
  have hM77 : isMk 77 := by unfold isMk; omega
  refine ⟨rfl, ?_⟩
  apply s_EL_fillMark (n := ss g 1080) (ev := ss g 1089) (kp := ss g 1090) _ hr hK hK2 hM77 (Rel_Lg R) (by rw [f2 _ _ (by omega)]; exact S1.2.1.1) (by rw [f2 57 2 (by omega)]; exact S1.2.2.2.1.1) (by rw [f2 57 3 (by omega)]; exact S1.2.2.2.1.2) (TaP_mono S1.2.2.2.2.2.2 (fun c i a b => f2 c i (by omega)))
  intro g4 f4 m0 m1 m2 m3
  refine ⟨rfl, fun g6 hg6 => ⟨Rel_Lg R, ?_⟩⟩
  have f6 : ∀ c j : Int, c ≠ 0 ∨ j ≠ 17 → g6 c j = g4 c j := fun c j hc => by rw [hg6]; rcases hc with hc | hc; exact up_a hc; exact up_k hc
  have lo6 : ∀ c j : Int, ¬ (66 ≤ c ∧ c ≤ 80) → c ≠ 0 ∨ j ≠ 17 → g6 c j = g c j := fun c j a b => by rw [f6 c j b, f4 c j (by omega), f2 c j (by omega)]
  have hn6 : g6 (r 0 5) 10 = ss g 1080 := by rw [lo6 _ _ (by omega) (by omega)]; exact S1.2.1.1
  rw [hn6]
  have h6 : ∀ c : Int, c < 0 ∨ 161 ≤ c → g6 c = g c := fun c hc => funext fun j => lo6 c j (by omega) (by omega)
  apply v_M_keep _ hr hK
  intro a1 ha1
  apply s_M_copies _ hr hK (ar_s hK) (ar_image hK) (by omega) (by omega) (by omega)
  intro a2 c1 c2 c3
  refine ⟨rfl, fun a3 ha3 => ?_⟩
  have e3 : ∀ c : Int, c ≠ 161 → c ≠ 176 → a3 c = g6 c := fun c p q => by rw [ha3, up_f p, c1 c q, ha1, up_f p]
  have hi2 : ∀ c : Int, 161 < c → c ≠ 176 → a3 c = g c := fun c p q => by rw [e3 c (by omega) q, h6 c (by omega)]
  have hsi : si a3 = ss g := by
    unfold ss si
    refine cn_ext (fun l a b => ?_)
    have := c3 l a b
    rw [show (0 : Int) + l = l by omega] at this
    rw [ha3, up_a (by omega), this, ha1, up_a (by omega), h6 174 (by omega)]
  have hss : ss a3 = ss g := by unfold ss; rw [hi2 174 (by omega) (by omega)]
  have hsjs : ∀ j : Int, sj a3 j = sj g j := fun j => by unfold sj; rw [hi2 177 (by omega) (by omega)]
  have htt : tt a3 = tt g := tt_new (fun c a b => hi2 c (by omega) (by omega))
  have h161 : ∀ j : Int, j ≠ 0 → j ≠ 31 → a3 161 j = g 161 j := fun j p q => by rw [ha3, up_k q, c1 161 (by omega), ha1, up_k p, h6 161 (by omega)]
  have lo : ∀ c j : Int, c ≤ 160 → ¬ (66 ≤ c ∧ c ≤ 80) → c ≠ 0 ∨ j ≠ 17 → a3 c j = g c j := fun c j a b d => by rw [e3 c (by omega) (by omega), lo6 c j b d]
  apply s_M_many _ hr hK
  rw [hi2 174 (by omega) (by omega), Rel_many R]
  refine ⟨rfl, rfl, rfl, ?_, fun c hc => ⟨by rw [e3 c (by omega) (by omega), h6 c (Or.inl hc)], rfl⟩⟩
  refine ⟨R.1, ?_, ?_, ?_, ?_, ?_, ?_, ?_, ⟨R.2.2.2.2.2.2.2.2.1, ?_⟩⟩
  · exact RelP_new R.2.1 (lo 0 1 (by omega) (by omega) (by omega)) (fun j => lo 1 j (by omega) (by omega) (by omega)) (fun j => lo 2 j (by omega) (by omega) (by omega)) (hi2 162 (by omega) (by omega)) (h161 2 (by omega) (by omega)) (h161 24 (by omega) (by omega)) (h161 25 (by omega) (by omega))
  · exact RelT_new R.2.2.1 (fun c j a b => lo c j (by omega) (by omega) (by omega)) (fun c a b => hi2 c (by omega) (by omega))
  · unfold RelS LL BB
    rw [hss, htt, hi2 167 (by omega) (by omega), hi2 163 (by omega) (by omega)]
    refine ⟨S1.1, LgV_mono S1.2.1 (fun c i a b => lo c i (by omega) (by omega) (by omega)), LgL_mono S1.2.2.1 (fun c i a b => lo c i (by omega) (by omega) (by omega)), ?_, ShV_mono S1.2.2.2.2.1 (fun c i a b => lo c i (by omega) (by omega) (by omega)), StV_mono S1.2.2.2.2.2.1 (fun c i a b => lo c i (by omega) (by omega) (by omega)), TaP_mono S1.2.2.2.2.2.2 (fun c i a b => lo c i (by omega) (by omega) (by omega))⟩
    rw [lo 57 2 (by omega) (by omega) (by omega), lo 57 3 (by omega) (by omega) (by omega)]; exact S1.2.2.2.1
  · unfold RelU
    rw [h161 30 (by omega) (by omega), hss, htt, hi2 167 (by omega) (by omega), hi2 163 (by omega) (by omega), lo 0 14 (by omega) (by omega) (by omega)]
    refine ⟨U.1, fun j a b => ?_, fun i j a b c => by rw [hsjs, hsjs]; exact U.2.2 i j a b c⟩
    have h3 := U.2.1 j a b
    have hm := R.1.2.2.2.1 j a (by have := U.1; omega)
    have hm1 := hm.1
    have hm2 := hm.2
    unfold isMk at hm1
    rw [hsjs]
    exact ⟨h3.1, MkV_mono h3.2.1 (fun c i p q => lo c i (by omega) (by omega) (by omega)), h3.2.2⟩
  · unfold RelI LL BB
    rw [hsi, htt, hi2 167 (by omega) (by omega), hi2 163 (by omega) (by omega)]
    have h31 : a3 161 31 = 1 := by rw [ha3, up_s]
    rw [h31]
    have h17 : a3 0 17 = 1 := by rw [e3 0 (by omega) (by omega), hg6, up_s]
    refine ⟨⟨h17, Or.inr rfl⟩, fun _ => ⟨S1.1, LgV_mono hv2 (fun c i a b => by rw [e3 c (by omega) (by omega), f6 c i (by omega), f4 c i (by omega)]), LgL_mono hl2 (fun c i a b => by rw [e3 c (by omega) (by omega), f6 c i (by omega), f4 c i (by omega)]), ⟨?_, ?_, ?_, ?_⟩⟩⟩
    · rw [e3 77 (by omega) (by omega), f6 77 0 (by omega)]; exact m0
    · rw [e3 77 (by omega) (by omega), f6 77 1 (by omega)]; exact m1
    · rw [e3 77 (by omega) (by omega), f6 77 2 (by omega)]; exact m2
    · exact TaP_mono m3 (fun c i a b => by rw [e3 c (by omega) (by omega), f6 c i (by omega)])
  · rw [h161 34 (by omega) (by omega)]; exact R.2.2.2.2.2.2.1
  · rw [h161 35 (by omega) (by omega)]; exact R.2.2.2.2.2.2.2.1
  · have hr6 := R.1.2.2.1
    rw [lo (r 0 6 + 10) 0 (by omega) (by omega) (by omega)]; exact R.2.2.2.2.2.2.2.2.2
