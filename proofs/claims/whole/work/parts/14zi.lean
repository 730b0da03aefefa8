/-! SPECS, part zi: see. -/
theorem t_EL_countsNow {K : Int} {S : Nat} {g r : ab_H} {t e n k : Int} {s V : Int → Int} {q : RS} (P : Int → ab_H → ab_H → Prop) (hr : SI r) (hK : 186 ≤ K) (hL : isLg (r 0 5)) (hTe : isTe (r 0 3)) (hv : LgV g (r 0 5) s n) (hq : StV g 45 q n) (hqc : ∀ e : Int, 0 ≤ q.2.2.2.2 e ∧ q.2.2.2.2 e ≤ 3) (hE : EvOk s n) (ht : 0 ≤ t ∧ t < 4) (hk : g (r 0 3 + 3) t = k) (hk2 : 0 ≤ k ∧ k ≤ 6) (hV : ∀ e : Int, 0 ≤ e → e < n → s (9 * e + 0) ≠ 7 → 0 ≤ V e) (he : 0 ≤ e ∧ e < n) (h : ∀ x : Int, x = ne0 (cvn s V q.2.2.2.2 k) e → (x = 0 ∨ x = 1) → P x g r) : ab_RI m_EL_countsNow [(2, 0), (0, t), (0, e)] K S g r P := by
  have n1 := hv.2.1
  have e0 := hv.2.2.1 e he.1 he.2
  have c0 := hE e he.1 he.2
  have hnow : g 50 e = q.2.2.2.2 e := hq.2 e he.1 he.2
  have hcb := hqc e
  have z : (s (9 * e + 0) = 7 ∨ s (9 * e + 8) ≠ 0 ∨ s (9 * e + 0) ≠ k ∨ q.2.2.2.2 e ≠ 0) → ne0 (cvn s V q.2.2.2.2 k) e = 0 := fun hc => if_pos (if_pos hc)
  have o : ¬ (s (9 * e + 0) = 7 ∨ s (9 * e + 8) ≠ 0 ∨ s (9 * e + 0) ≠ k ∨ q.2.2.2.2 e ≠ 0) → ne0 (cvn s V q.2.2.2.2 k) e = 1 := by
    intro hc
    have h1 : cvn s V q.2.2.2.2 k e = V e + 1 := if_neg hc
    have h2 := hV e he.1 he.2 (by omega)
    exact if_neg (by omega)
  apply v_EL_countsNow _ hr hK
  rw [e0.1, e0.2.2.2.2.2.1, hk, hnow]
  refine ⟨hL, by omega, hTe, by omega, And.intro (fun h1 => h 0 ?_ (Or.inl rfl)) (fun h1 => ⟨by omega, And.intro (fun h2 => h 0 ?_ (Or.inl rfl)) (fun h2 => ⟨hL, by omega, And.intro (fun h3 => h 0 ?_ (Or.inl rfl)) (fun h3 => h 1 ?_ (Or.inr rfl))⟩)⟩)⟩
  · rw [z (by simp only [wr] at h1; omega)]
  · rw [z (by simp only [wr] at h2; omega)]
  · rw [z (by simp only [wr] at h3; omega)]
  · rw [o (by simp only [wr] at h1 h2 h3; omega)]
/-- the bits after seeing -/
def TaS (s : Int → Int) (t p : Int) (c : Int → Int) (g : ab_H) : Prop := TaP g 61 (fu (tpx s) t p) (fun u e => if u = t then ne0 c e else ne0 (tcx s u) e)
theorem l_EL_see {K : Int} {S : Nat} {r g1 : ab_H} {t n k sn : Int} {s V : Int → Int} {q : RS} (P : Int → ab_H → ab_H → Prop) (hr : SI r) (hK : 186 ≤ K) (hL : isLg (r 0 5)) (hTe : isTe (r 0 3)) (hv : LgV g1 (r 0 5) s n) (hq : StV g1 45 q n) (hqc : ∀ e : Int, 0 ≤ q.2.2.2.2 e ∧ q.2.2.2.2 e ≤ 3) (hE : EvOk s n) (ht : 0 ≤ t ∧ t < 4) (hk : g1 (r 0 3 + 3) t = k) (hk2 : 0 ≤ k ∧ k ≤ 6) (hV : ∀ e : Int, 0 ≤ e → e < n → s (9 * e + 0) ≠ 7 → 0 ≤ V e) (hvb : ∀ e : Int, 0 ≤ e → e < n → (cvn s V q.2.2.2.2 k) e = 0 ∨ ((1 ≤ (cvn s V q.2.2.2.2 k) e ∧ (cvn s V q.2.2.2.2 k) e ≤ 1000001) ∧ (cvn s V q.2.2.2.2 k) e = V e + 1)) (hsn : sn ≤ 120) : ∀ (m : Nat) (i p : Int) (c : Int → Int) (g : ab_H), 0 ≤ i → i + m = sn → p + m ≤ n → (∀ c' j : Int, c' ≠ 62 → c' ≠ 63 → g c' j = g1 c' j) → TaS s t p c g → TcOk s c p n V → (∀ g' : ab_H, (∀ c' j : Int, c' ≠ 62 → c' ≠ 63 → g' c' j = g1 c' j) → TaS s t (p + m) (tyF s (cvn s V q.2.2.2.2 k) m p c) g' → P sn g' r) → ab_Rn m_EL_see 34 [some (2, 0), some (0, t), none, none, some (0, sn), some (0, i)] [] (K, S, g, r) (ab_Qi K S P)
  | 0, i, p, c, g, h0, hi, hpn, hf, hta, hok, h => by
    apply v_EL_see_34 _ hr hK
    refine And.intro (fun _ => h g hf ?_) (fun h1 => absurd h1 (by simp only [wr]; omega))
    rw [show p + ((0 : Nat) : Int) = p by omega]; exact hta
  | m + 1, i, p, c, g, h0, hi, hpn, hf, hta, hok, h => by
    have hL' := hL
    have hTe' := hTe
    unfold isLg at hL'
    unfold isTe at hTe'
    have hp0 := hok.1
    have n1 := hv.2.1
    have hvg : LgV g (r 0 5) s n := LgV_mono hv (fun c' j a b => hf c' j (by omega) (by omega))
    have hqg : StV g 45 q n := StV_mono hq (fun c' j a b => hf c' j (by omega) (by omega))
    have e0 := hvg.2.2.1 p hp0.1 (by omega)
    have c0 := hE p hp0.1 (by omega)
    have hpl : g 62 t = p := (hta.1 t ht.1 ht.2).trans fu_s
    -- what comes next
    have next : ∀ (g2 g3 : ab_H) (c' : Int → Int), (∀ d j : Int, d ≠ 62 → d ≠ 63 → g2 d j = g d j) → TaS s t p c' g2 → g3 = ab_up g2 62 t (p + 1) → c' = tyc s c (cvn s V q.2.2.2.2 k) p → ab_Rn m_EL_see 34 [some (2, 0), some (0, t), none, none, some (0, sn), some (0, i + 1)] [] (K, S, g3, r) (ab_Qi K S P) := by
      intro g2 g3 c' f2 ta2 hg3 hc'
      refine l_EL_see P hr hK hL hTe hv hq hqc hE ht hk hk2 hV hvb hsn m (i + 1) (p + 1) c' g3 (by omega) (by omega) (by omega) (fun d j a b => by rw [hg3, up_a a, f2 d j a b, hf d j a b]) ?_ (by rw [hc']; exact TcOk_tyc hok (by omega) (hvb p hp0.1 (by omega)) n1.2) (fun g' f' ta' => h g' f' ?_)
      · refine ⟨fun u a b => ?_, fun e a b => ?_⟩
        · rw [hg3]
          show ab_up g2 62 t (p + 1) 62 u = _
          rw [up_i]
          simp only [fu]
          by_cases hu : u = t
          · rw [if_pos hu, if_pos hu]
          · rw [if_neg hu, if_neg hu]
            have h1 := ta2.1 u a b
            rw [fu_n hu] at h1
            exact h1
        · rw [hg3, up_a (by omega)]; exact ta2.2 e a b
      · rw [show p + ((m + 1 : Nat) : Int) = p + 1 + m by omega]
        have : tyF s (cvn s V q.2.2.2.2 k) (m + 1) p c = tyF s (cvn s V q.2.2.2.2 k) m (p + 1) c' := by rw [hc']; rfl
        rw [this]
        exact ta'
    apply v_EL_see_34 _ hr hK
    refine And.intro (fun h1 => absurd h1 (by simp only [wr]; omega)) (fun _ => ?_)
    apply v_EL_seeNext _ hr hK
    rw [hpl]
    refine ⟨by omega, hL, ?_⟩
    apply s_Lg_holds _ hr hK hL hvg.1 n1 (by omega)
    intro x hx
    refine ⟨rfl, rfl, And.intro (fun _ => ⟨hL, by omega, ?_⟩) (fun h1 => absurd hx (by simp only [wr] at h1; omega))⟩
    rw [e0.1]
    have tcong : ∀ (c' c'' : Int → Int), (∀ u e : Int, 0 ≤ u → u < 4 → 0 ≤ e → e < 120 → (if u = t then ne0 c' e else ne0 (tcx s u) e) = (if u = t then ne0 c'' e else ne0 (tcx s u) e)) → ∀ g2, TaS s t p c' g2 → TaS s t p c'' g2 := fun c' c'' hcc g2 h2 => TaP_ext h2 (fun _ _ _ => rfl) hcc
    refine And.intro (fun h1 => ?_) (fun h1 => ⟨hL, by omega, ?_⟩)
    · have h7 : s (9 * p + 0) ≠ 7 := by simp only [wr] at h1; omega
      have hty : tyc s c (cvn s V q.2.2.2.2 k) p = fu c p (cvn s V q.2.2.2.2 k p) := if_neg h7
      have hcp : c p = 0 := by
        rcases hok.2 p hp0.1 (by omega) with h2 | h2
        · exact h2
        · omega
      apply t_EL_countsNow (V := V) _ hr hK hL hTe hvg hqg hqc hE ht (by rw [hf _ _ (by omega) (by omega)]; exact hk) hk2 hV ⟨hp0.1, by omega⟩
      intro y hy hyb
      refine ⟨rfl, rfl, And.intro (fun h2 => ⟨by omega, fun g5 hg5 => ⟨rfl, ?_⟩⟩) (fun h2 => ?_)⟩
      · have hy0 : cvn s V q.2.2.2.2 k p = 0 := by
          by_cases hc : cvn s V q.2.2.2.2 k p = 0
          · exact hc
          · exfalso
            have : ne0 (cvn s V q.2.2.2.2 k) p = 1 := if_neg hc
            simp only [wr] at h2
            omega
        refine next g g5 c (fun _ _ _ _ => rfl) hta hg5 ?_
        rw [hty, hy0]
        funext e
        simp only [fu]
        by_cases he : e = p
        · rw [if_pos he, he, hcp]
        · rw [if_neg he]
      · have hy0 : cvn s V q.2.2.2.2 k p ≠ 0 := by
          intro hc
          have : ne0 (cvn s V q.2.2.2.2 k) p = 0 := if_pos hc
          simp only [wr] at h2
          omega
        apply s_Ta_putOn _ hr hK (Or.inl rfl) hta ht (by omega)
        intro g6 f6 ta6
        refine ⟨rfl, by omega, fun g8 hg8 => ⟨rfl, next g6 g8 _ (fun d j a b => f6 d j a b) ?_ hg8 hty.symm⟩⟩
        refine TaP_ext ta6 (fun _ _ _ => rfl) (fun u e a b d f => ?_)
        try dsimp only
        by_cases hu : u = t
        · by_cases he : e = p
          · rw [if_pos ⟨hu, he⟩, if_pos hu]
            unfold ne0
            rw [he, fu_s, if_neg hy0]
          · rw [if_neg (fun hc => he hc.2), if_pos hu, if_pos hu]
            unfold ne0
            rw [fu_n he]
        · rw [if_neg (fun hc => hu hc.1), if_neg hu, if_neg hu]
    · have h7 : s (9 * p + 0) = 7 := by simp only [wr] at h1; omega
      have c7 := c0.2.2.2.1 h7
      have hty : tyc s c (cvn s V q.2.2.2.2 k) p = fu c (s (9 * p + 2)) 0 := if_pos h7
      rw [e0.2.2.1 (Or.inr h7)]
      apply s_Ta_takeOff _ hr hK (Or.inl rfl) hta ht (by omega)
      intro g6 f6 ta6
      refine ⟨rfl, by omega, fun g8 hg8 => ⟨rfl, next g6 g8 _ (fun d j a b => f6 d j a b) ?_ hg8 hty.symm⟩⟩
      refine TaP_ext ta6 (fun _ _ _ => rfl) (fun u e a b d f => ?_)
      try dsimp only
      by_cases hu : u = t
      · by_cases he : e = s (9 * p + 2)
        · rw [if_pos ⟨hu, he⟩, if_pos hu]
          unfold ne0
          rw [he, fu_s, if_pos rfl]
        · rw [if_neg (fun hc => he hc.2), if_pos hu, if_pos hu]
          unfold ne0
          rw [fu_n he]
      · rw [if_neg (fun hc => hu hc.1), if_neg hu, if_neg hu]
theorem p_see {K : Int} {S : Nat} {g r : ab_H} {t nn : Int} (hr : SI r) (hK : 186 ≤ K) (hK2 : 187 ≤ K) (R : Rel g r) (ht : I32 t) (hnn : I32 nn) : PB m_EL_see [(2, 0), (0, t), (0, nn)] m_M_see [(2, 161), (0, t), (0, nn)] K S g r := by
  have ht' := ht
  have hnn' := hnn
  unfold I32 at ht' hnn'
  have S1 := R.2.2.2.1
  have n1 := S1.1.1
  have T5 := R.2.2.1.2.2.2.2.1
  have U1 := R.2.2.2.2.1.1
  -- the reference refuses
  have mref : ∀ v : Int, (0 ≤ t ∧ t < g 163 1 → 1 ≤ nn → nn ≤ 120 → tpx (ss g) t = ss g 1080 ∧ v = -2) → (¬ ((0 ≤ t ∧ t < g 163 1) ∧ 1 ≤ nn ∧ nn ≤ 120) → v = -1) → ab_RI m_M_see [(2, 161), (0, t), (0, nn)] K S g r (fun y g2 r2 => v = y ∧ Rel g2 r2 ∧ (∀ c : Int, c < 0 → g2 c = g c ∧ r2 c = r c)) := by
    intro v hv1 hv2
    refine (show MA m_M_see [(2, 161), (0, t), (0, nn)] K S g r v from ?_).mono (fun y g2 r2 h2 => ⟨h2.2.2, by rw [h2.1]; exact Rel_scr R h2.2.1, fun c hc => ⟨Scr_neg R h2.2.1 c hc, by rw [h2.1]⟩⟩)
    unfold MA
    apply v_M_see _ hr hK
    intro g7 hg7
    have f7 := Scr_t R hg7
    have R7 := Rel_scr R f7
    apply s_M_isTally _ hr hK (by rw [Scr_163 f7]) T5.2 ht
    intro y hy
    refine ⟨rfl, rfl, And.intro (fun h2 => ⟨rfl, f7, hv2 (by simp only [wr] at h2; omega)⟩) (fun h2 => And.intro (fun h3 => ⟨rfl, f7, hv2 (by simp only [wr] at h3; omega)⟩) (fun h3 => And.intro (fun h4 => ?_) (fun h4 => ⟨rfl, f7, hv2 (by simp only [wr] at h4; omega)⟩)))⟩
    have ht2 : 0 ≤ t ∧ t < g 163 1 := by simp only [wr] at h2; omega
    have h5 := hv1 ht2 (by simp only [wr] at h3; omega) (by simp only [wr] at h4; omega)
    apply v_M_tallyAt _ hr hK
    refine ⟨rfl, rfl, by omega, ?_⟩
    apply s_M_many _ hr hK
    rw [Rel_many R7, show 1091 + 129 * t + 0 = 1091 + 129 * t by omega, (Rel_TyV R7 (t := t) ht2.1 (by omega)).1, Scr_ss f7, h5.1]
    exact ⟨rfl, rfl, And.intro (fun h6 => absurd rfl h6) (fun _ => ⟨rfl, f7, h5.2⟩)⟩
  unfold PB
  apply v_EL_see _ hr hK
  apply s_EL_isTally _ hr hK R ht
  intro x hx
  refine ⟨rfl, rfl, And.intro (fun h1 => mref _ (fun a b c => absurd hx (by simp only [wr] at h1; omega)) (fun _ => rfl)) (fun h1 => And.intro (fun h2 => mref _ (fun a b c => absurd b (by simp only [wr] at h2; omega)) (fun _ => rfl)) (fun h2 => And.intro (fun h3 => ?_) (fun h3 => mref _ (fun a b c => absurd c (by simp only [wr] at h3; omega)) (fun _ => rfl))))⟩
  have ht2 : 0 ≤ t ∧ t < g 163 1 := by simp only [wr] at h1; omega
  have hn2 : 1 ≤ nn ∧ nn ≤ 120 := by simp only [wr] at h2 h3; omega
  have hTc := Rel_TcOk R (t := t) ht2.1 (by omega)
  have hTy := Rel_TyV R (t := t) ht2.1 (by omega)
  have hp0 := hTc.1
  have hpl : g 62 t = tpx (ss g) t := S1.2.2.2.2.2.2.1 t ht2.1 (by omega)
  have T3 := R.2.2.1.2.2.2.2.2.1 t ht2.1 ht2.2
  rw [hpl, S1.2.1.1]
  refine ⟨Rel_Lg R, by omega, And.intro (fun h4 => ?_) (fun h4 => mref _ (fun a b c => ⟨by simp only [wr] at h4; omega, rfl⟩) (fun hc => absurd ⟨ht2, hn2.1, hn2.2⟩ hc))⟩
  have hlt : tpx (ss g) t < ss g 1080 := by simp only [wr] at h4; omega
  have hmin : ab_min nn (ss g 1080 - tpx (ss g) t) = if ss g 1080 - tpx (ss g) t < nn then ss g 1080 - tpx (ss g) t else nn := by
    unfold ab_min
    rw [wr_of (by omega) (by omega), wr_of (by omega) (by omega)]
  rw [hmin]
  have hsn : ∃ sn : Int, sn = (if ss g 1080 - tpx (ss g) t < nn then ss g 1080 - tpx (ss g) t else nn) ∧ 1 ≤ sn ∧ sn ≤ nn ∧ tpx (ss g) t + sn ≤ ss g 1080 ∧ (sn = nn ∨ tpx (ss g) t + sn = ss g 1080) := by
    refine ⟨_, rfl, ?_⟩
    split <;> omega
  rcases hsn with ⟨sn, hsn0, hsn1, hsn2, hsn3, hsn4⟩
  rw [← hsn0]
  have hcvb : ∀ e : Int, 0 ≤ e → e < ss g 1080 → cv g t e = 0 ∨ ((1 ≤ cv g t e ∧ cv g t e ≤ 1000001) ∧ cv g t e = LL g (ss g) e (g 167 t - 1) + 1) := by
    intro e a b
    by_cases hc : ss g (9 * e + 0) = 7 ∨ ss g (9 * e + 8) ≠ 0 ∨ ss g (9 * e + 0) ≠ g 166 t ∨ (rp g (-1) 120 (ss g 1080)).2.2.2.2 e ≠ 0
    · exact Or.inl (if_pos hc)
    · have h5 : cv g t e = LL g (ss g) e (g 167 t - 1) + 1 := if_neg hc
      have h6 := (LfOk_lft (pk := -1) (ps := -1) R.2.2.1.1 S1.1.2.1 e a b (by omega)).2 (g 167 t - 1) (by omega) (by omega)
      have h7 : BB g (ss g) e = 0 := rep_cause a b (by have : (rp g (-1) 120 (ss g 1080)).2.2.2.2 e = 0 := by omega
                                                       exact this) (by have := (S1.1.2.1 e a b).2.2.2.2.2; omega)
      have h8 : 0 ≤ LL g (ss g) e (g 167 t - 1) ∧ LL g (ss g) e (g 167 t - 1) ≤ 1000000 := ⟨h6.1.1, h6.2 h7⟩
      exact Or.inr (by omega)
  apply t_EL_mark _ hr hK hK2 R
  intro g1 r1 hR1 hM hMU hml
  have hi := Mkd_hi hM (by omega)
  have hr0 : r1 0 = r 0 := hi.2.2 0 (by omega)
  have hr5 := R.1.2.2.1
  have hr3 := R.1.2.1
  have hv1 : LgV g1 (r1 0 5) (ss g) (ss g 1080) := by rw [hr0]; exact LgV_mono S1.2.1 (fun c i a b => hi.2.1 c i (by omega) (by omega))
  have hq1 : StV g1 45 (rp g (-1) 120 (ss g 1080)) (ss g 1080) := StV_mono (Rel_now R) (fun c i a b => hi.2.1 c i (by omega) (by omega))
  have hta1 : TaS (ss g) t (tpx (ss g) t) (cx g t) g1 := by
    refine TaP_ext (TaP_mono S1.2.2.2.2.2.2 (fun c i a b => hi.2.1 c i (by omega) (by omega))) (fun u a b => ?_) (fun u e a b c d => ?_)
    · simp only [fu]
      by_cases hu : u = t
      · rw [if_pos hu, hu]
      · rw [if_neg hu]
    · try dsimp only
      by_cases hu : u = t
      · rw [if_pos hu, hu]; rfl
      · rw [if_neg hu]
  refine ⟨hR1.1, l_EL_see (n := ss g 1080) (k := g 166 t) (s := ss g) (V := fun e => LL g (ss g) e (g 167 t - 1)) (q := rp g (-1) 120 (ss g 1080)) _ hR1.1 hK (by rw [hr0]; exact Rel_Lg R) (by rw [hr0]; exact Rel_Te R) hv1 hq1 rep_cau S1.1.2.1 ⟨ht2.1, by omega⟩ (by rw [hr0, hi.2.1 _ _ (by omega) (by omega)]; exact T3.2.1.1) T3.2.1.2 (fun e a b c => ((LfOk_lft (pk := -1) (ps := -1) R.2.2.1.1 S1.1.2.1 e a b c).2 (g 167 t - 1) (by omega) (by omega)).1.1) hcvb (by omega) sn.toNat 0 (tpx (ss g) t) (cx g t) g1 (by omega) (by omega) (by omega) (fun _ _ _ _ => rfl) hta1 hTc (fun g6 f6 hta6 => ?_)⟩
  have h6 : ∀ c : Int, 161 ≤ c → g6 c = g c := fun c hc => by
    funext j
    rw [f6 c j (by omega) (by omega), hi.1 c (by omega)]
  apply v_M_see _ hR1.1 hK
  intro g7 hg7
  have f7 := Scr_t0 hg7
  have e7 : ∀ c : Int, 161 < c → g7 c = g c := fun c hc => by rw [f7.1 c (by omega), h6 c (by omega)]
  apply s_M_isTally _ hR1.1 hK (by rw [e7 163 (by omega)]) T5.2 ht
  intro y hy
  refine ⟨rfl, rfl, And.intro (fun h5 => absurd h5 (by simp only [wr]; omega)) (fun _ => And.intro (fun h5 => absurd h5 (by simp only [wr]; omega)) (fun _ => And.intro (fun _ => ?_) (fun h5 => absurd h5 (by simp only [wr]; omega))))⟩
  apply v_M_tallyAt _ hR1.1 hK
  refine ⟨rfl, rfl, by omega, ?_⟩
  apply s_M_many _ hR1.1 hK
  have hits : g7 174 (1091 + 129 * t + 0) = tpx (ss g) t := by
    rw [e7 174 (by omega), show 1091 + 129 * t + 0 = 1091 + 129 * t by omega]
    exact hTy.1
  rw [hits, e7 174 (by omega), Rel_many R]
  refine ⟨rfl, rfl, And.intro (fun _ => ?_) (fun h5 => absurd h5 (by simp only [wr]; omega))⟩
  have h730 : g7 161 30 = g 0 14 := by rw [f7.2 30 (by omega), h6 161 (by omega)]; exact U1.1.symm
  apply s_M_remembers _ hR1.1 hK (by omega)
  intro g8 hrem
  have hsj := Rem_sj hrem h730 (e7 177 (by omega)) (e7 174 (by omega)) (by omega)
  have e8 : ∀ c : Int, 161 < c → c ≠ 177 → g8 c = g c := fun c a b => by rw [hrem.1 c (by omega) b, e7 c a]
  have h835 : g8 161 35 = g 161 35 := by rw [hrem.2.1 35 (by omega), f7.2 35 (by omega), h6 161 (by omega)]
  have h834 : g8 161 34 = -1 := by rw [hrem.2.1 34 (by omega), f7.2 34 (by omega), h6 161 (by omega)]; exact R.2.2.2.2.2.2.1
  have hev8 : EvS g8 (ss g) := fun j a b => by rw [e8 174 (by omega) (by omega)]; exact Rel_EvS R j a b
  have hre8 : ReT g8 (tt g) := ⟨e8 168 (by omega) (by omega), e8 169 (by omega) (by omega), e8 170 (by omega) (by omega), e8 171 (by omega) (by omega)⟩
  refine ⟨rfl, ?_⟩
  apply t_M_replaysAll (n := ss g 1080) (T := tt g) (s := ss g) (pk := -1) (ps := g 161 35) _ hR1.1 hK R.2.2.1.1 S1.1.2.1 n1 (by omega) R.2.2.2.2.2.2.2.1 hev8 (by rw [e8 174 (by omega) (by omega)]; exact Rel_many R) hre8 h834 h835
  intro g9 f9 hq9
  have hq9' : StV g9 178 (rp g (-1) 120 (ss g 1080)) (ss g 1080) := by
    show StV g9 178 (rep (ss g) (LL g (ss g)) (BB g (ss g)) (-1) 120 (ss g 1080)) (ss g 1080)
    rw [← rep_ext (s' := ss g) (L' := LF (tt g) (ss g) (-1) (g 161 35)) (B' := BF (tt g) (ss g) (-1) (g 161 35)) n1.1 (fun _ _ _ _ _ _ => rfl) (fun e a b => (LB_ps S1.1.2.1 a b).1) (fun e a b => (LB_ps S1.1.2.1 a b).2)]
    exact hq9
  have e9 : ∀ c : Int, 161 < c → c < 178 → c ≠ 177 → g9 c = g c := fun c a b d => by rw [f9.1 c (by omega) (by omega), e8 c a d]
  refine ⟨rfl, l_M_see (n := ss g 1080) (k := g 166 t) (f := g 167 t) (ps := g 161 35) (vo := 120) (T := tt g) (s := ss g) _ hR1.1 hK R.2.2.1.1 S1.1.2.1 n1 R.2.2.2.2.2.2.2.1 ⟨ht2.1, by omega⟩ T3.2.1.2 T3.2.2.2 rfl hn2 hsn2 sn.toNat 0 (tpx (ss g) t) (cx g t) g9 (by omega) (by omega) (by omega) (by omega) (ReT_mono hre8 (fun c a b => f9.1 c (by omega) (by omega))) (fun j a b => by rw [f9.1 174 (by omega) (by omega)]; exact hev8 j a b) (by rw [e9 174 (by omega) (by omega) (by omega)]; exact Rel_many R) (by rw [f9.2 34 (by omega) (by omega) (by omega)]; exact h834) (by rw [f9.2 35 (by omega) (by omega) (by omega)]; exact h835) (by rw [e9 166 (by omega) (by omega) (by omega)]) (by rw [e9 167 (by omega) (by omega) (by omega)]) (fun e a b => hq9'.2 e a b) ?_ hTc (fun g10 f10 hty10 hok10 => ⟨rfl, ?_, fun c hc => ⟨?_, hi.2.2 c (by omega)⟩⟩)⟩
  · rw [e9 174 (by omega) (by omega) (by omega)]; exact hTy
  · have hpn : (sn.toNat : Int) = sn := by omega
    have hty10' : TyV (g10 174) (1091 + 129 * t) (ss g) (tpx (ss g) t + sn.toNat) (tyF (ss g) (cv g t) sn.toNat (tpx (ss g) t) (cx g t)) := hty10
    have hok10' : TcOk (ss g) (tyF (ss g) (cv g t) sn.toNat (tpx (ss g) t) (cx g t)) (tpx (ss g) t + sn.toNat) (ss g 1080) (fun e => LL g (ss g) e (g 167 t - 1)) := hok10
    have e10 : g9 174 = g 174 := e9 174 (by omega) (by omega) (by omega)
    have hss : ∀ j : Int, 0 ≤ j → j < 1607 → ¬ (1091 + 129 * t ≤ j ∧ j < 1091 + 129 * t + 129) → ss g10 j = ss g j := by
      intro j a b c
      unfold ss
      rw [cn_in a b, cn_in a b, f10.2 j c, e10]
    have hssz : ∀ j : Int, 1091 + 129 * t ≤ j → j < 1091 + 129 * t + 129 → ss g10 j = g10 174 j := fun j a b => cn_in (by omega) (by omega)
    have hev : ∀ j : Int, 0 ≤ j → j < 1091 → ss g10 j = ss g j := fun j a b => hss j a (by omega) (by omega)
    have c10 : ∀ c : Int, c ≠ 174 → c ≠ 178 → g10 c = g9 c := f10.1
    have hsjs : ∀ j : Int, sj g10 j = sj g8 j := fun j => by unfold sj; rw [c10 177 (by omega) (by omega), f9.1 177 (by omega) (by omega)]
    have hty2 : TyV (ss g10) (1091 + 129 * t) (ss g) (tpx (ss g) t + sn.toNat) (tyF (ss g) (cv g t) sn.toNat (tpx (ss g) t) (cx g t)) := ⟨by rw [hssz _ (by omega) (by omega)]; exact hty10'.1, fun e a b => by rw [hssz _ (by omega) (by omega)]; exact hty10'.2.1 e a b, fun e a b => by rw [hssz _ (by omega) (by omega)]; exact hty10'.2.2 e a b⟩
    have hone := TyOne (T := tt g) (fl := g 167 t - 1) (fun j a b => hev j a (by omega)) n1 (hev 1080 (by omega) (by omega)) ⟨ht2.1, by omega⟩ hty2 hok10'
    have hTyA := TyOk_one hev n1 ⟨ht2.1, by omega⟩ (fun j a b c => hss j (by omega) b c) (Rel_TyOk R) hone
    have h161 : ∀ j : Int, j ≠ 0 → j ≠ 30 → j ≠ 41 → j ≠ 42 → j ≠ 43 → g10 161 j = g 161 j := fun j a b c d e => by rw [c10 161 (by omega) (by omega), f9.2 j c d e, hrem.2.1 j b, f7.2 j a, h6 161 (by omega)]
    refine Rel_ty (t := t) R hR1 hM hMU hml (fun c j a b d => ?_) (fun c a b d e => ?_) (fun j hj => h161 j (by omega) (by omega) (by omega) (by omega) (by omega)) ?_ ?_ (fun j a b => ?_) ?_ hev hTyA ?_
    · rw [c10 c (by omega) (by omega), f9.1 c (by omega) (by omega), hrem.1 c (by omega) (by omega), f7.1 c (by omega)]
      exact f6 c j b d
    · rw [c10 c b (by omega), e9 c a e d]
    · rw [h161 35 (by omega) (by omega) (by omega) (by omega) (by omega)]; exact R.2.2.2.2.2.2.2.1
    · rw [c10 161 (by omega) (by omega), f9.2 30 (by omega) (by omega) (by omega)]; exact hsj.1
    · rw [hsjs]; exact hsj.2.1 j a b
    · rw [hsjs]; exact hsj.2.2
    · have hta10 : TaS (ss g) t (tpx (ss g) t + sn.toNat) (tyF (ss g) (cv g t) sn.toNat (tpx (ss g) t) (cx g t)) g10 := TaP_mono hta6 (fun c i a b => by rw [c10 c (by omega) (by omega), f9.1 c (by omega) (by omega), hrem.1 c (by omega) (by omega), f7.1 c (by omega)])
      refine TaP_ext hta10 (fun u a b => ?_) (fun u e a b c d => ?_)
      · simp only [fu]
        by_cases hu : u = t
        · rw [if_pos hu, hu]; exact hty2.1.symm
        · rw [if_neg hu]; exact (hss _ (by omega) (by omega) (by omega)).symm
      · try dsimp only
        by_cases hu : u = t
        · rw [if_pos hu, hu]
          have : tcx (ss g10) t e = tyF (ss g) (cv g t) sn.toNat (tpx (ss g) t) (cx g t) e := hty2.2.1 e c d
          unfold ne0
          rw [this]
        · rw [if_neg hu]
          have : tcx (ss g10) u e = tcx (ss g) u e := hss _ (by omega) (by omega) (by omega)
          unfold ne0
          rw [this]
  · funext j
    rw [f10.1 c (by omega) (by omega), f9.1 c (by omega) (by omega), hrem.1 c (by omega) (by omega), f7.1 c (by omega), f6 c j (by omega) (by omega), hi.1 c (by omega)]
