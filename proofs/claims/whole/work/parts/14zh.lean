/-! SPECS, part zh: rewind. -/
/-- a pair of calls, the relation kept -/
def PB (kc : Nat) (ac : List ab_V) (km : Nat) (am : List ab_V) (K : Int) (S : Nat) (g r : ab_H) : Prop := ab_RI kc ac K S g r (fun x g1 r1 => ab_RI km am K S g1 r1 (fun y g2 r2 => x = y ∧ Rel g2 r2 ∧ (∀ c : Int, c < 0 → g2 c = g c ∧ r2 c = r c)))
theorem Scr_neg {g g' r : ab_H} (R : Rel g r) (h : Scr g g' r) (c : Int) (hc : c < 0) : g' c = g c := by
  have := R.1.2.2.1
  exact funext fun j => h.1 c j (by omega) (by omega) (by omega) (by omega) (by omega)
theorem PB_PA {kc : Nat} {ac : List ab_V} {km : Nat} {am : List ab_V} {K : Int} {S : Nat} {g r : ab_H} (R : Rel g r) (h : PA kc ac km am K S g r) : PB kc ac km am K S g r := by
  unfold PA at h
  unfold PB
  refine h.mono (fun x g1 r1 h1 => ?_)
  rw [h1.1]
  refine h1.2.2.mono (fun y g2 r2 h2 => ⟨h2.2.2, ?_, fun c hc => ⟨?_, by rw [h2.1]⟩⟩)
  · rw [h2.1]; exact Rel_scr R (Scr_tr h1.2.1 h2.2.1)
  · exact Scr_neg R (Scr_tr h1.2.1 h2.2.1) c hc
theorem Mkd_hi {g r g' r' : ab_H} (h : Mkd g r g' r') (hU : 0 ≤ g 0 14 ∧ g 0 14 ≤ 20) : (∀ c : Int, c < 0 ∨ 161 ≤ c → g' c = g c) ∧ (∀ c j : Int, c ≤ 80 → c ≠ 0 ∨ j ≠ 14 → g' c j = g c j) ∧ (∀ c : Int, c ≠ 65 → r' c = r c) := by
  have hu : 0 ≤ U0 (g 0 14) ∧ U0 (g 0 14) < 20 := by unfold U0; split <;> omega
  have hm := h.2.2.1 (U0 (g 0 14)) hu.1 hu.2
  have hm1 := hm.1
  have hm2 := hm.2
  unfold isMk at hm1
  exact ⟨fun c hc => funext fun j => h.2.2.2.2.1 c j (by omega) (by omega), fun c j a b => h.2.2.2.2.1 c j (by omega) b, h.1⟩
theorem l_M_rewind {K : Int} {S : Nat} {r g0 : ab_H} {b v : Int} (P : Int → ab_H → ab_H → Prop) (hr : SI r) (hK : 186 ≤ K) (hb : 1091 ≤ b ∧ b + 129 ≤ 1607) (h : ∀ g' : ab_H, (∀ c : Int, c ≠ 174 → g' c = g0 c) → (∀ j : Int, j < b ∨ b + 129 ≤ j → g' 174 j = g0 174 j) → (∀ j : Int, b ≤ j → j < b + 129 → g' 174 j = 0) → P v g' r) : ∀ (m : Nat) (i : Int) (g : ab_H), 0 ≤ i → i + m = 129 → (∀ c : Int, c ≠ 174 → g c = g0 c) → (∀ j : Int, j < b ∨ b + i ≤ j → g 174 j = g0 174 j) → (∀ j : Int, b ≤ j → j < b + i → g 174 j = 0) → ab_Rn m_M_rewind 23 [some (2, 161), none, some (0, b), some (0, v), some (0, i)] [] (K, S, g, r) (ab_Qi K S P)
  | 0, i, g, h0, hi, f1, f2, f3 => by
    apply v_M_rewind_23 _ hr hK
    exact And.intro (fun _ => h g f1 (fun j a => f2 j (by omega)) (fun j a c => f3 j a (by omega))) (fun h1 => absurd h1 (by simp only [wr]; omega))
  | m + 1, i, g, h0, hi, f1, f2, f3 => by
    apply v_M_rewind_23 _ hr hK
    refine And.intro (fun h1 => absurd h1 (by simp only [wr]; omega)) (fun _ => ⟨by omega, fun g1 hg1 => ?_⟩)
    refine l_M_rewind P hr hK hb h m (i + 1) g1 (by omega) (by omega) (fun c hc => by rw [hg1, up_f hc]; exact f1 c hc) (fun j a => by rw [hg1, up_k (by omega)]; exact f2 j (by omega)) (fun j a c => ?_)
    rw [hg1, up_i]
    by_cases h1 : j = b + i
    · rw [if_pos h1]
    · rw [if_neg h1]; exact f3 j a (by omega)
/-- the relation after a mark, a remembrance and a TALLY's change -/
theorem Rel_ty {g r g1 g2 r2 : ab_H} {t : Int} (R : Rel g r) (hR2 : RelR r2) (hM : Mkd g r g1 r2) (hMU : MkU g g1 r2) (hml : MkV g1 (r2 65 (U0 (g 0 14))) (ss g)) (hc : ∀ c j : Int, c ≤ 160 → c ≠ 62 → c ≠ 63 → g2 c j = g1 c j) (h2 : ∀ c : Int, 161 < c → c ≠ 174 → c ≠ 177 → c < 178 → g2 c = g c) (h161 : ∀ j : Int, j = 2 ∨ j = 24 ∨ j = 25 ∨ j = 31 ∨ j = 34 → g2 161 j = g 161 j) (h35 : -1 ≤ g2 161 35 ∧ g2 161 35 ≤ 7) (hU2 : g2 161 30 = U0 (g 0 14) + 1) (hj : ∀ j : Int, 0 ≤ j → j < U0 (g 0 14) → sj g2 j = sj g (if g 0 14 = 20 then j + 1 else j)) (hl : sj g2 (U0 (g 0 14)) = ss g) (hev : ∀ j : Int, 0 ≤ j → j < 1091 → ss g2 j = ss g j) (hty : TyOk (tt g) (g 167) (ss g2)) (hta : TaP g2 61 (tpx (ss g2)) (fun t => ne0 (tcx (ss g2) t))) : Rel g2 r2 := by
  have S1 := R.2.2.2.1
  have G := S1.1
  have n1 := G.1
  have k1 := G.2.2.2.2.2.1
  have U1 := R.2.2.2.2.1.1
  have hi := Mkd_hi hM (by omega)
  have htt := tt_new (g := g) (g2 := g2) (fun c a b => h2 c (by omega) (by omega) (by omega) (by omega))
  have hev' : ∀ j : Int, 0 ≤ j → j < 1080 → ss g2 j = ss g j := fun j a b => hev j a (by omega)
  have hr0 : r2 0 = r 0 := hi.2.2 0 (by omega)
  have hr5 := R.1.2.2.1
  have hr3 := R.1.2.1
  have lo : ∀ c j : Int, c ≤ 80 → c ≠ 62 → c ≠ 63 → c ≠ 0 ∨ j ≠ 14 → g2 c j = g c j := fun c j a b d e => by rw [hc c j (by omega) b d, hi.2.1 c j a e]
  have m80 := hev 1080 (by omega) (by omega)
  have m89 := hev 1089 (by omega) (by omega)
  have m90 := hev 1090 (by omega) (by omega)
  have hgood : GoodS (tt g2) (g2 167) (g2 163 0) (ss g2) := by
    rw [htt, h2 167 (by omega) (by omega) (by omega) (by omega), h2 163 (by omega) (by omega) (by omega) (by omega)]
    exact GoodS_ty hev hty G
  refine ⟨hR2, ?_, ?_, ?_, ?_, ?_, ?_, h35, ⟨by rw [hM.1 4 (by omega)]; exact R.2.2.2.2.2.2.2.2.1, ?_⟩⟩
  · exact RelP_new R.2.1 (lo 0 1 (by omega) (by omega) (by omega) (by omega)) (fun j => lo 1 j (by omega) (by omega) (by omega) (by omega)) (fun j => lo 2 j (by omega) (by omega) (by omega) (by omega)) (h2 162 (by omega) (by omega) (by omega) (by omega)) (h161 2 (by omega)) (h161 24 (by omega)) (h161 25 (by omega))
  · rw [hr0]
    exact RelT_new R.2.2.1 (fun c j a b => lo c j (by omega) (by omega) (by omega) (by omega)) (fun c a b => h2 c (by omega) (by omega) (by omega) (by omega))
  · unfold RelS
    rw [hr0, m80, m89, m90]
    refine ⟨hgood, ?_, ?_, ?_, ?_, ?_, hta⟩
    · exact LgV_ext hev' (LgV_mono S1.2.1 (fun c i a b => lo c i (by omega) (by omega) (by omega) (by omega)))
    · have hl1 : LgL g2 (r 0 5) (ss g) (LL g (ss g)) (BB g (ss g)) (ss g 1080) := LgL_mono S1.2.2.1 (fun c i a b => lo c i (by omega) (by omega) (by omega) (by omega))
      unfold LL BB at hl1 ⊢
      rw [htt]
      exact LgL_ext hev' n1.2 hl1
    · rw [lo 57 2 (by omega) (by omega) (by omega) (by omega), lo 57 3 (by omega) (by omega) (by omega) (by omega)]; exact S1.2.2.2.1
    · rw [← sn_ext k1.1 (KEq_ext hev' n1.2)]
      exact ShV_mono S1.2.2.2.2.1 (fun c i a b => lo c i (by omega) (by omega) (by omega) (by omega))
    · unfold LL BB
      rw [htt, rep_same hev' n1.1 n1.2]
      exact StV_mono S1.2.2.2.2.2.1 (fun c i a b => lo c i (by omega) (by omega) (by omega) (by omega))
  · refine RelU_new R (fun c a b => h2 c (by omega) (by omega) (by omega) (by omega)) (by rw [hc 0 14 (by omega) (by omega) (by omega)]; exact hM.2.2.2.2.2) hU2 hj hl (fun j a b => ?_) ?_ (by rw [m80]; exact Int.le_refl _) (fun x m hm hcut e a b => ?_)
    · have hu : U0 (g 0 14) < 20 := by unfold U0; split <;> omega
      have hp := (hM.2.2.1 j a (by omega)).1
      unfold isMk at hp
      exact MkV_mono (hMU j a b) (fun c i x y => hc c i (by omega) (by omega) (by omega))
    · have hu : 0 ≤ U0 (g 0 14) ∧ U0 (g 0 14) < 20 := by unfold U0; split <;> omega
      have hp := (hM.2.2.1 _ hu.1 hu.2).1
      unfold isMk at hp
      exact MkV_mono hml (fun c i x y => hc c i (by omega) (by omega) (by omega))
    · have h3 := hcut e a b
      rw [hev (9 * e + 8) (by omega) (by omega)]
      exact ⟨fun f u v w => by rw [hev (9 * e + f) (by omega) (by omega)]; exact h3.1 f u v w, h3.2⟩
  · exact RelI_new R.2.2.2.2.2.1 (fun c j a b => lo c j (by omega) (by omega) (by omega) (by omega)) (fun c a b => h2 c (by omega) (by omega) (by omega) (by omega)) (h2 176 (by omega) (by omega) (by omega) (by omega)) (h161 31 (by omega)) (lo 0 17 (by omega) (by omega) (by omega) (by omega))
  · rw [h161 34 (by omega)]; exact R.2.2.2.2.2.2.1
  · have hr6 := R.1.2.2.1
    rw [hM.1 0 (by omega), lo (r 0 6 + 10) 0 (by omega) (by omega) (by omega) (by omega)]; exact R.2.2.2.2.2.2.2.2.2
theorem Scr_t0 {g g1 : ab_H} {v : Int} (h : g1 = ab_up g 161 0 v) : (∀ c : Int, c ≠ 161 → g1 c = g c) ∧ ∀ j : Int, j ≠ 0 → g1 161 j = g 161 j := ⟨fun c hc => by rw [h, up_f hc], fun j hj => by rw [h, up_k hj]⟩
theorem p_rewind {K : Int} {S : Nat} {g r : ab_H} {t : Int} (hr : SI r) (hK : 186 ≤ K) (hK2 : 187 ≤ K) (R : Rel g r) (ht : I32 t) : PB m_EL_rewind [(2, 0), (0, t)] m_M_rewind [(2, 161), (0, t)] K S g r := by
  have ht' := ht
  unfold I32 at ht'
  have S1 := R.2.2.2.1
  have n1 := S1.1.1
  have T5 := R.2.2.1.2.2.2.2.1
  have U1 := R.2.2.2.2.1.1
  unfold PB
  apply v_EL_rewind _ hr hK
  apply s_EL_isTally _ hr hK R ht
  intro x hx
  refine ⟨rfl, rfl, And.intro (fun h1 => ?_) (fun h1 => ?_)⟩
  · have ht2 : 0 ≤ t ∧ t < g 163 1 := by simp only [wr] at h1; omega
    apply t_EL_mark _ hr hK hK2 R
    intro g1 r1 hR1 hM hMU hml
    have hi := Mkd_hi hM (by omega)
    have hta1 : TaP g1 61 (tpx (ss g)) (fun t => ne0 (tcx (ss g) t)) := TaP_mono S1.2.2.2.2.2.2 (fun c i a b => hi.2.1 c i (by omega) (by omega))
    refine ⟨hR1.1, by omega, ?_⟩
    apply s_Ta_restart _ hR1.1 hK (Or.inl rfl) (by omega) hta1
    intro g6 f6 hta6
    have hpl : g1 62 t = tpx (ss g) t := hta1.1 t ht2.1 (by omega)
    have h6 : ∀ c : Int, 161 ≤ c → g6 c = g c := fun c hc => by
      funext j
      rw [f6 c j (by omega) (by omega), hi.1 c (by omega)]
    refine ⟨rfl, ?_⟩
    apply v_M_rewind _ hR1.1 hK
    intro g7 hg7
    have f7 := Scr_t0 hg7
    have e7 : ∀ c : Int, 161 < c → g7 c = g c := fun c hc => by rw [f7.1 c (by omega), h6 c (by omega)]
    apply s_M_isTally _ hR1.1 hK (by rw [e7 163 (by omega)]) T5.2 ht
    intro y hy
    refine ⟨rfl, rfl, And.intro (fun h2 => ?_) (fun h2 => absurd h2 (by simp only [wr]; omega))⟩
    apply v_M_tallyAt _ hR1.1 hK
    refine ⟨rfl, rfl, by omega, ?_⟩
    have hits : g7 174 (1091 + 129 * t + 0) = tpx (ss g) t := by
      rw [e7 174 (by omega), show 1091 + 129 * t + 0 = 1091 + 129 * t by omega]
      exact (Rel_TyV R (t := t) ht2.1 (by omega)).1
    rw [hits]
    have h730 : g7 161 30 = g 0 14 := by rw [f7.2 30 (by omega), h6 161 (by omega)]; exact U1.1.symm
    apply s_M_remembers _ hR1.1 hK (by omega)
    intro g8 hrem
    have hsj := Rem_sj hrem h730 (e7 177 (by omega)) (e7 174 (by omega)) (by omega)
    have h84 : g8 174 = g 174 := by rw [hrem.1 174 (by omega) (by omega), e7 174 (by omega)]
    refine ⟨rfl, l_M_rewind _ hR1.1 hK (by omega) (fun g9 c1 c2 c3 => ⟨hpl, ?_, fun c hc => ?_⟩) 129 0 g8 (by omega) (by omega) (fun _ _ => rfl) (fun _ _ => rfl) (fun j a b => by omega)⟩
    · have hss : ∀ j : Int, 0 ≤ j → j < 1607 → ¬ (1091 + 129 * t ≤ j ∧ j < 1091 + 129 * t + 129) → ss g9 j = ss g j := by
        intro j a b c
        unfold ss
        rw [cn_in a b, cn_in a b, c2 j (by omega), h84]
      have hssz : ∀ j : Int, 1091 + 129 * t ≤ j → j < 1091 + 129 * t + 129 → ss g9 j = 0 := by
        intro j a b
        unfold ss
        rw [cn_in (by omega) (by omega)]
        exact c3 j a b
      have hev : ∀ j : Int, 0 ≤ j → j < 1091 → ss g9 j = ss g j := fun j a b => hss j a (by omega) (by omega)
      have hsjs : ∀ j : Int, sj g9 j = sj g8 j := fun j => by unfold sj; rw [c1 177 (by omega)]
      have hp0 : tpx (ss g9) t = 0 := hssz _ (by omega) (by omega)
      have hc0 : ∀ e : Int, 0 ≤ e → e < 120 → tcx (ss g9) t e = 0 := fun e a b => hssz _ (by omega) (by omega)
      have hone : TyV (ss g9) (1091 + 129 * t) (ss g9) (tpx (ss g9) t) (tcx (ss g9) t) ∧ TcOk (ss g9) (tcx (ss g9) t) (tpx (ss g9) t) (ss g9 1080) (fun e => LF (tt g) (ss g9) (-1) (-1) e (g 167 t - 1)) := by
        refine ⟨⟨rfl, fun _ _ _ => rfl, fun a b d => ?_⟩, ?_, fun e a b => Or.inl (hc0 e a b)⟩
        · rw [hssz _ (by omega) (by omega)]
          refine (psum_0 120 (fun e u v => ?_)).symm
          unfold tcn
          rw [if_neg (fun hh => hh.1 (hc0 e u (by omega)))]
        · rw [hp0, hev 1080 (by omega) (by omega)]; omega
      have hTy := TyOk_one hev n1 ⟨ht2.1, by omega⟩ (fun j a b c => hss j (by omega) b c) (Rel_TyOk R) hone
      refine Rel_ty (t := t) R hR1 hM hMU hml (fun c j a b d => ?_) (fun c a b d e => ?_) (fun j hj => ?_) ?_ ?_ (fun j a b => ?_) ?_ hev hTy ?_
      · rw [c1 c (by omega), hrem.1 c (by omega) (by omega), f7.1 c (by omega)]
        exact f6 c j b d
      · rw [c1 c (by omega), hrem.1 c (by omega) (by omega), e7 c (by omega)]
      · rw [c1 161 (by omega), hrem.2.1 j (by omega), f7.2 j (by omega), h6 161 (by omega)]
      · rw [c1 161 (by omega), hrem.2.1 35 (by omega), f7.2 35 (by omega), h6 161 (by omega)]; exact R.2.2.2.2.2.2.2.1
      · rw [c1 161 (by omega)]; exact hsj.1
      · rw [hsjs]; exact hsj.2.1 j a b
      · rw [hsjs]; exact hsj.2.2
      · have hta9 : TaP g9 61 (fu (tpx (ss g)) t 0) (fun u e => if u = t then 0 else ne0 (tcx (ss g) u) e) := TaP_mono hta6 (fun c i a b => by rw [c1 c (by omega), hrem.1 c (by omega) (by omega), f7.1 c (by omega)])
        refine TaP_ext hta9 (fun u a b => ?_) (fun u e a b c d => ?_)
        · simp only [fu]
          by_cases hu : u = t
          · rw [if_pos hu, hu, hp0]
          · rw [if_neg hu]; exact (hss _ (by omega) (by omega) (by omega)).symm
        · try dsimp only
          by_cases hu : u = t
          · rw [if_pos hu, hu]; exact (if_pos (hc0 e c d)).symm
          · rw [if_neg hu]
            have : tcx (ss g9) u e = tcx (ss g) u e := hss _ (by omega) (by omega) (by omega)
            unfold ne0
            rw [this]
    · refine ⟨?_, hi.2.2 c (by omega)⟩
      funext j
      rw [c1 c (by omega), hrem.1 c (by omega) (by omega), f7.1 c (by omega), f6 c j (by omega) (by omega), hi.1 c (by omega)]
  · refine (show MA m_M_rewind [(2, 161), (0, t)] K S g r (-1) from ?_).mono (fun y g2 r2 h2 => ⟨h2.2.2, by rw [h2.1]; exact Rel_scr R h2.2.1, fun c hc => ⟨Scr_neg R h2.2.1 c hc, by rw [h2.1]⟩⟩)
    unfold MA
    apply v_M_rewind _ hr hK
    intro g7 hg7
    have f7 := Scr_t R hg7
    apply s_M_isTally _ hr hK (by rw [Scr_163 f7]) T5.2 ht
    intro y hy
    exact ⟨rfl, rfl, And.intro (fun h2 => absurd hy (by simp only [wr] at h1 h2; omega)) (fun h2 => ⟨rfl, f7, rfl⟩)⟩
