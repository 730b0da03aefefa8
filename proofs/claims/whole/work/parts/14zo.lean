/-! SPECS, part zo: resnap. -/
theorem l_M_resnap {K : Int} {S : Nat} {r : ab_H} {n ev kp : Int} {s : Int → Int} (P : Int → ab_H → ab_H → Prop) (hr : SI r) (hK : 186 ≤ K) (hE : EvOk s n) (hn : 0 ≤ n ∧ n ≤ 120) (hkp : 0 ≤ kp ∧ kp ≤ 6) (hev : 1 ≤ ev ∧ ev ≤ 999) : ∀ (m : Nat) (i : Int) (g : ab_H), 0 ≤ i → i + m = n → EvS g s → g 174 1080 = n → g 174 1089 = ev → g 174 1090 = kp → SnV (g 174) (sn s ev kp i) → (∀ g' : ab_H, RFr g g' → SnV (g' 174) (sn s ev kp n) → P (sn s ev kp n).1 g' r) → ab_Rn m_M_resnap 35 [some (2, 161), none, none, some (0, i)] [] (K, S, g, r) (ab_Qi K S P)
  | 0, i, g, h0, hi, hs, hm, h89, h90, hq, h => by
    have hin : i = n := by omega
    subst hin
    apply v_M_resnap_35 _ hr hK
    apply s_M_many _ hr hK
    rw [hm]
    refine ⟨rfl, rfl, And.intro (fun _ => ⟨by omega, ?_⟩) (fun h1 => absurd h1 (by simp only [wr]; omega))⟩
    have h2 := h g RFr_rfl hq
    rw [hq.1]; exact h2
  | m + 1, i, g, h0, hi, hs, hm, h89, h90, hq, h => by
    have c0 := hE i h0 (by omega)
    have s0 := hs (9 * i + 0) (by omega) (by omega)
    have s2 := hs (9 * i + 2) (by omega) (by omega)
    have hok := SNok_sn (s := s) (ev := ev) hkp.1 h0
    have hz := hok.1
    have hst := sn_s (s := s) (ev := ev) (kp := kp) h0
    have next : ∀ g1 : ab_H, RFr g g1 → SnV (g1 174) (svoid s (sn s ev kp i) i) → ab_RV m_M_snaps [(2, 161), (0, i + 1)] K S g1 r (fun g3 r' => r' = r ∧ (ab_Rn m_M_resnap 35 [some (2, 161), none, none, some (0, i + 1)] [] (K, S, g3, r) (ab_Qi K S P))) := by
      intro g1 f1 hq1
      apply s_M_snaps (n := n) _ hr hK (EvS_RFr hs f1) hE hn.2 ⟨h0, by omega⟩ hq1 (SNok_svoid hok) (by rw [f1.2.2 1089 (by omega)]; exact h89) (by rw [f1.2.2 1090 (by omega)]; exact h90) hkp hev
      intro g3 f3 _ hq3
      have f13 := RFr_tr f1 f3
      have hq3' : SnV (g3 174) (sn s ev kp (i + 1)) := by rw [hst]; exact hq3
      refine ⟨rfl, l_M_resnap P hr hK hE hn hkp hev m (i + 1) g3 (by omega) (by omega) (EvS_RFr hs f13) (by rw [f13.2.2 1080 (by omega)]; exact hm) (by rw [f13.2.2 1089 (by omega)]; exact h89) (by rw [f13.2.2 1090 (by omega)]; exact h90) hq3' (fun g' f' hq' => h g' (RFr_tr f13 f') hq')⟩
    apply v_M_resnap_35 _ hr hK
    apply s_M_many _ hr hK
    rw [hm]
    refine ⟨rfl, rfl, And.intro (fun h1 => absurd h1 (by simp only [wr]; omega)) (fun _ => ?_)⟩
    apply s_M_isVoid _ hr hK (by omega) (by omega)
    intro x hx
    rw [s0] at hx
    refine ⟨rfl, rfl, And.intro (fun h1 => ?_) (fun h1 => ⟨by omega, ?_⟩)⟩
    · refine next g RFr_rfl ?_
      unfold svoid
      rw [if_neg (by simp only [wr] at h1; omega)]
      exact hq
    · have h7 : s (9 * i + 0) = 7 := by simp only [wr] at h1; omega
      have c7 := c0.2.2.2.1 h7
      rw [s2]
      apply s_M_letsGo _ hr hK (by omega) (by omega) (by omega) hok hq
      intro g5 f5 _ hq5
      refine ⟨rfl, next g5 f5 ?_⟩
      unfold svoid
      rw [if_pos h7]
      exact hq5
theorem p_resnap {K : Int} {S : Nat} {g r : ab_H} {ev kp : Int} (hr : SI r) (hK : 186 ≤ K) (hK2 : 187 ≤ K) (R : Rel g r) (hev : I32 ev) (hkp : I32 kp) : PB m_EL_resnap [(2, 0), (0, ev), (0, kp)] m_M_resnap [(2, 161), (0, ev), (0, kp)] K S g r := by
  have hev' := hev
  have hkp' := hkp
  unfold I32 at hev' hkp'
  have S1 := R.2.2.2.1
  have G := S1.1
  have n1 := G.1
  have k1 := G.2.2.2.2.2.1
  have U1 := R.2.2.2.2.1.1
  have hr5 := R.1.2.2.1
  have hr3 := R.1.2.1
  have rf : ¬ ((1 ≤ ev ∧ ev ≤ 999) ∧ (0 ≤ kp ∧ kp ≤ 6)) → ab_RI m_M_resnap [(2, 161), (0, ev), (0, kp)] K S g r (fun y g2 r2 => -1 = y ∧ Rel g2 r2 ∧ (∀ c : Int, c < 0 → g2 c = g c ∧ r2 c = r c)) := by
    intro hn
    apply v_M_resnap _ hr hK
    intro g1 hg1
    have f1 := Scr_t R hg1
    have fin : (-1 : Int) = -1 ∧ Rel g1 r ∧ ∀ c : Int, c < 0 → g1 c = g c ∧ r c = r c := ⟨rfl, Rel_scr R f1, fun c hc => ⟨Scr_neg R f1 c hc, rfl⟩⟩
    exact And.intro (fun _ => fin) (fun e1 => And.intro (fun _ => fin) (fun e2 => And.intro (fun _ => fin) (fun e3 => And.intro (fun e4 => absurd (by simp only [wr] at e1 e2 e3 e4; omega) hn) (fun _ => fin))))
  unfold PB
  apply v_EL_resnap _ hr hK
  refine And.intro (fun e1 => rf (by simp only [wr] at e1; omega)) (fun e1 => And.intro (fun e2 => rf (by simp only [wr] at e2; omega)) (fun e2 => And.intro (fun e3 => rf (by simp only [wr] at e3; omega)) (fun e3 => And.intro (fun e4 => ?_) (fun e4 => rf (by simp only [wr] at e4; omega)))))
  have hh : (1 ≤ ev ∧ ev ≤ 999) ∧ (0 ≤ kp ∧ kp ≤ 6) := by simp only [wr] at e1 e2 e3 e4; omega
  apply t_EL_mark _ hr hK hK2 R
  intro g1 r1 hR1 hM hMU hml
  have hi := Mkd_hi hM (by omega)
  have hr0 : r1 0 = r 0 := hi.2.2 0 (by omega)
  refine ⟨hR1.1, fun g5 hg5 g6 hg6 => ?_⟩
  have f6 : ∀ c j : Int, c ≠ 57 → g6 c j = g1 c j := fun c j hc => by rw [hg6, hg5, up_a hc, up_a hc]
  have a2 : g6 57 2 = ev := by rw [hg6, up_k (by omega), hg5, up_s]
  have a3 : g6 57 3 = kp := by rw [hg6, up_s]
  have hv6 : LgV g6 (r1 0 5) (ss g) (ss g 1080) := by rw [hr0]; exact LgV_mono S1.2.1 (fun c i a b => by rw [f6 c i (by omega), hi.2.1 c i (by omega) (by omega)])
  have hl6 : LgL g6 (r1 0 5) (ss g) (LF (tt g) (ss g) (-1) (-1)) (BF (tt g) (ss g) (-1) (-1)) (ss g 1080) := by rw [hr0]; exact LgL_mono S1.2.2.1 (fun c i a b => by rw [f6 c i (by omega), hi.2.1 c i (by omega) (by omega)])
  apply t_EL_rebuild (n := ss g 1080) (T := tt g) (ev := ev) (kp := kp) (s := ss g) _ hR1.1 hK (by rw [hr0]; exact Rel_Lg R) hv6 hl6 R.2.2.1.1 G.2.1 a2 a3 hh.2 hh.1
  intro g7 f7 f57 hs7 hq7
  have lo7 : ∀ c j : Int, ¬ (45 ≤ c ∧ c ≤ 50) → c ≠ 57 → c ≠ 58 → g7 c j = g1 c j := fun c j a b d => by rw [f7 c j (by omega), f6 c j b]
  have h7 : ∀ c : Int, c < 0 ∨ 161 ≤ c → g7 c = g c := fun c hc => by
    funext j
    rw [lo7 c j (by omega) (by omega) (by omega), hi.1 c hc]
  rw [hs7.1]
  refine ⟨rfl, ?_⟩
  apply v_M_resnap _ hR1.1 hK
  intro b1 hb1
  refine And.intro (fun e => absurd e (by simp only [wr]; omega)) (fun _ => And.intro (fun e => absurd e (by simp only [wr]; omega)) (fun _ => And.intro (fun e => absurd e (by simp only [wr]; omega)) (fun _ => And.intro (fun _ => ?_) (fun e => absurd e (by simp only [wr]; omega)))))
  have eb1 : ∀ c : Int, 161 < c → b1 c = g c := fun c hc => by rw [hb1, up_f (by omega), h7 c (by omega)]
  have h130 : b1 161 30 = g 0 14 := by rw [hb1, up_k (by omega), h7 161 (by omega)]; exact U1.1.symm
  apply s_M_remembers _ hR1.1 hK (by omega)
  intro b2 hrem
  have hsj := Rem_sj hrem h130 (eb1 177 (by omega)) (eb1 174 (by omega)) (by omega)
  refine ⟨rfl, by omega, fun b4 hb4 => ⟨by omega, fun b5 hb5 => ⟨by omega, fun b6 hb6 => ?_⟩⟩⟩
  have c6 : ∀ c : Int, c ≠ 174 → b6 c = b2 c := fun c hc => by rw [hb6, hb5, hb4, up_f hc, up_f hc, up_f hc]
  have h2g : b2 174 = g 174 := by rw [hrem.1 174 (by omega) (by omega), eb1 174 (by omega)]
  have s6 : ∀ j : Int, j ≠ 1081 → j ≠ 1089 → j ≠ 1090 → b6 174 j = g 174 j := fun j a b d => by rw [hb6, up_k a, hb5, up_k d, hb4, up_k b, h2g]
  have s689 : b6 174 1089 = ev := by rw [hb6, up_k (by omega), hb5, up_k (by omega), hb4, up_s]
  have s690 : b6 174 1090 = kp := by rw [hb6, up_k (by omega), hb5, up_s]
  have hcn : ∀ j : Int, 0 ≤ j → j < 1607 → g 174 j = ss g j := fun j a b => (cn_in a b).symm
  refine l_M_resnap (n := ss g 1080) (ev := ev) (kp := kp) (s := ss g) _ hR1.1 hK G.2.1 n1 hh.2 hh.1 (ss g 1080).toNat 0 b6 (by omega) (by omega) (fun j a b => by rw [s6 j (by omega) (by omega) (by omega), hcn j a (by omega)]) (by rw [s6 1080 (by omega) (by omega) (by omega), hcn _ (by omega) (by omega)]) s689 s690 ⟨by rw [hb6, up_s]; rfl, fun i a b => absurd b (by show ¬ i < 0; omega)⟩ (fun g2 fr hq2 => ⟨rfl, ?_, fun c hc => ⟨?_, hi.2.2 c (by omega)⟩⟩)
  · have hss : ∀ j : Int, 0 ≤ j → j < 1607 → ss g2 j = g2 174 j := fun j a b => cn_in a b
    have hev1 : ∀ j : Int, 0 ≤ j → j < 1081 → ss g2 j = ss g j := fun j a b => by rw [hss j a (by omega), fr.2.2 j (by omega), s6 j (by omega) (by omega) (by omega), hcn j a (by omega)]
    have hev0 : ∀ j : Int, 0 ≤ j → j < 1080 → ss g2 j = ss g j := fun j a b => hev1 j a (by omega)
    have hhi : ∀ j : Int, 1091 ≤ j → j < 1607 → ss g2 j = ss g j := fun j a b => by rw [hss j (by omega) b, fr.2.2 j (by omega), s6 j (by omega) (by omega) (by omega), hcn j (by omega) b]
    have m80 := hev1 1080 (by omega) (by omega)
    have m89 : ss g2 1089 = ev := by rw [hss _ (by omega) (by omega), fr.2.2 _ (by omega)]; exact s689
    have m90 : ss g2 1090 = kp := by rw [hss _ (by omega) (by omega), fr.2.2 _ (by omega)]; exact s690
    have e2 : ∀ c : Int, c ≠ 174 → c ≠ 161 → g2 c = b2 c := fun c a b => by rw [fr.1 c a b, c6 c a]
    have e2g : ∀ c : Int, 161 < c → c ≠ 174 → c ≠ 177 → g2 c = g c := fun c a b d => by rw [e2 c b (by omega), hrem.1 c (by omega) d, eb1 c a]
    have lo : ∀ c j : Int, c ≤ 160 → g2 c j = g7 c j := fun c j a => by rw [e2 c (by omega) (by omega), hrem.1 c (by omega) (by omega), hb1, up_a (by omega)]
    have lo2 : ∀ c j : Int, c ≤ 80 → ¬ (45 ≤ c ∧ c ≤ 50) → c ≠ 57 → c ≠ 58 → c ≠ 0 ∨ j ≠ 14 → g2 c j = g c j := fun c j a b d e f => by rw [lo c j (by omega), lo7 c j b d e, hi.2.1 c j a f]
    have h161 : ∀ j : Int, j ≠ 0 → j ≠ 30 → j ≠ 32 → g2 161 j = g 161 j := fun j a b d => by rw [fr.2.1 j d, c6 161 (by omega), hrem.2.1 j b, hb1, up_k a, h7 161 (by omega)]
    have hsjs : ∀ j : Int, sj g2 j = sj b2 j := fun j => by unfold sj; rw [e2 177 (by omega) (by omega)]
    have htt := tt_new (g := g) (g2 := g2) (fun c a b => e2g c (by omega) (by omega) (by omega))
    have hpre : EvPre (ss g) (ss g2) (ss g 1080) := fun e f a b c d => hev0 _ (by omega) (by omega)
    have hsnx : sn (ss g2) ev kp (ss g 1080) = sn (ss g) ev kp (ss g 1080) := (sn_ext hh.2.1 (KEq_ext hev0 n1.2)).symm
    have hok := SNok_sn (s := ss g) (ev := ev) hh.2.1 n1.1
    refine ⟨hR1, ?_, ?_, ?_, ?_, ?_, ?_, ?_, ⟨by rw [hi.2.2 4 (by omega)]; exact R.2.2.2.2.2.2.2.2.1, ?_⟩⟩
    · exact RelP_new R.2.1 (lo2 0 1 (by omega) (by omega) (by omega) (by omega) (by omega)) (fun j => lo2 1 j (by omega) (by omega) (by omega) (by omega) (by omega)) (fun j => lo2 2 j (by omega) (by omega) (by omega) (by omega) (by omega)) (e2g 162 (by omega) (by omega) (by omega)) (h161 2 (by omega) (by omega) (by omega)) (h161 24 (by omega) (by omega) (by omega)) (h161 25 (by omega) (by omega) (by omega))
    · rw [hr0]
      exact RelT_new R.2.2.1 (fun c j a b => lo2 c j (by omega) (by omega) (by omega) (by omega) (by omega)) (fun c a b => e2g c (by omega) (by omega) (by omega))
    · unfold RelS
      rw [hr0, m80, m89, m90, hsnx]
      refine ⟨?_, ?_, ?_, ?_, ?_, ?_, ?_⟩
      · unfold GoodS
        rw [htt, e2g 167 (by omega) (by omega) (by omega), e2g 163 (by omega) (by omega) (by omega), m80, m89, m90, hsnx]
        refine ⟨n1, EvOk_ext hev0 n1.2 G.2.1, VdOk_ext hev0 n1.2 G.2.2.1, AcOk_ext hev0 n1.2 G.2.2.2.1, hh.1, hh.2, ?_, TyOk_add rfl n1 (by omega) hpre hhi (Rel_TyOk R)⟩
        exact SnV_ext (fun j a b => hss j (by omega) (by omega)) hok hh.2.2 hq2
      · exact LgV_ext hev0 (LgV_mono S1.2.1 (fun c i a b => lo2 c i (by omega) (by omega) (by omega) (by omega) (by omega)))
      · have hl1 : LgL g2 (r 0 5) (ss g) (LF (tt g) (ss g) (-1) (-1)) (BF (tt g) (ss g) (-1) (-1)) (ss g 1080) := LgL_mono S1.2.2.1 (fun c i a b => lo2 c i (by omega) (by omega) (by omega) (by omega) (by omega))
        unfold LL BB
        rw [htt]
        exact LgL_ext hev0 n1.2 hl1
      · rw [lo 57 2 (by omega), lo 57 3 (by omega), f57 2 (by omega), f57 3 (by omega)]; exact ⟨a2, a3⟩
      · exact ShV_mono hs7 (fun c i a b => lo c i (by omega))
      · unfold LL BB
        rw [htt, rep_same hev0 n1.1 n1.2]
        exact StV_mono hq7 (fun c i a b => lo c i (by omega))
      · refine TaP_ext (TaP_mono S1.2.2.2.2.2.2 (fun c i a b => lo2 c i (by omega) (by omega) (by omega) (by omega) (by omega))) (fun u a b => (hhi _ (by omega) (by omega)).symm) (fun u e a b c d => ?_)
        have : tcx (ss g2) u e = tcx (ss g) u e := hhi _ (by omega) (by omega)
        try dsimp only
        unfold ne0
        rw [this]
    · have hu : 0 ≤ U0 (g 0 14) ∧ U0 (g 0 14) < 20 := by unfold U0; split <;> omega
      refine RelU_new R (fun c a b => e2g c (by omega) (by omega) (by omega)) (by rw [lo 0 14 (by omega), lo7 0 14 (by omega) (by omega) (by omega)]; exact hM.2.2.2.2.2) (by rw [fr.2.1 30 (by omega), c6 161 (by omega)]; exact hsj.1) (fun j a b => by rw [hsjs]; exact hsj.2.1 j a b) (by rw [hsjs]; exact hsj.2.2) (fun j a b => ?_) ?_ (by omega) (fun x m hm hcut => CutOf_add hm hpre (fun e a b => Or.inl (hev0 _ (by omega) (by omega))) hcut)
      · have hp := (hM.2.2.1 j a (by omega)).1
        unfold isMk at hp
        exact MkV_mono (hMU j a b) (fun c i x y => by rw [lo c i (by omega)]; exact lo7 c i (by omega) (by omega) (by omega))
      · have hp := (hM.2.2.1 _ hu.1 hu.2).1
        unfold isMk at hp
        exact MkV_mono hml (fun c i x y => by rw [lo c i (by omega)]; exact lo7 c i (by omega) (by omega) (by omega))
    · exact RelI_new R.2.2.2.2.2.1 (fun c j a b => lo2 c j (by omega) (by omega) (by omega) (by omega) (by omega)) (fun c a b => e2g c (by omega) (by omega) (by omega)) (e2g 176 (by omega) (by omega) (by omega)) (h161 31 (by omega) (by omega) (by omega)) (lo2 0 17 (by omega) (by omega) (by omega) (by omega) (by omega))
    · rw [h161 34 (by omega) (by omega) (by omega)]; exact R.2.2.2.2.2.2.1
    · rw [h161 35 (by omega) (by omega) (by omega)]; exact R.2.2.2.2.2.2.2.1
    · have hr6 := R.1.2.2.1
      rw [hi.2.2 0 (by omega), lo2 (r 0 6 + 10) 0 (by omega) (by omega) (by omega) (by omega) (by omega)]; exact R.2.2.2.2.2.2.2.2.2
  · rw [fr.1 c (by omega) (by omega), c6 c (by omega), hrem.1 c (by omega) (by omega), hb1, up_f (by omega), h7 c (Or.inl hc)]
