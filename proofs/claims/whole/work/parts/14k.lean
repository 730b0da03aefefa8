/-! SPECS, part k: the class's Shots taken anew. -/
def SFr (g g' : ab_H) (o : Int) : Prop := ∀ c j : Int, c ≠ o + 1 → c ≠ o ∨ j ≠ 1 → g' c j = g c j
theorem psm_1 {f : Int → Int} {n : Int} (h : 0 ≤ n) : psm f (n + 1) - psm f n = f n := by rw [psm_s h]; omega
theorem l_Sh_retake {K : Int} {S : Nat} {r : ab_H} {o p1 n ev kp since : Int} {s : Int → Int} (P : Int → ab_H → ab_H → Prop) (hr : SI r) (hK : 186 ≤ K) (ho : isSh o) (hp1 : isLg p1) (hE : EvOk s n) (hkp : 0 ≤ kp ∧ kp ≤ 6) (hev : 1 ≤ ev ∧ ev ≤ 999) (hsi : 0 ≤ since ∧ since ≤ 1000) : ∀ (m : Nat) (i x : Int) (g : ab_H), 0 ≤ i → i + m = n → LgV g p1 s n → ShV g o (sn s ev kp i) → g o 2 = ev → g o 3 = kp → (∀ (y : Int) (g' : ab_H), SFr g g' o → y - x = psm (stk s ev kp since) n - psm (stk s ev kp since) i → ShV g' o (sn s ev kp n) → P y g' r) → ab_Rn m_Sh_retake 7 [some (2, o), some (2, p1), some (0, since), some (0, x), some (0, i), none] [] (K, S, g, r) (ab_Qi K S P)
  | 0, i, x, g, h0, hi, hv, hq, h2, h3, h => by
    have hn := hv.2.1
    apply v_Sh_retake_7 _ hr hK ho hp1
    rw [hv.1]
    simp only [wr]
    refine And.intro (fun _ => h x g (fun _ _ _ _ => rfl) ?_ ?_) (fun h4 => by omega)
    · rw [show i = n by omega]; omega
    · rw [← show i = n by omega]; exact hq
  | m + 1, i, x, g, h0, hi, hv, hq, h2, h3, h => by
    have hn := hv.2.1
    have ho' : o = 57 ∨ o = 59 := ho
    have hp' : p1 = 23 ∨ p1 = 34 ∨ p1 = 66 := hp1
    have e0 := hv.2.2.1 i h0 (by omega)
    have c0 := hE i h0 (by omega)
    have hok := SNok_sn (s := s) (ev := ev) hkp.1 h0
    have hok1 := SNok_svoid (s := s) (e := i) hok
    have hz1 := hok1.1
    have hsl := slat_in hok1 h0
    have hW1 := W_in hE (p := i + 1) (by omega) (by omega)
    have hW2 := W_in hE hsl.1 (by omega)
    have hW3 := W_mono hE hsl.1 (by omega : slat (svoid s (sn s ev kp i) i) ≤ i + 1) (by omega)
    have hstep := sn_s (s := s) (ev := ev) (kp := kp) h0
    have hps := psm_1 (f := stk s ev kp since) h0
    -- behind 77
    have k77 : ∀ (x' : Int) (g1 : ab_H), SFr g g1 o → x' - x = stk s ev kp since i → ShV g1 o (sn s ev kp (i + 1)) → ab_Rn m_Sh_retake 77 [some (2, o), some (2, p1), some (0, since), some (0, x'), some (0, i), none] [] (K, S, g1, r) (ab_Qi K S P) := by
      intro x' g1 f1 hx hq1
      apply v_Sh_retake_77 _ hr hK ho hp1
      exact l_Sh_retake P hr hK ho hp1 hE hkp hev hsi m (i + 1) x' g1 (by omega) (by omega) (LgV_mono hv (fun c j h5 h6 => f1 c j (by omega) (by omega))) hq1 (by rw [f1 _ _ (by omega) (by omega)]; exact h2) (by rw [f1 _ _ (by omega) (by omega)]; exact h3) (fun y g' f' hy hq' => h y g' (fun c j h5 h6 => by rw [f' c j h5 h6, f1 c j h5 h6]) (by omega) hq')
    -- behind 23
    have k23 : ∀ g1 : ab_H, SFr g g1 o → ShV g1 o (svoid s (sn s ev kp i) i) → ab_Rn m_Sh_retake 23 [some (2, o), some (2, p1), some (0, since), some (0, x), some (0, i), none] [] (K, S, g1, r) (ab_Qi K S P) := by
      intro g1 f1 hq1
      have hv1 : LgV g1 p1 s n := LgV_mono hv (fun c j h5 h6 => f1 c j (by omega) (by omega))
      have h21 : g1 o 2 = ev := by rw [f1 _ _ (by omega) (by omega)]; exact h2
      have h31 : g1 o 3 = kp := by rw [f1 _ _ (by omega) (by omega)]; exact h3
      apply v_Sh_retake_23 _ hr hK ho hp1
      apply s_Sh_latestUpTo _ hr hK ho hq1 hok1 (by omega) (by omega) (by omega)
      intro lt hlt
      rw [lat_slat hok1 (Int.le_refl _)] at hlt
      refine ⟨rfl, rfl, ?_⟩
      apply s_Lg_weights _ hr hK hp1 hv1 (by omega) (by omega)
      refine ⟨rfl, rfl, ?_⟩
      rw [h21, hlt, hq1.1]
      refine And.intro (fun h4 => And.intro (fun _ => ?_) (fun h5 => absurd rfl h5)) (fun h4 => And.intro (fun h5 => absurd h5 (by decide)) (fun _ => And.intro (fun h5 => absurd h5 (by simp only [wr]; omega)) (fun _ => ⟨by omega, fun g11 hg11 g12 hg12 => ?_⟩)))
      · have h4' : ¬ ev ≤ psm (wts s) (i + 1) - psm (wts s) (slat (svoid s (sn s ev kp i) i)) := by simp only [wr] at h4; omega
        refine k77 x g1 f1 ?_ ?_
        · unfold stk sdue
          rw [if_neg h4']
          split <;> omega
        · rw [hstep]; unfold sstep; rw [if_neg h4']; exact hq1
      · have h4' : ev ≤ psm (wts s) (i + 1) - psm (wts s) (slat (svoid s (sn s ev kp i) i)) := by simp only [wr] at h4; omega
        have hg12' : g12 o 1 = (svoid s (sn s ev kp i) i).1 + 1 := by rw [hg12, up_s, hg11, up_a (by omega), hq1.1]
        have f12 : SFr g g12 o := fun c j h5 h6 => by
          rw [hg12, hg11]
          rcases h6 with h6 | h6
          · rw [up_a h6, up_a h5]; exact f1 c j h5 (Or.inl h6)
          · rw [up_k h6, up_a h5]; exact f1 c j h5 (Or.inr h6)
        have h3g : g12 o 3 = kp := by rw [f12 _ _ (by omega) (by omega)]; exact h3
        have hq12 : ShV g12 o ((svoid s (sn s ev kp i) i).1 + 1, fu (svoid s (sn s ev kp i) i).2 (svoid s (sn s ev kp i) i).1 (i + 1)) := by
          refine ⟨hg12', fun j h5 h6 => ?_⟩
          rw [hg12, hg11, up_a (by omega), up_i]
          simp only [fu]
          by_cases h7 : j = (svoid s (sn s ev kp i) i).1
          · rw [if_pos h7, if_pos h7]
          · rw [if_neg h7, if_neg h7]
            exact hq1.2 j h5 (by have h8 : j < (svoid s (sn s ev kp i) i).1 + 1 := h6; omega)
        have hv12 : LgV g12 p1 s n := LgV_mono hv (fun c j h5 h6 => f12 c j (by omega) (by omega))
        have kadd : ∀ x' : Int, x' - x = stk s ev kp since i → ((wr (g12 o 1) ≤ wr (g12 o 3) → ab_Rn m_Sh_retake 77 [some (2, o), some (2, p1), some (0, since), some (0, x'), some (0, i), none] [] (K, S, g12, r) (ab_Qi K S P)) ∧ (wr (g12 o 3) < wr (g12 o 1) → ab_RI m_Sh_leastWorth [(2, o), (2, p1)] K S g12 r (fun x13 g' r' => g' = g12 ∧ r' = r ∧ (ab_RV m_Sh_letGo [(2, o), (0, x13)] K S g12 r (fun g14 r' => r' = r ∧ (ab_Rn m_Sh_retake 77 [some (2, o), some (2, p1), some (0, since), some (0, x'), some (0, i), none] [] (K, S, g14, r) (ab_Qi K S P))))))) := by
          intro x' hx'
          rw [hg12', h3g]
          refine And.intro (fun h5 => ?_) (fun h5 => ?_)
          · have h5' : ¬ kp < (svoid s (sn s ev kp i) i).1 + 1 := by simp only [wr] at h5; omega
            refine k77 x' g12 f12 hx' ?_
            rw [hstep]; unfold sstep; rw [if_pos h4']; unfold sadd; rw [if_neg h5']; exact hq12
          · have h5' : kp < (svoid s (sn s ev kp i) i).1 + 1 := by simp only [wr] at h5; omega
            apply s_Sh_leastWorth _ hr hK ho hp1 hv12 hE hq12 h3g hkp (by omega)
            · intro j h6 h7
              simp only [fu]
              split
              · omega
              · have := hok1.2.1 j h6 (by omega); omega
            · intro y hy
              refine ⟨rfl, rfl, ?_⟩
              have hyi := lwr_in (W := psm (wts s)) (pl := fu (svoid s (sn s ev kp i) i).2 (svoid s (sn s ev kp i) i).1 (i + 1)) ((svoid s (sn s ev kp i) i).1 - 1).toNat
              apply s_Sh_letGo _ hr hK ho (by omega) (by omega) hq12
              intro g14 f14 hq14
              refine ⟨rfl, k77 x' g14 (fun c j h6 h7 => by rw [f14 c j h6 h7, f12 c j h6 h7]) hx' ?_⟩
              rw [hstep]; unfold sstep; rw [if_pos h4']; unfold sadd; rw [if_pos h5', ← hy]; exact hq14
        refine And.intro (fun h5 => kadd _ ?_) (fun h5 => kadd _ ?_)
        · unfold stk; rw [if_neg (by simp only [wr] at h5; omega)]; omega
        · unfold stk sdue; rw [if_pos (by simp only [wr] at h5; omega), if_pos h4']; omega
    apply v_Sh_retake_7 _ hr hK ho hp1
    rw [hv.1, e0.1]
    simp only [wr]
    refine And.intro (fun h4 => by omega) (fun _ => ⟨by omega, And.intro (fun h4 => ?_) (fun h4 => ⟨by omega, ?_⟩)⟩)
    · refine k23 g (fun _ _ _ _ => rfl) ?_
      unfold svoid; rw [if_neg (by omega)]; exact hq
    · have h7 : s (9 * i + 0) = 7 := by omega
      have c7 := c0.2.2.2.1 h7
      rw [e0.2.2.1 (Or.inr h7)]
      apply s_Sh_letGoAbove _ hr hK ho (by omega) (by omega) (by omega) hok hq
      intro g1 f1 hq1
      refine ⟨rfl, k23 g1 (fun c j h5 h6 => f1 c j h6) ?_⟩
      unfold svoid; rw [if_pos h7]; exact hq1
theorem s_Sh_retake {K : Int} {S : Nat} {g r : ab_H} {o p1 n ev kp since : Int} {s : Int → Int} (P : Int → ab_H → ab_H → Prop) (hr : SI r) (hK : 186 ≤ K) (ho : isSh o) (hp1 : isLg p1) (hv : LgV g p1 s n) (hE : EvOk s n) (h2 : g o 2 = ev) (h3 : g o 3 = kp) (hkp : 0 ≤ kp ∧ kp ≤ 6) (hev : 1 ≤ ev ∧ ev ≤ 999) (hsi : 0 ≤ since ∧ since ≤ 1000) (h : ∀ (y : Int) (g' : ab_H), SFr g g' o → y = psm (stk s ev kp since) n → ShV g' o (sn s ev kp n) → P y g' r) : ab_RI m_Sh_retake [(2, o), (2, p1), (0, since)] K S g r P := by
  have ho' : o = 57 ∨ o = 59 := ho
  have hp' : p1 = 23 ∨ p1 = 34 ∨ p1 = 66 := hp1
  have hn := hv.2.1
  apply v_Sh_retake _ hr hK ho hp1
  intro g1 hg1
  have f1 : SFr g g1 o := fun c j h5 h6 => by rw [hg1]; rcases h6 with h6 | h6; exact up_a h6; exact up_k h6
  refine l_Sh_retake P hr hK ho hp1 hE hkp hev hsi n.toNat 0 0 g1 (by omega) (by omega) (LgV_mono hv (fun c j h5 h6 => f1 c j (by omega) (by omega))) ⟨by rw [hg1, up_s]; rfl, fun i h5 h6 => absurd h6 (by show ¬ i < 0; omega)⟩ (by rw [f1 _ _ (by omega) (by omega)]; exact h2) (by rw [f1 _ _ (by omega) (by omega)]; exact h3) (fun y g' f' hy hq' => h y g' (fun c j h5 h6 => by rw [f' c j h5 h6, f1 c j h5 h6]) (by rw [psm_0] at hy; omega) hq')
