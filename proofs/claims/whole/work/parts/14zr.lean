/-! SPECS, part zr: chance, the EVENTS drawn. -/
def nx (d : Int) : Int := ab_and (d * 1103515245 + 12345) 2147483647
def dr (d b : Int) : Int := ab_rem (ab_shr d 16) b
theorem nx_in (d : Int) : 0 ≤ nx d ∧ nx d < 2147483648 := by unfold nx; rw [bit_andmax]; omega
theorem dr_in (d b : Int) (hb : 0 < b ∧ b ≤ 1000) : 0 ≤ dr (nx d) b ∧ dr (nx d) b < b := draw_in (nx_in d) hb
/-- one more EVENT drawn -/
def ch1 (nA t n : Int) (s : Int → Int) (d : Int) : Int → Int := evadd s n (dr (nx d) 5) (dr (nx (nx d)) nA) (-2) t 3 (dr (nx (nx (nx d))) 1000) 0 0
def chF (nA t : Int) : Nat → Int → (Int → Int) → Int → Int → Int
  | 0, _, s, _ => s
  | m + 1, n, s, d => chF nA t m (n + 1) (ch1 nA t n s d) (nx (nx (nx d)))
/-- how many SNAPSHOTS that takes -/
def chT (nA t ev kp : Int) : Nat → Int → (Int → Int) → Int → Int
  | 0, _, _, _ => 0
  | m + 1, n, s, d => sdue (psm (wts (ch1 nA t n s d))) ev (svoid (ch1 nA t n s d) (sn (ch1 nA t n s d) ev kp n) n) n + chT nA t ev kp m (n + 1) (ch1 nA t n s d) (nx (nx (nx d)))
theorem ch1_new {nA t n d : Int} {s : Int → Int} (hA : 0 < nA ∧ nA ≤ 8) (ht : 0 ≤ t ∧ t ≤ 9999) : EvNew s n (dr (nx d) 5) (dr (nx (nx d)) nA) (-2) t 3 := by
  have h1 := dr_in d 5 (by omega)
  have h2 := dr_in (nx d) nA (by omega)
  exact ⟨by omega, fun _ => ⟨by omega, by omega⟩, fun h6 => by omega, fun h7 => by omega, ht⟩
theorem ch1_ok {nA t n d : Int} {s : Int → Int} (hA : 0 < nA ∧ nA ≤ 8) (ht : 0 ≤ t ∧ t ≤ 9999) (hE : EvOk s n) (hn : 0 ≤ n) : EvOk (ch1 nA t n s d) (n + 1) := by
  have h3 := dr_in (nx (nx d)) 1000 (by omega)
  exact EvOk_add hE (ch1_new hA ht) hn (by omega) (by omega) (by omega)
theorem chF_ok {nA t : Int} (hA : 0 < nA ∧ nA ≤ 8) (ht : 0 ≤ t ∧ t ≤ 9999) : ∀ (m : Nat) (n d : Int) (s : Int → Int), 0 ≤ n → EvOk s n → EvOk (chF nA t m n s d) (n + m)
  | 0, n, d, s, h0, hE => by rw [show n + ((0 : Nat) : Int) = n by omega]; exact hE
  | m + 1, n, d, s, h0, hE => by
    have h := chF_ok hA ht m (n + 1) (nx (nx (nx d))) (ch1 nA t n s d) (by omega) (ch1_ok (d := d) hA ht hE h0)
    rw [show n + ((m + 1 : Nat) : Int) = n + 1 + m by omega]
    exact h
theorem chF_ac {nA t : Int} (hA : 0 < nA ∧ nA ≤ 8) : ∀ (m : Nat) (n d : Int) (s : Int → Int), 0 ≤ n → AcOk s n nA → AcOk (chF nA t m n s d) (n + m) nA
  | 0, n, d, s, h0, hE => by rw [show n + ((0 : Nat) : Int) = n by omega]; exact hE
  | m + 1, n, d, s, h0, hE => by
    have h1 := dr_in d 5 (by omega)
    have h2 := dr_in (nx d) nA (by omega)
    have h := chF_ac (t := t) hA m (n + 1) (nx (nx (nx d))) (ch1 nA t n s d) (by omega) (AcOk_add hE (fun _ => h2.2) ⟨fun h6 => by omega, fun h7 => by omega, fun _ _ => rfl⟩)
    rw [show n + ((m + 1 : Nat) : Int) = n + 1 + m by omega]
    exact h
theorem chF_pre {nA t : Int} : ∀ (m : Nat) (n d : Int) (s : Int → Int), EvPre s (chF nA t m n s d) n
  | 0, n, d, s => fun _ _ _ _ _ _ => rfl
  | m + 1, n, d, s => by
    intro e f a b u v
    have h := chF_pre (nA := nA) (t := t) m (n + 1) (nx (nx (nx d))) (ch1 nA t n s d) e f a (by omega) u v
    show chF nA t m (n + 1) (ch1 nA t n s d) (nx (nx (nx d))) (9 * e + f) = _
    rw [h]
    exact EvPre_add e f a b u v
theorem KEq_pre {s s' : Int → Int} {n : Int} (h : EvPre s s' n) : KEq s s' n := fun e a b => ⟨(h e 0 a b (by omega) (by omega)).symm, fun _ => (h e 2 a b (by omega) (by omega)).symm, (h e 4 a b (by omega) (by omega)).symm⟩
theorem sdue_ext {s s' : Int → Int} {n e ev kp : Int} {q : SN} (h : KEq s s' n) (he : 0 ≤ e ∧ e < n) (hq : SNok q kp e) : sdue (psm (wts s)) ev (svoid s q e) e = sdue (psm (wts s')) ev (svoid s' q e) e := by
  have h1 := h e he.1 he.2
  have hv : svoid s q e = svoid s' q e := by
    unfold svoid
    by_cases h7 : s (9 * e + 0) = 7
    · rw [if_pos h7, if_pos (by rw [← h1.1]; exact h7), h1.2.1 h7]
    · rw [if_neg h7, if_neg (by rw [← h1.1]; exact h7)]
  have hsl := slat_in (SNok_svoid (s := s') (e := e) hq) he.1
  unfold sdue
  rw [hv, W_ext h (by omega : e + 1 ≤ n), W_ext h (by omega : slat (svoid s' q e) ≤ n)]
theorem KEq_mono {s s' : Int → Int} {n m : Int} (h : KEq s s' n) (hm : m ≤ n) : KEq s s' m := fun e a b => h e a (by omega)
theorem chT_eq {nA t ev kp since : Int} (hk : 0 ≤ kp) : ∀ (m : Nat) (n d : Int) (s : Int → Int), 0 ≤ n → since ≤ n → psm (stk (chF nA t m n s d) ev kp since) (n + m) - psm (stk (chF nA t m n s d) ev kp since) n = chT nA t ev kp m n s d
  | 0, n, d, s, h0, hs => by rw [show n + ((0 : Nat) : Int) = n by omega]; show _ = (0 : Int); omega
  | m + 1, n, d, s, h0, hs => by
    have h := chT_eq (nA := nA) (t := t) (ev := ev) (since := since) hk m (n + 1) (nx (nx (nx d))) (ch1 nA t n s d) (by omega) (by omega)
    have hp := psm_1 (f := stk (chF nA t (m + 1) n s d) ev kp since) h0
    have hke := KEq_pre (chF_pre (nA := nA) (t := t) m (n + 1) (nx (nx (nx d))) (ch1 nA t n s d))
    have e1 : stk (chF nA t (m + 1) n s d) ev kp since n = sdue (psm (wts (ch1 nA t n s d))) ev (svoid (ch1 nA t n s d) (sn (ch1 nA t n s d) ev kp n) n) n := by
      unfold stk
      rw [if_pos hs]
      show sdue (psm (wts (chF nA t m (n + 1) (ch1 nA t n s d) (nx (nx (nx d)))))) ev (svoid (chF nA t m (n + 1) (ch1 nA t n s d) (nx (nx (nx d)))) (sn (chF nA t m (n + 1) (ch1 nA t n s d) (nx (nx (nx d)))) ev kp n) n) n = _
      rw [← sn_ext hk (KEq_mono hke (by omega : n ≤ n + 1))]
      exact (sdue_ext hke ⟨h0, by omega⟩ (SNok_sn hk h0)).symm
    have e2 : chF nA t (m + 1) n s d = chF nA t m (n + 1) (ch1 nA t n s d) (nx (nx (nx d))) := rfl
    rw [e2] at hp e1 ⊢
    rw [show n + ((m + 1 : Nat) : Int) = n + 1 + m by omega]
    show _ = sdue (psm (wts (ch1 nA t n s d))) ev (svoid (ch1 nA t n s d) (sn (ch1 nA t n s d) ev kp n) n) n + chT nA t ev kp m (n + 1) (ch1 nA t n s d) (nx (nx (nx d)))
    omega
theorem s_EL_drawn {K : Int} {S : Nat} {g r : ab_H} {d b : Int} (P : Int → ab_H → ab_H → Prop) (hr : SI r) (hK : 186 ≤ K) (hb : 0 < b ∧ b ≤ 1000) (h : P (dr d b) g r) : ab_RI m_EL_drawn [(0, d), (0, b)] K S g r P := by
  apply v_EL_drawn _ hr hK
  exact And.intro (fun e => absurd e (by simp only [wr]; omega)) (fun _ => ⟨by simp only [wr]; omega, h⟩)
/-- the class adds EVENTS by chance -/
theorem l_EL_add {K : Int} {S : Nat} {r g0 : ab_H} {nA t nn N : Int} (P : ab_H → ab_H → Prop) (hr : SI r) (hK : 186 ≤ K) (hK2 : 187 ≤ K) (R : Rel g0 r) (hnA : nA = g0 163 0) (hA : 0 < nA ∧ nA ≤ 8) (ht : 0 ≤ t ∧ t ≤ 9999) (hnn : nn ≤ 60) : ∀ (m : Nat) (i n d : Int) (s : Int → Int) (g : ab_H), 0 ≤ i → i + m = nn → 0 ≤ n → n + m ≤ 120 → EvOk s n → (∀ c j : Int, c ≠ 64 → ¬ (r 0 6 ≤ c ∧ c ≤ r 0 6 + 10) → g c j = g0 c j) → LgV g (r 0 6) s n → LgL g (r 0 6) s (LF (tt g0) s (-1) (-1)) (BF (tt g0) s (-1) (-1)) n → (∀ g' : ab_H, (∀ c j : Int, c ≠ 64 → ¬ (r 0 6 ≤ c ∧ c ≤ r 0 6 + 10) → g' c j = g0 c j) → LgV g' (r 0 6) (chF nA t m n s d) (n + m) → LgL g' (r 0 6) (chF nA t m n s d) (LF (tt g0) (chF nA t m n s d) (-1) (-1)) (BF (tt g0) (chF nA t m n s d) (-1) (-1)) (n + m) → P g' r) → ab_Rn m_EL_addByChance 10 [some (2, 0), none, some (0, nn), some (0, t), some (0, d), some (0, i), none, none, none] [] (K, S, g, r) (ab_Qv K S P)
  | 0, i, n, d, s, g, hi0, hi, h0, hn, hE, hf, hv, hl, h => by
    apply v_EL_addByChance_10 _ hr hK
    refine And.intro (fun _ => h g hf ?_ ?_) (fun e => absurd e (by simp only [wr]; omega))
    · rw [show n + ((0 : Nat) : Int) = n by omega]; exact hv
    · rw [show n + ((0 : Nat) : Int) = n by omega]; exact hl
  | m + 1, i, n, d, s, g, hi0, hi, h0, hn, hE, hf, hv, hl, h => by
    have hr6 := R.1.2.2.1
    have hr3 := R.1.2.1
    have L6 : isLg (r 0 6) := by unfold isLg; omega
    have T1 := R.2.2.1.2.2.1
    have hN := ch1_new (s := s) (n := n) (d := d) hA ht
    have hE1 := ch1_ok (d := d) hA ht hE h0
    have h3 := dr_in (nx (nx d)) 1000 (by omega)
    have h1 := dr_in d 5 (by omega)
    apply v_EL_addByChance_10 _ hr hK
    refine And.intro (fun e => absurd e (by simp only [wr]; omega)) (fun _ => ?_)
    apply v_EL_nextNumber _ hr hK
    refine ⟨rfl, rfl, ?_⟩
    apply s_EL_drawn _ hr hK (by omega)
    refine ⟨rfl, rfl, ?_⟩
    apply v_EL_nextNumber _ hr hK
    refine ⟨rfl, rfl, Rel_Te R, ?_⟩
    rw [hf (r 0 3) 1 (by omega) (by omega), T1.1, ← hnA]
    apply s_EL_drawn _ hr hK (by omega)
    refine ⟨rfl, rfl, ?_⟩
    apply v_EL_nextNumber _ hr hK
    refine ⟨rfl, rfl, ?_⟩
    apply s_EL_drawn _ hr hK (by omega)
    refine ⟨rfl, rfl, ?_⟩
    apply v_EL_fillRow _ hr hK
    refine ⟨by omega, fun a1 ha1 => ⟨by omega, fun a2 ha2 => ⟨by omega, fun g8 hg8 => ⟨rfl, L6, L6, ?_⟩⟩⟩⟩
    have hrow := fillRow_c ha1 ha2 hg8
    have hv8 : LgV g8 (r 0 6) s n := LgV_mono hv (fun c j a b => hrow.1 c j (by omega))
    apply s_Lg_add (b := -2) (x := dr (nx (nx (nx d))) 1000) (y := 0) (w := 0) _ hr hK hK2 L6 (ar_row hK) (by omega) hv8 (by omega) hE hN (by show dr (nx d) 5 ≠ 7; omega) (fun h6 => by exfalso; have h6' : dr (nx d) 5 = 6 := h6; omega) hrow.2.1 hrow.2.2.1 hrow.2.2.2
    intro g12 f12 hv12 h127 h128
    rw [hv8.1]
    have e12 := hv12.2.2.1 n h0 (by omega)
    refine ⟨rfl, Rel_Te R, L6, ?_⟩
    apply s_Te_lift (s := ch1 nA t n s d) (n := n + 1) _ hr hK hK2 (Rel_Te R) L6 R.2.2.1.1 (TeV_mono R.2.2.1.2.1 (fun c j a b => by rw [f12 c j (by omega), hrow.1 c j (by omega), hf c j (by omega) (by omega)])) e12.1 e12.2.2.2.2.1 e12.2.2.2.2.2.2 hE1 ⟨h0, by omega⟩ (by omega) (by omega) (by omega)
    intro g16 f16 hl16
    have hv16 : LgV g16 (r 0 6) (ch1 nA t n s d) (n + 1) := by
      refine ⟨by rw [f16 _ _ (by omega) (by omega)]; exact hv12.1, hv12.2.1, fun e p q => ?_, fun p u v => by rw [f16 _ _ (by omega) (by omega)]; exact hv12.2.2.2 p u v⟩
      have h3' := hv12.2.2.1 e p q
      rw [f16 (r 0 6 + 1) e (by omega) (by omega), f16 (r 0 6 + 2) e (by omega) (by omega), f16 (r 0 6 + 3) e (by omega) (by omega), f16 (r 0 6 + 4) e (by omega) (by omega), f16 (r 0 6 + 5) e (by omega) (by omega), f16 (r 0 6 + 9) e (by omega) (by omega)]
      exact ⟨h3'.1, h3'.2.1, h3'.2.2.1, h3'.2.2.2.1, h3'.2.2.2.2.1, h3'.2.2.2.2.2.1, fun h7 f c d => by rw [f16 (r 0 6 + 6) _ (by omega) (by omega)]; exact h3'.2.2.2.2.2.2 h7 f c d⟩
    have hl16' : LgL g16 (r 0 6) (ch1 nA t n s d) (LF (tt g0) (ch1 nA t n s d) (-1) (-1)) (BF (tt g0) (ch1 nA t n s d) (-1) (-1)) (n + 1) := by
      intro e p q h7
      by_cases he : e = n
      · rw [he] at h7 ⊢; exact hl16 h7
      · have he2 : 0 ≤ e ∧ e < n := by omega
        have hpre : EvPre s (ch1 nA t n s d) n := EvPre_add
        rw [hpre e 0 p he2.2 (by omega) (by omega)] at h7
        have h3' := hl e p he2.2 h7
        rw [(LF_pre hpre p he2.2).1, (LF_pre hpre p he2.2).2, f16 (r 0 6 + 8) e (by omega) (by omega), h128 e he2.2, hrow.1 (r 0 6 + 8) e (by omega)]
        refine ⟨h3'.1, fun f u v => ?_⟩
        rw [f16 (r 0 6 + 7) _ (by omega) (by omega), h127, hrow.1 (r 0 6 + 7) _ (by omega)]
        exact h3'.2 f u v
    refine ⟨rfl, l_EL_add (nn := nn) (N := N) P hr hK hK2 R hnA hA ht hnn m (i + 1) (n + 1) (nx (nx (nx d))) (ch1 nA t n s d) g16 (by omega) (by omega) (by omega) (by omega) hE1 (fun c j a b => by rw [f16 c j (by omega) (by omega), f12 c j (by omega), hrow.1 c j a, hf c j a b]) hv16 hl16' (fun g' a b c => h g' a ?_ ?_)⟩
    · rw [show n + ((m + 1 : Nat) : Int) = n + 1 + m by omega]; exact b
    · rw [show n + ((m + 1 : Nat) : Int) = n + 1 + m by omega]; exact c
