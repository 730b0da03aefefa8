/-! SPECS, part zs: chance, the reference. -/
theorem s_M_draw {K : Int} {S : Nat} {g r : ab_H} {d b : Int} (P : Int → ab_H → ab_H → Prop) (hr : SI r) (hK : 186 ≤ K) (hd : g 161 45 = d) (hb : 0 < b ∧ b ≤ 1000) (h : ∀ g' : ab_H, g' = ab_up g 161 45 (nx d) → P (dr (nx d) b) g' r) : ab_RI m_M_draw [(2, 161), (0, b)] K S g r P := by
  apply v_M_draw _ hr hK
  intro g1 hg1
  rw [hd] at hg1
  have e : g1 161 45 = nx d := by rw [hg1, up_s]; rfl
  rw [e]
  exact ⟨by simp only [wr]; omega, h g1 hg1⟩
theorem evadd_x {s : Int → Int} {n k a o t sh x j : Int} : evadd s n k a o t sh x 0 0 j = if j = 9 * n + 5 then x else evadd s n k a o t sh 0 0 0 j := by
  by_cases h5 : j = 9 * n + 5
  · rw [if_pos h5]
    unfold evadd
    rw [if_pos (by omega), h5]
    simp (config := {decide := true}) only [Int.add_right_inj, if_true, if_false]
  · rw [if_neg h5]
    unfold evadd
    by_cases h : 9 * n ≤ j ∧ j < 9 * n + 9
    · rw [if_pos h, if_pos h, if_neg h5, if_neg h5]
    · rw [if_neg h, if_neg h]
theorem l_M_ch65 {K : Int} {S : Nat} {r : ab_H} {nA t nn N w ev kp : Int} (P : Int → ab_H → ab_H → Prop) (hr : SI r) (hK : 186 ≤ K) (hA : 0 < nA ∧ nA ≤ 8) (ht : 0 ≤ t ∧ t ≤ 9999) (hnn : nn ≤ 60) (hkp : 0 ≤ kp ∧ kp ≤ 6) (hev : 1 ≤ ev ∧ ev ≤ 999) : ∀ (m : Nat) (i n d tk : Int) (s : Int → Int) (g : ab_H), 0 ≤ i → i + m = nn → 0 ≤ n → n + m ≤ 120 → EvOk s n → EvS g s → g 174 1080 = n → g 174 1089 = ev → g 174 1090 = kp → SnV (g 174) (sn s ev kp n) → g 161 45 = d → g 161 32 = tk → g 163 0 = nA → ((if 0 < n then s (9 * (n - 1) + 3) else 0) = t) → (∀ g' : ab_H, (∀ c : Int, c ≠ 161 → c ≠ 174 → g' c = g c) → (∀ j : Int, j ≠ 32 → j ≠ 45 → g' 161 j = g 161 j) → EvS g' (chF nA t m n s d) → g' 174 1080 = n + m → g' 161 32 = tk + chT nA t ev kp m n s d → ab_RV m_M_replaysAll [(2, 161)] K S g' r (fun g1 r' => r' = r ∧ (ab_Rn m_M_chance 107 [some (2, 161), none, none, some (0, w), none, none, some (0, 0), some (0, N), none] [] (K, S, g1, r) (ab_Qi K S P)))) → ab_Rn m_M_chance 65 [some (2, 161), none, some (0, nn), some (0, w), none, some (0, N), some (0, i), none, none] [] (K, S, g, r) (ab_Qi K S P)
  | 0, i, n, d, tk, s, g, hi0, hi, h0, hn, hE, hs, hm, h89, h90, hq, h45, h32, hnA, hlt, h => by
    apply v_M_chance_65 _ hr hK
    refine And.intro (fun _ => h g (fun _ _ _ => rfl) (fun _ _ _ => rfl) hs (by rw [hm]; omega) ?_) (fun e => absurd e (by simp only [wr]; omega))
    show g 161 32 = tk + 0
    omega
  | m + 1, i, n, d, tk, s, g, hi0, hi, h0, hn, hE, hs, hm, h89, h90, hq, h45, h32, hnA, hlt, h => by
    have hN := ch1_new (s := s) (n := n) (d := d) hA ht
    have hE1 := ch1_ok (d := d) hA ht hE h0
    have hok := SNok_sn (s := s) (ev := ev) hkp.1 h0
    apply v_M_chance_65 _ hr hK
    refine And.intro (fun e => absurd e (by simp only [wr]; omega)) (fun _ => ?_)
    apply s_M_draw _ hr hK h45 (by omega)
    intro g3 hg3
    have c3 : ∀ c : Int, c ≠ 161 → g3 c = g c := fun c hc => by rw [hg3, up_f hc]
    have q3 : ∀ j : Int, j ≠ 45 → g3 161 j = g 161 j := fun j hj => by rw [hg3, up_k hj]
    refine ⟨rfl, ?_⟩
    apply s_M_accounts (n := nA) _ hr hK (by rw [c3 163 (by omega)]; exact hnA)
    refine ⟨rfl, rfl, ?_⟩
    apply s_M_draw (d := nx d) _ hr hK (by rw [hg3, up_s]) (by omega)
    intro g6 hg6
    have c6 : ∀ c : Int, c ≠ 161 → g6 c = g c := fun c hc => by rw [hg6, up_f hc, c3 c hc]
    have q6 : ∀ j : Int, j ≠ 45 → g6 161 j = g 161 j := fun j hj => by rw [hg6, up_k hj, q3 j hj]
    refine ⟨rfl, ?_⟩
    have hs6 : EvS g6 s := fun j a b => by rw [c6 174 (by omega)]; exact hs j a b
    have hm6 : g6 174 1080 = n := by rw [c6 174 (by omega)]; exact hm
    apply s_M_latestTime _ hr hK hs6 hm6 (by omega)
    rw [hlt]
    refine ⟨rfl, rfl, ?_⟩
    apply s_M_comes (n := n) (ev := ev) (kp := kp) (q := sn s ev kp n) (s := s) _ hr hK hs6 hm6 hE ⟨h0, by omega⟩ hN (by rw [c6 174 (by omega)]; exact hq) hok (by rw [c6 174 (by omega)]; exact h89) (by rw [c6 174 (by omega)]; exact h90) hkp hev
    intro g9 f9 hev9 hm9 hsn9 htk9
    refine ⟨rfl, ?_⟩
    apply s_M_many _ hr hK
    rw [hm9, show n + 1 - 1 = n by omega]
    refine ⟨rfl, rfl, ?_⟩
    apply s_M_draw (d := nx (nx d)) _ hr hK (by rw [f9.2.1 45 (by omega), hg6, up_s]) (by omega)
    intro g12 hg12
    refine ⟨rfl, by omega, fun g14 hg14 => ?_⟩
    have c14 : ∀ c : Int, c ≠ 161 → c ≠ 174 → g14 c = g c := fun c a b => by rw [hg14, up_f b, hg12, up_f a, f9.1 c b a, c6 c a]
    have q14 : ∀ j : Int, j ≠ 32 → j ≠ 45 → g14 161 j = g 161 j := fun j a b => by rw [hg14, up_a (by omega), hg12, up_k b, f9.2.1 j a, q6 j b]
    have s14 : ∀ j : Int, g14 174 j = if j = 9 * n + 5 then dr (nx (nx (nx d))) 1000 else g9 174 j := fun j => by
      rw [hg14, up_i, hg12, up_a (by omega)]
    have hev14 : EvS g14 (ch1 nA t n s d) := by
      intro j a b
      rw [s14 j]
      unfold ch1
      rw [evadd_x]
      by_cases h5 : j = 9 * n + 5
      · rw [if_pos h5, if_pos h5]
      · rw [if_neg h5, if_neg h5]; exact hev9 j a b
    have hke : KEq (evadd s n (dr (nx d) 5) (dr (nx (nx d)) nA) (-2) t 3 0 0 0) (ch1 nA t n s d) (n + 1) := by
      intro e a b
      unfold ch1
      rw [evadd_x (j := 9 * e + 0) (x := dr (nx (nx (nx d))) 1000), evadd_x (j := 9 * e + 2) (x := dr (nx (nx (nx d))) 1000), evadd_x (j := 9 * e + 4) (x := dr (nx (nx (nx d))) 1000), if_neg (by omega), if_neg (by omega), if_neg (by omega)]
      exact ⟨rfl, fun _ => rfl, rfl⟩
    have hk0 : sn s ev kp n = sn (ch1 nA t n s d) ev kp n := sn_ext hkp.1 evadd_k
    have hst : sstep (evadd s n (dr (nx d) 5) (dr (nx (nx d)) nA) (-2) t 3 0 0 0) (psm (wts (evadd s n (dr (nx d) 5) (dr (nx (nx d)) nA) (-2) t 3 0 0 0))) ev kp (sn s ev kp n) n = sn (ch1 nA t n s d) ev kp (n + 1) := by
      rw [sstep_ext hke ⟨h0, by omega⟩ hok, sn_s h0, ← hk0]
    rw [hst] at hsn9
    have hok1 := SNok_sn (s := ch1 nA t n s d) (ev := ev) (kp := kp) (n := n + 1) hkp.1 (by omega)
    have hq14 : SnV (g14 174) (sn (ch1 nA t n s d) ev kp (n + 1)) := SnV_ext (fun j a b => by rw [s14 j, if_neg (by omega)]) hok1 hkp.2 hsn9
    have htk14 : g14 161 32 = tk + sdue (psm (wts (ch1 nA t n s d))) ev (svoid (ch1 nA t n s d) (sn (ch1 nA t n s d) ev kp n) n) n := by
      rw [hg14, up_a (by omega), hg12, up_k (by omega), htk9, q6 32 (by omega), h32, sdue_ext hke ⟨h0, by omega⟩ hok, ← hk0]
    have hlt14 : (if 0 < n + 1 then ch1 nA t n s d (9 * (n + 1 - 1) + 3) else 0) = t := by
      rw [if_pos (by omega), show n + 1 - 1 = n by omega]
      unfold ch1
      rw [evadd_new (by omega)]
      simp (config := {decide := true}) only [if_true, if_false]
    refine l_M_ch65 P hr hK hA ht hnn hkp hev m (i + 1) (n + 1) (nx (nx (nx d))) _ (ch1 nA t n s d) g14 (by omega) (by omega) (by omega) (by omega) hE1 hev14 (by rw [s14, if_neg (by omega)]; exact hm9) (by rw [s14, if_neg (by omega), f9.2.2 1089 (by omega), c6 174 (by omega)]; exact h89) (by rw [s14, if_neg (by omega), f9.2.2 1090 (by omega), c6 174 (by omega)]; exact h90) hq14 (by rw [hg14, up_a (by omega), hg12, up_s]) htk14 (by rw [c14 163 (by omega) (by omega)]; exact hnA) hlt14 (fun g' a b c d' e => h g' (fun k p q => by rw [a k p q, c14 k p q]) (fun j p q => by rw [b j p q, q14 j p q]) c (by rw [d']; omega) ?_)
    rw [e]
    show _ = tk + (sdue (psm (wts (ch1 nA t n s d))) ev (svoid (ch1 nA t n s d) (sn (ch1 nA t n s d) ev kp n) n) n + chT nA t ev kp m (n + 1) (ch1 nA t n s d) (nx (nx (nx d))))
    omega
theorem l_M_ch107 {K : Int} {S : Nat} {g r : ab_H} {w n nA tk : Int} {q : RS} (P : Int → ab_H → ab_H → Prop) (hr : SI r) (hK : 186 ≤ K) (hw : 0 ≤ w ∧ w ≤ 2) (hm : g 174 1080 = n) (hn : n ≤ 120) (hq : StV g 178 q n) (hc : ∀ e : Int, 0 ≤ q.2.2.2.2 e ∧ q.2.2.2.2 e ≤ 3) (hnA : g 163 0 = nA) (hA : 0 ≤ nA ∧ nA ≤ 8) (htk : g 161 32 = tk) : ∀ (m : Nat) (i x : Int), 0 ≤ i → i + m = n → (∀ (y v : Int) (g' : ab_H), y - x = psm (asd q.2.2.2.2) n - psm (asd q.2.2.2.2) i → v = (if w = 0 then y else if w = 1 then psm q.1 nA else tk) → (∀ c : Int, c ≠ 174 → g' c = g c) → (∀ l : Int, 0 ≤ l → l < 1607 → g' 174 l = g 175 l) → P v g' r) → ab_Rn m_M_chance 107 [some (2, 161), none, none, some (0, w), none, none, some (0, x), some (0, i), none] [] (K, S, g, r) (ab_Qi K S P)
  | 0, i, x, h0, hi, h => by
    have fin : ∀ v : Int, v = (if w = 0 then x else if w = 1 then psm q.1 nA else tk) → ab_RV m_M_copies [(2, 175), (0, 0), (2, 174), (0, 0)] K S g r (fun g2 r' => r' = r ∧ (P v g2 r)) := by
      intro v hv
      apply s_M_copies _ hr hK (ar_aside hK) (ar_s hK) (by omega) (by omega) (by omega)
      intro g2 c1 c2 c3
      refine ⟨rfl, h x v g2 (by rw [show i = n by omega]; omega) hv c1 (fun l a b => ?_)⟩
      have := c3 l a b
      rw [show (0 : Int) + l = l by omega] at this
      exact this
    apply v_M_chance_107 _ hr hK
    apply s_M_many _ hr hK
    rw [hm, htk]
    refine ⟨rfl, rfl, And.intro (fun _ => And.intro (fun e1 => And.intro (fun e2 => fin tk ?_) (fun e2 => ?_)) (fun e1 => fin x ?_)) (fun e => absurd e (by simp only [wr]; omega))⟩
    · rw [if_neg (by simp only [wr] at e1; omega), if_neg (by simp only [wr] at e2; omega)]
    · apply s_M_balances _ hr hK hnA hA hq
      refine ⟨rfl, rfl, fin _ ?_⟩
      rw [if_neg (by simp only [wr] at e1; omega), if_pos (by simp only [wr] at e2; omega)]
    · rw [if_pos (by simp only [wr] at e1; omega)]
  | m + 1, i, x, h0, hi, h => by
    have hci := hc i
    have hp := psm_1 (f := asd q.2.2.2.2) h0
    have hqi : g 183 i = q.2.2.2.2 i := hq.2 i h0 (by omega)
    apply v_M_chance_107 _ hr hK
    apply s_M_many _ hr hK
    rw [hm, hqi]
    refine ⟨rfl, rfl, And.intro (fun e => absurd e (by simp only [wr]; omega)) (fun _ => ⟨by omega, And.intro (fun e1 => ?_) (fun e1 => ?_)⟩)⟩
    · refine l_M_ch107 P hr hK hw hm hn hq hc hnA hA htk m (i + 1) _ (by omega) (by omega) (fun y v g' hy hv a b => h y v g' ?_ hv a b)
      have : asd q.2.2.2.2 i = 0 := if_pos (by simp only [wr] at e1; omega)
      omega
    · refine l_M_ch107 P hr hK hw hm hn hq hc hnA hA htk m (i + 1) _ (by omega) (by omega) (fun y v g' hy hv a b => h y v g' ?_ hv a b)
      have : asd q.2.2.2.2 i = 1 := if_neg (by simp only [wr] at e1; omega)
      omega
def ChC (g : ab_H) (sd n w : Int) : Prop := (-1 ≤ sd ∧ (1 ≤ n ∧ n ≤ 60) ∧ (0 ≤ w ∧ w ≤ 2)) ∧ 0 < g 163 0 ∧ ss g 1080 + n ≤ 120
def cht (g : ab_H) : Int := if 0 < ss g 1080 then ss g (9 * (ss g 1080 - 1) + 3) else 0
def chs (g : ab_H) (sd n : Int) : Int → Int := chF (g 163 0) (cht g) n.toNat (ss g 1080) (ss g) (if sd = -1 then g 163 4 else sd)
def chq (g : ab_H) (sd n : Int) : RS := rep (chs g sd n) (LF (tt g) (chs g sd n) (-1) (-1)) (BF (tt g) (chs g sd n) (-1) (-1)) (-1) 120 (ss g 1080 + n)
def V_chance (g : ab_H) (sd n w : Int) : Int := if w = 0 then psm (asd (chq g sd n).2.2.2.2) (ss g 1080 + n) - psm (asd (chq g sd n).2.2.2.2) (ss g 1080) else if w = 1 then psm (chq g sd n).1 (g 163 0) else chT (g 163 0) (cht g) (ss g 1089) (ss g 1090) n.toNat (ss g 1080) (ss g) (if sd = -1 then g 163 4 else sd)
theorem Scr_Vch {g g' r : ab_H} (h : Scr g g' r) (sd n w : Int) : V_chance g' sd n w = V_chance g sd n w := by
  unfold V_chance chq chs cht
  rw [Scr_ss h, Scr_tt h, Scr_163 h]
theorem Scr_ChC {g g' r : ab_H} (h : Scr g g' r) (sd n w : Int) : ChC g' sd n w ↔ ChC g sd n w := by
  unfold ChC
  rw [Scr_ss h, Scr_163 h]
theorem cht_in {g r : ab_H} (R : Rel g r) : 0 ≤ cht g ∧ cht g ≤ 9999 := by
  have G := R.2.2.2.1.1
  unfold cht
  by_cases hp : 0 < ss g 1080
  · rw [if_pos hp]; exact (G.2.1 (ss g 1080 - 1) (by omega) (by have := G.1; omega)).2.2.2.2.1
  · rw [if_neg hp]; omega
theorem m_chance {K : Int} {S : Nat} {g r : ab_H} {sd n w v : Int} (hr : SI r) (hK : 186 ≤ K) (R : Rel g r) (hsd : I32 sd) (hn : I32 n) (hw : I32 w) (hv : (ChC g sd n w → v = V_chance g sd n w) ∧ (¬ ChC g sd n w → v = if w = 1 then -2147483648 else -1)) : MA m_M_chance [(2, 161), (0, sd), (0, n), (0, w)] K S g r v := by
  unfold I32 at hsd hn hw
  unfold MA
  apply v_M_chance _ hr hK
  intro g1 hg1
  have f1 := Scr_t R hg1
  have R1 := Rel_scr R f1
  have G1 := R1.2.2.2.1.1
  have n1 := G1.1
  have T1 := R1.2.2.1.2.2.1
  have hv1 : (ChC g1 sd n w → v = V_chance g1 sd n w) ∧ (¬ ChC g1 sd n w → v = if w = 1 then -2147483648 else -1) := by rw [Scr_Vch f1, Scr_ChC f1]; exact hv
  have no28 : ¬ ChC g1 sd n w → ab_Rn m_M_chance 28 [some (2, 161), some (0, sd), some (0, n), some (0, w), none, none, none, none, none] [] (K, S, g1, r) (ab_Qi K S (fun y g2 r2 => r2 = r ∧ Scr g g2 r ∧ v = y)) := by
    intro hc
    have hv1 := hv1.2 hc
    apply v_M_chance_28 _ hr hK
    refine And.intro (fun e => absurd rfl e) (fun _ => And.intro (fun e => ⟨rfl, f1, ?_⟩) (fun e => ⟨rfl, f1, ?_⟩))
    · rw [hv1, if_neg (by simp only [wr] at e; omega)]
    · rw [hv1, if_pos (by simp only [wr] at e; omega)]
  refine And.intro (fun e1 => no28 (fun hc => by have := hc.1; simp only [wr] at e1; omega)) (fun e1 => And.intro (fun e2 => no28 (fun hc => by have := hc.1; simp only [wr] at e2; omega)) (fun e2 => And.intro (fun e3 => no28 (fun hc => by have := hc.1; simp only [wr] at e3; omega)) (fun e3 => And.intro (fun e4 => no28 (fun hc => by have := hc.1; simp only [wr] at e4; omega)) (fun e4 => And.intro (fun e5 => no28 (fun hc => by have := hc.1; simp only [wr] at e5; omega)) (fun e5 => ?_)))))
  apply s_M_accounts _ hr hK rfl
  refine ⟨rfl, rfl, And.intro (fun e6 => no28 (fun hc => by have := hc.2; simp only [wr] at e6; omega)) (fun e6 => ?_)⟩
  apply s_M_many _ hr hK
  rw [Rel_many R1]
  refine ⟨rfl, rfl, And.intro (fun e7 => no28 (fun hc => by have := hc.2; simp only [wr] at e7 e2 e3; omega)) (fun e7 => And.intro (fun _ => ?_) (fun e => absurd e (by decide)))⟩
  have hC : ChC g1 sd n w := ⟨by simp only [wr] at e1 e2 e3 e4 e5; omega, by simp only [wr] at e6; omega, by simp only [wr] at e7 e2 e3; omega⟩
  have hv1 := hv1.1 hC
  have hc1 := hC.1
  have hc2 := hC.2
  have htin := cht_in R1
  have k1 := G1.2.2.2.2.2.1
  -- the run proper
  have run : ∀ (dd : Int) (g4 : ab_H), dd = (if sd = -1 then g1 163 4 else sd) → g4 = ab_up g1 161 45 dd → ab_RV m_M_copies [(2, 174), (0, 0), (2, 175), (0, 0)] K S g4 r (fun g5 r' => r' = r ∧ (ab_RI m_M_many [(2, 161)] K S g5 r (fun x7 g' r' => g' = g5 ∧ r' = r ∧ (∀ g8, g8 = ab_up g5 161 32 0 → ab_Rn m_M_chance 65 [some (2, 161), none, some (0, n), some (0, w), none, some (0, x7), some (0, 0), none, none] [] (K, S, g8, r) (ab_Qi K S (fun y g2 r2 => r2 = r ∧ Scr g g2 r ∧ v = y)))))) := by
    intro dd g4 hdd hg4
    apply s_M_copies _ hr hK (ar_s hK) (ar_aside hK) (by omega) (by omega) (by omega)
    intro g5 c1 c2 c3
    have c5 : ∀ c : Int, c ≠ 161 → c ≠ 175 → g5 c = g1 c := fun c a b => by rw [c1 c b, hg4, up_f a]
    refine ⟨rfl, ?_⟩
    apply s_M_many _ hr hK
    rw [c5 174 (by omega) (by omega), Rel_many R1]
    refine ⟨rfl, rfl, fun g8 hg8 => ?_⟩
    have c8 : ∀ c : Int, c ≠ 161 → c ≠ 175 → g8 c = g1 c := fun c a b => by rw [hg8, up_f a, c5 c a b]
    have q8 : ∀ j : Int, j ≠ 32 → j ≠ 45 → g8 161 j = g1 161 j := fun j a b => by rw [hg8, up_k a, c1 161 (by omega), hg4, up_k b]
    have e174 : g8 174 = g1 174 := c8 174 (by omega) (by omega)
    have hcn : ∀ j : Int, 0 ≤ j → j < 1607 → g8 174 j = ss g1 j := fun j a b => by rw [e174]; exact (cn_in a b).symm
    refine l_M_ch65 (nA := g1 163 0) (t := cht g1) (ev := ss g1 1089) (kp := ss g1 1090) _ hr hK ⟨hc2.1, T1.2.2⟩ htin hc1.2.1.2 k1 G1.2.2.2.2.1 n.toNat 0 (ss g1 1080) dd 0 (ss g1) g8 (by omega) (by omega) n1.1 (by omega) G1.2.1 (fun j a b => hcn j a (by omega)) (hcn _ (by omega) (by omega)) (hcn _ (by omega) (by omega)) (hcn _ (by omega) (by omega)) (by rw [e174]; exact Rel_SnV R1) (by rw [hg8, up_k (by omega), c1 161 (by omega), hg4, up_s]) (by rw [hg8, up_s]) (by rw [c8 163 (by omega) (by omega)]) rfl (fun g9 a b c d e => ?_)
    have hnt : (n.toNat : Int) = n := by omega
    rw [hnt] at d
    have hsF : chF (g1 163 0) (cht g1) n.toNat (ss g1 1080) (ss g1) dd = chs g1 sd n := by unfold chs; rw [hdd]
    rw [hsF] at c
    have hEF : EvOk (chs g1 sd n) (ss g1 1080 + n) := by
      have := chF_ok (nA := g1 163 0) (t := cht g1) ⟨hc2.1, T1.2.2⟩ htin n.toNat (ss g1 1080) dd (ss g1) n1.1 G1.2.1
      rw [hnt, hsF] at this
      exact this
    have c9 : ∀ c : Int, c ≠ 161 → c ≠ 174 → c ≠ 175 → g9 c = g1 c := fun k p q u => by rw [a k p q, c8 k p u]
    apply t_M_replaysAll (n := ss g1 1080 + n) (T := tt g1) (s := chs g1 sd n) (pk := -1) (ps := g1 161 35) _ hr hK R1.2.2.1.1 hEF (by omega) (by omega) R1.2.2.2.2.2.2.2.1 c d ⟨c9 168 (by omega) (by omega) (by omega), c9 169 (by omega) (by omega) (by omega), c9 170 (by omega) (by omega) (by omega), c9 171 (by omega) (by omega) (by omega)⟩ (by rw [b 34 (by omega) (by omega), q8 34 (by omega) (by omega)]; exact R1.2.2.2.2.2.2.1) (by rw [b 35 (by omega) (by omega), q8 35 (by omega) (by omega)])
    intro g10 f10 hq10
    have hq10' : StV g10 178 (chq g1 sd n) (ss g1 1080 + n) := by
      unfold chq
      have hps : ∀ i : Int, 0 ≤ i → i < ss g1 1080 + n → LF (tt g1) (chs g1 sd n) (-1) (g1 161 35) i = LF (tt g1) (chs g1 sd n) (-1) (-1) i ∧ BF (tt g1) (chs g1 sd n) (-1) (g1 161 35) i = BF (tt g1) (chs g1 sd n) (-1) (-1) i := fun i p q => LF_ps (hEF i p q).1.1
      rw [← rep_ext (s' := chs g1 sd n) (L' := LF (tt g1) (chs g1 sd n) (-1) (g1 161 35)) (B' := BF (tt g1) (chs g1 sd n) (-1) (g1 161 35)) (by omega) (fun _ _ _ _ _ _ => rfl) (fun i p q => (hps i p q).1) (fun i p q => (hps i p q).2)]
      exact hq10
    refine ⟨rfl, l_M_ch107 (n := ss g1 1080 + n) (nA := g1 163 0) (tk := chT (g1 163 0) (cht g1) (ss g1 1089) (ss g1 1090) n.toNat (ss g1 1080) (ss g1) dd) (q := chq g1 sd n) _ hr hK hc1.2.2 (by rw [f10.1 174 (by omega) (by omega)]; exact d) (by omega) hq10' rep_cau (by rw [f10.1 163 (by omega) (by omega), c9 163 (by omega) (by omega) (by omega)]) T1.2 (by rw [f10.2 32 (by omega) (by omega) (by omega), e]; omega) n.toNat (ss g1 1080) 0 n1.1 (by omega) (fun y v' g11 hy hv' d1 d2 => ⟨rfl, Scr_tr f1 ?_, ?_⟩)⟩
    · have z : ∀ c : Int, c ≠ 161 → c ≠ 174 → c ≠ 175 → (c < 178 ∨ 183 < c) → g11 c = g1 c := fun k p q u s => by rw [d1 k q, f10.1 k s p, c9 k p q u]
      have z1 : ∀ j : Int, j ≠ 32 → j ≠ 45 → j ≠ 41 → j ≠ 42 → j ≠ 43 → g11 161 j = g1 161 j := fun j p q s t u => by rw [d1 161 (by omega), f10.2 j s t u, b j p q, q8 j p q]
      refine ⟨fun k j p _ _ _ _ => by rw [z k (by omega) (by omega) (by omega) (by omega)], fun k p q => z k (by omega) (by omega) (by omega) (by omega), z _ (by omega) (by omega) (by omega) (by omega), z _ (by omega) (by omega) (by omega) (by omega), ?_, fun j _ p q s t u x => z1 j p x s t u, ?_⟩
      · unfold ss
        refine cn_ext (fun l p q => ?_)
        rw [d2 l p q, f10.1 175 (by omega) (by omega), a 175 (by omega) (by omega), hg8, up_f (by omega)]
        have := c3 l p q
        rw [show (0 : Int) + l = l by omega] at this
        rw [this, hg4, up_f (by omega)]
      · rw [z1 35 (by omega) (by omega) (by omega) (by omega) (by omega)]; exact R1.2.2.2.2.2.2.2.1
    · rw [hv1, hv']
      unfold V_chance
      rw [hdd]
      by_cases w0 : w = 0
      · rw [if_pos w0, if_pos w0]; omega
      · rw [if_neg w0, if_neg w0]
  refine And.intro (fun e8 g4 hg4 => run sd g4 ?_ hg4) (fun e8 => ⟨by omega, fun g4 hg4 => run (g1 163 4) g4 ?_ hg4⟩)
  · rw [if_neg (by simp only [wr] at e8; omega)]
  · rw [if_pos (by simp only [wr] at e8; omega)]
