/-! SPECS, part zzzg: text, both. -/
theorem SI_r0 {r : ab_H} {i v : Int} (h : SI r) (hi : i = 3 ∨ i = 4 ∨ i = 5 ∨ i = 6) : SI (ab_up r 0 i v) := by
  rcases hi with hi | hi | hi | hi <;> (rw [hi]; exact SI_up h (by decide))
theorem sg_mod {x : Int} (h : -128 ≤ x ∧ x < 128) : sg (x % 256) = x := by
  unfold sg
  by_cases h0 : 0 ≤ x
  · rw [if_pos (by omega)]; omega
  · rw [if_neg (by omega)]; omega
theorem TyOk_0 {T : TT} {tf x : Int → Int} (h : ∀ j : Int, 1091 ≤ j → j < 1607 → x j = 0) (hn : 0 ≤ x 1080) : TyOk T tf x := by
  intro t a b
  refine ⟨⟨rfl, fun e c d => rfl, fun k c d => ?_⟩, ⟨?_, ?_⟩, fun e c d => Or.inl ?_⟩
  · rw [h _ (by omega) (by omega)]
    have hz : psm (tcn x (tcx x t) k) 120 = psm (tcn x (tcx x t) k) 0 := psm_z (Int.le_refl 0) (fun i p q => by
      unfold tcn tcx
      rw [if_neg (fun y => y.1 (h _ (by omega) (by omega)))]) (by omega)
    rw [hz, psm_0]
  · show 0 ≤ x (1091 + 129 * t)
    rw [h _ (by omega) (by omega)]; omega
  · show x (1091 + 129 * t) ≤ x 1080
    rw [h _ (by omega) (by omega)]; exact hn
  · show x (1091 + 129 * t + 9 + e) = 0
    exact h _ (by omega) (by omega)
/-- the reference's end of a TEXT that is taken -/
def TxM (g20 g2 : ab_H) (d : Zd) : Prop := (∀ c : Int, c ≤ 160 → g2 c = g20 c) ∧ (∀ j : Int, j = 34 ∨ j = 35 → g2 161 j = g20 161 j) ∧ (g2 161 2 = 0 ∧ g2 161 24 = 0 ∧ g2 161 25 = -1 ∧ g2 161 30 = 0 ∧ g2 161 31 = 0) ∧ TEq d.T (tt g2) ∧ (g2 163 0 = d.nA ∧ g2 163 1 = d.nT ∧ g2 163 4 = d.sd) ∧ (∀ i : Int, 0 ≤ i → i < d.nA → g2 164 i = d.an i) ∧ (∀ t : Int, 0 ≤ t → t < d.nT → g2 165 t = d.tn t ∧ g2 166 t = d.tk t ∧ g2 167 t = d.tf t) ∧ (∀ j : Int, 0 ≤ j → j < 1080 → ss g2 j = zs d j) ∧ ss g2 1080 = d.n ∧ SnV (ss g2) (sn (zs d) d.ev d.kp d.n) ∧ (ss g2 1089 = d.ev ∧ ss g2 1090 = d.kp) ∧ ∀ j : Int, 1091 ≤ j → j < 1607 → ss g2 j = 0
/-- the class's end of a TEXT that is taken -/
def TxC (g r g20 r20 : ab_H) (d : Zd) : Prop := RelR r20 ∧ isWd (r20 4 5) ∧ (r20 0 6 = r 0 5) ∧ (∀ c : Int, c < 0 ∨ 161 ≤ c → g20 c = g c) ∧ (∀ c : Int, c < 0 → r20 c = r c) ∧ (g20 0 1 = 0 ∧ g20 0 14 = 0 ∧ g20 0 17 = 0) ∧ (g20 2 6 = 0 ∧ g20 2 7 = -1) ∧ (TeV g20 (r20 0 3) d.T ∧ g20 (r20 0 3) 1 = d.nA ∧ (∀ i : Int, 0 ≤ i → i < d.nA → g20 (r20 0 3 + 1) i = d.an i) ∧ g20 (r20 0 3) 5 = d.nT ∧ (∀ t : Int, 0 ≤ t → t < d.nT → g20 (r20 0 3 + 2) t = d.tn t ∧ g20 (r20 0 3 + 3) t = d.tk t ∧ g20 (r20 0 3 + 4) t = d.tf t) ∧ g20 (r20 0 3) 12 = d.sd) ∧ LgV g20 (r20 0 5) (zs d) d.n ∧ LgL g20 (r20 0 5) (zs d) (LF d.T (zs d) (-1) (-1)) (BF d.T (zs d) (-1) (-1)) d.n ∧ (g20 57 2 = d.ev ∧ g20 57 3 = d.kp) ∧ ShV g20 57 (sn (zs d) d.ev d.kp d.n) ∧ StV g20 45 (rep (zs d) (LF d.T (zs d) (-1) (-1)) (BF d.T (zs d) (-1) (-1)) (-1) 120 d.n) d.n ∧ TaP g20 61 (fun _ => 0) (fun _ _ => 0) ∧ g20 (r 0 5 + 10) 0 = 0
theorem Rel_tok {g r g20 r20 g2 : ab_H} {d : Zd} (R : Rel g r) (hI : Inv d) (hC : TxC g r g20 r20 d) (hM : TxM g20 g2 d) : Rel g2 r20 ∧ ∀ c : Int, c < 0 → g2 c = g c ∧ r20 c = r c := by
  obtain ⟨c1, c2, c3, c4, c5, c6, c7, ⟨c8, c9, c10, c11, c12, c13⟩, c14, c15, c16, c17, c18, c19, c20⟩ := hC
  obtain ⟨m1, m2, m3, m4, m5, m6, m7, m8, m9, m10, m11, m12⟩ := hM
  have hI0 := hI.1
  have hIn := hI.2.2.2.2.2.2.2.1
  have hIt := hI.2.2.1
  have hIe := hI.2.2.2.2.2.1
  obtain ⟨v1, v2, v3⟩ := Inv_ev hI
  have hn120 : d.n ≤ 120 := by omega
  have hr3 := c1.2.1
  have hr5 := c1.2.2.1
  have lo : ∀ c j : Int, c ≤ 160 → g2 c j = g20 c j := fun c j a => by rw [m1 c a]
  have hE2 : EvOk (ss g2) (ss g2 1080) := by rw [m9]; exact EvOk_ext m8 hn120 v1
  have hsn : sn (ss g2) (ss g2 1089) (ss g2 1090) (ss g2 1080) = sn (zs d) d.ev d.kp d.n := by
    rw [m9, m11.1, m11.2]
    exact (sn_ext hIe.2.1.1 (KEq_ext m8 hn120)).symm
  have hLF : ∀ e : Int, 0 ≤ e → e < d.n → LF d.T (ss g2) (-1) (-1) e = LF d.T (zs d) (-1) (-1) e ∧ BF d.T (ss g2) (-1) (-1) e = BF d.T (zs d) (-1) (-1) e := fun e a b => LFB_EvS m8 hn120 a b
  refine ⟨⟨c1, ⟨⟨?_, ?_, ?_⟩, fun i a b => absurd b (by rw [m3.1]; omega), ?_, ?_⟩, ⟨?_, ?_, ?_, ?_, ?_, ?_, ?_⟩, ⟨⟨?_, hE2, ?_, ?_, ?_, ?_, ?_, ?_⟩, ?_, ?_, ?_, ?_, ?_, ?_⟩, ⟨⟨?_, ?_, ?_⟩, fun j a b => absurd b (by rw [m3.2.2.2.1]; omega), fun i j a b e => absurd e (by rw [m3.2.2.2.1]; omega)⟩, ⟨⟨?_, Or.inl m3.2.2.2.2⟩, fun e => absurd e (by rw [m3.2.2.2.2]; omega)⟩, ?_, ?_, c2, ?_⟩, fun c hc => ⟨by rw [m1 c (by omega), c4 c (Or.inl hc)], c5 c hc⟩⟩
  · rw [lo _ _ (by omega), m3.1]; exact c6.1
  · rw [m3.1]; omega
  · rw [m3.1]; omega
  · rw [lo _ _ (by omega), m3.2.1]; exact c7.1
  · rw [lo _ _ (by omega), m3.2.2.1]; exact c7.2
  · exact TOk_T m4 hI.2.2.2.2.1
  · exact TeV_T m4 (TeV_mono c8 (fun c j a b => lo c j (by omega)))
  · rw [lo _ _ (by omega), m5.1]; exact ⟨c9, hI0⟩
  · intro i a b
    rw [m5.1] at b
    rw [lo _ _ (by omega), m6 i a b]
    exact ⟨c10 i a b, hI.2.1 i a b⟩
  · rw [lo _ _ (by omega), m5.2.1]; exact ⟨c11, hIt⟩
  · intro t a b
    rw [m5.2.1] at b
    obtain ⟨n1, n2, n3⟩ := m7 t a b
    obtain ⟨k1, k2, k3⟩ := c12 t a b
    obtain ⟨i1, i2, i3⟩ := hI.2.2.2.1 t a b
    rw [lo (r20 0 3 + 2) t (by omega), lo (r20 0 3 + 3) t (by omega), lo (r20 0 3 + 4) t (by omega), n1, n2, n3]
    exact ⟨⟨k1, i1⟩, ⟨k2, i2⟩, ⟨k3, i3⟩⟩
  · rw [lo _ _ (by omega), m5.2.2]; exact ⟨c13, hIe.2.2⟩
  · rw [m9]; omega
  · rw [m9]; exact VdOk_ext m8 hn120 v2
  · rw [m9, m5.1]; exact AcOk_ext m8 hn120 v3
  · rw [m11.1]; exact hIe.1
  · rw [m11.2]; exact hIe.2.1
  · rw [hsn]; exact m10
  · exact TyOk_0 m12 (by rw [m9]; omega)
  · rw [m9]; exact LgV_ext m8 (LgV_mono c14 (fun c j a b => lo c j (by omega)))
  · rw [m9]
    have h1 := LgL_ext (pk := -1) (ps := -1) m8 hn120 (LgL_mono c15 (fun c j a b => lo c j (by omega)))
    exact LgL_T m4 (by rw [m9] at hE2; exact hE2) h1
  · rw [lo _ _ (by omega), lo _ _ (by omega), m11.1, m11.2]; exact c16
  · rw [hsn]; exact ShV_mono c17 (fun c j a b => lo c j (by omega))
  · unfold LL BB
    rw [rep_T m4 hE2 (by rw [m9]; omega), m9, rep_same m8 (by omega) hn120]
    exact StV_mono c18 (fun c j a b => lo c j (by omega))
  · refine TaP_ext (TaP_mono c19 (fun c j a b => lo c j (by omega))) (fun t a b => ?_) (fun t e a b p q => ?_)
    · exact (m12 _ (by omega) (by omega)).symm
    · unfold ne0 tcx
      rw [if_pos (m12 _ (by omega) (by omega))]
  · rw [lo _ _ (by omega), m3.2.2.2.1]; exact c6.2.1
  · rw [m3.2.2.2.1]; omega
  · rw [m3.2.2.2.1]; omega
  · rw [lo _ _ (by omega), m3.2.2.2.2]; exact c6.2.2
  · rw [m2 34 (by omega), c4 161 (by omega)]; exact R.2.2.2.2.2.2.1
  · rw [m2 35 (by omega), c4 161 (by omega)]; exact R.2.2.2.2.2.2.2.1
  · rw [lo _ _ (by omega), c3]; exact c20
theorem zloop_b {b : Int → Int} {n : Int} : ∀ (m : Nat) (X : ZX) (l : Int), l ≤ (zloop b n m X l).1 ∧ (zloop b n m X l).1 ≤ l + m := by
  intro m
  induction m with
  | zero => intro X l; exact ⟨Int.le_refl _, by show l ≤ l + ((0 : Nat) : Int); omega⟩
  | succ m ih =>
    intro X l
    cases X with
    | error q => obtain ⟨f, w⟩ := q; exact ⟨Int.le_refl _, by show l ≤ l + ((m + 1 : Nat) : Int); omega⟩
    | ok d =>
      show l ≤ (if tki b n d.p = 4 then (l, (Except.ok d : ZX)) else zloop b n m (zline b n d) (l + 1)).1 ∧ (if tki b n d.p = 4 then (l, (Except.ok d : ZX)) else zloop b n m (zline b n d) (l + 1)).1 ≤ l + ((m + 1 : Nat) : Int)
      by_cases h : tki b n d.p = 4
      · rw [if_pos h]; exact ⟨Int.le_refl _, by show l ≤ _; omega⟩
      · rw [if_neg h]
        have := ih (zline b n d) (l + 1)
        omega
theorem p_text {K : Int} {S : Nat} {g r : ab_H} {w : Int} (hr : SI r) (hK : 186 ≤ K) (hK2 : 187 ≤ K) (R : Rel g r) (hw : I32 w) : PB m_EL_text [(2, 0), (0, w)] m_M_text [(2, 161), (0, w)] K S g r := by
  unfold I32 at hw
  have P1 := R.2.1
  have p1 := P1.1
  have hR := R.1
  have hr5 := hR.2.2.1
  have hr3 := hR.2.1
  have G := R.2.2.2.1.1
  have w4 : ∀ x : Int, -2147483648 ≤ x ∧ x ≤ 2147483647 → wr x = x := fun x a => by simp only [wr]; omega
  -- refused
  have rf : ∀ g5 : ab_H, g5 = g → (w < 0 ∨ g 161 2 < w) → ab_RI m_M_text [(2, 161), (0, w)] K S g5 r (fun y g2 r2 => -2 = y ∧ Rel g2 r2 ∧ (∀ c : Int, c < 0 → g2 c = g c ∧ r2 c = r c)) := by
    intro g5 e5 hc
    rw [e5]
    apply v_M_text _ hr hK
    intro g1 hg1
    have f1 := Scr_t R hg1
    have h12 : g1 161 2 = g 161 2 := by rw [hg1, up_k (by omega)]
    have fin : (-2 : Int) = -2 ∧ Rel g1 r ∧ (∀ c : Int, c < 0 → g1 c = g c ∧ r c = r c) := ⟨rfl, Rel_scr R f1, fun c hc => ⟨Scr_neg R f1 c hc, rfl⟩⟩
    rw [h12]
    refine And.intro (fun _ => fin) (fun e1 => And.intro (fun e2 => absurd e2 ?_) (fun _ => fin))
    rw [w4 w (by omega), w4 0 (by omega)] at e1
    rw [w4 w (by omega), w4 (g 161 2) (by omega)]
    omega
  unfold PB
  apply v_EL_text _ hr hK
  rw [w4 w hw, w4 0 (by omega), w4 (g 0 1) (by omega)]
  refine And.intro (fun e => rf g rfl (Or.inl e)) (fun e0 => And.intro (fun e1 g1 hg1 => ?_) (fun e1 => rf g rfl (Or.inr (by omega))))
  have hte4 : isTe (r 0 4) := by unfold isTe; omega
  have hte3 : isTe (r 0 3) := by unfold isTe; omega
  have hlg6 : isLg (r 0 6) := by unfold isLg; omega
  have hlg5 : isLg (r 0 5) := by unfold isLg; omega
  refine ⟨hte4, hlg6, ?_⟩
  have f1 : ∀ c j : Int, ¬ (c = 0 ∧ j = 1) → g1 c j = g c j := fun c j a => by rw [hg1, up_n a]
  have hb : TxB (fun i => g 162 i) w := by
    refine ⟨by omega, fun i a b => ?_⟩
    show 0 ≤ g 162 i ∧ g 162 i < 256
    rw [(P1.2.1 i a (by omega)).2]; omega
  have hcx : CxOk (Cx.mk (fun i => g 162 i) w (r 0 4) (r 0 6) g1 r) := ⟨hb, hte4, by show r 0 6 = 23 ∨ r 0 6 = 34; omega⟩
  apply q_parse _ hr hK hK2 hcx
  · intro i a b
    have h2 := P1.2.1 i a (by omega)
    show g1 1 i = sg (g 162 i)
    rw [f1 1 i (by omega), h2.2, sg_mod h2.1]
  · exact R.2.2.2.2.2.2.2.2.1
  · rw [f1 _ _ (by omega)]; exact R.2.2.2.2.2.2.2.2.2
  intro G0 g4 r5 hG s5 h4
  refine ⟨s5, ?_⟩
  have hcb : ∃ d : Zd, CB (Cx.mk (fun i => g 162 i) w (r 0 4) (r 0 6) G0 r) d g4 r5 := by
    obtain ⟨d, hd, _⟩ := CR_b h4
    exact ⟨d, hd⟩
  obtain ⟨d0, hd0⟩ := hcb
  have hF4 : ∀ c j : Int, c ≠ 2 → c ≠ 3 → c ≠ 4 → ¬ (r 0 4 ≤ c ∧ c ≤ r 0 4 + 8) → ¬ (r 0 6 ≤ c ∧ c ≤ r 0 6 + 10) → g4 c j = g1 c j := fun c j a b e k l => by
    have h8 := hd0.2.2.2.2.2.2.2.1 c j a e k l
    rw [h8]
    show G0 c j = g1 c j
    rw [hG c b]
  have hF5 : ∀ c j : Int, ¬ (c = 2 ∧ (j = 2 ∨ j = 3)) → ¬ (c = 4 ∧ (j = 0 ∨ j = 5)) → r5 c j = r c j := fun c j a b => by
    have h9 := hd0.2.2.2.2.2.2.2.2 c j a (by omega)
    rw [h9]
    exact up_n (by omega)
  have hwd5 : isWd (r5 4 5) := hd0.2.2.1
  have hW0 : g4 (r 0 6 + 10) 0 = 0 := by
    have h8 := hd0.2.2.2.2.2.1.2.2.2.2.2.2.2
    have h9 := h8.2.2.2 0 (Int.le_refl _) h8.2.1.1
    rw [psm_0] at h9
    exact h9
  have h4hi : ∀ c : Int, c < 0 ∨ 161 ≤ c → g4 c = g c := fun c a => by
    funext j
    rw [hF4 c j (by omega) (by omega) (by omega) (by omega) (by omega), f1 c j (by omega)]
  -- the reference reads from wherever it starts
  have ref : ∀ (g5 : ab_H) (r6 : ab_H) (v : Int), SI r6 → (∀ c : Int, 161 ≤ c → g5 c = g c) → v = zres (zend (fun i => g 162 i) w) → (∀ f w2 : Int, (zend (fun i => g 162 i) w).2 = .error (f, w2) → ∀ g2 : ab_H, (∀ c : Int, c ≤ 160 → g2 c = g5 c) → (∀ j : Int, j = 30 ∨ j = 31 ∨ j = 34 ∨ j = 35 → g2 161 j = g5 161 j) → (g2 161 2 = 0 ∧ g2 161 24 = f ∧ g2 161 25 = w2) → (∀ j : Int, j < 6 → g2 163 j = g5 163 j) → (∀ j : Int, j < 8 → g2 164 j = g5 164 j) → (∀ c j : Int, 165 ≤ c → c ≤ 167 → j < 4 → g2 c j = g5 c j) → (∀ j : Int, j < 14 → g2 168 j = g5 168 j) → (∀ c j : Int, 169 ≤ c → c ≤ 171 → j < 56 → g2 c j = g5 c j) → (g2 174 = g5 174 ∧ g2 176 = g5 176 ∧ g2 177 = g5 177) → Rel g2 r6 ∧ ∀ c : Int, c < 0 → g2 c = g c ∧ r6 c = r c) → (∀ d : Zd, (zend (fun i => g 162 i) w).2 = .ok d → ∀ g2 : ab_H, Inv d → TxM g5 g2 d → Rel g2 r6 ∧ ∀ c : Int, c < 0 → g2 c = g c ∧ r6 c = r c) → ab_RI m_M_text [(2, 161), (0, w)] K S g5 r6 (fun y g2 r2 => v = y ∧ Rel g2 r2 ∧ (∀ c : Int, c < 0 → g2 c = g c ∧ r2 c = r c)) := by
    intro g5 r6 v s6 h5 hv hbad hok
    apply v_M_text _ s6 hK
    intro a1 ha1
    have ha1c : ∀ c : Int, c ≠ 161 → a1 c = g5 c := fun c a => by rw [ha1, up_f a]
    have ha1j : ∀ j : Int, j ≠ 0 → a1 161 j = g5 161 j := fun j a => by rw [ha1, up_k a]
    rw [ha1j 2 (by omega), h5 161 (by omega), w4 w hw, w4 0 (by omega), w4 (g 161 2) (by omega)]
    refine And.intro (fun q => absurd q (by omega)) (fun _ => And.intro (fun _ => ?_) (fun q => absurd q (by omega)))
    apply u_readText (b := fun i => g 162 i) _ s6 hK hb (fun i a b => by rw [ha1c 162 (by omega), h5 162 (by omega)])
    intro g2 k2
    refine ⟨rfl, fun a4 h4a a5 h5a => ?_⟩
    obtain ⟨dd, hdd, hde⟩ := MR_b k2
    obtain ⟨_, _, hDat, hInv, hFp, hl⟩ := hdd
    have hFp1 : ∀ c j : Int, c ≠ 161 → ¬ (163 ≤ c ∧ c ≤ 173) → g2 c j = a1 c j := hFp.1
    have hFp2 : ∀ j : Int, ¬ (14 ≤ j ∧ j ≤ 23) → g2 161 j = a1 161 j := hFp.2.1
    have e22 : a5 161 22 = g2 161 22 := by rw [h5a, up_k (by omega), h4a, up_k (by omega)]
    have f5 : ∀ c j : Int, ¬ (c = 161 ∧ (j = 2 ∨ j = 24)) → a5 c j = g2 c j := fun c j a => by rw [h5a, up_n (by omega), h4a, up_n (by omega)]
    have e52 : a5 161 2 = 0 := by rw [h5a, up_k (by omega), h4a, up_s]
    have e524 : a5 161 24 = g2 161 22 := by rw [h5a, up_s, h4a, up_k (by omega)]
    rw [e22]
    refine u_end k2 (fun f w2 e => ?_) (fun d e => ?_)
    · -- a FAULT
      intro g6 h6
      have e622 : g6 161 22 = g2 161 22 := by rw [h6, up_k (by omega)]; exact e22
      have k2b := k2
      rw [e] at k2b
      have fe : g2 161 22 = f := k2b.2.1
      have we : g2 161 23 = w2 := k2b.2.2.1
      have fb := k2b.2.2.2
      have f6 : ∀ c j : Int, ¬ (c = 161 ∧ (j = 2 ∨ j = 24 ∨ j = 25)) → g6 c j = g2 c j := fun c j a => by rw [h6, up_n (by omega), f5 c j (by omega)]
      rw [e622]
      refine And.intro (fun q => absurd q (by rw [fe]; simp only [wr]; omega)) (fun _ => ⟨?_, ?_⟩)
      · rw [hv]; unfold zres; rw [e]
      · refine hbad f w2 e g6 (fun c a => ?_) (fun j a => ?_) ⟨?_, ?_, ?_⟩ (fun j a => ?_) (fun j a => ?_) (fun c j a b q => ?_) (fun j a => ?_) (fun c j a b q => ?_) ⟨?_, ?_, ?_⟩
        · funext j; rw [f6 c j (by omega), hFp1 c j (by omega) (by omega), ha1c c (by omega)]
        · rw [f6 161 j (by omega), hFp2 j (by omega), ha1j j (by omega)]
        · rw [h6, up_k (by omega)]; exact e52
        · rw [h6, up_k (by omega), e524, fe]
        · rw [h6, up_s, f5 161 23 (by omega), we]
        · rw [f6 163 j (by omega), hFp.2.2.1 j a]; exact congrFun (ha1c 163 (by omega)) j
        · rw [f6 164 j (by omega), hFp.2.2.2.1 j a]; exact congrFun (ha1c 164 (by omega)) j
        · rw [f6 c j (by omega), hFp.2.2.2.2.1 c j a b q]; exact congrFun (ha1c c (by omega)) j
        · rw [f6 168 j (by omega), hFp.2.2.2.2.2.1 j a]; exact congrFun (ha1c 168 (by omega)) j
        · rw [f6 c j (by omega), hFp.2.2.2.2.2.2 c j a b q]; exact congrFun (ha1c c (by omega)) j
        · funext j; rw [f6 174 j (by omega), hFp1 174 j (by omega) (by omega), ha1c 174 (by omega)]
        · funext j; rw [f6 176 j (by omega), hFp1 176 j (by omega) (by omega), ha1c 176 (by omega)]
        · funext j; rw [f6 177 j (by omega), hFp1 177 j (by omega) (by omega), ha1c 177 (by omega)]
    · -- taken
      have hdd2 := hde d e
      subst hdd2
      intro a13 h13
      have k2b := k2
      rw [e] at k2b
      have fe : g2 161 22 = 0 := k2b.2.1
      have f13 : ∀ c j : Int, ¬ (c = 161 ∧ (j = 2 ∨ j = 24 ∨ j = 25)) → a13 c j = g2 c j := fun c j a => by rw [h13, up_n (by omega), f5 c j (by omega)]
      rw [f13 161 22 (by omega), fe]
      refine And.intro (fun _ => ?_) (fun q => absurd rfl q)
      apply u_takeText _ s6 hK
      intro a14 h14
      refine ⟨rfl, ?_⟩
      obtain ⟨t1, t2, t3, t4, t5, t6⟩ := h14
      obtain ⟨D1, D2, D3, D4, D5, D6⟩ := hDat
      have hIe := hInv.2.2.2.2.2.1
      have hIn := hInv.2.2.2.2.2.2.2.1
      have n163 : ∀ j : Int, 0 ≤ j → j < 6 → a14 163 j = g2 163 (6 + j) := fun j a b => by rw [t2 j a b, f13 163 _ (by omega)]
      apply u_begins (E := d.E) (n := d.n) (nA := d.nA) (ev := d.ev) (kp := d.kp) _ s6 hK hIn hInv.2.2.2.2.2.2.2.2 hIe.1 hIe.2.1 ⟨?_, ?_, ?_⟩ ?_
      · intro a16 h16
        refine ⟨rfl, fun a18 h18 a19 h19 => ?_⟩
        obtain ⟨b1, b2, b3, b4, b5, b6, b7⟩ := h16
        have f19 : ∀ c j : Int, ¬ (c = 161 ∧ (j = 30 ∨ j = 31)) → a19 c j = a16 c j := fun c j a => by rw [h19, up_n (by omega), h18, up_n (by omega)]
        have c19 : ∀ c : Int, c ≠ 161 → a19 c = a16 c := fun c a => by rw [h19, up_f a, h18, up_f a]
        have j19 : ∀ j : Int, j ≠ 30 → j ≠ 31 → j ≠ 32 → a19 161 j = a13 161 j := fun j a b q => by rw [f19 161 j (by omega), b2 j q, t1 161 (by omega)]
        have hss : ∀ j : Int, 0 ≤ j → j < 1607 → ss a19 j = a16 174 j := fun j a b => by unfold ss; rw [cn_in a b, c19 174 (by omega)]
        have hzs : bsf d.E d.n.toNat = zs d := rfl
        have hnn : ((d.n.toNat : Nat) : Int) = d.n := by omega
        rw [hzs, hnn] at b5
        rw [hzs] at b3
        have hok9 := SNok_sn (s := zs d) (ev := d.ev) hIe.2.1.1 hIn.1
        have hq9 := hok9.1
        refine ⟨?_, hok d e a19 hInv ⟨fun c a => ?_, fun j a => ?_, ⟨?_, ?_, ?_, ?_, ?_⟩, ?_, ⟨?_, ?_, ?_⟩, fun i a b => ?_, fun t a b => ?_, fun j a b => ?_, ?_, ?_, ⟨?_, ?_⟩, fun j a b => ?_⟩⟩
        · rw [j19 16 (by omega) (by omega) (by omega), f13 161 16 (by omega), hl, hv]
          unfold zres
          rw [e]
        · rw [c19 c (by omega), b1 c (by omega) (by omega), t1 c (by omega)]
          funext j; rw [f13 c j (by omega), hFp1 c j (by omega) (by omega), ha1c c (by omega)]
        · rw [j19 j (by omega) (by omega) (by omega), f13 161 j (by omega), hFp2 j (by omega), ha1j j (by omega)]
        · rw [j19 2 (by omega) (by omega) (by omega), h13, up_k (by omega)]; exact e52
        · rw [j19 24 (by omega) (by omega) (by omega), h13, up_k (by omega), e524, fe]
        · rw [j19 25 (by omega) (by omega) (by omega), h13, up_s]
        · rw [h19, up_k (by omega), h18, up_s]
        · rw [h19, up_s]
        · intro i a b
          have k1 := D4 i a b
          have tb := (hInv.2.2.2.2.1 i a b).1
          have c16 : ∀ c : Int, 163 ≤ c → c ≤ 171 → a19 c = a14 c := fun c p q => by rw [c19 c (by omega), b1 c (by omega) (by omega)]
          refine ⟨?_, fun k p q => ⟨?_, ?_, ?_⟩⟩
          · show a19 168 i = d.T.1 i
            rw [c16 168 (by omega) (by omega), t5 i a b, f13 168 _ (by omega)]; exact k1.1
          · show a19 169 (4 * i + k) = d.T.2.1 (4 * i + k)
            rw [c16 169 (by omega) (by omega), t6 169 _ (by omega) (by omega) (by omega) (by omega), f13 169 _ (by omega)]; exact (k1.2 k p q).1
          · show a19 170 (4 * i + k) = d.T.2.2.1 (4 * i + k)
            rw [c16 170 (by omega) (by omega), t6 170 _ (by omega) (by omega) (by omega) (by omega), f13 170 _ (by omega)]; exact (k1.2 k p q).2.1
          · show a19 171 (4 * i + k) = d.T.2.2.2 (4 * i + k)
            rw [c16 171 (by omega) (by omega), t6 171 _ (by omega) (by omega) (by omega) (by omega), f13 171 _ (by omega)]; exact (k1.2 k p q).2.2
        · rw [c19 163 (by omega), b1 163 (by omega) (by omega), n163 0 (by omega) (by omega)]; exact D1.1
        · rw [c19 163 (by omega), b1 163 (by omega) (by omega), n163 1 (by omega) (by omega)]; exact D1.2.1
        · rw [c19 163 (by omega), b1 163 (by omega) (by omega), n163 4 (by omega) (by omega)]; exact D1.2.2.2.2.1
        · have := hInv.1
          rw [c19 164 (by omega), b1 164 (by omega) (by omega), t3 i a (by omega), f13 164 _ (by omega)]; exact D2 i a b
        · have := hInv.2.2.1
          rw [c19 165 (by omega), b1 165 (by omega) (by omega), t4 165 t (by omega) (by omega) a (by omega), f13 165 _ (by omega), c19 166 (by omega), b1 166 (by omega) (by omega), t4 166 t (by omega) (by omega) a (by omega), f13 166 _ (by omega), c19 167 (by omega), b1 167 (by omega) (by omega), t4 167 t (by omega) (by omega) a (by omega), f13 167 _ (by omega)]; exact D3 t a b
        · rw [hss j a (by omega)]; exact b3 j a b
        · rw [hss _ (by omega) (by omega), b4]; exact hnn
        · exact ⟨by rw [hss _ (by omega) (by omega)]; exact b5.1, fun i a b => by rw [hss _ (by omega) (by omega)]; exact b5.2 i a b⟩
        · rw [hss _ (by omega) (by omega)]; exact b6.1
        · rw [hss _ (by omega) (by omega)]; exact b6.2
        · rw [hss j (by omega) b]; exact b7 j a b
      · rw [n163 5 (by omega) (by omega)]; exact D1.2.2.2.2.2
      · rw [n163 2 (by omega) (by omega)]; exact D1.2.2.1
      · rw [n163 3 (by omega) (by omega)]; exact D1.2.2.2.1
      · intro e5 f a b c q
        rw [t1 172 (by omega), f13 172 _ (by omega)]; exact (D5 e5 a b).1 f c q
  cases hz : (zend (fun i => g 162 i) w).2 with
  | error q =>
    obtain ⟨f, w2⟩ := q
    have ez : zres (zend (fun i => g 162 i) w) = -1 := by unfold zres; rw [hz]
    rw [ez]
    refine And.intro (fun q => absurd rfl q) (fun _ => ?_)
    rw [hz] at h4
    have h6 : g4 2 6 = f := h4.2.1
    have h7 : g4 2 7 = w2 := h4.2.2.1
    refine ref g4 r5 (-1) s5 (fun c a => h4hi c (Or.inr a)) ez.symm (fun f3 w3 e g2 b1 b2 b3 b4 b5 b6 b7 b8 b9 => ?_) (fun d e => by rw [hz] at e; cases e)
    rw [hz] at e
    cases e
    have hlo : ∀ c j : Int, c ≤ 160 → g2 c j = g4 c j := fun c j a => by rw [b1 c a]
    refine ⟨Rel_txt R s5 ⟨⟨?_, ?_, ?_⟩, fun i a b => absurd b (by rw [b3.1]; omega), ?_, ?_⟩ (fun c j a b d e l p q => ?_) hF5 (fun j a => ?_) (fun j a => ?_) (fun j a => ?_) (fun c j a b d => ?_) (fun j a => ?_) (fun c j a b d => ?_) ?_ ?_ ?_ hwd5 ?_, fun c hc => ⟨?_, ?_⟩⟩
    · rw [hlo 0 1 (by omega), b3.1, hF4 0 1 (by omega) (by omega) (by omega) (by omega) (by omega), hg1, up_s]
    · rw [b3.1]; omega
    · rw [b3.1]; omega
    · rw [hlo 2 6 (by omega), h6, b3.2.1]
    · rw [hlo 2 7 (by omega), h7, b3.2.2]
    · rw [hlo c j a, hF4 c j d e l p q, f1 c j b]
    · rw [b2 j a, h4hi 161 (by omega)]
    · rw [b4 j a, h4hi 163 (by omega)]
    · rw [b5 j a, h4hi 164 (by omega)]
    · rw [b6 c j a b d, h4hi c (by omega)]
    · rw [b7 j a, h4hi 168 (by omega)]
    · rw [b8 c j a b d, h4hi c (by omega)]
    · rw [b9.1, h4hi 174 (by omega)]
    · rw [b9.2.1, h4hi 176 (by omega)]
    · rw [b9.2.2, h4hi 177 (by omega)]
    · rw [hlo _ _ (by omega)]; exact hW0
    · rw [b1 c (by omega), h4hi c (Or.inl hc)]
    · funext j; exact hF5 c j (by omega) (by omega)
  | ok d =>
    have ez : zres (zend (fun i => g 162 i) w) = (zend (fun i => g 162 i) w).1 := by unfold zres; rw [hz]
    have hlb := zloop_b (b := fun i => g 162 i) (n := w) w.toNat (.ok (zd0 (scan fB (fun i => g 162 i) w w.toNat 0))) 0
    have hlb2 : 0 ≤ (zend (fun i => g 162 i) w).1 ∧ (zend (fun i => g 162 i) w).1 ≤ 900 := by
      have h1 : 0 ≤ (zend (fun i => g 162 i) w).1 := hlb.1
      have h2 : (zend (fun i => g 162 i) w).1 ≤ 0 + (w.toNat : Int) := hlb.2
      omega
    rw [ez]
    refine And.intro (fun _ => ?_) (fun q => absurd q (by simp only [wr]; omega))
    rw [hz] at h4
    obtain ⟨hcb, h6, h7, hp, htok⟩ := h4
    obtain ⟨q1, q2, q3, q4, q5, q6, hInv, q8, q9⟩ := hcb
    obtain ⟨D1, D2, D3, D4, D5, D6, D7, D8⟩ := q6
    have hIe := hInv.2.2.2.2.2.1
    have hIn := hInv.2.2.2.2.2.2.2.1
    obtain ⟨v1, v2, v3⟩ := Inv_ev hInv
    have r50 : ∀ j : Int, r5 0 j = r 0 j := fun j => hF5 0 j (by omega) (by omega)
    apply v_EL_takeOverSpares _ s5 hK
    rw [r50 4, r50 3]
    refine ⟨hte4, hte3, fun r3 hr3' r7 hr7 => ?_⟩
    have r7j : ∀ c j : Int, ¬ (c = 0 ∧ (j = 3 ∨ j = 4)) → r7 c j = r5 c j := fun c j a => by rw [hr7, up_n (by omega), hr3', up_n (by omega)]
    rw [r7j 0 6 (by omega), r7j 0 5 (by omega), r50 6, r50 5]
    refine ⟨hlg6, hlg5, fun r9 hr9 r11 hr11 => ?_⟩
    have r11j : ∀ c j : Int, ¬ (c = 0 ∧ (j = 3 ∨ j = 4 ∨ j = 5 ∨ j = 6)) → r11 c j = r5 c j := fun c j a => by rw [hr11, up_n (by omega), hr9, up_n (by omega), r7j c j (by omega)]
    have e3 : r11 0 3 = r 0 4 := by rw [hr11, up_k (by omega), hr9, up_k (by omega), hr7, up_s]
    have e4 : r11 0 4 = r 0 3 := by rw [hr11, up_k (by omega), hr9, up_k (by omega), hr7, up_k (by omega), hr3', up_s]
    have e5 : r11 0 5 = r 0 6 := by rw [hr11, up_s]
    have e6 : r11 0 6 = r 0 5 := by rw [hr11, up_k (by omega), hr9, up_s]
    have s11 : SI r11 := by
      rw [hr11, hr9, hr7, hr3']
      exact SI_r0 (SI_r0 (SI_r0 (SI_r0 s5 (by omega)) (by omega)) (by omega)) (by omega)
    refine l_EL_take (g0 := g4) (n := d.n) (s := zs d) (T := d.T) _ s11 hK hK2 (by rw [e5]; exact hlg6) (by rw [e3]; exact hte4) (by omega) v1 hInv.2.2.2.2.1 (by rw [e3]; exact D1) (by rw [e5]; exact D8) ?_ d.n.toNat 0 g4 (by omega) (by omega) (fun _ _ _ _ => rfl) (fun e a b => absurd b (by omega))
    intro g8 f8 hl8
    rw [e5] at f8 hl8
    refine ⟨s11, ?_⟩
    rw [e3]
    have o8 : ∀ c j : Int, r 0 4 ≤ c → c ≤ r 0 4 + 8 → g8 c j = g4 c j := fun c j a b => f8 c j (by omega) (by omega)
    refine ⟨hte4, fun g13 h13 => ⟨hte4, fun g15 h15 => ?_⟩⟩
    have f15 : ∀ c j : Int, ¬ (c = 57 ∧ (j = 2 ∨ j = 3)) → g15 c j = g8 c j := fun c j a => by rw [h15, up_n (by omega), h13, up_n (by omega)]
    have e57a : g15 57 2 = d.ev := by rw [h15, up_k (by omega), h13, up_s, o8 _ _ (by omega) (by omega)]; exact D6.1
    have e57b : g15 57 3 = d.kp := by rw [h15, up_s, h13, up_f (by omega), o8 _ _ (by omega) (by omega)]; exact D6.2.1
    have g8g : ∀ c j : Int, c ≠ 2 → c ≠ 3 → c ≠ 4 → ¬ (r 0 4 ≤ c ∧ c ≤ r 0 4 + 8) → ¬ (r 0 6 ≤ c ∧ c ≤ r 0 6 + 10) → ¬ (c = 0 ∧ j = 1) → g8 c j = g c j := fun c j a b e k l p => by rw [f8 c j (by omega) (by omega), hF4 c j a b e k l, f1 c j p]
    have hTa : TaP g15 61 (tpx (ss g)) (fun t => ne0 (tcx (ss g) t)) := TaP_mono R.2.2.2.1.2.2.2.2.2.2 (fun c i a b => by rw [f15 c i (by omega), g8g c i (by omega) (by omega) (by omega) (by omega) (by omega) (by omega)])
    apply s_Ta_clear _ s11 hK (Or.inl rfl) hTa
    intro g16 f16 ta16
    refine ⟨rfl, fun g18 h18 g19 h19 => ?_⟩
    have f19 : ∀ c j : Int, c ≠ 62 → c ≠ 63 → ¬ (c = 0 ∧ (j = 14 ∨ j = 17)) → g19 c j = g15 c j := fun c j a b e => by rw [h19, up_n (by omega), h18, up_n (by omega), f16 c j (by omega) (by omega)]
    have lg19 : ∀ c j : Int, r 0 6 ≤ c → c ≤ r 0 6 + 10 → g19 c j = g8 c j := fun c j a b => by rw [f19 c j (by omega) (by omega) (by omega), f15 c j (by omega)]
    have hv8 : LgV g8 (r 0 6) (zs d) d.n := by
      obtain ⟨x1, x2, x3, x4⟩ := D8
      have fo : ∀ c j : Int, c ≠ r 0 6 + 7 → c ≠ r 0 6 + 8 → g8 c j = g4 c j := f8
      refine ⟨by rw [fo _ _ (by omega) (by omega)]; exact x1, x2, fun e a b => ?_, fun p a b => by rw [fo _ _ (by omega) (by omega)]; exact x4 p a b⟩
      have h3 := x3 e a b
      rw [fo (r 0 6 + 1) e (by omega) (by omega), fo (r 0 6 + 2) e (by omega) (by omega), fo (r 0 6 + 3) e (by omega) (by omega), fo (r 0 6 + 4) e (by omega) (by omega), fo (r 0 6 + 5) e (by omega) (by omega), fo (r 0 6 + 9) e (by omega) (by omega)]
      exact ⟨h3.1, h3.2.1, h3.2.2.1, h3.2.2.2.1, h3.2.2.2.2.1, h3.2.2.2.2.2.1, fun q f c e' => by rw [fo (r 0 6 + 6) _ (by omega) (by omega)]; exact h3.2.2.2.2.2.2 q f c e'⟩
    have hv19 : LgV g19 (r11 0 5) (zs d) d.n := by rw [e5]; exact LgV_mono hv8 lg19
    have hl19 : LgL g19 (r11 0 5) (zs d) (LF d.T (zs d) (-1) (-1)) (BF d.T (zs d) (-1) (-1)) d.n := by rw [e5]; exact LgL_mono hl8 lg19
    apply t_EL_rebuild (n := d.n) (T := d.T) (ev := d.ev) (kp := d.kp) (s := zs d) _ s11 hK (by rw [e5]; exact hlg6) hv19 hl19 hInv.2.2.2.2.1 v1 (by rw [f19 57 2 (by omega) (by omega) (by omega)]; exact e57a) (by rw [f19 57 3 (by omega) (by omega) (by omega)]; exact e57b) hIe.2.1 hIe.1
    intro g20 f20 f57 hs20 hq20
    refine ⟨rfl, ?_⟩
    have a20 : ∀ c j : Int, ¬ (45 ≤ c ∧ c ≤ 50) → c ≠ 57 → c ≠ 58 → c ≠ 62 → c ≠ 63 → ¬ (c = 0 ∧ (j = 14 ∨ j = 17)) → g20 c j = g8 c j := fun c j a b e k l p => by rw [f20 c j (by omega), f19 c j k l p, f15 c j (by omega)]
    have hi20 : ∀ c : Int, c < 0 ∨ 161 ≤ c → g20 c = g c := fun c a => by
      funext j
      rw [a20 c j (by omega) (by omega) (by omega) (by omega) (by omega) (by omega), g8g c j (by omega) (by omega) (by omega) (by omega) (by omega) (by omega)]
    have b20 : ∀ c j : Int, 2 ≤ c → c ≤ 44 → g20 c j = g8 c j := fun c j a b => a20 c j (by omega) (by omega) (by omega) (by omega) (by omega) (by omega)
    have hC : TxC g r g20 r11 d := by
      refine ⟨⟨s11, by rw [e3, e4]; omega, by rw [e5, e6]; omega, ?_, ?_⟩, ?_, e6, hi20, ?_, ⟨?_, ?_, ?_⟩, ⟨?_, ?_⟩, ⟨?_, ?_, fun i a b => ?_, ?_, fun t a b => ?_, ?_⟩, ?_, ?_, ⟨?_, ?_⟩, hs20, hq20, ?_, ?_⟩
      · intro j a b; rw [r11j 65 j (by omega), hF5 65 j (by omega) (by omega)]; exact hR.2.2.2.1 j a b
      · intro i j a b c; rw [r11j 65 i (by omega), r11j 65 j (by omega), hF5 65 i (by omega) (by omega), hF5 65 j (by omega) (by omega)]; exact hR.2.2.2.2 i j a b c
      · rw [r11j 4 5 (by omega)]; exact hwd5
      · intro c hc; funext j; rw [r11j c j (by omega)]; exact hF5 c j (by omega) (by omega)
      · rw [a20 0 1 (by omega) (by omega) (by omega) (by omega) (by omega) (by omega), f8 0 1 (by omega) (by omega), hF4 0 1 (by omega) (by omega) (by omega) (by omega) (by omega), hg1, up_s]
      · rw [f20 0 14 (by omega), h19, up_k (by omega), h18, up_s]
      · rw [f20 0 17 (by omega), h19, up_s]
      · rw [b20 2 6 (by omega) (by omega), f8 2 6 (by omega) (by omega)]; exact h6
      · rw [b20 2 7 (by omega) (by omega), f8 2 7 (by omega) (by omega)]; exact h7
      · rw [e3]; exact TeV_mono D1 (fun c j a b => by rw [b20 c j (by omega) (by omega), o8 c j a b])
      · rw [e3, b20 _ _ (by omega) (by omega), o8 _ _ (by omega) (by omega)]; exact D2
      · rw [e3, b20 _ _ (by omega) (by omega), o8 _ _ (by omega) (by omega)]; exact D3 i a b
      · rw [e3, b20 _ _ (by omega) (by omega), o8 _ _ (by omega) (by omega)]; exact D4
      · rw [e3, b20 (r 0 4 + 2) t (by omega) (by omega), o8 (r 0 4 + 2) t (by omega) (by omega), b20 (r 0 4 + 3) t (by omega) (by omega), o8 (r 0 4 + 3) t (by omega) (by omega), b20 (r 0 4 + 4) t (by omega) (by omega), o8 (r 0 4 + 4) t (by omega) (by omega)]; exact D5 t a b
      · rw [e3, b20 _ _ (by omega) (by omega), o8 _ _ (by omega) (by omega)]; exact D6.2.2
      · exact LgV_mono hv19 (fun c j a b => f20 c j (by omega))
      · exact LgL_mono hl19 (fun c j a b => f20 c j (by omega))
      · rw [f57 2 (by omega), f19 57 2 (by omega) (by omega) (by omega)]; exact e57a
      · rw [f57 3 (by omega), f19 57 3 (by omega) (by omega) (by omega)]; exact e57b
      · exact TaP_mono ta16 (fun c j a b => by rw [f20 c j (by omega), h19, up_n (by omega), h18, up_n (by omega)])
      · have h0 := R.2.2.2.1.2.1.2.2.2 0 (Int.le_refl _) G.1.1
        rw [psm_0] at h0
        rw [b20 _ _ (by omega) (by omega), g8g _ _ (by omega) (by omega) (by omega) (by omega) (by omega) (by omega)]
        exact h0
    exact ref g20 r11 _ s11 (fun c a => hi20 c (Or.inr a)) ez.symm (fun f3 w3 e => by rw [hz] at e; cases e) (fun d' e g2 hI2 hM => by rw [hz] at e; cases e; exact Rel_tok R hI2 hC hM)
