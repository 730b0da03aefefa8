/-! SPECS, part zzu: text, the reference's side of what is read. -/
def Mx : Type := (Int → Int) × Int × Int × ab_H
abbrev Mx.b (d : Mx) : Int → Int := Prod.fst d
abbrev Mx.n (d : Mx) : Int := Prod.fst (Prod.snd d)
abbrev Mx.l (d : Mx) : Int := Prod.fst (Prod.snd (Prod.snd d))
abbrev Mx.g0 (d : Mx) : ab_H := (Prod.snd (Prod.snd (Prod.snd d)))
abbrev Mx.mk (b1 : Int → Int) (n1 : Int) (l1 : Int) (g01 : ab_H) : Mx := (b1, n1, l1, g01)
def DatM (g : ab_H) (d : Zd) : Prop := (g 163 6 = d.nA ∧ g 163 7 = d.nT ∧ g 163 8 = d.ev ∧ g 163 9 = d.kp ∧ g 163 10 = d.sd ∧ g 163 11 = d.n) ∧ (∀ i : Int, 0 ≤ i → i < d.nA → g 164 (8 + i) = d.an i) ∧ (∀ t : Int, 0 ≤ t → t < d.nT → g 165 (4 + t) = d.tn t ∧ g 166 (4 + t) = d.tk t ∧ g 167 (4 + t) = d.tf t) ∧ (∀ i : Int, 0 ≤ i → i < 14 → g 168 (14 + i) = d.T.1 i ∧ ∀ k : Int, 0 ≤ k → k < d.T.1 i → g 169 (56 + (4 * i + k)) = d.T.2.1 (4 * i + k) ∧ g 170 (56 + (4 * i + k)) = d.T.2.2.1 (4 * i + k) ∧ g 171 (56 + (4 * i + k)) = d.T.2.2.2 (4 * i + k)) ∧ (∀ e : Int, 0 ≤ e → e < d.n → (∀ f : Int, 0 ≤ f → f < 8 → g 172 (8 * e + f) = d.E e f) ∧ g 173 e = if zs d (9 * e + 8) = 0 then -2 else zs d (9 * e + 8) - 1) ∧ (g 161 14 = d.sn ∧ g 161 15 = d.sb)
def MFp (x : Mx) (g : ab_H) : Prop := (∀ c j : Int, c ≠ 161 → ¬ (163 ≤ c ∧ c ≤ 173) → g c j = x.g0 c j) ∧ (∀ j : Int, ¬ (14 ≤ j ∧ j ≤ 23) → g 161 j = x.g0 161 j) ∧ (∀ j : Int, j < 6 → g 163 j = x.g0 163 j) ∧ (∀ j : Int, j < 8 → g 164 j = x.g0 164 j) ∧ (∀ c j : Int, 165 ≤ c → c ≤ 167 → j < 4 → g c j = x.g0 c j) ∧ (∀ j : Int, j < 14 → g 168 j = x.g0 168 j) ∧ ∀ c j : Int, 169 ≤ c → c ≤ 171 → j < 56 → g c j = x.g0 c j
def MB (x : Mx) (d : Zd) (g : ab_H) : Prop := TxV g x.b x.n ∧ (0 ≤ g 161 18 ∧ g 161 18 ≤ x.n) ∧ DatM g d ∧ Inv d ∧ MFp x g ∧ g 161 16 = x.l
def TokM (b : Int → Int) (n p : Int) (g : ab_H) : Prop := g 161 19 = p ∧ g 161 18 = tq b n p ∧ g 161 20 = tki b n p ∧ (tki b n p ≤ 2 → g 161 21 = tv b n p)
def MT (x : Mx) (d : Zd) (g : ab_H) : Prop := MB x d g ∧ g 161 22 = 0 ∧ (0 ≤ d.p ∧ d.p ≤ x.n) ∧ TokM x.b x.n d.p g
def MR (x : Mx) (X : ZX) (g : ab_H) : Prop := match X with
  | .error (f, w) => (∃ d : Zd, MB x d g) ∧ g 161 22 = f ∧ g 161 23 = w ∧ (1 ≤ f ∧ f ≤ 4)
  | .ok d => MT x d g
theorem DatM_k {g g' : ab_H} {d : Zd} (h : DatM g d) (hf : ∀ c : Int, 163 ≤ c → c ≤ 173 → g' c = g c) (h14 : g' 161 14 = g 161 14) (h15 : g' 161 15 = g 161 15) : DatM g' d := by
  obtain ⟨h1, h2, h3, h4, h5, h6⟩ := h
  refine ⟨?_, fun i a b => ?_, fun t a b => ?_, fun i a b => ?_, fun e a b => ?_, ?_⟩
  · rw [hf 163 (by omega) (by omega)]; exact h1
  · rw [hf 164 (by omega) (by omega)]; exact h2 i a b
  · rw [hf 165 (by omega) (by omega), hf 166 (by omega) (by omega), hf 167 (by omega) (by omega)]; exact h3 t a b
  · rw [hf 168 (by omega) (by omega), hf 169 (by omega) (by omega), hf 170 (by omega) (by omega), hf 171 (by omega) (by omega)]; exact h4 i a b
  · rw [hf 172 (by omega) (by omega), hf 173 (by omega) (by omega)]; exact h5 e a b
  · rw [h14, h15]; exact h6
theorem MB_k {x : Mx} {d : Zd} {g g' : ab_H} (h : MB x d g) (hc : ∀ c : Int, c ≠ 161 → g' c = g c) (hj : ∀ j : Int, j < 18 ∨ 23 < j → g' 161 j = g 161 j) (h18 : 0 ≤ g' 161 18 ∧ g' 161 18 ≤ x.n) : MB x d g' := by
  obtain ⟨h1, _, h3, h4, h5, h6⟩ := h
  refine ⟨⟨by rw [hj 17 (by omega)]; exact h1.1, fun i a b => by rw [hc 162 (by omega)]; exact h1.2 i a b⟩, h18, DatM_k h3 (fun c a b => hc c (by omega)) (hj 14 (by omega)) (hj 15 (by omega)), h4, ⟨fun c j a b => by rw [hc c a]; exact h5.1 c j a b, fun j a => by rw [hj j (by omega)]; exact h5.2.1 j a, fun j a => by rw [hc 163 (by omega)]; exact h5.2.2.1 j a, fun j a => by rw [hc 164 (by omega)]; exact h5.2.2.2.1 j a, fun c j a b e => by rw [hc c (by omega)]; exact h5.2.2.2.2.1 c j a b e, fun j a => by rw [hc 168 (by omega)]; exact h5.2.2.2.2.2.1 j a, fun c j a b e => by rw [hc c (by omega)]; exact h5.2.2.2.2.2.2 c j a b e⟩, by rw [hj 16 (by omega)]; exact h6⟩
theorem MR_f0 {x : Mx} {X : ZX} {g : ab_H} (h : MR x X g) : (wr (g 161 22) = wr 0 → ∃ d : Zd, X = .ok d) ∧ (¬ wr (g 161 22) = wr 0 → ∃ f w : Int, X = ZX.bad f w) := by
  cases X with
  | error q =>
    obtain ⟨f, w⟩ := q
    obtain ⟨_, h6, _, h8⟩ := h
    exact ⟨fun e => absurd e (by rw [h6]; simp only [wr]; omega), fun _ => ⟨f, w, rfl⟩⟩
  | ok d =>
    obtain ⟨_, h6, _⟩ := h
    exact ⟨fun _ => ⟨d, rfl⟩, fun e => absurd (by rw [h6]) e⟩
theorem MR_b {x : Mx} {X : ZX} {g : ab_H} (h : MR x X g) : ∃ d : Zd, MB x d g ∧ ∀ d' : Zd, X = .ok d' → d' = d := by
  cases X with
  | error q =>
    obtain ⟨f, w⟩ := q
    obtain ⟨⟨d, hd⟩, _⟩ := h
    exact ⟨d, hd, fun d' e => by cases e⟩
  | ok d => exact ⟨d, h.1, fun d' e => by cases e; rfl⟩
/-- a goal by whether there is a FAULT -/
theorem u_end {g : ab_H} {x : Mx} {X : ZX} {A B : Prop} (hx : MR x X g) (h0 : ∀ f w : Int, X = ZX.bad f w → A) (h1 : ∀ d : Zd, X = .ok d → B) : (¬ wr (g 161 22) = wr 0 → A) ∧ (wr (g 161 22) = wr 0 → B) := by
  have h := MR_f0 hx
  refine ⟨fun e => ?_, fun e => ?_⟩
  · obtain ⟨f, w, e2⟩ := h.2 e
    exact h0 f w e2
  · obtain ⟨d, e2⟩ := h.1 e
    exact h1 d e2
theorem u_wrong {K : Int} {S : Nat} {g r : ab_H} {x : Mx} {X : ZX} {f : Int} (P : ab_H → ab_H → Prop) (hr : SI r) (hK : 186 ≤ K) (hx : MR x X g) (hf : 1 ≤ f ∧ f ≤ 4) (h : ∀ g' : ab_H, MR x (zfail X f (zpl X)) g' → (∀ c : Int, c ≠ 161 → g' c = g c) → P g' r) : ab_RV m_M_wrong [(2, 161), (0, f)] K S g r P := by
  apply v_M_wrong _ hr hK
  refine And.symm (u_end hx (fun f2 w2 e => ?_) (fun d e g1 hg1 g2 hg2 => ?_))
  · refine h g ?_ (fun _ _ => rfl)
    rw [e]; rw [e] at hx; exact hx
  · refine h g2 ?_ (fun c a => by rw [hg2, up_f a, hg1, up_f a])
    rw [e]; rw [e] at hx
    obtain ⟨h1, h2, h3, h4⟩ := hx
    have k19 : g1 161 19 = d.p := by rw [hg1, up_k (by omega)]; exact h4.1
    exact ⟨⟨d, MB_k h1 (fun c a => by rw [hg2, up_f a, hg1, up_f a]) (fun j a => by rw [hg2, up_k (by omega), hg1, up_k (by omega)]) (by rw [hg2, up_k (by omega), hg1, up_k (by omega)]; exact h1.2.1)⟩, by rw [hg2, up_k (by omega), hg1, up_s], by rw [hg2, up_s]; exact k19, hf⟩
theorem u_token {K : Int} {S : Nat} {g r : ab_H} {x : Mx} {d : Zd} (P : ab_H → ab_H → Prop) (hr : SI r) (hK : 186 ≤ K) (hb : TxB x.b x.n) (hx : MR x (.ok d) g) (h : ∀ g' : ab_H, MR x (zadv x.b x.n (.ok d)) g' → (∀ c : Int, c ≠ 161 → g' c = g c) → P g' r) : ab_RV m_M_token [(2, 161)] K S g r P := by
  obtain ⟨h1, h2, h3, h4⟩ := hx
  apply s_M_token _ hr hK hb h1.1 h4.2.1 (by have := tk_b hb h3; omega)
  intro q k v g' t1 kf e19 e18 e20 e21
  have e : scan fB x.b x.n (x.n - tq x.b x.n d.p).toNat (tq x.b x.n d.p) = nxp x.b x.n d.p := rfl
  rw [e] at t1 e19
  obtain ⟨f1, f2, f3⟩ := Tk1_fn t1
  have hp := nxp_b hb h3
  have hp2 : 0 ≤ nxp x.b x.n d.p ∧ nxp x.b x.n d.p ≤ x.n := by omega
  have hq := tk_b hb hp2
  refine h g' ⟨?_, by rw [kf.2 22 (by omega)]; exact h2, hp2, e19, by rw [e18, f1], by rw [e20, f2], fun a => by rw [e21]; exact f3 (by rw [f2]; exact a)⟩ kf.1
  exact MB_k (d := (Zd.mk (nxp x.b x.n d.p) d.nA d.an d.nT d.tn d.tk d.tf d.T d.ev d.kp d.sd d.sn d.sb d.n d.E)) h1 kf.1 (fun j a => kf.2 j (by omega)) (by rw [e18, f1]; omega)
theorem u_goOn {K : Int} {S : Nat} {g r : ab_H} {x : Mx} {X : ZX} (P : ab_H → ab_H → Prop) (hr : SI r) (hK : 186 ≤ K) (hb : TxB x.b x.n) (hx : MR x X g) (h : ∀ g' : ab_H, MR x (zadv x.b x.n X) g' → (∀ c : Int, c ≠ 161 → g' c = g c) → P g' r) : ab_RV m_M_goOn [(2, 161)] K S g r P := by
  apply v_M_goOn _ hr hK
  refine u_end hx (fun f w e => ?_) (fun d e => ?_)
  · rw [e] at hx h; exact h g hx (fun _ _ => rfl)
  · rw [e] at hx h
    apply u_token _ hr hK hb hx
    exact fun g' h' f' => ⟨rfl, h g' h' f'⟩
theorem u_num {K : Int} {S : Nat} {g r : ab_H} {x : Mx} {X : ZX} {lo hi : Int} (P : Int → ab_H → ab_H → Prop) (hr : SI r) (hK : 186 ≤ K) (hb : TxB x.b x.n) (hx : MR x X g) (hl : 0 ≤ lo ∧ lo ≤ 9999) (hh : 0 ≤ hi ∧ hi ≤ 99999) (h : ∀ g' : ab_H, MR x (znum x.b x.n X lo hi).2 g' → (∀ c : Int, c ≠ 161 → g' c = g c) → P (znum x.b x.n X lo hi).1 g' r) : ab_RI m_M_numeral [(2, 161), (0, lo), (0, hi)] K S g r P := by
  apply v_M_numeral _ hr hK
  refine And.symm (u_end hx (fun f w e => ?_) (fun d e => ?_))
  · rw [e] at hx h; exact h g hx (fun _ _ => rfl)
  · rw [e] at hx h
    have hx2 := hx
    obtain ⟨h1, h2, h3, h4⟩ := hx2
    have hkb := (tk_b hb h3).2.2.1
    have hno : ¬ wr 0 = wr 0 → False := fun q => q rfl
    -- behind a FAULT
    have bad : ∀ (f : Int), 1 ≤ f ∧ f ≤ 4 → znum x.b x.n (.ok d) lo hi = (lo, ZX.bad f d.p) → ab_RV m_M_wrong [(2, 161), (0, f)] K S g r (fun g1 r' => r' = r ∧ ((¬ wr (g1 161 22) = wr 0 → ab_RV m_M_goOn [(2, 161)] K S g1 r (fun g3 r' => r' = r ∧ (P lo g3 r))) ∧ (wr (g1 161 22) = wr 0 → ab_RV m_M_goOn [(2, 161)] K S g1 r (fun g5 r' => r' = r ∧ (P (g1 161 21) g5 r))))) := by
      intro f hf hz
      rw [hz] at h
      apply u_wrong _ hr hK hx hf
      intro g1 k1 f1
      have k1' : MR x (ZX.bad f d.p) g1 := k1
      refine ⟨rfl, u_end k1' (fun f w e => ?_) (fun d e => by cases e)⟩
      apply u_goOn _ hr hK hb k1'
      exact fun g3 k3 f3 => ⟨rfl, h g3 k3 (fun c a => by rw [f3 c a, f1 c a])⟩
    rw [h4.2.2.1]
    refine And.intro (fun e2 => ?_) (fun e2 => ?_)
    · have ek : tki x.b x.n d.p = 2 := by simp only [wr] at e2; omega
      have e21 := h4.2.2.2 (by omega)
      have hv := (tk_b hb h3).2.2.2.2.2.1 ek
      have hz : znum x.b x.n (.ok d) lo hi = if tv x.b x.n d.p < lo ∨ hi < tv x.b x.n d.p then (lo, ZX.bad 2 d.p) else (tv x.b x.n d.p, zadv x.b x.n (.ok d)) := by
        show (if tki x.b x.n d.p ≠ 2 then (lo, ZX.bad 1 d.p) else if tv x.b x.n d.p < lo ∨ hi < tv x.b x.n d.p then (lo, ZX.bad 2 d.p) else (tv x.b x.n d.p, zadv x.b x.n (.ok d))) = _
        rw [if_neg (fun q => q ek)]
      rw [e21]
      refine And.intro (fun e3 => bad 2 (by omega) (by rw [hz, if_pos (by simp only [wr] at e3; omega)])) (fun e3 => And.intro (fun e4 => ?_) (fun e4 => bad 2 (by omega) (by rw [hz, if_pos (by simp only [wr] at e4; omega)])))
      rw [hz, if_neg (by simp only [wr] at e3 e4; omega)] at h
      rw [h2]
      refine And.intro (fun q => absurd rfl q) (fun _ => ?_)
      apply u_goOn _ hr hK hb hx
      exact fun g3 k3 f3 => ⟨rfl, h g3 k3 f3⟩
    · have ek : tki x.b x.n d.p ≠ 2 := fun q => e2 (by rw [q])
      exact bad 1 (by omega) (if_pos ek)
theorem u_word {K : Int} {S : Nat} {g r : ab_H} {x : Mx} {X : ZX} {lo hi : Int} (P : Int → ab_H → ab_H → Prop) (hr : SI r) (hK : 186 ≤ K) (hb : TxB x.b x.n) (hx : MR x X g) (hl : 0 ≤ lo ∧ lo ≤ 16) (hh : 0 ≤ hi ∧ hi ≤ 16) (h : ∀ g' : ab_H, MR x (zword x.b x.n X lo hi).2 g' → (∀ c : Int, c ≠ 161 → g' c = g c) → P (zword x.b x.n X lo hi).1 g' r) : ab_RI m_M_wordOf [(2, 161), (0, lo), (0, hi)] K S g r P := by
  apply v_M_wordOf _ hr hK
  refine And.symm (u_end hx (fun f w e => ?_) (fun d e => ?_))
  · rw [e] at hx h; exact h g hx (fun _ _ => rfl)
  · rw [e] at hx h
    have hx2 := hx
    obtain ⟨h1, h2, h3, h4⟩ := hx2
    have hkb := (tk_b hb h3).2.2.1
    have bad : tki x.b x.n d.p ≠ 0 ∨ tv x.b x.n d.p < lo ∨ hi < tv x.b x.n d.p → ab_RV m_M_wrong [(2, 161), (0, 1)] K S g r (fun g1 r' => r' = r ∧ ((¬ wr (g1 161 22) = wr 0 → ab_RV m_M_goOn [(2, 161)] K S g1 r (fun g3 r' => r' = r ∧ (P lo g3 r))) ∧ (wr (g1 161 22) = wr 0 → ab_RV m_M_goOn [(2, 161)] K S g1 r (fun g5 r' => r' = r ∧ (P (g1 161 21) g5 r))))) := by
      intro hz
      have hz2 : zword x.b x.n (.ok d) lo hi = (lo, ZX.bad 1 d.p) := if_pos hz
      rw [hz2] at h
      apply u_wrong _ hr hK hx (by omega)
      intro g1 k1 f1
      have k1' : MR x (ZX.bad 1 d.p) g1 := k1
      refine ⟨rfl, u_end k1' (fun f w e => ?_) (fun d e => by cases e)⟩
      apply u_goOn _ hr hK hb k1'
      exact fun g3 k3 f3 => ⟨rfl, h g3 k3 (fun c a => by rw [f3 c a, f1 c a])⟩
    rw [h4.2.2.1]
    refine And.intro (fun e2 => bad (Or.inl (fun q => e2 (by rw [q])))) (fun e2 => ?_)
    have ek : tki x.b x.n d.p = 0 := by simp only [wr] at e2; omega
    have e21 := h4.2.2.2 (by omega)
    have hv := (tk_b hb h3).2.2.2.1 ek
    rw [e21]
    refine And.intro (fun e3 => bad (Or.inr (Or.inl (by simp only [wr] at e3; omega)))) (fun e3 => And.intro (fun e4 => ?_) (fun e4 => bad (Or.inr (Or.inr (by simp only [wr] at e4; omega)))))
    have hz2 : zword x.b x.n (.ok d) lo hi = (tv x.b x.n d.p, zadv x.b x.n (.ok d)) := if_neg (by simp only [wr] at e3 e4; omega)
    rw [hz2] at h
    rw [h2]
    refine And.intro (fun q => absurd rfl q) (fun _ => ?_)
    apply u_goOn _ hr hK hb hx
    exact fun g3 k3 f3 => ⟨rfl, h g3 k3 f3⟩
