/-! SPECS, part zzj: text, what is read: states without a FAULT, and FAULTS; the class's side of them. -/
def Zd : Type := Int × Int × (Int → Int) × Int × (Int → Int) × (Int → Int) × (Int → Int) × TT × Int × Int × Int × Int × Int × Int × (Int → Int → Int)
abbrev Zd.p (d : Zd) : Int := Prod.fst d
abbrev Zd.nA (d : Zd) : Int := Prod.fst (Prod.snd d)
abbrev Zd.an (d : Zd) : Int → Int := Prod.fst (Prod.snd (Prod.snd d))
abbrev Zd.nT (d : Zd) : Int := Prod.fst (Prod.snd (Prod.snd (Prod.snd d)))
abbrev Zd.tn (d : Zd) : Int → Int := Prod.fst (Prod.snd (Prod.snd (Prod.snd (Prod.snd d))))
abbrev Zd.tk (d : Zd) : Int → Int := Prod.fst (Prod.snd (Prod.snd (Prod.snd (Prod.snd (Prod.snd d)))))
abbrev Zd.tf (d : Zd) : Int → Int := Prod.fst (Prod.snd (Prod.snd (Prod.snd (Prod.snd (Prod.snd (Prod.snd d))))))
abbrev Zd.T (d : Zd) : TT := Prod.fst (Prod.snd (Prod.snd (Prod.snd (Prod.snd (Prod.snd (Prod.snd (Prod.snd d)))))))
abbrev Zd.ev (d : Zd) : Int := Prod.fst (Prod.snd (Prod.snd (Prod.snd (Prod.snd (Prod.snd (Prod.snd (Prod.snd (Prod.snd d))))))))
abbrev Zd.kp (d : Zd) : Int := Prod.fst (Prod.snd (Prod.snd (Prod.snd (Prod.snd (Prod.snd (Prod.snd (Prod.snd (Prod.snd (Prod.snd d)))))))))
abbrev Zd.sd (d : Zd) : Int := Prod.fst (Prod.snd (Prod.snd (Prod.snd (Prod.snd (Prod.snd (Prod.snd (Prod.snd (Prod.snd (Prod.snd (Prod.snd d))))))))))
abbrev Zd.sn (d : Zd) : Int := Prod.fst (Prod.snd (Prod.snd (Prod.snd (Prod.snd (Prod.snd (Prod.snd (Prod.snd (Prod.snd (Prod.snd (Prod.snd (Prod.snd d)))))))))))
abbrev Zd.sb (d : Zd) : Int := Prod.fst (Prod.snd (Prod.snd (Prod.snd (Prod.snd (Prod.snd (Prod.snd (Prod.snd (Prod.snd (Prod.snd (Prod.snd (Prod.snd (Prod.snd d))))))))))))
abbrev Zd.n (d : Zd) : Int := Prod.fst (Prod.snd (Prod.snd (Prod.snd (Prod.snd (Prod.snd (Prod.snd (Prod.snd (Prod.snd (Prod.snd (Prod.snd (Prod.snd (Prod.snd (Prod.snd d)))))))))))))
abbrev Zd.E (d : Zd) : Int → Int → Int := (Prod.snd (Prod.snd (Prod.snd (Prod.snd (Prod.snd (Prod.snd (Prod.snd (Prod.snd (Prod.snd (Prod.snd (Prod.snd (Prod.snd (Prod.snd (Prod.snd d))))))))))))))
abbrev Zd.mk (p1 : Int) (nA1 : Int) (an1 : Int → Int) (nT1 : Int) (tn1 : Int → Int) (tk1 : Int → Int) (tf1 : Int → Int) (T1 : TT) (ev1 : Int) (kp1 : Int) (sd1 : Int) (sn1 : Int) (sb1 : Int) (n1 : Int) (E1 : Int → Int → Int) : Zd := (p1, nA1, an1, nT1, tn1, tk1, tf1, T1, ev1, kp1, sd1, sn1, sb1, n1, E1)
abbrev ZX : Type := Except (Int × Int) Zd
abbrev ZX.bad (f w : Int) : ZX := Except.error (f, w)
/-- EVENTS come one after another -/
def bsf (E : Int → Int → Int) : Nat → Int → Int
  | 0 => fun _ => 0
  | m + 1 => evadd (bsf E m) m (E m 0) (E m 1) (E m 2) (E m 3) (E m 4) (E m 5) (E m 6) (E m 7)
def zs (d : Zd) : Int → Int := bsf d.E d.n.toNat
theorem bsf_ext {E E' : Int → Int → Int} : ∀ m : Nat, (∀ e : Int, 0 ≤ e → e < m → E e = E' e) → bsf E m = bsf E' m := by
  intro m
  induction m with
  | zero => intro _; rfl
  | succ m ih =>
    intro h
    show evadd (bsf E m) m (E m 0) (E m 1) (E m 2) (E m 3) (E m 4) (E m 5) (E m 6) (E m 7) = evadd (bsf E' m) m (E' m 0) (E' m 1) (E' m 2) (E' m 3) (E' m 4) (E' m 5) (E' m 6) (E' m 7)
    rw [ih (fun e a c => h e a (by omega)), h m (by omega) (by omega)]
/-- what stands of an EVENT that comes -/
def EvIn (s : Int → Int) (E : Int → Int → Int) (m nA : Int) : Prop := EvNew s m (E m 0) (E m 1) (E m 2) (E m 3) (E m 4) ∧ ((0 ≤ E m 5 ∧ E m 5 ≤ 99999) ∧ (0 ≤ E m 6 ∧ E m 6 ≤ 99999) ∧ (0 ≤ E m 7 ∧ E m 7 ≤ 99999)) ∧ (E m 0 = 7 → s (9 * (E m 2) + 8) = 0) ∧ (E m 0 ≠ 7 → E m 1 < nA) ∧ ((E m 0 = 6 → E m 2 < nA) ∧ (E m 0 = 7 → E m 1 = -2) ∧ (E m 0 ≠ 6 → E m 0 ≠ 7 → E m 2 = -2))
def EvAll (E : Int → Int → Int) (n nA : Int) : Prop := ∀ m : Nat, (m : Int) < n → EvIn (bsf E m) E m nA
def Inv (d : Zd) : Prop := (0 ≤ d.nA ∧ d.nA ≤ 8) ∧ (∀ i : Int, 0 ≤ i → i < d.nA → 0 ≤ d.an i ∧ d.an i ≤ 2147483647) ∧ (0 ≤ d.nT ∧ d.nT ≤ 4) ∧ (∀ t : Int, 0 ≤ t → t < d.nT → (0 ≤ d.tn t ∧ d.tn t ≤ 2147483647) ∧ (0 ≤ d.tk t ∧ d.tk t ≤ 6) ∧ (1 ≤ d.tf t ∧ d.tf t ≤ 3)) ∧ TOk d.T ∧ ((1 ≤ d.ev ∧ d.ev ≤ 999) ∧ (0 ≤ d.kp ∧ d.kp ≤ 6) ∧ (0 ≤ d.sd ∧ d.sd ≤ 99999)) ∧ ((d.sn = 0 ∨ d.sn = 1) ∧ (d.sb = 0 ∨ d.sb = 1)) ∧ (0 ≤ d.n ∧ d.n ≤ 50) ∧ EvAll d.E d.n d.nA
theorem EvAll_ok {E : Int → Int → Int} {n nA : Int} (h : EvAll E n nA) : ∀ m : Nat, (m : Int) ≤ n → EvOk (bsf E m) m ∧ VdOk (bsf E m) m ∧ AcOk (bsf E m) m nA := by
  intro m
  induction m with
  | zero => intro _; exact ⟨fun e a c => absurd c (by omega), ⟨fun e a c => absurd c (by omega), fun e a c => absurd c (by omega)⟩, fun e a c => absurd c (by omega)⟩
  | succ m ih =>
    intro hm
    obtain ⟨h1, h2, h3⟩ := ih (by omega)
    obtain ⟨k1, k2, k3, k4, k5⟩ := h m (by omega)
    rw [show ((m + 1 : Nat) : Int) = (m : Int) + 1 by omega]
    exact ⟨EvOk_add h1 k1 (by omega) k2.1 k2.2.1 k2.2.2, VdOk_add h2 h1 k1 (by omega) k3, AcOk_add h3 k4 k5⟩
theorem Inv_ev {d : Zd} (h : Inv d) : EvOk (zs d) d.n ∧ VdOk (zs d) d.n ∧ AcOk (zs d) d.n d.nA := by
  have h1 := EvAll_ok h.2.2.2.2.2.2.2.2 d.n.toNat (by have := h.2.2.2.2.2.2.2.1; omega)
  have e : ((d.n.toNat : Nat) : Int) = d.n := by have := h.2.2.2.2.2.2.2.1; omega
  rw [e] at h1
  exact h1
def Cx : Type := (Int → Int) × Int × Int × Int × ab_H × ab_H
abbrev Cx.b (d : Cx) : Int → Int := Prod.fst d
abbrev Cx.n (d : Cx) : Int := Prod.fst (Prod.snd d)
abbrev Cx.o (d : Cx) : Int := Prod.fst (Prod.snd (Prod.snd d))
abbrev Cx.lo (d : Cx) : Int := Prod.fst (Prod.snd (Prod.snd (Prod.snd d)))
abbrev Cx.g0 (d : Cx) : ab_H := Prod.fst (Prod.snd (Prod.snd (Prod.snd (Prod.snd d))))
abbrev Cx.r0 (d : Cx) : ab_H := (Prod.snd (Prod.snd (Prod.snd (Prod.snd (Prod.snd d)))))
abbrev Cx.mk (b1 : Int → Int) (n1 : Int) (o1 : Int) (lo1 : Int) (g01 : ab_H) (r01 : ab_H) : Cx := (b1, n1, o1, lo1, g01, r01)
def CxOk (c : Cx) : Prop := TxB c.b c.n ∧ isTe c.o ∧ (c.lo = 23 ∨ c.lo = 34)
theorem CxOk_lg {c : Cx} (h : CxOk c) : isLg c.lo := by
  rcases h.2.2 with h | h
  · exact Or.inl h
  · exact Or.inr (Or.inl h)
/-- what the class has read lies so -/
def DatC (c : Cx) (g : ab_H) (d : Zd) : Prop := TeV g c.o d.T ∧ g c.o 1 = d.nA ∧ (∀ i : Int, 0 ≤ i → i < d.nA → g (c.o + 1) i = d.an i) ∧ g c.o 5 = d.nT ∧ (∀ t : Int, 0 ≤ t → t < d.nT → g (c.o + 2) t = d.tn t ∧ g (c.o + 3) t = d.tk t ∧ g (c.o + 4) t = d.tf t) ∧ (g c.o 10 = d.ev ∧ g c.o 11 = d.kp ∧ g c.o 12 = d.sd) ∧ (g 2 4 = d.sn ∧ g 2 5 = d.sb) ∧ LgV g c.lo (zs d) d.n
def CFp (c : Cx) (g : ab_H) : Prop := ∀ x j : Int, x ≠ 2 → x ≠ 4 → ¬ (c.o ≤ x ∧ x ≤ c.o + 8) → ¬ (c.lo ≤ x ∧ x ≤ c.lo + 10) → g x j = c.g0 x j
def RFp (c : Cx) (r : ab_H) : Prop := ∀ x j : Int, ¬ (x = 2 ∧ (j = 2 ∨ j = 3)) → ¬ (x = 4 ∧ j = 5) → r x j = ab_up c.r0 4 0 1 x j
def CB (c : Cx) (d : Zd) (g r : ab_H) : Prop := TcV g c.b c.n ∧ (0 ≤ g 4 2 ∧ g 4 2 ≤ c.n) ∧ isWd (r 4 5) ∧ SI r ∧ (r 2 2 = c.o ∧ r 2 3 = c.lo) ∧ DatC c g d ∧ Inv d ∧ CFp c g ∧ RFp c r
def CT (c : Cx) (d : Zd) (g r : ab_H) : Prop := CB c d g r ∧ g 2 6 = 0 ∧ g 2 7 = -1 ∧ (0 ≤ d.p ∧ d.p ≤ c.n) ∧ TokC c.b c.n d.p g r
def CR (c : Cx) (X : ZX) (g r : ab_H) : Prop := match X with
  | .error (f, w) => (∃ d : Zd, CB c d g r) ∧ g 2 6 = f ∧ g 2 7 = w ∧ (1 ≤ f ∧ f ≤ 4)
  | .ok d => CT c d g r
def zadv (b : Int → Int) (n : Int) (X : ZX) : ZX := match X with
  | .error (f, w) => ZX.bad f w
  | .ok d => .ok (Zd.mk (nxp b n d.p) d.nA d.an d.nT d.tn d.tk d.tf d.T d.ev d.kp d.sd d.sn d.sb d.n d.E)
def zfail (X : ZX) (f w : Int) : ZX := match X with
  | .error (f, w) => ZX.bad f w
  | .ok _ => ZX.bad f w
theorem LgV_mono2 {g g' : ab_H} {o n : Int} {s : Int → Int} (h : LgV g o s n) (hf : ∀ c j : Int, o ≤ c → c ≤ o + 10 → g' c j = g c j) : LgV g' o s n := LgV_mono h hf
theorem DatC_k {c : Cx} {g g' : ab_H} {d : Zd} (hc : CxOk c) (h : DatC c g d) (hf : ∀ x j : Int, x ≠ 3 → x ≠ 4 → x ≠ 2 ∨ j = 4 ∨ j = 5 → g' x j = g x j) : DatC c g' d := by
  obtain ⟨h1, h2, h3, h4, h5, h6, h7, h8⟩ := h
  have ho := hc.2.1
  have hl := hc.2.2
  unfold isTe at ho
  have fo : ∀ x j : Int, c.o ≤ x → x ≤ c.o + 8 → g' x j = g x j := fun x j a b => hf x j (by omega) (by omega) (Or.inl (by omega))
  refine ⟨TeV_mono h1 fo, by rw [fo _ _ (by omega) (by omega)]; exact h2, fun i a b => by rw [fo _ _ (by omega) (by omega)]; exact h3 i a b, by rw [fo _ _ (by omega) (by omega)]; exact h4, fun t a b => ?_, ?_, ?_, LgV_mono h8 (fun x j a b => hf x j (by omega) (by omega) (Or.inl (by omega)))⟩
  · rw [fo (c.o + 2) t (by omega) (by omega), fo (c.o + 3) t (by omega) (by omega), fo (c.o + 4) t (by omega) (by omega)]; exact h5 t a b
  · rw [fo c.o 10 (by omega) (by omega), fo c.o 11 (by omega) (by omega), fo c.o 12 (by omega) (by omega)]; exact h6
  · rw [hf 2 4 (by omega) (by omega) (by omega), hf 2 5 (by omega) (by omega) (by omega)]; exact h7
theorem SI_wd {r : ab_H} {k : Nat} (h : SI r) : SI (ab_up r 4 5 (-5 - (k : Int))) := SI_up h (by decide)
theorem CB_tok {c : Cx} {d : Zd} {g g' r r' : ab_H} (hc : CxOk c) (h : CB c d g r) (hs : SI r') (hk : CKr g g') (h2 : 0 ≤ g' 4 2 ∧ g' 4 2 ≤ c.n) (hr : r' = r ∨ ∃ k : Nat, k < 17 ∧ r' = ab_up r 4 5 (-5 - (k : Int))) : CB c d g' r' := by
  obtain ⟨h1, _, h3, h4, h5, h6, h7, h8, h9⟩ := h
  have hr2 : ∀ x j : Int, ¬ (x = 4 ∧ j = 5) → r' x j = r x j := by
    intro x j a
    rcases hr with e | ⟨k, _, e⟩
    · rw [e]
    · rw [e]
      by_cases hx : x = 4
      · rw [hx, up_k (by omega)]
      · rw [up_f hx]
  refine ⟨TcV_k h1 hk, h2, ?_, hs, ⟨by rw [hr2 2 2 (by omega)]; exact h5.1, by rw [hr2 2 3 (by omega)]; exact h5.2⟩, DatC_k hc h6 (fun x j a b _ => by rw [hk.1 x b]), h7, fun x j a e f l => by rw [hk.1 x e]; exact h8 x j a e f l, fun x j a b => by rw [hr2 x j b]; exact h9 x j a b⟩
  rcases hr with e | ⟨k, hk2, e⟩
  · rw [e]; exact h3
  · rw [e, up_s]; unfold isWd; omega
theorem CB_40 {c : Cx} {d : Zd} {g r : ab_H} (h : CB c d g r) : r 4 0 = 1 := by
  rw [h.2.2.2.2.2.2.2.2 4 0 (by omega) (by omega), up_s]
theorem q_adv {K : Int} {S : Nat} {g r : ab_H} {c : Cx} {X : ZX} (P : ab_H → ab_H → Prop) (hr : SI r) (hK : 186 ≤ K) (hc : CxOk c) (hx : CR c X g r) (h : ∀ g' r' : ab_H, SI r' → CR c (zadv c.b c.n X) g' r' → P g' r') : ab_RV m_To_advance [(2, 4)] K S g r P := by
  have key : ∀ d : Zd, CB c d g r → ab_RV m_To_advance [(2, 4)] K S g r (fun g' r' => SI r' ∧ CKr g g' ∧ CB c d g' r' ∧ TokC c.b c.n (scan fB c.b c.n (c.n - g 4 2).toNat (g 4 2)) g' r') := by
    intro d hd
    apply s_To_advance _ hr hK (CB_40 hd) hc.1 hd.1 hd.2.1 rfl
    intro g' r' hs hk ht hr'
    refine ⟨hs, hk, CB_tok hc hd hs hk ?_ hr', ht⟩
    have s1 := scan_in (f := fB) (b := c.b) (n := c.n) (c.n - g 4 2).toNat (g 4 2)
    have h2 := hd.2.1
    have := tk_b hc.1 (p := scan fB c.b c.n (c.n - g 4 2).toNat (g 4 2)) (by omega)
    rw [ht.2.1]; omega
  cases X with
  | error q =>
    obtain ⟨f, w⟩ := q
    obtain ⟨⟨d, hd⟩, h6, h7, h8⟩ := hx
    refine (key d hd).mono (fun g' r' hh => h g' r' hh.1 ⟨⟨d, hh.2.2.1⟩, ?_, ?_, h8⟩)
    · rw [hh.2.1.1 2 (by omega)]; exact h6
    · rw [hh.2.1.1 2 (by omega)]; exact h7
  | ok d =>
    obtain ⟨hd, h6, h7, hp, ht⟩ := hx
    refine (key d hd).mono (fun g' r' hh => h g' r' hh.1 ⟨hh.2.2.1, ?_, ?_, ?_, ?_⟩)
    · rw [hh.2.1.1 2 (by omega)]; exact h6
    · rw [hh.2.1.1 2 (by omega)]; exact h7
    · have := nxp_b hc.1 hp
      exact ⟨by show 0 ≤ nxp c.b c.n d.p; omega, this.1.2⟩
    · have h5 := hh.2.2.2
      rw [ht.2.1] at h5
      exact h5
theorem CB_f {c : Cx} {d : Zd} {g g' r : ab_H} (hc : CxOk c) (h : CB c d g r) (hf : ∀ x j : Int, x ≠ 2 ∨ (j ≠ 6 ∧ j ≠ 7) → g' x j = g x j) : CB c d g' r := by
  obtain ⟨h1, h2, h3, h4, h5, h6, h7, h8, h9⟩ := h
  refine ⟨⟨by rw [hf 4 1 (by omega)]; exact h1.1, fun i a b => by rw [hf 1 i (by omega)]; exact h1.2 i a b⟩, by rw [hf 4 2 (by omega)]; exact h2, h3, h4, h5, DatC_k hc h6 (fun x j a b e => hf x j (by omega)), h7, fun x j a e f l => by rw [hf x j (by omega)]; exact h8 x j a e f l, h9⟩
theorem q_fail {K : Int} {S : Nat} {g r : ab_H} {c : Cx} {X : ZX} {f w w' : Int} (P : ab_H → ab_H → Prop) (hr : SI r) (hK : 186 ≤ K) (hc : CxOk c) (hx : CR c X g r) (hf : 1 ≤ f ∧ f ≤ 4) (hw : ∀ d : Zd, X = .ok d → w = w') (h : ∀ g' : ab_H, CR c (zfail X f w') g' r → P g' r) : ab_RV m_Pa_fail [(2, 2), (0, f), (0, w)] K S g r P := by
  apply v_Pa_fail _ hr hK
  cases X with
  | error q =>
    obtain ⟨f2, w2⟩ := q
    obtain ⟨hd, h6, h7, h8⟩ := hx
    exact ⟨fun _ => h g ⟨hd, h6, h7, h8⟩, fun e => absurd e (by rw [h6]; simp only [wr]; omega)⟩
  | ok d =>
    obtain ⟨hd, h6, h7, hp, ht⟩ := hx
    refine ⟨fun e => absurd (by rw [h6]) e, fun _ g1 hg1 g2 hg2 => h g2 ⟨⟨d, CB_f hc hd (fun x j a => ?_)⟩, by rw [hg2, up_k (by omega), hg1, up_s], by rw [hg2, up_s]; exact hw d rfl, hf⟩⟩
    by_cases hx : x = 2
    · rw [hx, hg2, up_k (by omega), hg1, up_k (by omega)]
    · rw [hg2, up_f hx, hg1, up_f hx]
