/-! SPECS, part zzv: text, what the reference puts by. -/
theorem bsf_E {E : Int → Int → Int} : ∀ (m : Nat) (e f : Int), 0 ≤ e → e < m → 0 ≤ f → f < 8 → bsf E m (9 * e + f) = E e f := by
  intro m
  induction m with
  | zero => intro e f h0 h1; exact absurd h1 (by omega)
  | succ m ih =>
    intro e f h0 h1 h2 h3
    show evadd (bsf E m) m (E m 0) (E m 1) (E m 2) (E m 3) (E m 4) (E m 5) (E m 6) (E m 7) (9 * e + f) = E e f
    by_cases he : e = m
    · rw [he, evadd_new (by omega)]
      have : f = 0 ∨ f = 1 ∨ f = 2 ∨ f = 3 ∨ f = 4 ∨ f = 5 ∨ f = 6 ∨ f = 7 := by omega
      rcases this with h | h | h | h | h | h | h | h <;> (rw [h]; rfl)
    · rw [evadd_old (by omega) (by omega) (Or.inl (by omega))]
      exact ih e f h0 (by omega) h2 h3
theorem zs_E {d : Zd} (h : Inv d) {e f : Int} (he : 0 ≤ e ∧ e < d.n) (hf : 0 ≤ f ∧ f < 8) : zs d (9 * e + f) = d.E e f := by
  have hn := h.2.2.2.2.2.2.2.1
  exact bsf_E d.n.toNat e f he.1 (by omega) hf.1 hf.2
theorem MT_upd {x : Mx} {d d' : Zd} {g g' : ab_H} (h : MT x d g) (h1 : ∀ j : Int, j ≠ 14 → j ≠ 15 → g' 161 j = g 161 j) (h2 : ∀ j : Int, g' 162 j = g 162 j) (hp : d'.p = d.p) (hD : DatM g' d') (hI : Inv d') (hF : MFp x g') : MT x d' g' := by
  obtain ⟨⟨k1, k2, k3, k4, k5, k6⟩, k7, k8, k9⟩ := h
  refine ⟨⟨⟨by rw [h1 17 (by omega) (by omega)]; exact k1.1, fun i a b => by rw [h2]; exact k1.2 i a b⟩, by rw [h1 18 (by omega) (by omega)]; exact k2, hD, hI, hF, by rw [h1 16 (by omega) (by omega)]; exact k6⟩, by rw [h1 22 (by omega) (by omega)]; exact k7, by rw [hp]; exact k8, ?_⟩
  rw [hp]
  unfold TokM at k9 ⊢
  rw [h1 19 (by omega) (by omega), h1 18 (by omega) (by omega), h1 20 (by omega) (by omega), h1 21 (by omega) (by omega)]
  exact k9
theorem u_addA {x : Mx} {d : Zd} {g : ab_H} {v : Int} (h : MR x (.ok d) g) (hn : d.nA < 8) (hv : 0 ≤ v ∧ v ≤ 2147483647) (hg : g 164 (8 + d.nA) = v) : MR x (.ok (addA d v)) (ab_up g 163 6 (d.nA + 1)) := by
  have hB := h.1
  obtain ⟨_, _, hD, hI, hF, _⟩ := hB
  obtain ⟨d1, d2, d3, d4, d5, d6⟩ := hD
  have f2 : ∀ c j : Int, ¬ (c = 163 ∧ j = 6) → ab_up g 163 6 (d.nA + 1) c j = g c j := fun c j a => up_n a
  have hI1 := hI.1
  refine MT_upd h (fun j a b => f2 _ _ (by omega)) (fun j => f2 _ _ (by omega)) rfl ⟨?_, ?_, fun t a b => ?_, fun i a b => ?_, fun e a b => ?_, ?_⟩ ⟨⟨by show 0 ≤ d.nA + 1; omega, by show d.nA + 1 ≤ 8; omega⟩, ?_, hI.2.2.1, hI.2.2.2.1, hI.2.2.2.2.1, hI.2.2.2.2.2.1, hI.2.2.2.2.2.2.1, hI.2.2.2.2.2.2.2.1, EvAll_mono hI.2.2.2.2.2.2.2.2 (by show d.nA ≤ d.nA + 1; omega)⟩ ⟨fun c j a b => by rw [f2 c j (by omega)]; exact hF.1 c j a b, fun j a => by rw [f2 _ _ (by omega)]; exact hF.2.1 j a, fun j a => by rw [f2 _ _ (by omega)]; exact hF.2.2.1 j a, fun j a => by rw [f2 _ _ (by omega)]; exact hF.2.2.2.1 j a, fun c j a b e => by rw [f2 _ _ (by omega)]; exact hF.2.2.2.2.1 c j a b e, fun j a => by rw [f2 _ _ (by omega)]; exact hF.2.2.2.2.2.1 j a, fun c j a b e => by rw [f2 _ _ (by omega)]; exact hF.2.2.2.2.2.2 c j a b e⟩
  · exact ⟨up_s, by rw [f2 _ _ (by omega)]; exact d1.2.1, by rw [f2 _ _ (by omega)]; exact d1.2.2.1, by rw [f2 _ _ (by omega)]; exact d1.2.2.2.1, by rw [f2 _ _ (by omega)]; exact d1.2.2.2.2.1, by rw [f2 _ _ (by omega)]; exact d1.2.2.2.2.2⟩
  · intro i a b
    have b2 : i < d.nA + 1 := b
    rw [f2 _ _ (by omega)]
    show g 164 (8 + i) = fu d.an d.nA v i
    unfold fu
    by_cases e : i = d.nA
    · rw [if_pos e, e]; exact hg
    · rw [if_neg e]; exact d2 i a (by omega)
  · rw [f2 _ _ (by omega), f2 _ _ (by omega), f2 _ _ (by omega)]; exact d3 t a b
  · rw [f2 _ _ (by omega)]
    refine ⟨(d4 i a b).1, fun k p q => ?_⟩
    rw [f2 _ _ (by omega), f2 _ _ (by omega), f2 _ _ (by omega)]; exact (d4 i a b).2 k p q
  · refine ⟨fun f p q => by rw [f2 _ _ (by omega)]; exact (d5 e a b).1 f p q, ?_⟩
    rw [f2 _ _ (by omega)]; exact (d5 e a b).2
  · rw [f2 _ _ (by omega), f2 _ _ (by omega)]; exact d6
  · intro i a b
    have b2 : i < d.nA + 1 := b
    show 0 ≤ fu d.an d.nA v i ∧ fu d.an d.nA v i ≤ 2147483647
    unfold fu
    by_cases e : i = d.nA
    · rw [if_pos e]; exact hv
    · rw [if_neg e]; exact hI.2.1 i a (by omega)
theorem u_addT {x : Mx} {d : Zd} {g g1 g2 : ab_H} {v k f : Int} (h : MR x (.ok d) g) (hn : d.nT < 4) (hv : 0 ≤ v ∧ v ≤ 2147483647) (hk : 0 ≤ k ∧ k ≤ 6) (hf : 1 ≤ f ∧ f ≤ 3) (hg : g 165 (4 + d.nT) = v) (hg1 : g1 = ab_up g 166 (4 + d.nT) k) (hg2 : g2 = ab_up g1 167 (4 + d.nT) f) : MR x (.ok (addT d v k f)) (ab_up g2 163 7 (d.nT + 1)) := by
  have hB := h.1
  obtain ⟨_, _, hD, hI, hF, _⟩ := hB
  obtain ⟨d1, d2, d3, d4, d5, d6⟩ := hD
  have hI1 := hI.2.2.1
  have f2 : ∀ c j : Int, ¬ (c = 163 ∧ j = 7) → ¬ (c = 166 ∧ j = 4 + d.nT) → ¬ (c = 167 ∧ j = 4 + d.nT) → ab_up g2 163 7 (d.nT + 1) c j = g c j := fun c j a b e => by rw [up_n a, hg2, up_n e, hg1, up_n b]
  have e6 : ab_up g2 163 7 (d.nT + 1) 166 (4 + d.nT) = k := by rw [up_n (by omega), hg2, up_n (by omega), hg1, up_s]
  have e7 : ab_up g2 163 7 (d.nT + 1) 167 (4 + d.nT) = f := by rw [up_n (by omega), hg2, up_s]
  refine MT_upd h (fun j a b => f2 _ _ (by omega) (by omega) (by omega)) (fun j => f2 _ _ (by omega) (by omega) (by omega)) rfl ⟨?_, fun i a b => ?_, ?_, fun i a b => ?_, fun e a b => ?_, ?_⟩ ⟨hI.1, hI.2.1, ⟨by show 0 ≤ d.nT + 1; omega, by show d.nT + 1 ≤ 4; omega⟩, ?_, hI.2.2.2.2⟩ ⟨fun c j a b => by rw [f2 c j (by omega) (by omega) (by omega)]; exact hF.1 c j a b, fun j a => by rw [f2 _ _ (by omega) (by omega) (by omega)]; exact hF.2.1 j a, fun j a => by rw [f2 _ _ (by omega) (by omega) (by omega)]; exact hF.2.2.1 j a, fun j a => by rw [f2 _ _ (by omega) (by omega) (by omega)]; exact hF.2.2.2.1 j a, fun c j a b e => by rw [f2 _ _ (by omega) (by omega) (by omega)]; exact hF.2.2.2.2.1 c j a b e, fun j a => by rw [f2 _ _ (by omega) (by omega) (by omega)]; exact hF.2.2.2.2.2.1 j a, fun c j a b e => by rw [f2 _ _ (by omega) (by omega) (by omega)]; exact hF.2.2.2.2.2.2 c j a b e⟩
  · exact ⟨by rw [f2 _ _ (by omega) (by omega) (by omega)]; exact d1.1, up_s, by rw [f2 _ _ (by omega) (by omega) (by omega)]; exact d1.2.2.1, by rw [f2 _ _ (by omega) (by omega) (by omega)]; exact d1.2.2.2.1, by rw [f2 _ _ (by omega) (by omega) (by omega)]; exact d1.2.2.2.2.1, by rw [f2 _ _ (by omega) (by omega) (by omega)]; exact d1.2.2.2.2.2⟩
  · rw [f2 _ _ (by omega) (by omega) (by omega)]; exact d2 i a b
  · intro t a b
    have b2 : t < d.nT + 1 := b
    rw [f2 165 _ (by omega) (by omega) (by omega)]
    show g 165 (4 + t) = fu d.tn d.nT v t ∧ ab_up g2 163 7 (d.nT + 1) 166 (4 + t) = fu d.tk d.nT k t ∧ ab_up g2 163 7 (d.nT + 1) 167 (4 + t) = fu d.tf d.nT f t
    unfold fu
    by_cases e : t = d.nT
    · rw [if_pos e, if_pos e, if_pos e, e]; exact ⟨hg, e6, e7⟩
    · rw [if_neg e, if_neg e, if_neg e, f2 _ _ (by omega) (by omega) (by omega), f2 _ _ (by omega) (by omega) (by omega)]; exact d3 t a (by omega)
  · rw [f2 _ _ (by omega) (by omega) (by omega)]
    refine ⟨(d4 i a b).1, fun k p q => ?_⟩
    rw [f2 _ _ (by omega) (by omega) (by omega), f2 _ _ (by omega) (by omega) (by omega), f2 _ _ (by omega) (by omega) (by omega)]; exact (d4 i a b).2 k p q
  · refine ⟨fun f p q => by rw [f2 _ _ (by omega) (by omega) (by omega)]; exact (d5 e a b).1 f p q, ?_⟩
    rw [f2 _ _ (by omega) (by omega) (by omega)]; exact (d5 e a b).2
  · rw [f2 _ _ (by omega) (by omega) (by omega), f2 _ _ (by omega) (by omega) (by omega)]; exact d6
  · intro t a b
    have b2 : t < d.nT + 1 := b
    show (0 ≤ fu d.tn d.nT v t ∧ fu d.tn d.nT v t ≤ 2147483647) ∧ (0 ≤ fu d.tk d.nT k t ∧ fu d.tk d.nT k t ≤ 6) ∧ (1 ≤ fu d.tf d.nT f t ∧ fu d.tf d.nT f t ≤ 3)
    unfold fu
    by_cases e : t = d.nT
    · rw [if_pos e, if_pos e, if_pos e]; exact ⟨hv, hk, hf⟩
    · rw [if_neg e, if_neg e, if_neg e]; exact hI.2.2.2.1 t a (by omega)
theorem u_addS {x : Mx} {d : Zd} {g g1 g2 g3 : ab_H} {i o f v K : Int} (h : MR x (.ok d) g) (hi : 0 ≤ i ∧ i < 14) (hn : d.T.1 i < 4) (ho : 8 ≤ o ∧ o ≤ 11) (hf : 1 ≤ f ∧ f ≤ 3) (hx1 : 0 ≤ v ∧ v ≤ 999) (hx2 : o = 11 → 1 ≤ v ∧ v ≤ 3) (hK : K = 56 + (4 * i + d.T.1 i)) (hg1 : g1 = ab_up g 169 K o) (hg2 : g2 = ab_up g1 170 K f) (hg3 : g3 = ab_up g2 171 K v) : MR x (.ok (addS d i o f v)) (ab_up g3 168 (14 + i) (g3 168 (14 + i) + 1)) := by
  have hB := h.1
  obtain ⟨_, _, hD, hI, hF, _⟩ := hB
  obtain ⟨d1, d2, d3, d4, d5, d6⟩ := hD
  have hT := hI.2.2.2.2.1
  have hTi := (hT i hi.1 hi.2).1
  have e3 : g3 168 (14 + i) = d.T.1 i := by rw [hg3, up_n (by omega), hg2, up_n (by omega), hg1, up_n (by omega)]; exact (d4 i hi.1 hi.2).1
  rw [e3]
  have f2 : ∀ c j : Int, ¬ (c = 168 ∧ j = 14 + i) → ¬ (169 ≤ c ∧ c ≤ 171 ∧ j = K) → ab_up g3 168 (14 + i) (d.T.1 i + 1) c j = g c j := fun c j a b => by rw [up_n a, hg3, up_n (by omega), hg2, up_n (by omega), hg1, up_n (by omega)]
  have e9 : ab_up g3 168 (14 + i) (d.T.1 i + 1) 169 K = o := by rw [up_n (by omega), hg3, up_n (by omega), hg2, up_n (by omega), hg1, up_s]
  have e10 : ab_up g3 168 (14 + i) (d.T.1 i + 1) 170 K = f := by rw [up_n (by omega), hg3, up_n (by omega), hg2, up_s]
  have e11 : ab_up g3 168 (14 + i) (d.T.1 i + 1) 171 K = v := by rw [up_n (by omega), hg3, up_s]
  refine MT_upd h (fun j a b => f2 _ _ (by omega) (by omega)) (fun j => f2 _ _ (by omega) (by omega)) rfl ⟨?_, fun i a b => ?_, fun t a b => ?_, ?_, fun e a b => ?_, ?_⟩ ⟨hI.1, hI.2.1, hI.2.2.1, hI.2.2.2.1, addSt_ok hT hi hn ho hf hx1 hx2, hI.2.2.2.2.2⟩ ⟨fun c j a b => by rw [f2 c j (by omega) (by omega)]; exact hF.1 c j a b, fun j a => by rw [f2 _ _ (by omega) (by omega)]; exact hF.2.1 j a, fun j a => by rw [f2 _ _ (by omega) (by omega)]; exact hF.2.2.1 j a, fun j a => by rw [f2 _ _ (by omega) (by omega)]; exact hF.2.2.2.1 j a, fun c j a b e => by rw [f2 _ _ (by omega) (by omega)]; exact hF.2.2.2.2.1 c j a b e, fun j a => by rw [f2 _ _ (by omega) (by omega)]; exact hF.2.2.2.2.2.1 j a, fun c j a b e => by rw [f2 _ _ (by omega) (by omega)]; exact hF.2.2.2.2.2.2 c j a b e⟩
  · rw [f2 _ _ (by omega) (by omega), f2 _ _ (by omega) (by omega), f2 _ _ (by omega) (by omega), f2 _ _ (by omega) (by omega), f2 _ _ (by omega) (by omega), f2 _ _ (by omega) (by omega)]; exact d1
  · rw [f2 _ _ (by omega) (by omega)]; exact d2 i a b
  · rw [f2 _ _ (by omega) (by omega), f2 _ _ (by omega) (by omega), f2 _ _ (by omega) (by omega)]; exact d3 t a b
  · intro l a b
    have hTl := (hT l a b).1
    show ab_up g3 168 (14 + i) (d.T.1 i + 1) 168 (14 + l) = fu d.T.1 i (d.T.1 i + 1) l ∧ ∀ k : Int, 0 ≤ k → k < fu d.T.1 i (d.T.1 i + 1) l → ab_up g3 168 (14 + i) (d.T.1 i + 1) 169 (56 + (4 * l + k)) = fu d.T.2.1 (4 * i + d.T.1 i) o (4 * l + k) ∧ ab_up g3 168 (14 + i) (d.T.1 i + 1) 170 (56 + (4 * l + k)) = fu d.T.2.2.1 (4 * i + d.T.1 i) f (4 * l + k) ∧ ab_up g3 168 (14 + i) (d.T.1 i + 1) 171 (56 + (4 * l + k)) = fu d.T.2.2.2 (4 * i + d.T.1 i) v (4 * l + k)
    unfold fu
    by_cases e : l = i
    · subst e
      rw [if_pos rfl]
      refine ⟨up_s, fun k p q => ?_⟩
      by_cases e2 : k = d.T.1 l
      · rw [if_pos (by omega), if_pos (by omega), if_pos (by omega), e2, ← hK]; exact ⟨e9, e10, e11⟩
      · rw [if_neg (by omega), if_neg (by omega), if_neg (by omega), f2 _ _ (by omega) (by omega), f2 _ _ (by omega) (by omega), f2 _ _ (by omega) (by omega)]
        exact (d4 l a b).2 k p (by omega)
    · rw [if_neg e, f2 _ _ (by omega) (by omega)]
      refine ⟨(d4 l a b).1, fun k p q => ?_⟩
      rw [if_neg (by omega), if_neg (by omega), if_neg (by omega), f2 _ _ (by omega) (by omega), f2 _ _ (by omega) (by omega), f2 _ _ (by omega) (by omega)]
      exact (d4 l a b).2 k p q
  · refine ⟨fun f p q => by rw [f2 _ _ (by omega) (by omega)]; exact (d5 e a b).1 f p q, ?_⟩
    rw [f2 _ _ (by omega) (by omega)]; exact (d5 e a b).2
  · rw [f2 _ _ (by omega) (by omega), f2 _ _ (by omega) (by omega)]; exact d6
/-- an EVENT or a VOID put by -/
theorem u_addE {x : Mx} {d : Zd} {g g' : ab_H} {k a o t s y1 y2 y3 : Int} (h : MR x (.ok d) g) (hn : d.n < 50) (hp : EvPut d k a o t s y1 y2 y3) (hf : ∀ c j : Int, ¬ (c = 163 ∧ j = 11) → c ≠ 172 → c ≠ 173 → g' c j = g c j) (h163 : g' 163 11 = d.n + 1) (h172 : ∀ j : Int, j < 8 * d.n ∨ 8 * d.n + 8 ≤ j → g' 172 j = g 172 j) (hnew : ∀ f : Int, 0 ≤ f → f < 8 → g' 172 (8 * d.n + f) = ev8 k a o t s y1 y2 y3 f) (h173 : ∀ j : Int, 0 ≤ j → j < d.n → g' 173 j = if k = 7 ∧ j = o then d.n else g 173 j) (h173n : g' 173 d.n = -2) : MR x (.ok (addE d k a o t s y1 y2 y3)) g' := by
  have hB := h.1
  obtain ⟨_, _, hD, hI, hF, _⟩ := hB
  obtain ⟨d1, d2, d3, d4, d5, d6⟩ := hD
  have hI1 := hI.2.2.2.2.2.2.2.1
  refine MT_upd h (fun j a b => hf _ _ (by omega) (by omega) (by omega)) (fun j => hf _ _ (by omega) (by omega) (by omega)) rfl ⟨?_, fun i a b => ?_, fun t a b => ?_, fun i a b => ?_, ?_, ?_⟩ (Inv_addE hI hn hp) ⟨fun c j a b => by rw [hf c j (by omega) (by omega) (by omega)]; exact hF.1 c j a b, fun j a => by rw [hf _ _ (by omega) (by omega) (by omega)]; exact hF.2.1 j a, fun j a => by rw [hf _ _ (by omega) (by omega) (by omega)]; exact hF.2.2.1 j a, fun j a => by rw [hf _ _ (by omega) (by omega) (by omega)]; exact hF.2.2.2.1 j a, fun c j a b e => by rw [hf _ _ (by omega) (by omega) (by omega)]; exact hF.2.2.2.2.1 c j a b e, fun j a => by rw [hf _ _ (by omega) (by omega) (by omega)]; exact hF.2.2.2.2.2.1 j a, fun c j a b e => by rw [hf _ _ (by omega) (by omega) (by omega)]; exact hF.2.2.2.2.2.2 c j a b e⟩
  · exact ⟨by rw [hf _ _ (by omega) (by omega) (by omega)]; exact d1.1, by rw [hf _ _ (by omega) (by omega) (by omega)]; exact d1.2.1, by rw [hf _ _ (by omega) (by omega) (by omega)]; exact d1.2.2.1, by rw [hf _ _ (by omega) (by omega) (by omega)]; exact d1.2.2.2.1, by rw [hf _ _ (by omega) (by omega) (by omega)]; exact d1.2.2.2.2.1, h163⟩
  · rw [hf _ _ (by omega) (by omega) (by omega)]; exact d2 i a b
  · rw [hf _ _ (by omega) (by omega) (by omega), hf _ _ (by omega) (by omega) (by omega), hf _ _ (by omega) (by omega) (by omega)]; exact d3 t a b
  · rw [hf _ _ (by omega) (by omega) (by omega)]
    refine ⟨(d4 i a b).1, fun k p q => ?_⟩
    rw [hf _ _ (by omega) (by omega) (by omega), hf _ _ (by omega) (by omega) (by omega), hf _ _ (by omega) (by omega) (by omega)]; exact (d4 i a b).2 k p q
  · intro e a1 b1
    have b2 : e < d.n + 1 := b1
    rw [zs_addE hI1.1]
    show (∀ f : Int, 0 ≤ f → f < 8 → g' 172 (8 * e + f) = addEE d (ev8 k a o t s y1 y2 y3) e f) ∧ _
    by_cases he : e = d.n
    · rw [he, addEE_n, evadd_new (by omega), h173n]
      exact ⟨hnew, rfl⟩
    · rw [addEE_o he]
      refine ⟨fun f p q => by rw [h172 _ (by omega)]; exact (d5 e a1 (by omega)).1 f p q, ?_⟩
      rw [h173 e a1 (by omega)]
      by_cases hk : k = 7 ∧ e = o
      · have e9 : evadd (zs d) d.n k a o t s y1 y2 y3 (9 * e + 8) = d.n + 1 := by
          unfold evadd
          rw [if_neg (by omega), if_pos (by omega)]
        rw [if_pos hk, e9, if_neg (by omega)]; omega
      · rw [if_neg hk, evadd_old (by omega) (by omega) (by omega)]
        exact (d5 e a1 (by omega)).2
  · rw [hf _ _ (by omega) (by omega) (by omega), hf _ _ (by omega) (by omega) (by omega)]; exact d6
