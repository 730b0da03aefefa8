/-! SPECS, part zzn: text, what the class puts by. -/
theorem up_n {g : ab_H} {a k v b j : Int} (h : ¬ (b = a ∧ j = k)) : ab_up g a k v b j = g b j := if_neg h
theorem EvAll_mono {E : Int → Int → Int} {n a a' : Int} (h : EvAll E n a) (ha : a ≤ a') : EvAll E n a' := by
  intro m hm
  obtain ⟨h1, h2, h3, h4, h5⟩ := h m hm
  exact ⟨h1, h2, h3, fun e => by have := h4 e; omega, fun e => by have := h5.1 e; omega, h5.2⟩
theorem CB_upd {c : Cx} {d d' : Zd} {g g' r : ab_H} (hc : CxOk c) (h : CB c d g r) (hf : ∀ x j : Int, x ≠ 2 → ¬ (c.o ≤ x ∧ x ≤ c.o + 8) → ¬ (c.lo ≤ x ∧ x ≤ c.lo + 10) → g' x j = g x j) (hD : DatC c g' d') (hI : Inv d') : CB c d' g' r := by
  obtain ⟨h1, h2, h3, h4, h5, h6, h7, h8, h9⟩ := h
  have ho := hc.2.1
  have hl := hc.2.2
  unfold isTe at ho
  have f4 : ∀ j : Int, g' 4 j = g 4 j := fun j => hf 4 j (by omega) (by omega) (by omega)
  refine ⟨⟨by rw [f4]; exact h1.1, fun i a b => by rw [hf 1 i (by omega) (by omega) (by omega)]; exact h1.2 i a b⟩, by rw [f4]; exact h2, h3, h4, h5, hD, hI, fun x j a e k l => by rw [hf x j a k l]; exact h8 x j a e k l, h9⟩
theorem CT_upd {c : Cx} {d d' : Zd} {g g' r : ab_H} (hc : CxOk c) (h : CT c d g r) (hf : ∀ x j : Int, (x ≠ 2 ∨ j = 6 ∨ j = 7) → ¬ (c.o ≤ x ∧ x ≤ c.o + 8) → ¬ (c.lo ≤ x ∧ x ≤ c.lo + 10) → g' x j = g x j) (hp : d'.p = d.p) (hD : DatC c g' d') (hI : Inv d') : CT c d' g' r := by
  obtain ⟨h1, h2, h3, h4, h5⟩ := h
  have ho := hc.2.1
  have hl := hc.2.2
  unfold isTe at ho
  have f4 : g' 4 = g 4 := by funext j; exact hf 4 j (by omega) (by omega) (by omega)
  refine ⟨CB_upd hc h1 (fun x j a e k => hf x j (Or.inl a) e k) hD hI, by rw [hf 2 6 (by omega) (by omega) (by omega)]; exact h2, by rw [hf 2 7 (by omega) (by omega) (by omega)]; exact h3, by rw [hp]; exact h4, ?_⟩
  rw [hp]
  unfold TokC at h5 ⊢
  rw [f4]
  exact h5
theorem LgV_o {c : Cx} {g g' : ab_H} {n : Int} {s : Int → Int} (hc : CxOk c) (h : LgV g c.lo s n) (hf : ∀ x j : Int, x ≠ 2 → x ≠ 3 → ¬ (c.o ≤ x ∧ x ≤ c.o + 8) → g' x j = g x j) : LgV g' c.lo s n := by
  have ho := hc.2.1
  have hl := hc.2.2
  unfold isTe at ho
  exact LgV_mono h (fun x j a b => hf x j (by omega) (by omega) (by omega))
theorem q_addA {K : Int} {S : Nat} {g r : ab_H} {c : Cx} {d : Zd} {v : Int} (P : ab_H → ab_H → Prop) (hr : SI r) (hK : 186 ≤ K) (hc : CxOk c) (hx : CR c (.ok d) g r) (hn : d.nA < 8) (hv : 0 ≤ v ∧ v ≤ 2147483647) (h : ∀ g' : ab_H, CR c (.ok (addA d v)) g' r → P g' r) : ab_RV m_Te_addAccount [(2, c.o), (0, v)] K S g r P := by
  have hd := hx.1
  have hI := hd.2.2.2.2.2.2.1
  have hD := hd.2.2.2.2.2.1
  have ho := hc.2.1
  have hl := hc.2.2
  unfold isTe at ho
  apply v_Te_addAccount _ hr hK hc.2.1
  rw [hD.2.1]
  have hI1 := hI.1
  refine And.intro (fun e => absurd e (by simp only [wr]; omega)) (fun _ => ⟨by omega, fun g1 hg1 g2 hg2 => h g2 ?_⟩)
  have f2 : ∀ x j : Int, ¬ (x = c.o + 1 ∧ j = d.nA) → ¬ (x = c.o ∧ j = 1) → g2 x j = g x j := by
    intro x j a b
    rw [hg2, up_n b, hg1, up_n a]
  have f21 : g2 c.o 1 = d.nA + 1 := by rw [hg2, up_s, hg1, up_f (by omega), hD.2.1]
  have f20 : g2 (c.o + 1) d.nA = v := by rw [hg2, up_f (by omega), hg1, up_s]
  refine CT_upd hc hx (fun x j b e k => f2 x j (by omega) (by omega)) rfl ⟨?_, f21, ?_, ?_, ?_, ?_, ?_, ?_⟩ ⟨⟨by show 0 ≤ d.nA + 1; omega, by show d.nA + 1 ≤ 8; omega⟩, ?_, hI.2.2.1, hI.2.2.2.1, hI.2.2.2.2.1, hI.2.2.2.2.2.1, hI.2.2.2.2.2.2.1, hI.2.2.2.2.2.2.2.1, EvAll_mono hI.2.2.2.2.2.2.2.2 (by show d.nA ≤ d.nA + 1; omega)⟩
  · intro i a b
    obtain ⟨k1, k2⟩ := hD.1 i a b
    rw [f2 (c.o + 5) i (by omega) (by omega)]
    refine ⟨k1, fun k p q => ?_⟩
    rw [f2 (c.o + 6) _ (by omega) (by omega), f2 (c.o + 7) _ (by omega) (by omega), f2 (c.o + 8) _ (by omega) (by omega)]
    exact k2 k p q
  · intro i a b
    have b2 : i < d.nA + 1 := b
    show g2 (c.o + 1) i = fu d.an d.nA v i
    unfold fu
    by_cases e : i = d.nA
    · rw [if_pos e, e]; exact f20
    · rw [if_neg e, f2 _ i (by omega) (by omega)]; exact hD.2.2.1 i a (by omega)
  · rw [f2 _ 5 (by omega) (by omega)]; exact hD.2.2.2.1
  · intro t a b
    rw [f2 (c.o + 2) t (by omega) (by omega), f2 (c.o + 3) t (by omega) (by omega), f2 (c.o + 4) t (by omega) (by omega)]; exact hD.2.2.2.2.1 t a b
  · rw [f2 _ 10 (by omega) (by omega), f2 _ 11 (by omega) (by omega), f2 _ 12 (by omega) (by omega)]; exact hD.2.2.2.2.2.1
  · rw [f2 2 4 (by omega) (by omega), f2 2 5 (by omega) (by omega)]; exact hD.2.2.2.2.2.2.1
  · exact LgV_o hc hD.2.2.2.2.2.2.2 (fun x j a b e => f2 x j (by omega) (by omega))
  · intro i a b
    have b2 : i < d.nA + 1 := b
    show 0 ≤ fu d.an d.nA v i ∧ fu d.an d.nA v i ≤ 2147483647
    unfold fu
    by_cases e : i = d.nA
    · rw [if_pos e]; exact hv
    · rw [if_neg e]; exact hI.2.1 i a (by omega)
theorem q_addT {K : Int} {S : Nat} {g r : ab_H} {c : Cx} {d : Zd} {v k f : Int} (P : ab_H → ab_H → Prop) (hr : SI r) (hK : 186 ≤ K) (hc : CxOk c) (hx : CR c (.ok d) g r) (hn : d.nT < 4) (hv : 0 ≤ v ∧ v ≤ 2147483647) (hk : 0 ≤ k ∧ k ≤ 6) (hf : 1 ≤ f ∧ f ≤ 3) (h : ∀ g' : ab_H, CR c (.ok (addT d v k f)) g' r → P g' r) : ab_RV m_Te_addTally [(2, c.o), (0, v), (0, k), (0, f)] K S g r P := by
  have hd := hx.1
  have hI := hd.2.2.2.2.2.2.1
  have hD := hd.2.2.2.2.2.1
  have ho := hc.2.1
  have hl := hc.2.2
  unfold isTe at ho
  apply v_Te_addTally _ hr hK hc.2.1
  have hI1 := hI.2.2.1
  have e5 := hD.2.2.2.1
  rw [e5]
  refine And.intro (fun e => absurd e (by simp only [wr]; omega)) (fun _ => ⟨by omega, fun g1 hg1 => ?_⟩)
  have e51 : g1 c.o 5 = d.nT := by rw [hg1, up_f (by omega)]; exact e5
  rw [e51]
  refine ⟨by omega, fun g2 hg2 => ?_⟩
  have e52 : g2 c.o 5 = d.nT := by rw [hg2, up_f (by omega)]; exact e51
  rw [e52]
  refine ⟨by omega, fun g3 hg3 g4 hg4 => h g4 ?_⟩
  have f2 : ∀ x j : Int, ¬ (x = c.o + 2 ∧ j = d.nT) → ¬ (x = c.o + 3 ∧ j = d.nT) → ¬ (x = c.o + 4 ∧ j = d.nT) → ¬ (x = c.o ∧ j = 5) → g4 x j = g x j := by
    intro x j a b e l
    rw [hg4, up_n l, hg3, up_n e, hg2, up_n b, hg1, up_n a]
  have f45 : g4 c.o 5 = d.nT + 1 := by rw [hg4, up_s, hg3, up_f (by omega), e52]
  have fv : g4 (c.o + 2) d.nT = v := by rw [hg4, up_f (by omega), hg3, up_f (by omega), hg2, up_f (by omega), hg1, up_s]
  have fk : g4 (c.o + 3) d.nT = k := by rw [hg4, up_f (by omega), hg3, up_f (by omega), hg2, up_s]
  have ff : g4 (c.o + 4) d.nT = f := by rw [hg4, up_f (by omega), hg3, up_s]
  refine CT_upd hc hx (fun x j b e l => f2 x j (by omega) (by omega) (by omega) (by omega)) rfl ⟨?_, ?_, ?_, f45, ?_, ?_, ?_, ?_⟩ ⟨hI.1, hI.2.1, ⟨by show 0 ≤ d.nT + 1; omega, by show d.nT + 1 ≤ 4; omega⟩, ?_, hI.2.2.2.2⟩
  · intro i a b
    obtain ⟨k1, k2⟩ := hD.1 i a b
    rw [f2 (c.o + 5) i (by omega) (by omega) (by omega) (by omega)]
    refine ⟨k1, fun k p q => ?_⟩
    rw [f2 (c.o + 6) _ (by omega) (by omega) (by omega) (by omega), f2 (c.o + 7) _ (by omega) (by omega) (by omega) (by omega), f2 (c.o + 8) _ (by omega) (by omega) (by omega) (by omega)]
    exact k2 k p q
  · rw [f2 _ 1 (by omega) (by omega) (by omega) (by omega)]; exact hD.2.1
  · intro i a b
    rw [f2 _ i (by omega) (by omega) (by omega) (by omega)]; exact hD.2.2.1 i a b
  · intro t a b
    have b2 : t < d.nT + 1 := b
    show g4 (c.o + 2) t = fu d.tn d.nT v t ∧ g4 (c.o + 3) t = fu d.tk d.nT k t ∧ g4 (c.o + 4) t = fu d.tf d.nT f t
    unfold fu
    by_cases e : t = d.nT
    · rw [if_pos e, if_pos e, if_pos e, e]; exact ⟨fv, fk, ff⟩
    · rw [if_neg e, if_neg e, if_neg e, f2 (c.o + 2) t (by omega) (by omega) (by omega) (by omega), f2 (c.o + 3) t (by omega) (by omega) (by omega) (by omega), f2 (c.o + 4) t (by omega) (by omega) (by omega) (by omega)]
      exact hD.2.2.2.2.1 t a (by omega)
  · rw [f2 _ 10 (by omega) (by omega) (by omega) (by omega), f2 _ 11 (by omega) (by omega) (by omega) (by omega), f2 _ 12 (by omega) (by omega) (by omega) (by omega)]; exact hD.2.2.2.2.2.1
  · rw [f2 2 4 (by omega) (by omega) (by omega) (by omega), f2 2 5 (by omega) (by omega) (by omega) (by omega)]; exact hD.2.2.2.2.2.2.1
  · exact LgV_o hc hD.2.2.2.2.2.2.2 (fun x j a b e => f2 x j (by omega) (by omega) (by omega) (by omega))
  · intro t a b
    have b2 : t < d.nT + 1 := b
    show (0 ≤ fu d.tn d.nT v t ∧ fu d.tn d.nT v t ≤ 2147483647) ∧ (0 ≤ fu d.tk d.nT k t ∧ fu d.tk d.nT k t ≤ 6) ∧ (1 ≤ fu d.tf d.nT f t ∧ fu d.tf d.nT f t ≤ 3)
    unfold fu
    by_cases e : t = d.nT
    · rw [if_pos e, if_pos e, if_pos e]; exact ⟨hv, hk, hf⟩
    · rw [if_neg e, if_neg e, if_neg e]; exact hI.2.2.2.1 t a (by omega)
theorem q_group {K : Int} {S : Nat} {g r : ab_H} {k s : Int} (P : Int → ab_H → ab_H → Prop) (hr : SI r) (hK : 186 ≤ K) (h : P (gix k s) g r) : ab_RI m_Te_group [(0, k), (0, s)] K S g r P := by
  apply v_Te_group _ hr hK
  exact h
theorem addSt_ok {T : TT} {i o f x : Int} (hT : TOk T) (hi : 0 ≤ i ∧ i < 14) (hn : T.1 i < 4) (ho : 8 ≤ o ∧ o ≤ 11) (hf : 1 ≤ f ∧ f ≤ 3) (hx : 0 ≤ x ∧ x ≤ 999) (hx2 : o = 11 → 1 ≤ x ∧ x ≤ 3) : TOk (addSt T i o f x) := by
  intro l a b
  have h1 := hT l a b
  have h0 := hT i hi.1 hi.2
  show (0 ≤ fu T.1 i (T.1 i + 1) l ∧ fu T.1 i (T.1 i + 1) l ≤ 4) ∧ ∀ k : Int, 0 ≤ k → k < fu T.1 i (T.1 i + 1) l → (8 ≤ fu T.2.1 (4 * i + T.1 i) o (4 * l + k) ∧ fu T.2.1 (4 * i + T.1 i) o (4 * l + k) ≤ 11) ∧ (1 ≤ fu T.2.2.1 (4 * i + T.1 i) f (4 * l + k) ∧ fu T.2.2.1 (4 * i + T.1 i) f (4 * l + k) ≤ 3) ∧ (0 ≤ fu T.2.2.2 (4 * i + T.1 i) x (4 * l + k) ∧ fu T.2.2.2 (4 * i + T.1 i) x (4 * l + k) ≤ 999) ∧ (fu T.2.1 (4 * i + T.1 i) o (4 * l + k) = 11 → 1 ≤ fu T.2.2.2 (4 * i + T.1 i) x (4 * l + k) ∧ fu T.2.2.2 (4 * i + T.1 i) x (4 * l + k) ≤ 3)
  unfold fu
  by_cases e : l = i
  · subst e
    rw [if_pos rfl]
    refine ⟨by omega, fun k p q => ?_⟩
    by_cases e2 : k = T.1 l
    · rw [if_pos (by omega), if_pos (by omega), if_pos (by omega)]; exact ⟨ho, hf, hx, hx2⟩
    · rw [if_neg (by omega), if_neg (by omega), if_neg (by omega)]; exact h1.2 k p (by omega)
  · rw [if_neg e]
    refine ⟨h1.1, fun k p q => ?_⟩
    rw [if_neg (by omega), if_neg (by omega), if_neg (by omega)]; exact h1.2 k p q
theorem q_addS {K : Int} {S : Nat} {g r : ab_H} {c : Cx} {d : Zd} {k s o f x : Int} (P : ab_H → ab_H → Prop) (hr : SI r) (hK : 186 ≤ K) (hc : CxOk c) (hx : CR c (.ok d) g r) (hk : 0 ≤ k ∧ k ≤ 6) (hs : 1 ≤ s ∧ s ≤ 2) (hn : d.T.1 (gix k s) < 4) (ho2 : 8 ≤ o ∧ o ≤ 11) (hf : 1 ≤ f ∧ f ≤ 3) (hx1 : 0 ≤ x ∧ x ≤ 999) (hx2 : o = 11 → 1 ≤ x ∧ x ≤ 3) (h : ∀ g' : ab_H, CR c (.ok (addS d (gix k s) o f x)) g' r → P g' r) : ab_RV m_Te_addStep [(2, c.o), (0, k), (0, s), (0, o - 8), (0, f), (0, x)] K S g r P := by
  have hd := hx.1
  have hI := hd.2.2.2.2.2.2.1
  have hD := hd.2.2.2.2.2.1
  have ho := hc.2.1
  have hl := hc.2.2
  unfold isTe at ho
  apply v_Te_addStep _ hr hK hc.2.1
  apply q_group _ hr hK
  have hi : 0 ≤ gix k s ∧ gix k s < 14 := by unfold gix; omega
  generalize gix k s = i at hn h hi
  obtain ⟨t1, t2⟩ := hD.1 i hi.1 hi.2
  have hT := hI.2.2.2.2.1 i hi.1 hi.2
  rw [t1]
  refine ⟨rfl, rfl, hi, And.intro (fun e => absurd e (by simp only [wr]; omega)) (fun _ => ⟨hi, by omega, fun g2 hg2 => ?_⟩)⟩
  refine ⟨by omega, fun g3 hg3 => ⟨by omega, fun g4 hg4 => ⟨hi, hi, fun g5 hg5 => h g5 ?_⟩⟩⟩
  have f2 : ∀ y j : Int, ¬ (y = c.o + 6 ∧ j = 4 * i + d.T.1 i) → ¬ (y = c.o + 7 ∧ j = 4 * i + d.T.1 i) → ¬ (y = c.o + 8 ∧ j = 4 * i + d.T.1 i) → ¬ (y = c.o + 5 ∧ j = i) → g5 y j = g y j := by
    intro y j a b e l
    rw [hg5, up_n l, hg4, up_n e, hg3, up_n b, hg2, up_n a]
  have e5 : g5 (c.o + 5) i = d.T.1 i + 1 := by rw [hg5, up_s, hg4, up_f (by omega), hg3, up_f (by omega), hg2, up_f (by omega), t1]
  have e6 : g5 (c.o + 6) (4 * i + d.T.1 i) = o - 8 := by rw [hg5, up_f (by omega), hg4, up_f (by omega), hg3, up_f (by omega), hg2, up_s]
  have e7 : g5 (c.o + 7) (4 * i + d.T.1 i) = f := by rw [hg5, up_f (by omega), hg4, up_f (by omega), hg3, up_s]
  have e8 : g5 (c.o + 8) (4 * i + d.T.1 i) = x := by rw [hg5, up_f (by omega), hg4, up_s]
  refine CT_upd hc hx (fun x j b e l => f2 x j (by omega) (by omega) (by omega) (by omega)) rfl ⟨?_, ?_, ?_, ?_, ?_, ?_, ?_, ?_⟩ ⟨hI.1, hI.2.1, hI.2.2.1, hI.2.2.2.1, addSt_ok hI.2.2.2.2.1 hi hn ho2 hf hx1 hx2, hI.2.2.2.2.2⟩
  · intro l a b
    obtain ⟨k1, k2⟩ := hD.1 l a b
    show g5 (c.o + 5) l = fu d.T.1 i (d.T.1 i + 1) l ∧ ∀ k : Int, 0 ≤ k → k < fu d.T.1 i (d.T.1 i + 1) l → g5 (c.o + 6) (4 * l + k) = fu d.T.2.1 (4 * i + d.T.1 i) o (4 * l + k) - 8 ∧ g5 (c.o + 7) (4 * l + k) = fu d.T.2.2.1 (4 * i + d.T.1 i) f (4 * l + k) ∧ g5 (c.o + 8) (4 * l + k) = fu d.T.2.2.2 (4 * i + d.T.1 i) x (4 * l + k)
    unfold fu
    by_cases e : l = i
    · subst e
      rw [if_pos rfl]
      refine ⟨e5, fun k p q => ?_⟩
      by_cases e2 : k = d.T.1 l
      · rw [if_pos (by omega), if_pos (by omega), if_pos (by omega), e2]; exact ⟨e6, e7, e8⟩
      · rw [if_neg (by omega), if_neg (by omega), if_neg (by omega), f2 (c.o + 6) _ (by omega) (by omega) (by omega) (by omega), f2 (c.o + 7) _ (by omega) (by omega) (by omega) (by omega), f2 (c.o + 8) _ (by omega) (by omega) (by omega) (by omega)]
        exact k2 k p (by omega)
    · have hTl := hI.2.2.2.2.1 l a b
      rw [if_neg e, f2 (c.o + 5) l (by omega) (by omega) (by omega) (by omega)]
      refine ⟨k1, fun k p q => ?_⟩
      rw [if_neg (by omega), if_neg (by omega), if_neg (by omega), f2 (c.o + 6) _ (by omega) (by omega) (by omega) (by omega), f2 (c.o + 7) _ (by omega) (by omega) (by omega) (by omega), f2 (c.o + 8) _ (by omega) (by omega) (by omega) (by omega)]
      exact k2 k p q
  · rw [f2 _ 1 (by omega) (by omega) (by omega) (by omega)]; exact hD.2.1
  · intro j a b
    rw [f2 _ j (by omega) (by omega) (by omega) (by omega)]; exact hD.2.2.1 j a b
  · rw [f2 _ 5 (by omega) (by omega) (by omega) (by omega)]; exact hD.2.2.2.1
  · intro t a b
    rw [f2 (c.o + 2) t (by omega) (by omega) (by omega) (by omega), f2 (c.o + 3) t (by omega) (by omega) (by omega) (by omega), f2 (c.o + 4) t (by omega) (by omega) (by omega) (by omega)]; exact hD.2.2.2.2.1 t a b
  · rw [f2 _ 10 (by omega) (by omega) (by omega) (by omega), f2 _ 11 (by omega) (by omega) (by omega) (by omega), f2 _ 12 (by omega) (by omega) (by omega) (by omega)]; exact hD.2.2.2.2.2.1
  · rw [f2 2 4 (by omega) (by omega) (by omega) (by omega), f2 2 5 (by omega) (by omega) (by omega) (by omega)]; exact hD.2.2.2.2.2.2.1
  · exact LgV_o hc hD.2.2.2.2.2.2.2 (fun x j a b e => f2 x j (by omega) (by omega) (by omega) (by omega))
