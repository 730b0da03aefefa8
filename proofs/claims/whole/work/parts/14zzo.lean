/-! SPECS, part zzo: text, the class's EVENTS put by; pieces for its LINES. -/
theorem zs_addE {d : Zd} {k a o t s x y w : Int} (hn : 0 ≤ d.n) : zs (addE d k a o t s x y w) = evadd (zs d) d.n k a o t s x y w := by
  have e1 : (d.n + 1).toNat = d.n.toNat + 1 := by omega
  have e2 : ((d.n.toNat : Nat) : Int) = d.n := by omega
  show bsf (addEE d (ev8 k a o t s x y w)) (d.n + 1).toNat = evadd (bsf d.E d.n.toNat) d.n k a o t s x y w
  rw [e1]
  show evadd (bsf (addEE d (ev8 k a o t s x y w)) d.n.toNat) (d.n.toNat : Nat) _ _ _ _ _ _ _ _ = _
  rw [e2, bsf_ext (E' := d.E) d.n.toNat (fun e p q => addEE_o (by omega)), addEE_n]
  rfl
def EvPut (d : Zd) (k a o t s x y w : Int) : Prop := EvNew (zs d) d.n k a o t s ∧ ((0 ≤ x ∧ x ≤ 99999) ∧ (0 ≤ y ∧ y ≤ 99999) ∧ (0 ≤ w ∧ w ≤ 99999)) ∧ (k = 7 → zs d (9 * o + 8) = 0) ∧ (k ≠ 7 → a < d.nA) ∧ ((k = 6 → o < d.nA) ∧ (k = 7 → a = -2) ∧ (k ≠ 6 → k ≠ 7 → o = -2))
theorem Inv_addE {d : Zd} {k a o t s x y w : Int} (hI : Inv d) (hn : d.n < 50) (h : EvPut d k a o t s x y w) : Inv (addE d k a o t s x y w) := by
  have hn0 := hI.2.2.2.2.2.2.2.1
  refine ⟨hI.1, hI.2.1, hI.2.2.1, hI.2.2.2.1, hI.2.2.2.2.1, hI.2.2.2.2.2.1, hI.2.2.2.2.2.2.1, ⟨by show 0 ≤ d.n + 1; omega, by show d.n + 1 ≤ 50; omega⟩, ?_⟩
  intro m hm
  have hm2 : (m : Int) < d.n + 1 := hm
  show EvIn (bsf (addEE d (ev8 k a o t s x y w)) m) (addEE d (ev8 k a o t s x y w)) m d.nA
  rw [bsf_ext (E' := d.E) m (fun e p q => addEE_o (by omega))]
  unfold EvIn
  by_cases e : (m : Int) = d.n
  · have e2 : bsf d.E m = zs d := by unfold zs; rw [show d.n.toNat = m by omega]
    rw [e2, e, addEE_n]
    exact h
  · rw [addEE_o e]
    exact hI.2.2.2.2.2.2.2.2 m (by omega)
theorem DatC_E {c : Cx} {d : Zd} {g g' : ab_H} {k a o t s x y w : Int} (hc : CxOk c) (hD : DatC c g d) (hn : 0 ≤ d.n) (hf : OFr g g' c.lo) (hl : LgV g' c.lo (evadd (zs d) d.n k a o t s x y w) (d.n + 1)) : DatC c g' (addE d k a o t s x y w) := by
  have ho := hc.2.1
  have hlo := hc.2.2
  unfold isTe at ho
  have fo : ∀ x j : Int, c.o ≤ x → x ≤ c.o + 8 → g' x j = g x j := fun x j a b => hf x j (by omega)
  obtain ⟨h1, h2, h3, h4, h5, h6, h7, h8⟩ := hD
  refine ⟨TeV_mono h1 fo, by rw [fo _ _ (by omega) (by omega)]; exact h2, fun i a b => by rw [fo _ _ (by omega) (by omega)]; exact h3 i a b, by rw [fo _ _ (by omega) (by omega)]; exact h4, fun t a b => ?_, ?_, ?_, ?_⟩
  · rw [fo (c.o + 2) t (by omega) (by omega), fo (c.o + 3) t (by omega) (by omega), fo (c.o + 4) t (by omega) (by omega)]; exact h5 t a b
  · rw [fo c.o 10 (by omega) (by omega), fo c.o 11 (by omega) (by omega), fo c.o 12 (by omega) (by omega)]; exact h6
  · rw [hf 2 4 (by omega), hf 2 5 (by omega)]; exact h7
  · rw [zs_addE hn]; exact hl
theorem q_addE {K : Int} {S : Nat} {g r : ab_H} {c : Cx} {d : Zd} {k a o oo t s x y w : Int} (P : ab_H → ab_H → Prop) (hr : SI r) (hK : 186 ≤ K) (hK2 : 187 ≤ K) (hc : CxOk c) (hx : CR c (.ok d) g r) (hn : d.n < 50) (h7 : k ≠ 7) (hoo : k = 6 → o = oo) (hp : EvPut d k a o t s x y w) (hf : g 3 0 = x ∧ g 3 1 = y ∧ g 3 2 = w) (h : ∀ g' : ab_H, CR c (.ok (addE d k a o t s x y w)) g' r → P g' r) : ab_RV m_Lg_add [(2, c.lo), (0, k), (0, a), (0, oo), (0, t), (0, s), (2, 3)] K S g r P := by
  have hd := hx.1
  have hI := hd.2.2.2.2.2.2.1
  have hD := hd.2.2.2.2.2.1
  have hn0 := hI.2.2.2.2.2.2.2.1
  have hlo := hc.2.2
  apply s_Lg_add (b := o) _ hr hK hK2 (CxOk_lg hc) ⟨rfl, by omega, by omega⟩ (Or.inl (by omega)) hD.2.2.2.2.2.2.2 (by omega) (Inv_ev hI).1 hp.1 h7 hoo hf.1 hf.2.1 hf.2.2
  intro g' f1 f2 _ _
  exact h g' (CT_upd hc hx (fun x j b e l => f1 x j (by omega)) rfl (DatC_E hc hD hn0.1 f1 f2) (Inv_addE hI hn hp))
theorem q_addV {K : Int} {S : Nat} {g r : ab_H} {c : Cx} {d : Zd} {o t : Int} (P : ab_H → ab_H → Prop) (hr : SI r) (hK : 186 ≤ K) (hc : CxOk c) (hx : CR c (.ok d) g r) (hn : d.n < 50) (hp : EvPut d 7 (-2) o t 0 0 0 0) (h : ∀ g' : ab_H, CR c (.ok (addE d 7 (-2) o t 0 0 0 0)) g' r → P g' r) : ab_RV m_Lg_addVoid [(2, c.lo), (0, o), (0, t)] K S g r P := by
  have hd := hx.1
  have hI := hd.2.2.2.2.2.2.1
  have hD := hd.2.2.2.2.2.1
  have hn0 := hI.2.2.2.2.2.2.2.1
  apply s_Lg_addVoid _ hr hK (CxOk_lg hc) hD.2.2.2.2.2.2.2 (by omega) (Inv_ev hI).1 hp.1
  intro g' f1 f2 _ _
  exact h g' (CT_upd hc hx (fun x j b e l => f1 x j (by omega)) rfl (DatC_E hc hD hn0.1 f1 f2) (Inv_addE hI hn hp))
theorem q_accNamed {K : Int} {S : Nat} {g r : ab_H} {c : Cx} {X : ZX} {v : Int} (P : Int → ab_H → ab_H → Prop) (hr : SI r) (hK : 186 ≤ K) (hc : CxOk c) (hx : CR c X g r) (hv : 0 ≤ v ∧ v ≤ 2147483647) (h : ∀ x : Int, (∀ d : Zd, X = .ok d → x = fnd d.an d.nA v) → P x g r) : ab_RI m_Te_accountNamed [(2, c.o), (0, v)] K S g r P := by
  obtain ⟨d, hd, he⟩ := CR_b hx
  have hI := hd.2.2.2.2.2.2.1
  have hD := hd.2.2.2.2.2.1
  apply v_Te_accountNamed _ hr hK hc.2.1
  rw [hD.2.1]
  apply s_Te_find _ hr hK (ar_Te_0 hc.2.1 hK) hI.1 (by omega) (by omega)
  · intro i a b
    rw [hD.2.2.1 i a b]; exact hI.2.1 i a b
  · refine ⟨rfl, rfl, h _ (fun d' e => ?_)⟩
    have := he d' e
    subst this
    exact fnd_ext (fun i a b => hD.2.2.1 i a b)
theorem q_talNamed {K : Int} {S : Nat} {g r : ab_H} {c : Cx} {X : ZX} {v : Int} (P : Int → ab_H → ab_H → Prop) (hr : SI r) (hK : 186 ≤ K) (hc : CxOk c) (hx : CR c X g r) (hv : 0 ≤ v ∧ v ≤ 2147483647) (h : ∀ x : Int, (∀ d : Zd, X = .ok d → x = fnd d.tn d.nT v) → P x g r) : ab_RI m_Te_tallyNamed [(2, c.o), (0, v)] K S g r P := by
  obtain ⟨d, hd, he⟩ := CR_b hx
  have hI := hd.2.2.2.2.2.2.1
  have hD := hd.2.2.2.2.2.1
  apply v_Te_tallyNamed _ hr hK hc.2.1
  rw [hD.2.2.2.1]
  apply s_Te_find _ hr hK (ar_Te_2 hc.2.1 hK) hI.2.2.1 (by omega) (by omega)
  · intro i a b
    rw [(hD.2.2.2.2.1 i a b).1]; exact (hI.2.2.2.1 i a b).1
  · refine ⟨rfl, rfl, h _ (fun d' e => ?_)⟩
    have := he d' e
    subst this
    exact fnd_ext (fun i a b => (hD.2.2.2.2.1 i a b).1)
/-- a FAULT, if it stands not as it must -/
theorem t_ck {K : Int} {S : Nat} {g r : ab_H} {c : Cx} {X : ZX} {C : Zd → Bool} {C1 C2 : Prop} {f w w' : Int} {A : ab_H → Prop} (hr : SI r) (hK : 186 ≤ K) (hc : CxOk c) (hx : CR c X g r) (hf : 1 ≤ f ∧ f ≤ 4) (h12 : C2 → ¬ C1) (hC : ∀ d : Zd, X = .ok d → (C d = true ↔ C1)) (hw : ∀ d : Zd, X = .ok d → w = w') (hA : ∀ g' : ab_H, CR c (zck X C f w') g' r → A g') : (C1 → A g) ∧ (C2 → ab_RV m_Pa_fail [(2, 2), (0, f), (0, w)] K S g r (fun g' r' => r' = r ∧ A g')) := by
  refine ⟨fun e => ?_, fun e => ?_⟩
  · refine hA g ?_
    cases X with
    | error q => obtain ⟨f2, w2⟩ := q; exact hx
    | ok d =>
      have : C d = true := (hC d rfl).mpr e
      show CR c (if C d = true then .ok d else ZX.bad f w') g r
      rw [if_pos this]; exact hx
  · apply q_fail (w' := w') _ hr hK hc hx hf hw
    intro g' h'
    refine ⟨rfl, hA g' ?_⟩
    cases X with
    | error q => obtain ⟨f2, w2⟩ := q; exact h'
    | ok d =>
      have : ¬ C d = true := fun hh => h12 e ((hC d rfl).mp hh)
      show CR c (if C d = true then .ok d else ZX.bad f w') g' r
      rw [if_neg this]; exact h'
theorem t_end {g r : ab_H} {c : Cx} {X : ZX} {A B : Prop} (hx : CR c X g r) (h0 : ∀ f w : Int, X = ZX.bad f w → A) (h1 : ∀ d : Zd, X = .ok d → B) : (¬ wr (g 2 6) = wr 0 → A) ∧ (wr (g 2 6) = wr 0 → B) := by
  have h := CR_f0 hx
  refine ⟨fun e => ?_, fun e => ?_⟩
  · obtain ⟨f, w, e2⟩ := h.2 e
    exact h0 f w e2
  · obtain ⟨d, e2⟩ := h.1 e
    exact h1 d e2
theorem CR_pl {c : Cx} {X : ZX} {g r : ab_H} (h : CR c X g r) (hk : ∃ d : Zd, X = .ok d) : g 4 4 = zpl X := by
  obtain ⟨d, e⟩ := hk
  rw [e] at h ⊢
  exact h.2.2.2.2.1
theorem ok_adv {b : Int → Int} {n : Int} {X : ZX} {d : Zd} (h : zadv b n X = .ok d) : ∃ d' : Zd, X = .ok d' := by
  cases X with
  | error q => obtain ⟨f, w⟩ := q; cases h
  | ok d' => exact ⟨d', rfl⟩
theorem ok_nam {b : Int → Int} {n : Int} {X : ZX} {d : Zd} (h : (znam b n X).2 = .ok d) : ∃ d' : Zd, X = .ok d' := by
  cases X with
  | error q => obtain ⟨f, w⟩ := q; cases h
  | ok d' => exact ⟨d', rfl⟩
theorem ok_num {b : Int → Int} {n l u : Int} {X : ZX} {d : Zd} (h : (znum b n X l u).2 = .ok d) : ∃ d' : Zd, X = .ok d' := by
  cases X with
  | error q => obtain ⟨f, w⟩ := q; cases h
  | ok d' => exact ⟨d', rfl⟩
theorem ok_word {b : Int → Int} {n l u : Int} {X : ZX} {d : Zd} (h : (zword b n X l u).2 = .ok d) : ∃ d' : Zd, X = .ok d' := by
  cases X with
  | error q => obtain ⟨f, w⟩ := q; cases h
  | ok d' => exact ⟨d', rfl⟩
theorem ok_acc {b : Int → Int} {n : Int} {X : ZX} {d : Zd} (h : (zacc b n X).2 = .ok d) : ∃ d' : Zd, X = .ok d' := by
  cases X with
  | error q => obtain ⟨f, w⟩ := q; cases h
  | ok d' => exact ⟨d', rfl⟩
theorem ok_ck {X : ZX} {C : Zd → Bool} {f w : Int} {d : Zd} (h : zck X C f w = .ok d) : X = .ok d ∧ C d = true := by
  cases X with
  | error q => obtain ⟨f, w⟩ := q; cases h
  | ok d' =>
    have h2 : (if C d' = true then Except.ok d' else ZX.bad f w) = .ok d := h
    by_cases e : C d' = true
    · rw [if_pos e] at h2; cases h2; exact ⟨rfl, e⟩
    · rw [if_neg e] at h2; cases h2
theorem ok_time {b : Int → Int} {n : Int} {X : ZX} {d : Zd} (h : (ztime b n X).2 = .ok d) : ∃ d' : Zd, X = .ok d' := by
  cases X with
  | error q => obtain ⟨f, w⟩ := q; cases h
  | ok d' => exact ⟨d', rfl⟩
theorem ok_stop {b : Int → Int} {n : Int} {X : ZX} {d : Zd} (h : zstop b n X = .ok d) : ∃ d' : Zd, X = .ok d' := by
  cases X with
  | error q => obtain ⟨f, w⟩ := q; cases h
  | ok d' => exact ⟨d', rfl⟩
theorem zsm_room {n lo : Int} {d : Zd} {x y : Int} (hp : lo ≤ d.p ∧ d.p ≤ n) : zsm n lo (x < y) d (zroom d x y) := by
  unfold zroom
  by_cases h : y ≤ x
  · rw [if_pos h]; exact zsm_bad
  · rw [if_neg h]; intro d' e; cases e; exact ⟨by omega, hp, rfl⟩
theorem num_u {b : Int → Int} {n l u : Int} {X : ZX} (h : l ≤ u) : l ≤ (znum b n X l u).1 ∧ (znum b n X l u).1 ≤ u := by
  cases X with
  | error q => obtain ⟨f, w⟩ := q; exact ⟨Int.le_refl _, h⟩
  | ok d =>
    unfold znum
    by_cases h1 : tki b n d.p ≠ 2
    · simp only [if_pos h1]; omega
    · simp only [if_neg h1]
      by_cases h2 : tv b n d.p < l ∨ u < tv b n d.p
      · simp only [if_pos h2]; omega
      · simp only [if_neg h2]; omega
theorem word_u {b : Int → Int} {n l u : Int} {X : ZX} (h : l ≤ u) : l ≤ (zword b n X l u).1 ∧ (zword b n X l u).1 ≤ u := by
  cases X with
  | error q => obtain ⟨f, w⟩ := q; exact ⟨Int.le_refl _, h⟩
  | ok d =>
    unfold zword
    by_cases h2 : tki b n d.p ≠ 0 ∨ tv b n d.p < l ∨ u < tv b n d.p
    · simp only [if_pos h2]; omega
    · simp only [if_neg h2]; omega
