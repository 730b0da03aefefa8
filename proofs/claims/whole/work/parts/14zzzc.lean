/-! SPECS, part zzzc: text, the place goes on; the reference reads a whole TEXT. -/
def zpm (n lo : Int) (X : ZX) : Prop := ∀ d : Zd, X = .ok d → lo ≤ d.p ∧ d.p ≤ n
theorem zpm_bad {n lo f w : Int} : zpm n lo (.error (f, w)) := fun d e => by cases e
theorem zpm_adv {b : Int → Int} {n lo : Int} {X : ZX} (hb : TxB b n) (hl : 0 ≤ lo) (h : zpm n lo X) : zpm n lo (zadv b n X) := by
  cases X with
  | error q => obtain ⟨f, w⟩ := q; exact zpm_bad
  | ok d =>
    intro d' e
    have h1 := h d rfl
    have hp := nxp_b hb (p := d.p) (by omega)
    cases e
    exact ⟨by show lo ≤ nxp b n d.p; omega, hp.1.2⟩
theorem zpm_b {n lo : Int} {X : ZX} {f : Zd → ZX} (h : zpm n lo X) (hf : ∀ d : Zd, X = .ok d → zpm n lo (f d)) : zpm n lo (zb X f) := by
  cases X with
  | error q => obtain ⟨f, w⟩ := q; exact zpm_bad
  | ok d => exact hf d rfl
theorem zpm_F {n lo : Int} {X : ZX} {F : Zd → Zd} (h : zpm n lo X) (hF : ∀ d : Zd, (F d).p = d.p) : zpm n lo (zb X (fun d => .ok (F d))) := by
  refine zpm_b h (fun d e d' e' => ?_)
  cases e'
  rw [hF]
  exact h d e
theorem zpm_ck {n lo : Int} {X : ZX} {c : Zd → Bool} {f w : Int} (h : zpm n lo X) : zpm n lo (zck X c f w) := by
  unfold zck
  refine zpm_b h (fun d e => ?_)
  by_cases hc : c d = true
  · rw [if_pos hc]; rw [e] at h; exact h
  · rw [if_neg hc]; exact zpm_bad
theorem zpm_num {b : Int → Int} {n lo l u : Int} {X : ZX} (hb : TxB b n) (hl : 0 ≤ lo) (h : zpm n lo X) : zpm n lo (znum b n X l u).2 := by
  cases X with
  | error q => obtain ⟨f, w⟩ := q; exact zpm_bad
  | ok d =>
    unfold znum
    by_cases h1 : tki b n d.p ≠ 2
    · simp only [if_pos h1]; exact zpm_bad
    · simp only [if_neg h1]
      by_cases h2 : tv b n d.p < l ∨ u < tv b n d.p
      · simp only [if_pos h2]; exact zpm_bad
      · simp only [if_neg h2]; exact zpm_adv hb hl h
theorem zpm_word {b : Int → Int} {n lo l u : Int} {X : ZX} (hb : TxB b n) (hl : 0 ≤ lo) (h : zpm n lo X) : zpm n lo (zword b n X l u).2 := by
  cases X with
  | error q => obtain ⟨f, w⟩ := q; exact zpm_bad
  | ok d =>
    unfold zword
    by_cases h2 : tki b n d.p ≠ 0 ∨ tv b n d.p < l ∨ u < tv b n d.p
    · simp only [if_pos h2]; exact zpm_bad
    · simp only [if_neg h2]; exact zpm_adv hb hl h
theorem zpm_nam {b : Int → Int} {n lo : Int} {X : ZX} (hb : TxB b n) (hl : 0 ≤ lo) (h : zpm n lo X) : zpm n lo (znam b n X).2 := by
  cases X with
  | error q => obtain ⟨f, w⟩ := q; exact zpm_bad
  | ok d =>
    unfold znam
    by_cases h2 : tki b n d.p ≠ 1
    · simp only [if_pos h2]; exact zpm_bad
    · simp only [if_neg h2]; exact zpm_adv hb hl h
theorem zpm_acc {b : Int → Int} {n lo : Int} {X : ZX} (hb : TxB b n) (hl : 0 ≤ lo) (h : zpm n lo X) : zpm n lo (zacc b n X).2 := by
  cases X with
  | error q => obtain ⟨f, w⟩ := q; exact zpm_bad
  | ok d =>
    unfold zacc
    by_cases h2 : tki b n d.p ≠ 1
    · simp only [if_pos h2]; exact zpm_bad
    · simp only [if_neg h2]
      by_cases h3 : fnd d.an d.nA (tv b n d.p) = -1
      · simp only [if_pos h3]; exact zpm_bad
      · simp only [if_neg h3]; exact zpm_adv hb hl h
theorem zpm_time {b : Int → Int} {n lo : Int} {X : ZX} (hb : TxB b n) (hl : 0 ≤ lo) (h : zpm n lo X) : zpm n lo (ztime b n X).2 := by
  cases X with
  | error q => obtain ⟨f, w⟩ := q; exact zpm_bad
  | ok d => exact zpm_num hb hl h
theorem zpm_stop {b : Int → Int} {n lo : Int} {X : ZX} (hb : TxB b n) (hl : 0 ≤ lo) (h : zpm n lo X) : zpm n lo (zstop b n X) := by
  cases X with
  | error q => obtain ⟨f, w⟩ := q; exact zpm_bad
  | ok d =>
    show zpm n lo (if tki b n d.p ≠ 3 then ZX.bad 1 d.p else zadv b n (.ok d))
    by_cases hk : tki b n d.p ≠ 3
    · rw [if_pos hk]; exact zpm_bad
    · rw [if_neg hk]; exact zpm_adv hb hl h
theorem zpm_fi {b : Int → Int} {n lo : Int} {X : ZX} {sh i : Int} (hb : TxB b n) (hl : 0 ≤ lo) (h : zpm n lo X) : zpm n lo (zfi b n X sh i).2 := by
  unfold zfi
  by_cases e : i < sh
  · rw [if_pos e]; exact zpm_num hb hl h
  · rw [if_neg e]; exact h
theorem zpm_1 {b : Int → Int} {n : Int} {d d' : Zd} (hb : TxB b n) (hp : 0 ≤ d.p ∧ d.p ≤ n) (hk : tki b n d.p ≠ 4) (hd : d'.p = d.p) : zpm n (d.p + 1) (zadv b n (.ok d')) := by
  intro d2 e
  have h1 := nxp_b hb hp
  have h2 := h1.2 hk
  cases e
  show d.p + 1 ≤ nxp b n d'.p ∧ nxp b n d'.p ≤ n
  rw [hd]
  omega
theorem zpm_r {b : Int → Int} {n x y : Int} {d : Zd} (hb : TxB b n) (hp : 0 ≤ d.p ∧ d.p ≤ n) (hk : tki b n d.p ≠ 4) : zpm n (d.p + 1) (zadv b n (zroom d x y)) := by
  unfold zroom
  by_cases h : y ≤ x
  · rw [if_pos h]; exact zpm_bad
  · rw [if_neg h]; exact zpm_1 hb hp hk rfl
theorem zline_p {b : Int → Int} {n : Int} {d : Zd} (hb : TxB b n) (hp : 0 ≤ d.p ∧ d.p ≤ n) (hk : tki b n d.p ≠ 4) : zpm n (d.p + 1) (zline b n d) := by
  have hl : 0 ≤ d.p + 1 := by omega
  have r1 : ∀ x y : Int, zpm n (d.p + 1) (zadv b n (zroom d x y)) := fun x y => zpm_r hb hp hk
  refine zpm_stop hb hl ?_
  unfold zbody
  by_cases h0 : tki b n d.p ≠ 0 ∨ (8 ≤ tv b n d.p ∧ tv b n d.p ≤ 11)
  · rw [if_pos h0]; exact zpm_bad
  rw [if_neg h0]
  by_cases h1 : tv b n d.p ≤ 6
  · rw [if_pos h1]
    generalize tv b n d.p = k
    have e1 : zpm n (d.p + 1) (ze_a b n d).2 := zpm_acc hb hl (r1 _ _)
    have e2 : zpm n (d.p + 1) (ze_o b n d k).2 := by
      unfold ze_o
      by_cases h6 : k = 6
      · rw [if_pos h6]; exact zpm_acc hb hl e1
      · rw [if_neg h6]; exact e1
    have e3 : zpm n (d.p + 1) (ze_3 b n d k) := zpm_ck e2
    have e4 : zpm n (d.p + 1) (ze_t b n d k).2 := zpm_time hb hl e3
    have e5 : zpm n (d.p + 1) (ze_s b n d k).2 := zpm_num hb hl e4
    have e6 : zpm n (d.p + 1) (ze_x b n d k).2 := zpm_num hb hl e5
    have e7 : zpm n (d.p + 1) (ze_y b n d k).2 := zpm_fi (i := 1) (sh := (ze_s b n d k).1) hb hl e6
    have e8 : zpm n (d.p + 1) (ze_w b n d k).2 := zpm_fi (i := 2) (sh := (ze_s b n d k).1) hb hl e7
    exact zpm_F (F := fun d5 => addE d5 k (ze_a b n d).1 (ze_o b n d k).1 (ze_t b n d k).1 (ze_s b n d k).1 (ze_x b n d k).1 (ze_y b n d k).1 (ze_w b n d k).1) e8 (fun _ => rfl)
  rw [if_neg h1]
  by_cases h2 : tv b n d.p = 7
  · rw [if_pos h2]
    have e1 : zpm n (d.p + 1) (zv_a b n d).2 := zpm_num hb hl (r1 _ _)
    have e2 : zpm n (d.p + 1) (zv_4 b n d) := zpm_ck (zpm_ck e1)
    have e3 : zpm n (d.p + 1) (zv_t b n d).2 := zpm_time hb hl e2
    exact zpm_F (F := fun d5 => addE d5 7 (-2) (zv_a b n d).1 (zv_t b n d).1 0 0 0 0) e3 (fun _ => rfl)
  rw [if_neg h2]
  by_cases h3 : tv b n d.p = 12
  · rw [if_pos h3]
    exact zpm_F (F := fun d4 => addA d4 (znam b n (zadv b n (zroom d d.nA 8))).1) (zpm_ck (zpm_nam hb hl (r1 _ _))) (fun _ => rfl)
  rw [if_neg h3]
  by_cases h4 : tv b n d.p = 13
  · rw [if_pos h4]
    have e1 : zpm n (d.p + 1) (zf_a b n d).2 := zpm_word hb hl (zpm_1 hb hp hk rfl)
    have e2 : zpm n (d.p + 1) (zf_e b n d).2 := zpm_num hb hl e1
    have e3 : zpm n (d.p + 1) (zf_o b n d).2 := zpm_word hb hl (zpm_ck e2)
    have e4 : zpm n (d.p + 1) (zf_f b n d).2 := zpm_num hb hl e3
    have e5 : zpm n (d.p + 1) (zf_x b n d).2 := by
      unfold zf_x
      by_cases h6 : (zf_o b n d).1 = 11
      · rw [if_pos h6]; exact zpm_num hb hl e4
      · rw [if_neg h6]; exact zpm_num hb hl e4
    exact zpm_F (F := fun d5 => addS d5 (gix (zf_a b n d).1 (zf_e b n d).1) (zf_o b n d).1 (zf_f b n d).1 (zf_x b n d).1) e5 (fun _ => rfl)
  rw [if_neg h4]
  by_cases h5 : tv b n d.p = 14
  · rw [if_pos h5]
    have e1 : zpm n (d.p + 1) (zt_a b n d).2 := zpm_nam hb hl (r1 _ _)
    have e2 : zpm n (d.p + 1) (zt_k b n d).2 := zpm_word hb hl (zpm_ck e1)
    have e3 : zpm n (d.p + 1) (zt_f b n d).2 := zpm_num hb hl e2
    exact zpm_F (F := fun d5 => addT d5 (zt_a b n d).1 (zt_k b n d).1 (zt_f b n d).1) e3 (fun _ => rfl)
  rw [if_neg h5]
  by_cases h6 : tv b n d.p = 15
  · rw [if_pos h6]
    have e1 : zpm n (d.p + 1) (zn_1 b n d) := by
      unfold zn_1
      by_cases hs : d.sn = 0
      · rw [if_pos hs]; exact zpm_1 hb hp hk rfl
      · rw [if_neg hs]; exact zpm_bad
    have e2 : zpm n (d.p + 1) (zn_2 b n d) := zpm_F (F := fun d2 => Zd.mk d2.p d2.nA d2.an d2.nT d2.tn d2.tk d2.tf d2.T (znum b n (zn_1 b n d) 1 999).1 d2.kp d2.sd d2.sn d2.sb d2.n d2.E) (zpm_num hb hl e1) (fun _ => rfl)
    exact zpm_F (F := fun d2 => Zd.mk d2.p d2.nA d2.an d2.nT d2.tn d2.tk d2.tf d2.T d2.ev (znum b n (zn_2 b n d) 0 6).1 d2.sd d2.sn d2.sb d2.n d2.E) (zpm_num hb hl e2) (fun _ => rfl)
  rw [if_neg h6]
  have e1 : zpm n (d.p + 1) (zs_1 b n d) := by
    unfold zs_1
    by_cases hs : d.sb = 0
    · rw [if_pos hs]; exact zpm_1 hb hp hk rfl
    · rw [if_neg hs]; exact zpm_bad
  exact zpm_F (F := fun d2 => Zd.mk d2.p d2.nA d2.an d2.nT d2.tn d2.tk d2.tf d2.T d2.ev d2.kp (znum b n (zs_1 b n d) 0 99999).1 d2.sn d2.sb d2.n d2.E) (zpm_num hb hl e1) (fun _ => rfl)
theorem tki_end {b : Int → Int} {n p : Int} (h : n ≤ p) : tki b n p = 4 := by
  unfold tki
  have h1 := hx_no (b := b) h
  have n1 : fS (hx b n p) ≠ true := by rw [h1]; decide
  have n2 : fD (hx b n p) ≠ true := by rw [h1]; decide
  rw [if_neg n1, if_neg n2, if_pos h1]
theorem l_M_readText {K : Int} {S : Nat} {r : ab_H} (P : ab_H → ab_H → Prop) (hr : SI r) (hK : 186 ≤ K) : ∀ (m : Nat) (x : Mx) (X : ZX) (g : ab_H), TxB x.b x.n → MR x X g → (∀ d : Zd, X = .ok d → x.n ≤ d.p + m) → (∀ g' : ab_H, MR (Mx.mk x.b x.n (zloop x.b x.n m X x.l).1 x.g0) (zloop x.b x.n m X x.l).2 g' → P g' r) → ab_Rn m_M_readText 16 [some (2, 161), none] [] (K, S, g, r) (ab_Qv K S P) := by
  intro m
  induction m with
  | zero =>
    intro x X g hb hx hm h
    have h0 := h g hx
    apply v_M_readText_16 _ hr hK
    refine u_end hx (fun f w e => h0) (fun d e => ?_)
    have hp := hm d e
    rw [e] at hx
    have e20 : g 161 20 = tki x.b x.n d.p := hx.2.2.2.2.2.1
    rw [e20, tki_end (by omega)]
    exact And.intro (fun _ => h0) (fun q => absurd rfl q)
  | succ m ih =>
    intro x X g hb hx hm h
    apply v_M_readText_16 _ hr hK
    refine u_end hx (fun f w e => ?_) (fun d e => ?_)
    · rw [e] at h hx; exact h g hx
    · have hp := hm d e
      rw [e] at h hx
      have e20 : g 161 20 = tki x.b x.n d.p := hx.2.2.2.2.2.1
      have hp2 := hx.2.2.1
      have hkb := (tk_b hb hp2).2.2.1
      rw [e20]
      refine And.intro (fun q => ?_) (fun q => ?_)
      · have e4 : tki x.b x.n d.p = 4 := by simp only [wr] at q; omega
        have ez : zloop x.b x.n (m + 1) (.ok d) x.l = (x.l, .ok d) := if_pos e4
        rw [ez] at h
        exact h g hx
      · have e4 : tki x.b x.n d.p ≠ 4 := fun hh => q (by rw [hh])
        have ez : zloop x.b x.n (m + 1) (.ok d) x.l = zloop x.b x.n m (zline x.b x.n d) (x.l + 1) := if_neg e4
        rw [ez] at h
        apply u_readLine _ hr hK hb hx
        intro g1 k1
        refine ⟨rfl, ih (m1 x x.g0) (zline x.b x.n d) g1 hb k1 (fun d' e' => ?_) h⟩
        have := zline_p hb hp2 e4 d' e'
        show x.n ≤ d'.p + (m : Int)
        omega
