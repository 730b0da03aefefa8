/-! SPECS, part r: TALLIES of the reference. -/
theorem psum_add {f f' : Int → Int} : ∀ n : Nat, psum (fun i => f i + f' i) n = psum f n + psum f' n
  | 0 => rfl
  | n + 1 => by
    show psum (fun i => f i + f' i) n + (f n + f' n) = (psum f n + f n) + (psum f' n + f' n)
    rw [psum_add n]; omega
theorem psm_add {f f' : Int → Int} {n : Int} : psm (fun i => f i + f' i) n = psm f n + psm f' n := psum_add _
theorem psum_0 {f : Int → Int} : ∀ n : Nat, (∀ i : Int, 0 ≤ i → i < n → f i = 0) → psum f n = 0
  | 0, _ => rfl
  | n + 1, h => by
    show psum f n + f n = 0
    rw [psum_0 n (fun i h0 h1 => h i h0 (by omega)), h n (by omega) (by omega)]; rfl
theorem psm_z {f : Int → Int} {n m : Int} (h0 : 0 ≤ n) (h : ∀ i : Int, n ≤ i → i < m → f i = 0) (hm : n ≤ m) : psm f m = psm f n := by
  have key : ∀ d : Nat, n + (d : Int) ≤ m → psm f (n + d) = psm f n := by
    intro d
    induction d with
    | zero => intro _; rw [show n + ((0 : Nat) : Int) = n by omega]
    | succ d ih =>
      intro hd
      rw [show n + ((d + 1 : Nat) : Int) = n + (d : Int) + 1 by omega, psm_s (by omega), ih (by omega), h (n + d) (by omega) (by omega)]
      omega
  have h1 := key (m - n).toNat (by omega)
  rw [show n + ((m - n).toNat : Int) = m by omega] at h1
  exact h1
/-- a sum where one summand has changed -/
theorem psum_fu {f : Int → Int} {i v : Int} : ∀ n : Nat, 0 ≤ i → psum (fu f i v) n = psum f n + (if i < n then v - f i else 0)
  | 0, h0 => by
    rw [if_neg (by omega)]; rfl
  | n + 1, h0 => by
    show psum (fu f i v) n + fu f i v n = psum f n + f n + _
    rw [psum_fu n h0]
    simp only [fu]
    by_cases h : (n : Int) = i
    · rw [if_pos h, if_neg (by omega), if_pos (by omega), h]; omega
    · rw [if_neg h]
      by_cases h2 : i < n
      · rw [if_pos h2, if_pos (by omega)]; omega
      · rw [if_neg h2, if_neg (by omega)]; omega
theorem psm_fu {f : Int → Int} {i v n : Int} (h0 : 0 ≤ i) (h1 : i < n) : psm (fu f i v) n = psm f n + (v - f i) := by
  unfold psm
  rw [psum_fu n.toNat h0, if_pos (by omega)]
/-- what a tally counts of an EVENT for an ACCOUNT -/
def tcn (s c : Int → Int) (a e : Int) : Int := if c e ≠ 0 ∧ s (9 * e + 1) = a then c e - 1 else 0
/-- a TALLY of the reference at its place b: its PLACE p, its counts c, its sums -/
def TyV (x : Int → Int) (b : Int) (s : Int → Int) (p : Int) (c : Int → Int) : Prop := x b = p ∧ (∀ e : Int, 0 ≤ e → e < 120 → x (b + 9 + e) = c e) ∧ ∀ a : Int, 0 ≤ a → a < 8 → x (b + 1 + a) = psm (tcn s c a) 120
/-- its counts are such -/
def TcOk (s c : Int → Int) (p n : Int) (V : Int → Int) : Prop := (0 ≤ p ∧ p ≤ n) ∧ ∀ e : Int, 0 ≤ e → e < 120 → c e = 0 ∨ ((e < p ∧ s (9 * e + 0) ≠ 7) ∧ (1 ≤ c e ∧ c e ≤ 1000001) ∧ c e = V e + 1)
/-- seeing an EVENT -/
def tyc (s c v : Int → Int) (e : Int) : Int → Int := if s (9 * e + 0) = 7 then fu c (s (9 * e + 2)) 0 else fu c e (v e)
theorem tcn_fu {s c : Int → Int} {a e v : Int} : tcn s (fu c e v) a = fu (tcn s c a) e (if v ≠ 0 ∧ s (9 * e + 1) = a then v - 1 else 0) := by
  funext i
  unfold tcn
  by_cases h : i = e
  · rw [fu_e (f := fun e => if c e ≠ 0 ∧ s (9 * e + 1) = a then c e - 1 else 0) h, h, fu_s]
  · rw [fu_n (f := fun e => if c e ≠ 0 ∧ s (9 * e + 1) = a then c e - 1 else 0) h, fu_n h]
/-- what is counted of an EVENT as it is now -/
def cvn (s : Int → Int) (V cau : Int → Int) (k e : Int) : Int := if s (9 * e + 0) = 7 ∨ s (9 * e + 8) ≠ 0 ∨ s (9 * e + 0) ≠ k ∨ cau e ≠ 0 then 0 else V e + 1
theorem lcnt_ps {T : TT} {k ps ps' sh : Int} (hk : 0 ≤ k) : lcnt T k (-1) ps sh = lcnt T k (-1) ps' sh := by
  unfold lcnt
  rw [if_neg (fun h => by omega), if_neg (fun h => by omega)]
theorem lshp_ps {T : TT} {k ps ps' : Int} (hk : 0 ≤ k) : ∀ (n : Nat) (sh : Int) (l : Int → Int), lshp T k (-1) ps n sh l = lshp T k (-1) ps' n sh l
  | 0, _, _ => rfl
  | n + 1, sh, l => by
    show (if (lrun T (lcnt T k (-1) ps sh).toNat (4 * (2 * k + sh - 1)) l).2 ≠ 0 then lrun T (lcnt T k (-1) ps sh).toNat (4 * (2 * k + sh - 1)) l else lshp T k (-1) ps n (sh + 1) (lrun T (lcnt T k (-1) ps sh).toNat (4 * (2 * k + sh - 1)) l).1) = (if (lrun T (lcnt T k (-1) ps' sh).toNat (4 * (2 * k + sh - 1)) l).2 ≠ 0 then lrun T (lcnt T k (-1) ps' sh).toNat (4 * (2 * k + sh - 1)) l else lshp T k (-1) ps' n (sh + 1) (lrun T (lcnt T k (-1) ps' sh).toNat (4 * (2 * k + sh - 1)) l).1)
    rw [lcnt_ps (ps' := ps') hk, lshp_ps hk n]
theorem LF_ps {T : TT} {s : Int → Int} {ps ps' e : Int} (hk : 0 ≤ s (9 * e + 0)) : LF T s (-1) ps e = LF T s (-1) ps' e ∧ BF T s (-1) ps e = BF T s (-1) ps' e := by
  unfold LF BF lft
  rw [lshp_ps (ps' := ps') hk]
  exact ⟨rfl, rfl⟩
/-- a cause of 0 is no broken EVENT's, unless it was passed over -/
theorem rep_cause {s : Int → Int} {L : Int → Int → Int} {B : Int → Int} {but vo n e : Int} (h0 : 0 ≤ e) (h1 : e < n) (hc : (rep s L B but vo n).2.2.2.2 e = 0) (ho : ¬ (s (9 * e + 0) = 7 ∨ e = but ∨ (s (9 * e + 8) ≠ 0 ∧ s (9 * e + 8) ≤ vo))) : B e = 0 := by
  have keep : ∀ d : Nat, (rep s L B but vo (e + 1 + d)).2.2.2.2 e = (rep s L B but vo (e + 1)).2.2.2.2 e := by
    intro d
    induction d with
    | zero => rw [show e + 1 + ((0 : Nat) : Int) = e + 1 by omega]
    | succ d ih =>
      rw [show e + 1 + ((d + 1 : Nat) : Int) = e + 1 + (d : Int) + 1 by omega, rep_s (by omega), ← ih]
      unfold rstep rset rapply
      repeat' split
      all_goals exact fu_n (by omega)
  have h2 := keep (n - (e + 1)).toNat
  rw [show e + 1 + ((n - (e + 1)).toNat : Int) = n by omega, hc, rep_s h0] at h2
  by_cases hb : B e = 0
  · exact hb
  · exfalso
    unfold rstep at h2
    rw [if_neg ho] at h2
    have h3 : rcz s L B (rep s L B but vo e) e = 1 := rc_1 hb
    rw [if_neg (by rw [h3]; omega)] at h2
    have h4 : (rset (rep s L B but vo e) e (rcz s L B (rep s L B but vo e) e)).2.2.2.2 e = rcz s L B (rep s L B but vo e) e := fu_s
    rw [h4, h3] at h2
    omega
theorem rep_cin {s : Int → Int} {L : Int → Int → Int} {B : Int → Int} {but vo : Int} : ∀ (n : Nat) (e : Int), 0 ≤ (repN s L B but vo n).2.2.2.2 e ∧ (repN s L B but vo n).2.2.2.2 e ≤ 3
  | 0, e => by show 0 ≤ (0 : Int) ∧ (0 : Int) ≤ 3; omega
  | n + 1, e => by
    have h1 := rep_cin (s := s) (L := L) (B := B) (but := but) (vo := vo) n
    show 0 ≤ (rstep s L B but vo (repN s L B but vo n) n).2.2.2.2 e ∧ (rstep s L B but vo (repN s L B but vo n) n).2.2.2.2 e ≤ 3
    have hr : ∀ (q : RS) (c : Int), (∀ i, 0 ≤ q.2.2.2.2 i ∧ q.2.2.2.2 i ≤ 3) → 0 ≤ c ∧ c ≤ 3 → 0 ≤ (rset q n c).2.2.2.2 e ∧ (rset q n c).2.2.2.2 e ≤ 3 := by
      intro q c h2 h3
      show 0 ≤ fu q.2.2.2.2 n c e ∧ fu q.2.2.2.2 n c e ≤ 3
      simp only [fu]
      split
      · exact h3
      · exact h2 e
    have ha : ∀ (k a o x y : Int) (q : RS), (rapply k a o x y q).2.2.2.2 = q.2.2.2.2 := by
      intro k a o x y q
      unfold rapply
      repeat' split
      all_goals rfl
    unfold rstep
    split
    · exact hr _ 0 h1 (by omega)
    · split
      · rw [ha]; exact hr _ 0 h1 (by omega)
      · exact hr _ _ h1 rcause_in
theorem rep_cau {s : Int → Int} {L : Int → Int → Int} {B : Int → Int} {but vo n : Int} (e : Int) : 0 ≤ (rep s L B but vo n).2.2.2.2 e ∧ (rep s L B but vo n).2.2.2.2 e ≤ 3 := rep_cin _ e
theorem s_M_counts {K : Int} {S : Nat} {g r : ab_H} {t e n k f ps vo : Int} {T : TT} {s : Int → Int} (P : Int → ab_H → ab_H → Prop) (hr : SI r) (hK : 186 ≤ K) (hT : TOk T) (hv : ReT g T) (hs : EvS g s) (hE : EvOk s n) (hn : n ≤ 120) (he : 0 ≤ e ∧ e < n) (hp : g 161 34 = -1) (hps : g 161 35 = ps) (hps2 : -1 ≤ ps ∧ ps ≤ 7) (ht : 0 ≤ t ∧ t < 4) (hk : g 166 t = k) (hk2 : 0 ≤ k ∧ k ≤ 6) (hf : g 167 t = f) (hf2 : 1 ≤ f ∧ f ≤ 3) (hc : g 183 e = (rep s (LF T s (-1) (-1)) (BF T s (-1) (-1)) (-1) vo n).2.2.2.2 e) (h : ∀ (x : Int) (g' : ab_H), (∀ c : Int, c ≠ 178 → g' c = g c) → x = cvn s (fun e => LF T s (-1) (-1) e (f - 1)) (rep s (LF T s (-1) (-1)) (BF T s (-1) (-1)) (-1) vo n).2.2.2.2 k e → (x = 0 ∨ (1 ≤ x ∧ x ≤ 1000001)) → P x g' r) : ab_RI m_M_counts [(2, 161), (0, t), (0, e)] K S g r P := by
  have c0 := hE e he.1 he.2
  have s0 := hs (9 * e + 0) (by omega) (by omega)
  have s8 := hs (9 * e + 8) (by omega) (by omega)
  have hcb := rep_cau (s := s) (L := LF T s (-1) (-1)) (B := BF T s (-1) (-1)) (but := -1) (vo := vo) (n := n) e
  apply v_M_counts _ hr hK
  apply s_M_isVoid _ hr hK (by omega) (by omega)
  intro x hx
  rw [s0] at hx
  refine ⟨rfl, rfl, And.intro (fun h1 => ?_) (fun h1 => ?_)⟩
  · refine h 0 g (fun _ _ => rfl) ?_ (Or.inl rfl)
    unfold cvn
    rw [if_pos (Or.inl (by simp only [wr] at h1; omega))]
  · have h7 : s (9 * e + 0) ≠ 7 := by simp only [wr] at h1; omega
    apply s_M_isVoided _ hr hK (by omega) (by omega)
    intro y hy
    rw [s8] at hy
    refine ⟨rfl, rfl, And.intro (fun h2 => ?_) (fun h2 => ⟨by omega, by omega, ?_⟩)⟩
    · refine h 0 g (fun _ _ => rfl) ?_ (Or.inl rfl)
      unfold cvn
      rw [if_pos (Or.inr (Or.inl (by simp only [wr] at h2; omega)))]
    · have h8 : s (9 * e + 8) = 0 := by simp only [wr] at h2; omega
      rw [s0, hk, hc]
      refine And.intro (fun h3 => ?_) (fun h3 => ⟨by omega, And.intro (fun h4 => ?_) (fun h4 => ?_)⟩)
      · refine h 0 g (fun _ _ => rfl) ?_ (Or.inl rfl)
        unfold cvn
        rw [if_pos (Or.inr (Or.inr (Or.inl (by simp only [wr] at h3; omega))))]
      · have h4' : (rep s (LF T s (-1) (-1)) (BF T s (-1) (-1)) (-1) vo n).2.2.2.2 e = 0 := by simp only [wr] at h4; omega
        have h3' : s (9 * e + 0) = k := by simp only [wr] at h3; omega
        have hcn : cvn s (fun e => LF T s (-1) (-1) e (f - 1)) (rep s (LF T s (-1) (-1)) (BF T s (-1) (-1)) (-1) vo n).2.2.2.2 k e = LF T s (-1) (-1) e (f - 1) + 1 := by
          unfold cvn
          rw [if_neg (by omega)]
        have hb := rep_cause he.1 he.2 h4' (by omega)
        have hL := (LfOk_lft (pk := -1) (ps := -1) hT hE e he.1 he.2 h7).2 (f - 1) (by omega) (by omega)
        have hL2 := hL.2 hb
        have hs' : ∃ s', g 174 = s' ∧ EvOk s' n ∧ s' (9 * e + 0) ≠ 7 ∧ LF T s' (-1) ps e = LF T s (-1) (-1) e := by
          refine ⟨g 174, rfl, fun i h0 h1 => ?_, by rw [s0]; exact h7, ?_⟩
          · have hi := hE i h0 h1
            rw [hs (9 * i + 0) (by omega) (by omega), hs (9 * i + 1) (by omega) (by omega), hs (9 * i + 2) (by omega) (by omega), hs (9 * i + 3) (by omega) (by omega), hs (9 * i + 4) (by omega) (by omega), hs (9 * i + 8) (by omega) (by omega)]
            refine ⟨hi.1, fun a => ⟨(hi.2.1 a).1, (hi.2.1 a).2.1, fun j h2 h3 => by rw [hs (9 * i + 5 + j) (by omega) (by omega)]; exact (hi.2.1 a).2.2 j h2 h3⟩, hi.2.2.1, fun a => ?_, hi.2.2.2.2⟩
            have h9 := hi.2.2.2.1 a
            rw [hs (9 * (s (9 * i + 2)) + 0) (by omega) (by omega)]
            exact h9
          · rw [(LF_ext (s := g 174) (s' := s) s0 (hs (9 * e + 4) (by omega) (by omega)) (fun j h2 h3 => hs (9 * e + 5 + j) (by omega) (by omega))).1]
            exact (LF_ps (by omega)).1
        rcases hs' with ⟨s', hs1, hs2, hs3, hs4⟩
        apply s_M_breaks _ hr hK hT hv hs1 hs2 he hn hs3 hp hps (by omega) hps2
        intro g' f' hl'
        refine ⟨rfl, by omega, ?_⟩
        rw [f' 167 (by omega), hf]
        refine ⟨by omega, ?_⟩
        rw [hl' (f - 1) (by omega) (by omega), hs4]
        exact h _ g' f' hcn.symm (Or.inr (by omega))
      · refine h 0 g (fun _ _ => rfl) ?_ (Or.inl rfl)
        unfold cvn
        rw [if_pos (Or.inr (Or.inr (Or.inr (by simp only [wr] at h4; omega))))]
