/-! SPECS, part x: calls that answer alone (1). -/
theorem l_Te_find {K : Int} {S : Nat} {g r : ab_H} {c n x n0 : Int} (P : Int → ab_H → ab_H → Prop) (hr : SI r) (hK : 186 ≤ K) (hc : ab_AR K c 100 n0) (hn : 0 ≤ n ∧ n ≤ n0) (hn0 : n0 ≤ 1000) (hx : -2147483648 ≤ x ∧ x ≤ 2147483647) (hf : ∀ i : Int, 0 ≤ i → i < n → 0 ≤ g c i ∧ g c i ≤ 2147483647) : ∀ (m : Nat) (i : Int), 0 ≤ i → i + m = n → P (fndN (g c) x m i) g r → ab_Rn m_Te_find 2 [some (2, c), some (0, n), some (0, x), some (0, i)] [] (K, S, g, r) (ab_Qi K S P)
  | 0, i, h0, hi, h => by
    apply v_Te_find_2 _ hr hK hc
    exact And.intro (fun _ => h) (fun h1 => absurd h1 (by simp only [wr]; omega))
  | m + 1, i, h0, hi, h => by
    have hfi := hf i h0 (by omega)
    have hs : fndN (g c) x (m + 1) i = if g c i = x then i else fndN (g c) x m (i + 1) := rfl
    rw [hs] at h
    apply v_Te_find_2 _ hr hK hc
    refine And.intro (fun h1 => absurd h1 (by simp only [wr]; omega)) (fun _ => And.intro (fun h1 => absurd h1 (by simp only [wr]; omega)) (fun _ => ⟨by omega, And.intro (fun h1 => ?_) (fun h1 => ?_)⟩))
    · rw [if_neg (by simp only [wr] at h1; omega)] at h
      exact l_Te_find P hr hK hc hn hn0 hx hf m (i + 1) (by omega) (by omega) h
    · rw [if_pos (by simp only [wr] at h1; omega)] at h; exact h
theorem s_Te_find {K : Int} {S : Nat} {g r : ab_H} {c n x n0 : Int} (P : Int → ab_H → ab_H → Prop) (hr : SI r) (hK : 186 ≤ K) (hc : ab_AR K c 100 n0) (hn : 0 ≤ n ∧ n ≤ n0) (hn0 : n0 ≤ 1000) (hx : -2147483648 ≤ x ∧ x ≤ 2147483647) (hf : ∀ i : Int, 0 ≤ i → i < n → 0 ≤ g c i ∧ g c i ≤ 2147483647) (h : P (fnd (g c) n x) g r) : ab_RI m_Te_find [(2, c), (0, n), (0, x)] K S g r P := by
  apply v_Te_find _ hr hK hc
  exact l_Te_find P hr hK hc hn hn0 hx hf n.toNat 0 (by omega) (by omega) h
/-- the reference replays, under the relation -/
theorem LB_ps {g : ab_H} {s : Int → Int} {ps e n : Int} (hE : EvOk s n) (h0 : 0 ≤ e) (h1 : e < n) : LF (tt g) s (-1) ps e = LL g s e ∧ BF (tt g) s (-1) ps e = BB g s e := LF_ps (hE e h0 h1).1.1
theorem u_M_replays {K : Int} {S : Nat} {g r : ab_H} {k but vo w : Int} (P : ab_H → ab_H → Prop) (hr : SI r) (hK : 186 ≤ K) (R : Rel g r) (hk : 0 ≤ k ∧ k ≤ ss g 1080) (hbut : -1 ≤ but ∧ but ≤ 1000) (hvo : 0 ≤ vo ∧ vo ≤ 1000) (hw : w = -1 ∨ (0 ≤ w ∧ w < 8)) (h : ∀ g' : ab_H, MFr g g' → Scr g g' r → StV g' 178 (rep (ss g) (LL g (ss g)) (BB g (ss g)) but vo k) k → WV g' (wat (ss g) (LL g (ss g)) (BB g (ss g)) but vo w k) → P g' r) : ab_RV m_M_replays [(2, 161), (0, k), (0, but), (0, vo), (0, w)] K S g r P := by
  have G := R.2.2.2.1.1
  apply t_M_replays (n := ss g 1080) (T := tt g) (s := ss g) _ hr hK R.2.2.1.1 G.2.1 G.1.2 hk hbut hvo hw (by omega) R.2.2.2.2.2.2.2.1 (Rel_EvS R) ⟨rfl, rfl, rfl, rfl⟩ R.2.2.2.2.2.2.1 rfl
  intro g' f' h1 h2
  refine h g' f' (Scr_M R f') ?_ ?_
  · rw [← rep_ext (s' := ss g) (L' := LF (tt g) (ss g) (-1) (g 161 35)) (B' := BF (tt g) (ss g) (-1) (g 161 35)) hk.1 (fun _ _ _ _ _ _ => rfl) (fun e a b => (LB_ps G.2.1 a (by omega)).1) (fun e a b => (LB_ps G.2.1 a (by omega)).2)]
    exact h1
  · rw [← wat_ext (s' := ss g) (L' := LF (tt g) (ss g) (-1) (g 161 35)) (B' := BF (tt g) (ss g) (-1) (g 161 35)) hk.1 (fun _ _ _ _ _ _ => rfl) (fun e a b => (LB_ps G.2.1 a (by omega)).1) (fun e a b => (LB_ps G.2.1 a (by omega)).2)]
    exact h2
theorem Rel_many {g r : ab_H} (_ : Rel g r) : g 174 1080 = ss g 1080 := (cn_in (by omega) (by omega)).symm
theorem u_M_replaysAll {K : Int} {S : Nat} {g r : ab_H} (P : ab_H → ab_H → Prop) (hr : SI r) (hK : 186 ≤ K) (R : Rel g r) (h : ∀ g' : ab_H, MFr g g' → Scr g g' r → StV g' 178 (rep (ss g) (LL g (ss g)) (BB g (ss g)) (-1) 120 (ss g 1080)) (ss g 1080) → P g' r) : ab_RV m_M_replaysAll [(2, 161)] K S g r P := by
  have G := R.2.2.2.1.1
  apply v_M_replaysAll _ hr hK
  apply s_M_many _ hr hK
  rw [Rel_many R]
  refine ⟨rfl, rfl, ?_⟩
  apply u_M_replays _ hr hK R ⟨G.1.1, Int.le_refl _⟩ (by omega) (by omega) (Or.inl rfl)
  intro g' f' a b _
  exact ⟨rfl, h g' f' a b⟩
/-- the class's guess replays, under the relation -/
theorem u_guess {K : Int} {S : Nat} {g r : ab_H} {k but vo : Int} (P : ab_H → ab_H → Prop) (hr : SI r) (hK : 186 ≤ K) (R : Rel g r) (hk : 0 ≤ k ∧ k ≤ ss g 1080) (hbut : -1 ≤ but ∧ but ≤ 1000) (hvo : 0 ≤ vo ∧ vo ≤ 1000) (h : ∀ g' : ab_H, Scr g g' r → StV g' 51 (rep (ss g) (LL g (ss g)) (BB g (ss g)) but vo k) k → P g' r) : ab_RV m_St_replay [(2, 51), (2, r 0 5), (0, k), (0, vo), (0, but)] K S g r P := by
  have G := R.2.2.2.1
  apply s_St_replay _ hr hK (Or.inr rfl) (Rel_Lg R) G.2.1 G.2.2.1 G.1.2.1 (LfOk_lft R.2.2.1.1 G.1.2.1) hk hvo hbut
  intro g' f' hq
  exact h g' (Scr_guess R (fun c j hc => f' c j (by omega))) hq
theorem Rel_vo {g r : ab_H} (R : Rel g r) {but k vo : Int} (hk : 0 ≤ k ∧ k ≤ ss g 1080) (hv : ss g 1080 ≤ vo) : rep (ss g) (LL g (ss g)) (BB g (ss g)) but vo k = rep (ss g) (LL g (ss g)) (BB g (ss g)) but 120 k := by
  have G := R.2.2.2.1.1
  refine rep_vo hk.1 (fun e a b => ?_)
  have := (G.2.1 e a (by omega)).2.2.2.2.2
  have := G.1.2
  omega
theorem Rel_RB {g r : ab_H} (R : Rel g r) {but vo k : Int} (hk : 0 ≤ k ∧ k ≤ ss g 1080) : RB k (rep (ss g) (LL g (ss g)) (BB g (ss g)) but vo k) :=
  RB_rep (LfOk_lft R.2.2.1.1 R.2.2.2.1.1.2.1) hk.1 hk.2
/-- the answer of both: a pair of calls that change nothing but scratch -/
def PA (kc : Nat) (ac : List ab_V) (km : Nat) (am : List ab_V) (K : Int) (S : Nat) (g r : ab_H) : Prop := ab_RI kc ac K S g r (fun x g1 r1 => r1 = r ∧ Scr g g1 r ∧ ab_RI km am K S g1 r (fun y g2 r2 => r2 = r ∧ Scr g1 g2 r ∧ x = y))
def I32 (x : Int) : Prop := -2147483648 ≤ x ∧ x ≤ 2147483647
def V_fault (g : ab_H) (w : Int) : Int := if w = 0 then g 161 24 else if w = 1 then g 161 25 else -1
theorem p_fault {K : Int} {S : Nat} {g r : ab_H} {w : Int} (hr : SI r) (hK : 186 ≤ K) (R : Rel g r) (hw : I32 w) : PA m_EL_fault [(2, 0), (0, w)] m_M_fault [(2, 161), (0, w)] K S g r := by
  unfold I32 at hw
  have h1 := R.2.1.2.2
  have key : ∀ (x : Int), x = V_fault g w → ab_RI m_M_fault [(2, 161), (0, w)] K S g r (fun y g2 r2 => r2 = r ∧ Scr g g2 r ∧ x = y) := by
    intro x hx
    unfold V_fault at hx
    apply v_M_fault _ hr hK
    intro g1 hg1
    have f1 := Scr_t R hg1
    refine And.intro (fun h2 => And.intro (fun h3 => ⟨rfl, f1, ?_⟩) (fun h3 => ⟨rfl, f1, ?_⟩)) (fun h2 => ⟨rfl, f1, ?_⟩)
    · rw [hx, if_neg (by simp only [wr] at h2; omega), if_neg (by simp only [wr] at h3; omega)]
    · rw [hx, if_neg (by simp only [wr] at h2; omega), if_pos (by simp only [wr] at h3; omega), hg1, up_k (by omega)]
    · rw [hx, if_pos (by simp only [wr] at h2; omega), hg1, up_k (by omega)]
  unfold PA
  apply v_EL_fault _ hr hK
  refine And.intro (fun h2 => And.intro (fun h3 => ⟨rfl, Scr_rfl R, key _ ?_⟩) (fun h3 => ⟨rfl, Scr_rfl R, key _ ?_⟩)) (fun h2 => ⟨rfl, Scr_rfl R, key _ ?_⟩)
  · unfold V_fault; rw [if_neg (by simp only [wr] at h2; omega), if_neg (by simp only [wr] at h3; omega)]
  · unfold V_fault; rw [if_neg (by simp only [wr] at h2; omega), if_pos (by simp only [wr] at h3; omega)]; exact h1.2
  · unfold V_fault; rw [if_pos (by simp only [wr] at h2; omega)]; exact h1.1
theorem ar_164 {K : Int} (hK : 186 ≤ K) : ab_AR K 164 100 16 := ⟨rfl, by omega, by omega⟩
theorem ar_165 {K : Int} (hK : 186 ≤ K) : ab_AR K 165 100 8 := ⟨rfl, by omega, by omega⟩
theorem zadd {f : Int → Int} : (fun j => f (0 + j)) = f := by funext j; rw [show 0 + j = j by omega]
theorem p_named {K : Int} {S : Nat} {g r : ab_H} {k x : Int} (hr : SI r) (hK : 186 ≤ K) (R : Rel g r) (hk : I32 k) (hx : I32 x) : PA m_EL_named [(2, 0), (0, k), (0, x)] m_M_named [(2, 161), (0, k), (0, x)] K S g r := by
  unfold I32 at hk hx
  have T := R.2.2.1
  have t1 := T.2.2.1
  have t5 := T.2.2.2.2.1
  have hTe := Rel_Te R
  have key : ∀ (v : Int), v = (if k = 0 then fnd (g 164) (g 163 0) x else if k = 1 then fnd (g 165) (g 163 1) x else -1) → ab_RI m_M_named [(2, 161), (0, k), (0, x)] K S g r (fun y g2 r2 => r2 = r ∧ Scr g g2 r ∧ v = y) := by
    intro v hv
    apply v_M_named _ hr hK
    intro g1 hg1
    have f1 := Scr_t R hg1
    have e3 := f1.2.1 163 (by omega) (by omega)
    have e4 := f1.2.1 164 (by omega) (by omega)
    have e5 := f1.2.1 165 (by omega) (by omega)
    refine And.intro (fun h2 => And.intro (fun h3 => ⟨rfl, f1, ?_⟩) (fun h3 => ?_)) (fun h2 => ?_)
    · rw [hv, if_neg (by simp only [wr] at h2; omega), if_neg (by simp only [wr] at h3; omega)]
    · apply s_M_tallies _ hr hK (by rw [e3])
      refine ⟨rfl, rfl, ?_⟩
      apply s_M_foundIn _ hr hK (ar_165 hK) (by have := T.2.2.2.2.1; omega) hx (by have := T.2.2.2.2.1; omega)
      · intro i a b
        rw [e5, show 0 + i = i by omega]
        exact (T.2.2.2.2.2.1 i a b).1.2
      · refine ⟨rfl, rfl, rfl, f1, ?_⟩
        rw [hv, if_neg (by simp only [wr] at h2; omega), if_pos (by simp only [wr] at h3; omega), e5, zadd]
    · apply s_M_accounts _ hr hK (by rw [e3])
      refine ⟨rfl, rfl, ?_⟩
      apply s_M_foundIn _ hr hK (ar_164 hK) (by have := T.2.2.1; omega) hx (by have := T.2.2.1; omega)
      · intro i a b
        rw [e4, show 0 + i = i by omega]
        exact (T.2.2.2.1 i a b).2
      · refine ⟨rfl, rfl, rfl, f1, ?_⟩
        rw [hv, if_pos (by simp only [wr] at h2; omega), e4, zadd]
  unfold PA
  apply v_EL_named _ hr hK
  refine And.intro (fun h2 => And.intro (fun h3 => ⟨rfl, Scr_rfl R, key _ ?_⟩) (fun h3 => ⟨hTe, ?_⟩)) (fun h2 => ⟨hTe, ?_⟩)
  · rw [if_neg (by simp only [wr] at h2; omega), if_neg (by simp only [wr] at h3; omega)]
  · apply v_Te_tallyNamed _ hr hK hTe
    apply s_Te_find _ hr hK (ar_Te_2 hTe hK) (by rw [T.2.2.2.2.1.1]; omega) (by omega) hx
    · intro i a b
      rw [T.2.2.2.2.1.1] at b
      rw [(T.2.2.2.2.2.1 i a b).1.1]
      exact (T.2.2.2.2.2.1 i a b).1.2
    · refine ⟨rfl, rfl, rfl, rfl, rfl, Scr_rfl R, key _ ?_⟩
      rw [if_neg (by simp only [wr] at h2; omega), if_pos (by simp only [wr] at h3; omega), T.2.2.2.2.1.1]
      exact fnd_ext (fun i a b => (T.2.2.2.2.2.1 i a b).1.1)
  · apply v_Te_accountNamed _ hr hK hTe
    apply s_Te_find _ hr hK (ar_Te_0 hTe hK) (by rw [T.2.2.1.1]; omega) (by omega) hx
    · intro i a b
      rw [T.2.2.1.1] at b
      rw [(T.2.2.2.1 i a b).1]
      exact (T.2.2.2.1 i a b).2
    · refine ⟨rfl, rfl, rfl, rfl, rfl, Scr_rfl R, key _ ?_⟩
      rw [if_pos (by simp only [wr] at h2; omega), T.2.2.1.1]
      exact fnd_ext (fun i a b => (T.2.2.2.1 i a b).1)
