/-! SPECS, part g: the reference replays. -/
theorem s_M_causeOf {K : Int} {S : Nat} {g r : ab_H} {k a o x y b n m : Int} {q : RS} (P : Int → ab_H → ab_H → Prop) (hr : SI r) (hK : 186 ≤ K) (hk : 0 ≤ k ∧ k ≤ 6) (ha : 0 ≤ a ∧ a < 8) (ho : k = 6 → 0 ≤ o ∧ o < 8) (hq : StV g 178 q n) (hRB : RB m q) (hm : 0 ≤ m ∧ m ≤ 120) (hb : b = 0 ∨ b = 1) (hx : g 178 0 = x) (hy : g 178 1 = y) (hxy : b = 0 → (0 ≤ x ∧ x ≤ 1000000) ∧ (0 ≤ y ∧ y ≤ 1000000)) (h : ∀ z : Int, z = rcause k a o x y b q → P z g r) : ab_RI m_M_causeOf [(2, 161), (0, k), (0, a), (0, o), (0, b)] K S g r P := by
  have qa := hq.1 a ha.1 ha.2
  simp only [show (178 : Int) + 1 = 179 by omega, show (178 : Int) + 2 = 180 by omega, show (178 : Int) + 3 = 181 by omega, show (178 : Int) + 4 = 182 by omega] at qa
  have ra := hRB a
  have ro := hRB o
  have qo : k = 6 → g 182 o = q.2.2.2.1 o := fun h6 => (hq.1 o (ho h6).1 (ho h6).2).2.2.2
  have h' : ∀ z : Int, rcause k a o x y b q = z → P z g r := fun z hz => h z hz.symm
  have key : b = 0 → k ≠ 0 → q.2.2.2.1 a ≠ 0 → ¬ (k = 6 ∧ q.2.2.2.1 o = 0) → ab_Rn m_M_causeOf 29 [some (2, 161), some (0, k), some (0, a), none, none, none] [] (K, S, g, r) (ab_Qi K S P) := by
    intro h1 h2 h3 h4
    have h5 := hxy h1
    have y3 : (((k = 2 ∨ k = 6) ∧ q.1 a - x - y - q.2.1 a < - q.2.2.1 a) ∨ (k = 3 ∧ q.1 a < q.2.1 a + x) ∨ (k = 4 ∧ q.2.1 a < x) ∨ (k = 5 ∧ (q.1 a ≠ 0 ∨ q.2.1 a ≠ 0))) → ab_Rn m_M_causeOf 111 [none, none, none, none, none, some (0, 1)] [] (K, S, g, r) (ab_Qi K S P) := by
      intro hz
      apply v_M_causeOf_111 _ hr hK
      exact And.intro (fun h6 => absurd h6 (by decide)) (fun _ => h' _ (rc_7 h1 h2 h3 h4 hz))
    have y0 : ¬ (((k = 2 ∨ k = 6) ∧ q.1 a - x - y - q.2.1 a < - q.2.2.1 a) ∨ (k = 3 ∧ q.1 a < q.2.1 a + x) ∨ (k = 4 ∧ q.2.1 a < x) ∨ (k = 5 ∧ (q.1 a ≠ 0 ∨ q.2.1 a ≠ 0))) → ab_Rn m_M_causeOf 111 [none, none, none, none, none, some (0, 0)] [] (K, S, g, r) (ab_Qi K S P) := by
      intro hz
      apply v_M_causeOf_111 _ hr hK
      exact And.intro (fun _ => h' _ (rc_8 h1 h2 h3 h4 hz)) (fun h6 => absurd rfl h6)
    clear h h' hq hRB hxy
    apply v_M_causeOf_29 _ hr hK
    rw [qa.1, qa.2.1, qa.2.2.1, hx, hy]
    simp only [wr]
    refine ⟨fun h6 => ⟨by omega, by omega, by omega, by omega, by omega, And.intro (fun h7 => y0 (by omega)) (fun h7 => y3 (by omega))⟩, fun h6 => ⟨by omega, by omega, by omega, And.intro (fun h7 => y0 (by omega)) (fun h7 => y3 (by omega))⟩, fun h6 => ⟨by omega, by omega, And.intro (fun h7 => y0 (by omega)) (fun h7 => y3 (by omega))⟩, fun h6 => ⟨by omega, And.intro (fun h7 => ?_) (fun h7 => ⟨by omega, And.intro (fun h8 => y0 (by omega)) (fun h8 => ?_)⟩)⟩, fun h6 => y0 (by omega)⟩
    · apply v_M_causeOf_106 _ hr hK
      exact y3 (by omega)
    · apply v_M_causeOf_106 _ hr hK
      exact y3 (by omega)
  have key19 : b = 0 → ¬ (k = 0 ∧ q.2.2.2.1 a ≠ 0) → ¬ (k ≠ 0 ∧ q.2.2.2.1 a = 0) → ab_Rn m_M_causeOf 19 [some (2, 161), some (0, k), some (0, a), some (0, o), none, none] [] (K, S, g, r) (ab_Qi K S P) := by
    intro h1 h2 h3
    apply v_M_causeOf_19 _ hr hK
    by_cases h0 : k = 0
    · refine And.intro (fun _ => ?_) (fun h6 => absurd h6 (by simp only [wr]; omega))
      apply v_M_causeOf_29 _ hr hK
      simp only [wr]
      refine ⟨fun h6 => by omega, fun h6 => by omega, fun h6 => by omega, fun h6 => by omega, fun h6 => ?_⟩
      apply v_M_causeOf_111 _ hr hK
      exact And.intro (fun _ => h' _ (rc_3 h1 h0 (by omega))) (fun h6 => absurd rfl h6)
    by_cases h6 : k = 6
    · have ho6 := ho h6
      rw [qo h6]
      refine And.intro (fun h7 => absurd h7 (by simp only [wr]; omega)) (fun _ => ⟨by omega, And.intro (fun h7 => key h1 h0 (by omega) (by simp only [wr] at h7; omega)) (fun h7 => ?_)⟩)
      exact h' _ (rc_5 h1 h6 (by omega) (by simp only [wr] at h7; omega))
    · exact And.intro (fun _ => key h1 h0 (by omega) (by omega)) (fun h7 => absurd h7 (by simp only [wr]; omega))
  apply v_M_causeOf _ hr hK
  rw [qa.2.2.2]
  clear hq hRB
  refine And.intro (fun h1 => ?_) (fun h1 => h' _ (rc_1 (by simp only [wr] at h1; omega)))
  have h1' : b = 0 := by simp only [wr] at h1; omega
  refine And.intro (fun h2 => ⟨by omega, And.intro (fun h3 => key19 h1' (by simp only [wr] at h2; omega) (by simp only [wr] at h3; omega)) (fun h3 => ?_)⟩) (fun h2 => ⟨by omega, And.intro (fun h3 => key19 h1' (by simp only [wr] at h3; omega) (by simp only [wr] at h2; omega)) (fun h3 => ?_)⟩)
  · apply v_M_causeOf_17 _ hr hK
    exact h' _ (rc_4 h1' (by simp only [wr] at h2; omega) (by simp only [wr] at h3; omega))
  · apply v_M_causeOf_17 _ hr hK
    exact h' _ (rc_2 h1' (by simp only [wr] at h2; omega) (by simp only [wr] at h3; omega))
theorem s_M_applies {K : Int} {S : Nat} {g r : ab_H} {k a o x y m : Int} {q : RS} (P : ab_H → ab_H → Prop) (hr : SI r) (hK : 186 ≤ K) (hk : 0 ≤ k ∧ k ≤ 6) (ha : 0 ≤ a ∧ a < 8) (ho : k = 6 → 0 ≤ o ∧ o < 8) (hq : StV g 178 q m) (hx : g 178 0 = x) (hy : g 178 1 = y) (h : ∀ g' : ab_H, (∀ c : Int, c < 179 ∨ 182 < c → g' c = g c) → StV g' 178 (rapply k a o x y q) m → P g' r) : ab_RV m_M_applies [(2, 161), (0, k), (0, a), (0, o)] K S g r P := by
  apply v_M_applies _ hr hK
  have w : k = 0 ∨ k = 1 ∨ k = 2 ∨ k = 3 ∨ k = 4 ∨ k = 5 ∨ k = 6 := by omega
  rcases w with w | w | w | w | w | w | w
  case inr.inr.inr.inr.inr.inr =>
    have co := ho w
    have qo := hq.1 o co.1 co.2
    rw [w] at h
    simp only [hx, hy, w]
    simp only [wr]
    repeat' (first | refine And.intro ?_ ?_ | intro _)
    all_goals subst_vars
    all_goals first | omega | skip
    refine h _ (fun c hc => ?_) ⟨fun i h0 h1 => ?_, fun i h0 h1 => ?_⟩
    · simp (disch := omega) only [up_f]
    · have qq := hq.1 i h0 h1
      have qa := hq.1 a ha.1 ha.2
      simp only [show (178 : Int) + 1 = 179 by omega, show (178 : Int) + 2 = 180 by omega, show (178 : Int) + 3 = 181 by omega, show (178 : Int) + 4 = 182 by omega] at qq qa qo ⊢
      simp (disch := omega) only [up_a, up_i]
      show _ = fu (fu q.1 _ _) _ _ i ∧ _ = q.2.1 i ∧ _ = q.2.2.1 i ∧ _ = q.2.2.2.1 i
      simp only [fu]
      refine ⟨?_, ?_, ?_, ?_⟩
      all_goals (repeat' split)
      all_goals omega
    · simp (disch := omega) only [up_a]
      exact hq.2 i h0 h1
  all_goals
    rw [w] at h
    simp only [hx, hy, w]
    simp only [wr]
    repeat' (first | refine And.intro ?_ ?_ | intro _)
    all_goals subst_vars
    all_goals first | omega | skip
    refine h _ (fun c hc => ?_) ⟨fun i h0 h1 => ?_, fun i h0 h1 => ?_⟩
    · simp (disch := omega) only [up_f]
    · have qq := hq.1 i h0 h1
      have qa := hq.1 a ha.1 ha.2
      simp only [show (178 : Int) + 1 = 179 by omega, show (178 : Int) + 2 = 180 by omega, show (178 : Int) + 3 = 181 by omega, show (178 : Int) + 4 = 182 by omega] at qq qa ⊢
      simp (disch := omega) only [up_a, up_i]
      simp (config := {decide := true}) only [rapply, if_true, if_false, fu]
      refine ⟨?_, ?_, ?_, ?_⟩
      all_goals (repeat' split)
      all_goals omega
    · simp (disch := omega) only [up_a]
      exact hq.2 i h0 h1
/-- one ACCOUNT watched: where first below 0, its peak, where -/
def wstep (b e : Int) (w : Int × Int × Int) : Int × Int × Int := (if b < 0 ∧ w.1 = -2 then e else w.1, if w.2.1 < b then b else w.2.1, if w.2.1 < b then e else w.2.2)
def watN (s : Int → Int) (L : Int → Int → Int) (B : Int → Int) (but vo w : Int) : Nat → Int × Int × Int
  | 0 => (-2, 0, -2)
  | n + 1 => if w = -1 then watN s L B but vo w n else wstep ((rep s L B but vo ((n : Int) + 1)).1 w) n (watN s L B but vo w n)
def wat (s : Int → Int) (L : Int → Int → Int) (B : Int → Int) (but vo w n : Int) : Int × Int × Int := watN s L B but vo w n.toNat
theorem wat_s {s : Int → Int} {L : Int → Int → Int} {B : Int → Int} {but vo w n : Int} (h : 0 ≤ n) : wat s L B but vo w (n + 1) = if w = -1 then wat s L B but vo w n else wstep ((rep s L B but vo (n + 1)).1 w) n (wat s L B but vo w n) := by
  unfold wat
  rw [show (n + 1).toNat = n.toNat + 1 by omega]
  show (if w = -1 then watN s L B but vo w n.toNat else wstep ((rep s L B but vo ((n.toNat : Int) + 1)).1 w) (n.toNat : Int) (watN s L B but vo w n.toNat)) = _
  rw [show (n.toNat : Int) = n by omega]
theorem watN_in {s : Int → Int} {Lf : Int → Int → Int} {B : Int → Int} {but vo w n : Int} (hf : LfOk s Lf B n) : ∀ m : Nat, (m : Int) ≤ n → (-2 ≤ (watN s Lf B but vo w m).1 ∧ (watN s Lf B but vo w m).1 ≤ m) ∧ (0 ≤ (watN s Lf B but vo w m).2.1 ∧ (watN s Lf B but vo w m).2.1 ≤ 2000000 * m)
  | 0, _ => by show (-2 ≤ (-2 : Int) ∧ (-2 : Int) ≤ ((0 : Nat) : Int)) ∧ (0 ≤ (0 : Int) ∧ (0 : Int) ≤ 2000000 * ((0 : Nat) : Int)); omega
  | m + 1, h => by
    have h1 := watN_in (but := but) (vo := vo) (w := w) hf m (by omega)
    have h2 := RB_rep (but := but) (vo := vo) (m := (m : Int) + 1) hf (by omega) (by omega) w
    show (-2 ≤ (if w = -1 then watN s Lf B but vo w m else wstep ((rep s Lf B but vo ((m : Int) + 1)).1 w) m (watN s Lf B but vo w m)).1 ∧ (if w = -1 then watN s Lf B but vo w m else wstep ((rep s Lf B but vo ((m : Int) + 1)).1 w) m (watN s Lf B but vo w m)).1 ≤ ((m + 1 : Nat) : Int)) ∧ (0 ≤ (if w = -1 then watN s Lf B but vo w m else wstep ((rep s Lf B but vo ((m : Int) + 1)).1 w) m (watN s Lf B but vo w m)).2.1 ∧ (if w = -1 then watN s Lf B but vo w m else wstep ((rep s Lf B but vo ((m : Int) + 1)).1 w) m (watN s Lf B but vo w m)).2.1 ≤ 2000000 * ((m + 1 : Nat) : Int))
    split
    · omega
    · unfold wstep
      refine ⟨?_, ?_⟩
      · dsimp only
        split <;> omega
      · dsimp only
        split <;> omega
theorem wat_in {s : Int → Int} {Lf : Int → Int → Int} {B : Int → Int} {but vo w n m : Int} (hf : LfOk s Lf B n) (h0 : 0 ≤ m) (h : m ≤ n) : (-2 ≤ (wat s Lf B but vo w m).1 ∧ (wat s Lf B but vo w m).1 ≤ m) ∧ (0 ≤ (wat s Lf B but vo w m).2.1 ∧ (wat s Lf B but vo w m).2.1 ≤ 2000000 * m) := by
  have h1 := watN_in (but := but) (vo := vo) (w := w) hf m.toNat (by omega)
  rw [show (m.toNat : Int) = m by omega] at h1
  exact h1
def MFr (g g' : ab_H) : Prop := (∀ c : Int, c < 178 ∨ 183 < c → c ≠ 161 → g' c = g c) ∧ ∀ j : Int, j ≠ 41 → j ≠ 42 → j ≠ 43 → g' 161 j = g 161 j
theorem MFr_rfl {g : ab_H} : MFr g g := ⟨fun _ _ _ => rfl, fun _ _ _ _ => rfl⟩
theorem MFr_tr {g g1 g2 : ab_H} (h : MFr g g1) (h2 : MFr g1 g2) : MFr g g2 := ⟨fun c a b => by rw [h2.1 c a b, h.1 c a b], fun j a b c => by rw [h2.2 j a b c, h.2 j a b c]⟩
theorem MFr_1 {g g' : ab_H} (h : ∀ c : Int, c < 178 ∨ 183 < c → g' c = g c) : MFr g g' := ⟨fun c a _ => h c a, fun j _ _ _ => by rw [h 161 (by omega)]⟩
