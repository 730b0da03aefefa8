/-! SPECS, part b: the class's State. -/
theorem s_St_passesOver {K : Int} {S : Nat} {g r : ab_H} {o p1 e : Int} (P : Int → ab_H → ab_H → Prop) (hr : SI r) (hK : 186 ≤ K) (ho : isSt o) (hp1 : isLg p1) (he : 0 ≤ e ∧ e < 120) (h1 : -1 ≤ g (p1 + 1) e ∧ g (p1 + 1) e ≤ 7) (h2 : -1 ≤ g (p1 + 9) e ∧ g (p1 + 9) e ≤ 120) (h3 : -1 ≤ g o 5 ∧ g o 5 ≤ 1000) (h4 : -1 ≤ g o 6 ∧ g o 6 ≤ 1000) (h : ∀ x : Int, ((x = 1 ∧ (g (p1 + 1) e = 7 ∨ e = g o 6 ∨ (g (p1 + 9) e ≠ -1 ∧ g (p1 + 9) e < g o 5))) ∨ (x = 0 ∧ ¬ (g (p1 + 1) e = 7 ∨ e = g o 6 ∨ (g (p1 + 9) e ≠ -1 ∧ g (p1 + 9) e < g o 5)))) → P x g r) : ab_RI m_St_passesOver [(2, o), (2, p1), (0, e)] K S g r P := by
  apply v_St_passesOver _ hr hK ho hp1
  simp only [wr]
  repeat' (first | refine And.intro ?_ ?_ | intro _)
  all_goals first | omega | (apply h; omega)
theorem s_St_isTooLittle {K : Int} {S : Nat} {g r : ab_H} {o k a x y : Int} (P : Int → ab_H → ab_H → Prop) (hr : SI r) (hK : 186 ≤ K) (ho : isSt o) (hk : 0 ≤ k ∧ k ≤ 7) (ha : 0 ≤ a ∧ a < 8) (h1 : -300000000 ≤ g (o + 1) a ∧ g (o + 1) a ≤ 300000000) (h2 : 0 ≤ g (o + 2) a ∧ g (o + 2) a ≤ 300000000) (h3 : 0 ≤ g (o + 3) a ∧ g (o + 3) a ≤ 1000000) (hx : 0 ≤ x ∧ x ≤ 1000000) (hy : 0 ≤ y ∧ y ≤ 1000000) (h : ∀ z : Int, ((z = 1 ∧ (((k = 2 ∨ k = 6) ∧ g (o + 1) a - x - y - g (o + 2) a < - g (o + 3) a) ∨ (k = 3 ∧ g (o + 1) a < g (o + 2) a + x) ∨ (k = 4 ∧ g (o + 2) a < x) ∨ (k = 5 ∧ (g (o + 1) a ≠ 0 ∨ g (o + 2) a ≠ 0)))) ∨ (z = 0 ∧ ¬ (((k = 2 ∨ k = 6) ∧ g (o + 1) a - x - y - g (o + 2) a < - g (o + 3) a) ∨ (k = 3 ∧ g (o + 1) a < g (o + 2) a + x) ∨ (k = 4 ∧ g (o + 2) a < x) ∨ (k = 5 ∧ (g (o + 1) a ≠ 0 ∨ g (o + 2) a ≠ 0))))) → P z g r) : ab_RI m_St_isTooLittle [(2, o), (0, k), (0, a), (0, x), (0, y)] K S g r P := by
  apply v_St_isTooLittle _ hr hK ho
  simp only [wr]
  repeat' (first | refine And.intro ?_ ?_ | intro _)
  all_goals first | omega | (apply h; omega)
theorem rc_1 {k a o x y b : Int} {q : RS} (h : b ≠ 0) : rcause k a o x y b q = 1 := if_pos h
theorem rc_2 {k a o x y b : Int} {q : RS} (hb : b = 0) (hk : k = 0) (h : q.2.2.2.1 a ≠ 0) : rcause k a o x y b q = 2 := by
  unfold rcause
  rw [if_neg (by omega : ¬ b ≠ 0), if_pos hk, if_pos h]
theorem rc_3 {k a o x y b : Int} {q : RS} (hb : b = 0) (hk : k = 0) (h : q.2.2.2.1 a = 0) : rcause k a o x y b q = 0 := by
  unfold rcause
  rw [if_neg (by omega : ¬ b ≠ 0), if_pos hk, if_neg (by omega)]
theorem rc_4 {k a o x y b : Int} {q : RS} (hb : b = 0) (hk : k ≠ 0) (h : q.2.2.2.1 a = 0) : rcause k a o x y b q = 2 := by
  unfold rcause
  rw [if_neg (by omega : ¬ b ≠ 0), if_neg hk, if_pos h]
theorem rc_5 {k a o x y b : Int} {q : RS} (hb : b = 0) (hk : k = 6) (h : q.2.2.2.1 a ≠ 0) (h2 : q.2.2.2.1 o = 0) : rcause k a o x y b q = 2 := by
  unfold rcause
  rw [if_neg (by omega : ¬ b ≠ 0), if_neg (by omega : ¬ k = 0), if_neg h, if_pos ⟨hk, h2⟩]
theorem rc_6 {k a o x y b : Int} {q : RS} (hb : b = 0) (hk : k ≠ 0) (h : q.2.2.2.1 a ≠ 0) (h2 : ¬ (k = 6 ∧ q.2.2.2.1 o = 0)) : rcause k a o x y b q = (if (k = 2 ∨ k = 6) ∧ q.1 a - x - y - q.2.1 a < - q.2.2.1 a then 3 else if k = 3 ∧ q.1 a < q.2.1 a + x then 3 else if k = 4 ∧ q.2.1 a < x then 3 else if k = 5 ∧ (q.1 a ≠ 0 ∨ q.2.1 a ≠ 0) then 3 else 0) := by
  unfold rcause
  rw [if_neg (by omega : ¬ b ≠ 0), if_neg hk, if_neg h, if_neg h2]
theorem rc_7 {k a o x y b : Int} {q : RS} (hb : b = 0) (hk : k ≠ 0) (h : q.2.2.2.1 a ≠ 0) (h2 : ¬ (k = 6 ∧ q.2.2.2.1 o = 0)) (hz : ((k = 2 ∨ k = 6) ∧ q.1 a - x - y - q.2.1 a < - q.2.2.1 a) ∨ (k = 3 ∧ q.1 a < q.2.1 a + x) ∨ (k = 4 ∧ q.2.1 a < x) ∨ (k = 5 ∧ (q.1 a ≠ 0 ∨ q.2.1 a ≠ 0))) : rcause k a o x y b q = 3 := by
  rw [rc_6 hb hk h h2]
  split
  · rfl
  · rename_i h3
    rcases hz with hz | hz | hz | hz
    · exact absurd hz h3
    · rw [if_pos hz]
    · rw [if_neg (by omega), if_pos hz]
    · rw [if_neg (by omega), if_neg (by omega), if_pos hz]
theorem rc_8 {k a o x y b : Int} {q : RS} (hb : b = 0) (hk : k ≠ 0) (h : q.2.2.2.1 a ≠ 0) (h2 : ¬ (k = 6 ∧ q.2.2.2.1 o = 0)) (hz : ¬ (((k = 2 ∨ k = 6) ∧ q.1 a - x - y - q.2.1 a < - q.2.2.1 a) ∨ (k = 3 ∧ q.1 a < q.2.1 a + x) ∨ (k = 4 ∧ q.2.1 a < x) ∨ (k = 5 ∧ (q.1 a ≠ 0 ∨ q.2.1 a ≠ 0)))) : rcause k a o x y b q = 0 := by
  rw [rc_6 hb hk h h2, if_neg (fun hc => hz (Or.inl hc)), if_neg (fun hc => hz (Or.inr (Or.inl hc))), if_neg (fun hc => hz (Or.inr (Or.inr (Or.inl hc)))), if_neg (fun hc => hz (Or.inr (Or.inr (Or.inr hc))))]
theorem s_St_causeOf {K : Int} {S : Nat} {g r : ab_H} {o p1 e n m : Int} {s : Int → Int} {Lf : Int → Int → Int} {B : Int → Int} {q : RS} (P : Int → ab_H → ab_H → Prop) (hr : SI r) (hK : 186 ≤ K) (ho : isSt o) (hp1 : isLg p1) (hv : LgV g p1 s n) (hl : LgL g p1 s Lf B n) (hE : EvOk s n) (hB : LfOk s Lf B n) (he : 0 ≤ e ∧ e < n) (h7 : s (9 * e + 0) ≠ 7) (hq : StV g o q e) (hRB : RB m q) (hm : 0 ≤ m ∧ m ≤ 120) (h : ∀ x : Int, x = rcz s Lf B q e → P x g r) : ab_RI m_St_causeOf [(2, o), (2, p1), (0, e)] K S g r P := by
  have hn := hv.2.1
  have e0 := hv.2.2.1 e he.1 he.2
  have e8 := hl e he.1 he.2 h7
  have ek := e0.1
  have ea := e0.2.1 h7
  have eo := e0.2.2.1
  have ex := e8.2 0 (by omega) (by omega)
  have ey := e8.2 1 (by omega) (by omega)
  have eb := e8.1
  have c0 := hE e he.1 he.2
  have c1 := hB e he.1 he.2 h7
  have cx := c1.2 0 (by omega) (by omega)
  have cy := c1.2 1 (by omega) (by omega)
  have c2 := c0.2.1 h7
  have qa := hq.1 (s (9 * e + 1)) c2.1.1 c2.1.2
  have ra := hRB (s (9 * e + 1))
  rw [show 3 * e + 0 = 3 * e by omega] at ex
  have ho' : o = 45 ∨ o = 51 := ho
  have h' : ∀ x : Int, rcause (s (9 * e + 0)) (s (9 * e + 1)) (s (9 * e + 2)) (Lf e 0) (Lf e 1) (B e) q = x → P x g r := fun x hx => h x hx.symm
  have key : B e = 0 → s (9 * e + 0) ≠ 0 → q.2.2.2.1 (s (9 * e + 1)) ≠ 0 → ¬ (s (9 * e + 0) = 6 ∧ q.2.2.2.1 (s (9 * e + 2)) = 0) → ab_RI m_St_isTooLittle [(2, o), (0, s (9 * e + 0)), (0, s (9 * e + 1)), (0, Lf e 0), (0, Lf e 1)] K S g r (fun x1 g' r' => g' = g ∧ r' = r ∧ (((wr x1 = wr 0 → P 0 g r) ∧ (¬ wr x1 = wr 0 → P 3 g r)))) := by
    intro hb h0 h1 h2
    apply s_St_isTooLittle _ hr hK ho (by omega) c2.1 (by omega) (by omega) (by omega) (by omega) (by omega)
    intro z hz
    rw [qa.1, qa.2.1, qa.2.2.1] at hz
    refine ⟨rfl, rfl, ?_⟩
    rcases hz with ⟨hz1, hz2⟩ | ⟨hz1, hz2⟩
    · rw [hz1]
      exact And.intro (fun h4 => absurd h4 (by decide)) (fun _ => h' _ (rc_7 hb h0 h1 h2 hz2))
    · rw [hz1]
      exact And.intro (fun _ => h' _ (rc_8 hb h0 h1 h2 hz2)) (fun h4 => absurd rfl h4)
  apply v_St_causeOf _ hr hK ho hp1
  by_cases h6 : s (9 * e + 0) = 6
  · have eo6 := eo (Or.inl h6)
    have co := c0.2.2.1 h6
    have qo := hq.1 (s (9 * e + 2)) co.1 co.2
    have ro := hRB (s (9 * e + 2))
    simp only [ek, ea, eo6, ex, ey, eb]
    clear hE hB hv hl hq hRB
    refine ⟨by omega, And.intro (fun hb => ?_) (fun hb => h' _ (rc_1 (by simp only [wr] at hb; omega)))⟩
    have hb' : B e = 0 := by simp only [wr] at hb; omega
    refine ⟨by omega, by omega, And.intro (fun h0 => ⟨c2.1, And.intro (fun h1 => h' _ (rc_4 hb' (by omega) (by simp only [wr] at h1; omega))) (fun h1 => And.intro (fun h2 => absurd h2 (by simp only [wr]; omega)) (fun h2 => ⟨by omega, co, And.intro (fun h3 => ⟨by omega, by omega, key hb' (by omega) (by simp only [wr] at h1; omega) (by simp only [wr] at h3; omega)⟩) (fun h3 => h' _ (rc_5 hb' h6 (by simp only [wr] at h1; omega) (by simp only [wr] at h3; omega)))⟩))⟩) (fun h0 => absurd h0 (by simp only [wr]; omega))⟩
  · simp only [ek, ea, ex, ey, eb]
    clear hE hB hv hl hq hRB
    refine ⟨by omega, And.intro (fun hb => ?_) (fun hb => h' _ (rc_1 (by simp only [wr] at hb; omega)))⟩
    have hb' : B e = 0 := by simp only [wr] at hb; omega
    refine ⟨by omega, by omega, And.intro (fun h0 => ⟨c2.1, And.intro (fun h1 => h' _ (rc_4 hb' (by simp only [wr] at h0; omega) (by simp only [wr] at h1; omega))) (fun h1 => And.intro (fun h2 => ⟨by omega, by omega, key hb' (by simp only [wr] at h0; omega) (by simp only [wr] at h1; omega) (by omega)⟩) (fun h2 => absurd h2 (by simp only [wr]; omega)))⟩) (fun h0 => ⟨c2.1, And.intro (fun h1 => h' _ (rc_3 hb' (by simp only [wr] at h0; omega) (by simp only [wr] at h1; omega))) (fun h1 => h' _ (rc_2 hb' (by simp only [wr] at h0; omega) (by simp only [wr] at h1; omega)))⟩)⟩
theorem s_St_change {K : Int} {S : Nat} {g r : ab_H} {o p1 e n m : Int} {s : Int → Int} {Lf : Int → Int → Int} {B : Int → Int} {q : RS} (P : ab_H → ab_H → Prop) (hr : SI r) (hK : 186 ≤ K) (ho : isSt o) (hp1 : isLg p1) (hv : LgV g p1 s n) (hl : LgL g p1 s Lf B n) (hE : EvOk s n) (he : 0 ≤ e ∧ e < n) (h7 : s (9 * e + 0) ≠ 7) (hq : StV g o q m) (h : ∀ g', (∀ c i : Int, c < o + 1 ∨ o + 5 < c → g' c i = g c i) → StV g' o (rapply (s (9 * e + 0)) (s (9 * e + 1)) (s (9 * e + 2)) (Lf e 0) (Lf e 1) q) m → P g' r) : ab_RV m_St_change [(2, o), (2, p1), (0, e)] K S g r P := by
  have hn := hv.2.1
  have e0 := hv.2.2.1 e he.1 he.2
  have e8 := hl e he.1 he.2 h7
  have ek := e0.1
  have ea := e0.2.1 h7
  have eo := e0.2.2.1
  have ex := e8.2 0 (by omega) (by omega)
  have ey := e8.2 1 (by omega) (by omega)
  have c0 := hE e he.1 he.2
  have c2 := c0.2.1 h7
  rw [show 3 * e + 0 = 3 * e by omega] at ex
  have ho' : o = 45 ∨ o = 51 := ho
  have hp' : p1 = 23 ∨ p1 = 34 ∨ p1 = 66 := hp1
  apply v_St_change _ hr hK ho hp1
  have qa := hq.1 (s (9 * e + 1)) c2.1.1 c2.1.2
  have w : s (9 * e + 0) = 0 ∨ s (9 * e + 0) = 1 ∨ s (9 * e + 0) = 2 ∨ s (9 * e + 0) = 3 ∨ s (9 * e + 0) = 4 ∨ s (9 * e + 0) = 5 ∨ s (9 * e + 0) = 6 := by omega
  rcases w with w | w | w | w | w | w | w
  case inr.inr.inr.inr.inr.inr =>
    have eo6 := eo (Or.inl w)
    have co := c0.2.2.1 w
    have qo := hq.1 (s (9 * e + 2)) co.1 co.2
    rw [w] at h
    simp only [ek, ea, ex, ey, w]
    simp only [wr]
    repeat' (first | refine And.intro ?_ ?_ | intro _)
    all_goals subst_vars
    all_goals (try simp (disch := omega) only [up_a, eo6])
    all_goals first | omega | skip
    refine h _ (fun c i hc => ?_) ⟨fun a h0 h1 => ?_, fun i h0 h1 => ?_⟩
    · simp (disch := omega) only [up_a]
    · have qq := hq.1 a h0 h1
      simp (disch := omega) only [up_a, up_i]
      show _ = fu (fu q.1 _ _) _ _ a ∧ _ = q.2.1 a ∧ _ = q.2.2.1 a ∧ _ = q.2.2.2.1 a
      simp only [fu]
      refine ⟨?_, ?_, ?_, ?_⟩
      all_goals (repeat' split)
      all_goals omega
    · simp (disch := omega) only [up_a]
      exact hq.2 i h0 h1
  all_goals
    rw [w] at h
    simp only [ek, ea, ex, ey, w]
    simp only [wr]
    repeat' (first | refine And.intro ?_ ?_ | intro _)
    all_goals subst_vars
    all_goals first | omega | skip
    refine h _ (fun c i hc => ?_) ⟨fun a h0 h1 => ?_, fun i h0 h1 => ?_⟩
    · simp (disch := omega) only [up_a]
    · have qq := hq.1 a h0 h1
      simp (disch := omega) only [up_a, up_i]
      simp (config := {decide := true}) only [rapply, if_true, if_false, fu]
      refine ⟨?_, ?_, ?_, ?_⟩
      all_goals (repeat' split)
      all_goals omega
    · simp (disch := omega) only [up_a]
      exact hq.2 i h0 h1
