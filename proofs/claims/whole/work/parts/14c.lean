/-! SPECS, part c: the class's State, replays. -/
theorem l_St_begin {K : Int} {S : Nat} {r : ab_H} {o hz but : Int} (P : ab_H → ab_H → Prop) (hr : SI r) (hK : 186 ≤ K) (ho : isSt o) : ∀ (m : Nat) (i : Int) (g : ab_H), 0 ≤ i → i + m = 8 → (∀ a : Int, 0 ≤ a → a < i → g (o + 1) a = 0 ∧ g (o + 2) a = 0 ∧ g (o + 3) a = 0 ∧ g (o + 4) a = 0) → (∀ g' : ab_H, (∀ c j : Int, c < o ∨ o + 5 < c → g' c j = g c j) → g' o 5 = hz → g' o 6 = but → StV g' o rs0 0 → P g' r) → ab_Rn m_St_begin 2 [some (2, o), some (0, hz), some (0, but), some (0, i)] [] (K, S, g, r) (ab_Qv K S P)
  | 0, i, g, h0, hi, hz0, h => by
    have ho' : o = 45 ∨ o = 51 := ho
    apply v_St_begin_2 _ hr hK ho
    simp only [wr]
    repeat' (first | refine And.intro ?_ ?_ | intro _)
    all_goals subst_vars
    all_goals first | omega | skip
    refine h _ (fun c j hc => ?_) ?_ ?_ ⟨fun a h1 h2 => ?_, fun e h1 h2 => by omega⟩
    · simp (disch := omega) only [up_a, up_k, up_e, cpy_a, cpy_k, cpy_e]
    · simp (disch := omega) only [up_a, up_k, up_e, cpy_a, cpy_k, cpy_e]
    · simp (disch := omega) only [up_a, up_k, up_e, cpy_a, cpy_k, cpy_e]
    · simp (disch := omega) only [up_a, up_k, up_e, cpy_a, cpy_k, cpy_e]
      exact hz0 a h1 (by omega)
  | m + 1, i, g, h0, hi, hz0, h => by
    have ho' : o = 45 ∨ o = 51 := ho
    apply v_St_begin_2 _ hr hK ho
    simp only [wr]
    repeat' (first | refine And.intro ?_ ?_ | intro _)
    all_goals first | omega | skip
    subst_vars
    refine l_St_begin P hr hK ho m (i + 1) _ (by omega) (by omega) (fun a h1 h2 => ?_) (fun g' hf h5 h6 hs => h g' (fun c j hc => ?_) h5 h6 hs)
    · simp (disch := omega) only [up_a, up_i]
      by_cases h3 : a = i
      · simp only [if_pos h3, and_self]
      · simp only [if_neg h3]
        exact hz0 a h1 (by omega)
    · rw [hf c j hc]
      simp (disch := omega) only [up_a]
theorem s_St_begin {K : Int} {S : Nat} {g r : ab_H} {o hz but : Int} (P : ab_H → ab_H → Prop) (hr : SI r) (hK : 186 ≤ K) (ho : isSt o) (h : ∀ g' : ab_H, (∀ c j : Int, c < o ∨ o + 5 < c → g' c j = g c j) → g' o 5 = hz → g' o 6 = but → StV g' o rs0 0 → P g' r) : ab_RV m_St_begin [(2, o), (0, hz), (0, but)] K S g r P := by
  apply v_St_begin _ hr hK ho
  exact l_St_begin P hr hK ho 8 0 g (by omega) (by omega) (fun a h1 h2 => by omega) h
theorem s_St_step {K : Int} {S : Nat} {g r : ab_H} {o p1 e n m hz but : Int} {s : Int → Int} {Lf : Int → Int → Int} {B : Int → Int} {q : RS} (P : ab_H → ab_H → Prop) (hr : SI r) (hK : 186 ≤ K) (ho : isSt o) (hp1 : isLg p1) (hv : LgV g p1 s n) (hl : LgL g p1 s Lf B n) (hE : EvOk s n) (hB : LfOk s Lf B n) (he : 0 ≤ e ∧ e < n) (hq : StV g o q e) (hRB : RB m q) (hm : 0 ≤ m ∧ m ≤ 120) (h5 : g o 5 = hz) (h6 : g o 6 = but) (hz5 : 0 ≤ hz ∧ hz ≤ 1000) (hb6 : -1 ≤ but ∧ but ≤ 1000) (h : ∀ g' : ab_H, (∀ c j : Int, c < o + 1 ∨ o + 5 < c → g' c j = g c j) → StV g' o (rstep s Lf B but hz q e) (e + 1) → P g' r) : ab_RV m_St_step [(2, o), (2, p1), (0, e)] K S g r P := by
  have hn := hv.2.1
  have e0 := hv.2.2.1 e he.1 he.2
  have c0 := hE e he.1 he.2
  have ho' : o = 45 ∨ o = 51 := ho
  have hp' : p1 = 23 ∨ p1 = 34 ∨ p1 = 66 := hp1
  apply v_St_step _ hr hK ho hp1
  refine ⟨by omega, ?_⟩
  intro g1 hg1
  have f1 : ∀ c j : Int, c < o + 1 ∨ o + 5 < c → g1 c j = g c j := fun c j hc => by rw [hg1, up_a (by omega)]
  have hv1 : LgV g1 p1 s n := LgV_mono hv (fun c i h1 h2 => f1 c i (by omega))
  have hl1 : LgL g1 p1 s Lf B n := LgL_mono hl (fun c i h1 h2 => f1 c i (by omega))
  have hq0 : ∀ c : Int, StV (ab_up g (o + 5) e c) o (rset q e c) (e + 1) := by
    intro c
    refine ⟨fun a h1 h2 => ?_, fun i h1 h2 => ?_⟩
    · have := hq.1 a h1 h2
      simp (disch := omega) only [up_a]
      exact this
    · simp only [up_i]
      show _ = fu q.2.2.2.2 e c i
      simp only [fu]
      split
      · rfl
      · exact hq.2 i h1 (by omega)
  have hq1 : StV g1 o (rset q e 0) (e + 1) := by rw [hg1]; exact hq0 0
  have e1 := hv1.2.2.1 e he.1 he.2
  apply s_St_passesOver _ hr hK ho hp1 (by omega) (by omega) (by omega) (by rw [f1 _ _ (by omega)]; omega) (by rw [f1 _ _ (by omega)]; omega)
  intro x hx
  rw [f1 o 5 (by omega), f1 o 6 (by omega), h5, h6, e1.1, e1.2.2.2.2.2.1] at hx
  refine ⟨rfl, rfl, ?_⟩
  simp only [wr]
  refine And.intro (fun hx1 => ?_) (fun hx1 => ?_)
  · refine h _ f1 ?_
    unfold rstep
    rw [if_pos (by omega)]
    exact hq1
  · have h7 : s (9 * e + 0) ≠ 7 := by omega
    apply s_St_causeOf (m := m) _ hr hK ho hp1 hv1 hl1 hE hB he h7 (q := rset q e 0) ⟨hq1.1, fun i h1 h2 => hq1.2 i h1 (by omega)⟩ (RB_rset hRB) hm
    intro y hy
    have hy2 : y = rcz s Lf B q e := hy
    have hyb : 0 ≤ y ∧ y ≤ 3 := by rw [hy2]; exact rcause_in
    refine ⟨rfl, rfl, by omega, ?_⟩
    intro g4 hg4
    have hg4' : g4 = ab_up g (o + 5) e y := by
      rw [hg4, hg1]
      funext c j
      simp only [ab_up]
      split <;> rfl
    have f4 : ∀ c j : Int, c < o + 1 ∨ o + 5 < c → g4 c j = g c j := fun c j hc => by rw [hg4', up_a (by omega)]
    have h45 : g4 (o + 5) e = y := by rw [hg4, up_s]
    refine ⟨by omega, ?_⟩
    rw [h45]
    have hs : ¬ (s (9 * e + 0) = 7 ∨ e = but ∨ (s (9 * e + 8) ≠ 0 ∧ s (9 * e + 8) ≤ hz)) := by omega
    refine And.intro (fun hy1 => ?_) (fun hy1 => ?_)
    · refine h _ f4 ?_
      unfold rstep
      rw [if_neg hs, if_neg (by rw [← hy2]; omega), ← hy2, hg4']
      exact hq0 y
    · have hy0 : y = 0 := by omega
      have hq4 : StV g4 o (rset q e 0) (e + 1) := by rw [hg4', hy0]; exact hq0 0
      apply s_St_change (m := e + 1) _ hr hK ho hp1 (LgV_mono hv (fun c i h1 h2 => f4 c i (by omega))) (LgL_mono hl (fun c i h1 h2 => f4 c i (by omega))) hE he h7 hq4
      intro g5 f5 hq5
      refine ⟨rfl, ?_⟩
      refine h _ (fun c j hc => by rw [f5 c j hc, f4 c j hc]) ?_
      unfold rstep
      rw [if_neg hs, if_pos (by rw [← hy2]; exact hy0)]
      exact hq5
theorem l_St_replay {K : Int} {S : Nat} {r : ab_H} {o p1 n k hz but : Int} {s : Int → Int} {Lf : Int → Int → Int} {B : Int → Int} (P : ab_H → ab_H → Prop) (hr : SI r) (hK : 186 ≤ K) (ho : isSt o) (hp1 : isLg p1) (hE : EvOk s n) (hB : LfOk s Lf B n) (hk : 0 ≤ k ∧ k ≤ n) (hn : n ≤ 120) (hz5 : 0 ≤ hz ∧ hz ≤ 1000) (hb6 : -1 ≤ but ∧ but ≤ 1000) : ∀ (m : Nat) (i : Int) (g : ab_H), 0 ≤ i → i + m = k → LgV g p1 s n → LgL g p1 s Lf B n → StV g o (rep s Lf B but hz i) i → g o 5 = hz → g o 6 = but → (∀ g' : ab_H, (∀ c j : Int, c < o + 1 ∨ o + 5 < c → g' c j = g c j) → StV g' o (rep s Lf B but hz k) k → P g' r) → ab_Rn m_St_replay 6 [some (2, o), some (2, p1), some (0, k), none, none, some (0, i)] [] (K, S, g, r) (ab_Qv K S P)
  | 0, i, g, h0, hi, hv, hl, hq, h5, h6, h => by
    have hik : i = k := by omega
    subst hik
    apply v_St_replay_6 _ hr hK ho hp1
    simp only [wr]
    refine And.intro (fun _ => ?_) (fun hc => ?_)
    · exact h g (fun _ _ _ => rfl) hq
    · omega
  | m + 1, i, g, h0, hi, hv, hl, hq, h5, h6, h => by
    have ho' : o = 45 ∨ o = 51 := ho
    have hp' : p1 = 23 ∨ p1 = 34 ∨ p1 = 66 := hp1
    apply v_St_replay_6 _ hr hK ho hp1
    simp only [wr]
    refine And.intro (fun hc => ?_) (fun hc => ?_)
    · omega
    · apply s_St_step (m := i) _ hr hK ho hp1 hv hl hE hB ⟨h0, by omega⟩ hq (RB_rep hB h0 (by omega)) (by omega) h5 h6 hz5 hb6
      intro g1 f1 hq1
      rw [← rep_s h0] at hq1
      refine ⟨rfl, ?_⟩
      refine l_St_replay P hr hK ho hp1 hE hB hk hn hz5 hb6 m (i + 1) g1 (by omega) (by omega) (LgV_mono hv (fun c i h1 h2 => f1 c i (by omega))) (LgL_mono hl (fun c i h1 h2 => f1 c i (by omega))) hq1 (by rw [f1 _ _ (by omega)]; exact h5) (by rw [f1 _ _ (by omega)]; exact h6) (fun g' f' hq' => h g' (fun c j hc => by rw [f' c j hc, f1 c j hc]) hq')
theorem s_St_replay {K : Int} {S : Nat} {g r : ab_H} {o p1 n k hz but : Int} {s : Int → Int} {Lf : Int → Int → Int} {B : Int → Int} (P : ab_H → ab_H → Prop) (hr : SI r) (hK : 186 ≤ K) (ho : isSt o) (hp1 : isLg p1) (hv : LgV g p1 s n) (hl : LgL g p1 s Lf B n) (hE : EvOk s n) (hB : LfOk s Lf B n) (hk : 0 ≤ k ∧ k ≤ n) (hz5 : 0 ≤ hz ∧ hz ≤ 1000) (hb6 : -1 ≤ but ∧ but ≤ 1000) (h : ∀ g' : ab_H, (∀ c j : Int, c < o ∨ o + 5 < c → g' c j = g c j) → StV g' o (rep s Lf B but hz k) k → P g' r) : ab_RV m_St_replay [(2, o), (2, p1), (0, k), (0, hz), (0, but)] K S g r P := by
  have ho' : o = 45 ∨ o = 51 := ho
  have hp' : p1 = 23 ∨ p1 = 34 ∨ p1 = 66 := hp1
  apply v_St_replay _ hr hK ho hp1
  apply s_St_begin _ hr hK ho
  intro g1 f1 h5 h6 hq
  refine ⟨rfl, ?_⟩
  exact l_St_replay P hr hK ho hp1 hE hB hk hv.2.1.2 hz5 hb6 k.toNat 0 g1 (by omega) (by omega) (LgV_mono hv (fun c i h1 h2 => f1 c i (by omega))) (LgL_mono hl (fun c i h1 h2 => f1 c i (by omega))) hq h5 h6 (fun g' f' hq' => h g' (fun c j hc => by rw [f' c j (by omega), f1 c j hc]) hq')
/-- what look tells of a STATE -/
def rlook (q : RS) (a w : Int) : Int := if w = 0 then q.1 a else if w = 1 then q.2.1 a else if w = 2 then q.2.2.1 a else if w = 3 then q.2.2.2.1 a else -2147483648
theorem s_St_look {K : Int} {S : Nat} {g r : ab_H} {o a w n : Int} {q : RS} (P : Int → ab_H → ab_H → Prop) (hr : SI r) (hK : 186 ≤ K) (ho : isSt o) (ha : 0 ≤ a ∧ a < 8) (hw : -2147483648 ≤ w ∧ w ≤ 2147483647) (hq : StV g o q n) (h : ∀ x : Int, x = rlook q a w → P x g r) : ab_RI m_St_look [(2, o), (0, a), (0, w)] K S g r P := by
  have qa := hq.1 a ha.1 ha.2
  apply v_St_look _ hr hK ho
  simp only [wr]
  repeat' (first | refine And.intro ?_ ?_ | intro _)
  all_goals first | omega | (apply h; unfold rlook; (repeat' split) <;> omega)
/-- how many of the EVENTS from one on are SET ASIDE -/
def asd (c : Int → Int) (e : Int) : Int := if c e = 0 then 0 else 1
theorem l_St_countAside {K : Int} {S : Nat} {g r : ab_H} {o k n : Int} {q : RS} (P : Int → ab_H → ab_H → Prop) (hr : SI r) (hK : 186 ≤ K) (ho : isSt o) (hk : k ≤ n) (hn : n ≤ 120) (hq : StV g o q n) (hc : ∀ e : Int, 0 ≤ q.2.2.2.2 e ∧ q.2.2.2.2 e ≤ 3) : ∀ (m : Nat) (i x : Int), 0 ≤ i → i + m = k → (∀ y : Int, y - x = psm (asd q.2.2.2.2) k - psm (asd q.2.2.2.2) i → P y g r) → ab_Rn m_St_countAside 4 [some (2, o), none, some (0, k), some (0, x), some (0, i)] [] (K, S, g, r) (ab_Qi K S P)
  | 0, i, x, h0, hi, h => by
    have hik : i = k := by omega
    subst hik
    apply v_St_countAside_4 _ hr hK ho
    simp only [wr]
    refine And.intro (fun _ => ?_) (fun hc => ?_)
    · exact h x (by omega)
    · omega
  | m + 1, i, x, h0, hi, h => by
    apply v_St_countAside_4 _ hr hK ho
    have hqi := hq.2 i h0 (by omega)
    have hci := hc i
    have hs := psm_s (f := asd q.2.2.2.2) h0
    rw [hqi]
    simp only [wr]
    refine And.intro (fun hc => by omega) (fun hc1 => ⟨by omega, And.intro (fun hc2 => ?_) (fun hc2 => ?_)⟩)
    · refine l_St_countAside P hr hK ho hk hn hq hc m (i + 1) _ (by omega) (by omega) (fun y hy => h y ?_)
      have : asd q.2.2.2.2 i = 0 := if_pos (by omega)
      omega
    · refine l_St_countAside P hr hK ho hk hn hq hc m (i + 1) _ (by omega) (by omega) (fun y hy => h y ?_)
      have : asd q.2.2.2.2 i = 1 := if_neg (by omega)
      omega
theorem s_St_countAside {K : Int} {S : Nat} {g r : ab_H} {o j k n : Int} {q : RS} (P : Int → ab_H → ab_H → Prop) (hr : SI r) (hK : 186 ≤ K) (ho : isSt o) (hj : 0 ≤ j ∧ j ≤ k) (hk : k ≤ n) (hn : n ≤ 120) (hq : StV g o q n) (hc : ∀ e : Int, 0 ≤ q.2.2.2.2 e ∧ q.2.2.2.2 e ≤ 3) (h : ∀ y : Int, y = psm (asd q.2.2.2.2) k - psm (asd q.2.2.2.2) j → P y g r) : ab_RI m_St_countAside [(2, o), (0, j), (0, k)] K S g r P := by
  apply v_St_countAside _ hr hK ho
  exact l_St_countAside P hr hK ho hk hn hq hc (k - j).toNat j 0 hj.1 (by omega) (fun y hy => h y (by omega))
theorem l_St_countOpen {K : Int} {S : Nat} {g r : ab_H} {o n : Int} {q : RS} (P : Int → ab_H → ab_H → Prop) (hr : SI r) (hK : 186 ≤ K) (ho : isSt o) (hq : StV g o q n) : ∀ (m : Nat) (i x : Int), 0 ≤ i → i + m = 8 → (∀ y : Int, y - x = psm q.2.2.2.1 8 - psm q.2.2.2.1 i → P y g r) → ab_Rn m_St_countOpen 4 [some (2, o), some (0, x), some (0, i)] [] (K, S, g, r) (ab_Qi K S P)
  | 0, i, x, h0, hi, h => by
    have hik : i = 8 := by omega
    subst hik
    apply v_St_countOpen_4 _ hr hK ho
    simp only [wr]
    exact And.intro (fun _ => h x (by omega)) (fun hc => by omega)
  | m + 1, i, x, h0, hi, h => by
    apply v_St_countOpen_4 _ hr hK ho
    have hqi := hq.1 i h0 (by omega)
    have hs := psm_s (f := q.2.2.2.1) h0
    rw [hqi.2.2.2]
    simp only [wr]
    refine And.intro (fun hc => by omega) (fun hc1 => ⟨by omega, ?_⟩)
    exact l_St_countOpen P hr hK ho hq m (i + 1) _ (by omega) (by omega) (fun y hy => h y (by omega))
theorem s_St_countOpen {K : Int} {S : Nat} {g r : ab_H} {o n : Int} {q : RS} (P : Int → ab_H → ab_H → Prop) (hr : SI r) (hK : 186 ≤ K) (ho : isSt o) (hq : StV g o q n) (h : ∀ y : Int, y = psm q.2.2.2.1 8 → P y g r) : ab_RI m_St_countOpen [(2, o)] K S g r P := by
  apply v_St_countOpen _ hr hK ho
  exact l_St_countOpen P hr hK ho hq 8 0 0 (by omega) (by omega) (fun y hy => h y (by rw [psm_0] at hy; omega))
theorem l_St_sumBalances {K : Int} {S : Nat} {g r : ab_H} {o n : Int} {q : RS} (P : Int → ab_H → ab_H → Prop) (hr : SI r) (hK : 186 ≤ K) (ho : isSt o) (hq : StV g o q n) : ∀ (m : Nat) (i x : Int), 0 ≤ i → i + m = 8 → (∀ y : Int, y - x = psm q.1 8 - psm q.1 i → P y g r) → ab_Rn m_St_sumBalances 4 [some (2, o), some (0, x), some (0, i)] [] (K, S, g, r) (ab_Qi K S P)
  | 0, i, x, h0, hi, h => by
    have hik : i = 8 := by omega
    subst hik
    apply v_St_sumBalances_4 _ hr hK ho
    simp only [wr]
    exact And.intro (fun _ => h x (by omega)) (fun hc => by omega)
  | m + 1, i, x, h0, hi, h => by
    apply v_St_sumBalances_4 _ hr hK ho
    have hqi := hq.1 i h0 (by omega)
    have hs := psm_s (f := q.1) h0
    rw [hqi.1]
    simp only [wr]
    refine And.intro (fun hc => by omega) (fun hc1 => ⟨by omega, ?_⟩)
    exact l_St_sumBalances P hr hK ho hq m (i + 1) _ (by omega) (by omega) (fun y hy => h y (by omega))
theorem s_St_sumBalances {K : Int} {S : Nat} {g r : ab_H} {o n : Int} {q : RS} (P : Int → ab_H → ab_H → Prop) (hr : SI r) (hK : 186 ≤ K) (ho : isSt o) (hq : StV g o q n) (h : ∀ y : Int, y = psm q.1 8 → P y g r) : ab_RI m_St_sumBalances [(2, o)] K S g r P := by
  apply v_St_sumBalances _ hr hK ho
  exact l_St_sumBalances P hr hK ho hq 8 0 0 (by omega) (by omega) (fun y hy => h y (by rw [psm_0] at hy; omega))
