/-! SPECS, part zzzd: text, the reference begins a TEXT and takes it over. -/
theorem l_M_fresh2 {K : Int} {S : Nat} {r : ab_H} (P : ab_H → ab_H → Prop) (hr : SI r) (hK : 186 ≤ K) : ∀ (m : Nat) (i : Int) (g : ab_H), 0 ≤ i → i + m = 6 → (∀ j : Int, 6 ≤ j → j < 6 + i → g 163 j = 0) → (∀ g' : ab_H, (∀ c : Int, c ≠ 163 → g' c = g c) → (∀ j : Int, j < 6 → g' 163 j = g 163 j) → (g' 163 6 = 0 ∧ g' 163 7 = 0 ∧ g' 163 8 = 20 ∧ g' 163 9 = 3 ∧ g' 163 10 = 0 ∧ g' 163 11 = 0) → ab_Rn m_M_freshText 21 [some (2, 161), some (0, 0)] [] (K, S, g', r) (ab_Qv K S P)) → ab_Rn m_M_freshText 2 [some (2, 161), some (0, i)] [] (K, S, g, r) (ab_Qv K S P) := by
  intro m
  induction m with
  | zero =>
    intro i g h0 hi hz h
    apply v_M_freshText_2 _ hr hK
    refine And.intro (fun _ => ?_) (fun q => absurd q (by simp only [wr]; omega))
    apply v_M_reads _ hr hK
    refine ⟨by omega, fun g1 hg1 => ⟨rfl, ?_⟩⟩
    apply v_M_reads _ hr hK
    refine ⟨by omega, fun g3 hg3 => ⟨rfl, h g3 (fun c a => by rw [hg3, up_f a, hg1, up_f a]) (fun j a => by rw [hg3, up_k (by omega), hg1, up_k (by omega)]) ?_⟩⟩
    have f : ∀ j : Int, j ≠ 8 → j ≠ 9 → g3 163 j = g 163 j := fun j a b => by rw [hg3, up_k (by omega), hg1, up_k (by omega)]
    exact ⟨by rw [f _ (by omega) (by omega)]; exact hz 6 (by omega) (by omega), by rw [f _ (by omega) (by omega)]; exact hz 7 (by omega) (by omega), by rw [hg3, up_k (by omega), hg1]; exact up_s, by rw [hg3]; exact up_s, by rw [f _ (by omega) (by omega)]; exact hz 10 (by omega) (by omega), by rw [f _ (by omega) (by omega)]; exact hz 11 (by omega) (by omega)⟩
  | succ m ih =>
    intro i g h0 hi hz h
    apply v_M_freshText_2 _ hr hK
    refine And.intro (fun q => absurd q (by simp only [wr]; omega)) (fun _ => ?_)
    apply v_M_reads _ hr hK
    refine ⟨by omega, fun g5 hg5 => ⟨rfl, ih (i + 1) g5 (by omega) (by omega) (fun j a b => ?_) (fun g' k1 k2 k3 => h g' (fun c a => by rw [k1 c a, hg5, up_f a]) (fun j a => by rw [k2 j a, hg5, up_k (by omega)]) k3)⟩⟩
    rw [hg5]
    by_cases e : j = 6 + i
    · rw [e, up_s]
    · rw [up_k e]; exact hz j a (by omega)
theorem l_M_fresh21 {K : Int} {S : Nat} {r : ab_H} (P : ab_H → ab_H → Prop) (hr : SI r) (hK : 186 ≤ K) : ∀ (m : Nat) (i : Int) (g : ab_H), 0 ≤ i → i + m = 14 → (∀ j : Int, 0 ≤ j → j < i → g 168 (14 + j) = 0) → (∀ g' : ab_H, (∀ c : Int, c ≠ 161 → c ≠ 168 → g' c = g c) → (∀ j : Int, j ≠ 14 → j ≠ 15 → g' 161 j = g 161 j) → (g' 161 14 = 0 ∧ g' 161 15 = 0) → (∀ j : Int, j < 14 → g' 168 j = g 168 j) → (∀ j : Int, 0 ≤ j → j < 14 → g' 168 (14 + j) = 0) → P g' r) → ab_Rn m_M_freshText 21 [some (2, 161), some (0, i)] [] (K, S, g, r) (ab_Qv K S P) := by
  intro m
  induction m with
  | zero =>
    intro i g h0 hi hz h
    apply v_M_freshText_21 _ hr hK
    refine And.intro (fun _ g1 hg1 g2 hg2 => ?_) (fun q => absurd q (by simp only [wr]; omega))
    exact h g2 (fun c a b => by rw [hg2, up_f a, hg1, up_f a]) (fun j a b => by rw [hg2, up_k b, hg1, up_k a]) ⟨by rw [hg2, up_k (by omega), hg1, up_s], by rw [hg2, up_s]⟩ (fun j a => by rw [hg2, up_f (by omega), hg1, up_f (by omega)]) (fun j a b => by rw [hg2, up_f (by omega), hg1, up_f (by omega)]; exact hz j a (by omega))
  | succ m ih =>
    intro i g h0 hi hz h
    apply v_M_freshText_21 _ hr hK
    refine And.intro (fun q => absurd q (by simp only [wr]; omega)) (fun _ => ⟨by omega, fun g5 hg5 => ?_⟩)
    refine ih (i + 1) g5 (by omega) (by omega) (fun j a b => ?_) (fun g' k1 k2 k3 k4 k5 => h g' (fun c a b => by rw [k1 c a b, hg5, up_f b]) (fun j a b => by rw [k2 j a b, hg5, up_f (by omega)]) k3 (fun j a => by rw [k4 j a, hg5, up_k (by omega)]) k5)
    rw [hg5]
    by_cases e : j = i
    · rw [e, up_s]
    · rw [up_k (by omega)]; exact hz j a (by omega)
theorem u_readText {K : Int} {S : Nat} {b : Int → Int} {n : Int} {g r : ab_H} (P : ab_H → ab_H → Prop) (hr : SI r) (hK : 186 ≤ K) (hb : TxB b n) (ht : ∀ i : Int, 0 ≤ i → i < n → g 162 i = b i) (h : ∀ g' : ab_H, MR (Mx.mk b n (zend b n).1 g) (zend b n).2 g' → P g' r) : ab_RV m_M_readText [(2, 161), (0, n)] K S g r P := by
  have hn := hb.1
  apply v_M_readText _ hr hK
  intro g1 h1 g2 h2 g3 h3 g4 h4
  have f4 : ∀ c j : Int, ¬ (c = 161 ∧ (j = 16 ∨ j = 17 ∨ j = 18 ∨ j = 22)) → g4 c j = g c j := fun c j a => by rw [h4, up_n (by omega), h3, up_n (by omega), h2, up_n (by omega), h1, up_n (by omega)]
  have v16 : g4 161 16 = 0 := by rw [h4, up_s]
  have v22 : g4 161 22 = 0 := by rw [h4, up_k (by omega), h3, up_s]
  have v18 : g4 161 18 = 0 := by rw [h4, up_k (by omega), h3, up_k (by omega), h2, up_s]
  have v17 : g4 161 17 = n := by rw [h4, up_k (by omega), h3, up_k (by omega), h2, up_k (by omega), h1, up_s]
  apply v_M_freshText _ hr hK
  refine l_M_fresh2 _ hr hK 6 0 g4 (by omega) (by omega) (fun j a b => absurd b (by omega)) ?_
  intro g5 a1 a2 a3
  refine l_M_fresh21 _ hr hK 14 0 g5 (by omega) (by omega) (fun j a b => absurd b (by omega)) ?_
  intro g6 b1 b2 b3 b4 b5
  refine ⟨rfl, ?_⟩
  have f6 : ∀ c j : Int, c ≠ 161 → c ≠ 163 → c ≠ 168 → g6 c j = g c j := fun c j a b d => by rw [b1 c a d, a1 c b, f4 c j (by omega)]
  have f61 : ∀ j : Int, j ≠ 14 → j ≠ 15 → g6 161 j = g4 161 j := fun j a b => by rw [b2 j a b, a1 161 (by omega)]
  have tx6 : TxV g6 b n := ⟨by rw [f61 17 (by omega) (by omega)]; exact v17, fun i p q => by rw [f6 162 i (by omega) (by omega) (by omega)]; exact ht i p q⟩
  apply s_M_token (p := 0) _ hr hK hb tx6 (by rw [f61 18 (by omega) (by omega)]; exact v18) (by omega)
  intro q k v g7 t1 kf e19 e18 e20 e21
  refine ⟨rfl, ?_⟩
  obtain ⟨w1, w2, w3⟩ := Tk1_fn t1
  have s0 := scan_in (f := fB) (b := b) (n := n) (n - 0).toNat 0
  have hp0 : 0 ≤ scan fB b n (n - 0).toNat 0 ∧ scan fB b n (n - 0).toNat 0 ≤ n := by omega
  have tq0 := tk_b hb hp0
  have en : (n - 0).toNat = n.toNat := by omega
  rw [en] at e19 w1 w2 w3 hp0 tq0
  have c7 : ∀ c : Int, c ≠ 161 → g7 c = g6 c := kf.1
  have j7 : ∀ j : Int, j < 18 ∨ 21 < j → g7 161 j = g6 161 j := kf.2
  have k7 : MR (Mx.mk b n 0 g) (.ok (zd0 (scan fB b n n.toNat 0))) g7 := by
    refine ⟨⟨TxV_k tx6 kf, ?_, ⟨?_, fun i p q => absurd q (by show ¬ i < 0; omega), fun i p q => absurd q (by show ¬ i < 0; omega), fun i p q => ⟨?_, fun k x y => absurd y (by show ¬ k < 0; omega)⟩, fun i p q => absurd q (by show ¬ i < 0; omega), ?_⟩, Inv_0, ⟨?_, ?_, ?_, ?_, ?_, ?_, ?_⟩, ?_⟩, ?_, hp0, ⟨e19, by rw [e18]; exact w1, by rw [e20]; exact w2, fun a => by rw [e21]; exact w3 (by rw [w2]; exact a)⟩⟩
    · rw [e18, w1]
      show 0 ≤ tq b n (scan fB b n n.toNat 0) ∧ tq b n (scan fB b n n.toNat 0) ≤ n
      omega
    · rw [c7 163 (by omega), b1 163 (by omega) (by omega)]; exact a3
    · rw [c7 168 (by omega)]; exact b5 i p q
    · rw [j7 14 (by omega), j7 15 (by omega)]; exact b3
    · intro c j p q; rw [c7 c p]; exact f6 c j p (by omega) (by omega)
    · intro j p; rw [j7 j (by omega), f61 j (by omega) (by omega), f4 _ _ (by omega)]
    · intro j p; rw [c7 163 (by omega), b1 163 (by omega) (by omega), a2 j p, f4 _ _ (by omega)]
    · intro j p; rw [c7 164 (by omega)]; exact f6 _ _ (by omega) (by omega) (by omega)
    · intro c j p q s; rw [c7 c (by omega)]; exact f6 _ _ (by omega) (by omega) (by omega)
    · intro j p; rw [c7 168 (by omega), b4 j p, a1 168 (by omega), f4 _ _ (by omega)]
    · intro c j p q s; rw [c7 c (by omega)]; exact f6 _ _ (by omega) (by omega) (by omega)
    · rw [j7 16 (by omega), f61 16 (by omega) (by omega)]; exact v16
    · rw [j7 22 (by omega), f61 22 (by omega) (by omega)]; exact v22
  exact l_M_readText P hr hK n.toNat (Mx.mk b n 0 g) _ g7 hb k7 (fun d e => by cases e; show n ≤ scan fB b n n.toNat 0 + (n.toNat : Int); omega) h
/-- what the reference takes over -/
def TkM (g g' : ab_H) : Prop := (∀ c : Int, ¬ (163 ≤ c ∧ c ≤ 171) → g' c = g c) ∧ (∀ j : Int, 0 ≤ j → j < 6 → g' 163 j = g 163 (6 + j)) ∧ (∀ j : Int, 0 ≤ j → j < 8 → g' 164 j = g 164 (8 + j)) ∧ (∀ c j : Int, 165 ≤ c → c ≤ 167 → 0 ≤ j → j < 4 → g' c j = g c (4 + j)) ∧ (∀ j : Int, 0 ≤ j → j < 14 → g' 168 j = g 168 (14 + j)) ∧ ∀ c j : Int, 169 ≤ c → c ≤ 171 → 0 ≤ j → j < 56 → g' c j = g c (56 + j)
theorem l_M_take87 {K : Int} {S : Nat} {r g0 : ab_H} (P : ab_H → ab_H → Prop) (hr : SI r) (hK : 186 ≤ K) (h : ∀ g' : ab_H, TkM g0 g' → P g' r) : ∀ (m : Nat) (i : Int) (g : ab_H), 0 ≤ i → i + m = 56 → (∀ c : Int, ¬ (163 ≤ c ∧ c ≤ 171) → g c = g0 c) → (∀ j : Int, 0 ≤ j → j < 6 → g 163 j = g0 163 (6 + j)) → (∀ j : Int, 0 ≤ j → j < 8 → g 164 j = g0 164 (8 + j)) → (∀ c j : Int, 165 ≤ c → c ≤ 167 → 0 ≤ j → j < 4 → g c j = g0 c (4 + j)) → (∀ j : Int, 0 ≤ j → j < 14 → g 168 j = g0 168 (14 + j)) → (∀ c j : Int, 169 ≤ c → c ≤ 171 → 0 ≤ j → j < i → g c j = g0 c (56 + j)) → (∀ c j : Int, 169 ≤ c → c ≤ 171 → i ≤ j → g c j = g0 c j) → ab_Rn m_M_takeText 87 [some (2, 161), some (0, i)] [] (K, S, g, r) (ab_Qv K S P) := by
  intro m
  induction m with
  | zero =>
    intro i g h0 hi k1 k2 k3 k4 k5 k6 k7
    apply v_M_takeText_87 _ hr hK
    exact And.intro (fun _ => h g ⟨k1, k2, k3, k4, k5, fun c j a b d e => k6 c j a b d (by omega)⟩) (fun q => absurd q (by simp only [wr]; omega))
  | succ m ih =>
    intro i g h0 hi k1 k2 k3 k4 k5 k6 k7
    apply v_M_takeText_87 _ hr hK
    refine And.intro (fun q => absurd q (by simp only [wr]; omega)) (fun _ => ⟨by omega, by omega, fun g1 h1 => ⟨by omega, by omega, fun g2 h2 => ⟨by omega, by omega, fun g3 h3 => ?_⟩⟩⟩)
    have f : ∀ c j : Int, ¬ (169 ≤ c ∧ c ≤ 171 ∧ j = i) → g3 c j = g c j := fun c j a => by rw [h3, up_n (by omega), h2, up_n (by omega), h1, up_n (by omega)]
    have w9 : g3 169 i = g 169 (56 + i) := by rw [h3, up_n (by omega), h2, up_n (by omega), h1, up_s]
    have w10 : g3 170 i = g 170 (56 + i) := by rw [h3, up_n (by omega), h2, up_s, h1, up_n (by omega)]
    have w11 : g3 171 i = g 171 (56 + i) := by rw [h3, up_s, h2, up_n (by omega), h1, up_n (by omega)]
    refine ih (i + 1) g3 (by omega) (by omega) (fun c a => by funext j; rw [f c j (by omega), k1 c a]) (fun j a b => by rw [f _ _ (by omega)]; exact k2 j a b) (fun j a b => by rw [f _ _ (by omega)]; exact k3 j a b) (fun c j a b d e => by rw [f _ _ (by omega)]; exact k4 c j a b d e) (fun j a b => by rw [f _ _ (by omega)]; exact k5 j a b) (fun c j a b d e => ?_) (fun c j a b d => by rw [f _ _ (by omega)]; exact k7 c j a b (by omega))
    by_cases q : j = i
    · rw [q]
      have hc : c = 169 ∨ c = 170 ∨ c = 171 := by omega
      rcases hc with hc | hc | hc
      · rw [hc, w9]; exact k7 _ _ (by omega) (by omega) (by omega)
      · rw [hc, w10]; exact k7 _ _ (by omega) (by omega) (by omega)
      · rw [hc, w11]; exact k7 _ _ (by omega) (by omega) (by omega)
    · rw [f _ _ (by omega)]; exact k6 c j a b d (by omega)
theorem l_M_take70 {K : Int} {S : Nat} {r g0 : ab_H} (P : ab_H → ab_H → Prop) (hr : SI r) (hK : 186 ≤ K) (h : ∀ g' : ab_H, TkM g0 g' → P g' r) : ∀ (m : Nat) (i : Int) (g : ab_H), 0 ≤ i → i + m = 14 → (∀ c : Int, ¬ (163 ≤ c ∧ c ≤ 168) → g c = g0 c) → (∀ j : Int, 0 ≤ j → j < 6 → g 163 j = g0 163 (6 + j)) → (∀ j : Int, 0 ≤ j → j < 8 → g 164 j = g0 164 (8 + j)) → (∀ c j : Int, 165 ≤ c → c ≤ 167 → 0 ≤ j → j < 4 → g c j = g0 c (4 + j)) → (∀ j : Int, 0 ≤ j → j < i → g 168 j = g0 168 (14 + j)) → (∀ j : Int, i ≤ j → g 168 j = g0 168 j) → ab_Rn m_M_takeText 70 [some (2, 161), some (0, i)] [] (K, S, g, r) (ab_Qv K S P) := by
  intro m
  induction m with
  | zero =>
    intro i g h0 hi k1 k2 k3 k4 k5 k6
    apply v_M_takeText_70 _ hr hK
    exact And.intro (fun _ => l_M_take87 P hr hK h 56 0 g (by omega) (by omega) (fun c a => k1 c (by omega)) k2 k3 k4 (fun j a b => k5 j a (by omega)) (fun c j a b d e => absurd e (by omega)) (fun c j a b d => by rw [k1 c (by omega)])) (fun q => absurd q (by simp only [wr]; omega))
  | succ m ih =>
    intro i g h0 hi k1 k2 k3 k4 k5 k6
    apply v_M_takeText_70 _ hr hK
    refine And.intro (fun q => absurd q (by simp only [wr]; omega)) (fun _ => ⟨by omega, by omega, fun g1 h1 => ?_⟩)
    refine ih (i + 1) g1 (by omega) (by omega) (fun c a => by rw [h1, up_f (by omega)]; exact k1 c a) (fun j a b => by rw [h1, up_f (by omega)]; exact k2 j a b) (fun j a b => by rw [h1, up_f (by omega)]; exact k3 j a b) (fun c j a b d e => by rw [h1, up_f (by omega)]; exact k4 c j a b d e) (fun j a b => ?_) (fun j a => by rw [h1, up_k (by omega)]; exact k6 j (by omega))
    rw [h1]
    by_cases q : j = i
    · rw [q, up_s]; exact k6 _ (by omega)
    · rw [up_k q]; exact k5 j a (by omega)
theorem l_M_take33 {K : Int} {S : Nat} {r g0 : ab_H} (P : ab_H → ab_H → Prop) (hr : SI r) (hK : 186 ≤ K) (h : ∀ g' : ab_H, TkM g0 g' → P g' r) : ∀ (m : Nat) (i : Int) (g : ab_H), 0 ≤ i → i + m = 4 → (∀ c : Int, ¬ (163 ≤ c ∧ c ≤ 167) → g c = g0 c) → (∀ j : Int, 0 ≤ j → j < 6 → g 163 j = g0 163 (6 + j)) → (∀ j : Int, 0 ≤ j → j < 8 → g 164 j = g0 164 (8 + j)) → (∀ c j : Int, 165 ≤ c → c ≤ 167 → 0 ≤ j → j < i → g c j = g0 c (4 + j)) → (∀ c j : Int, 165 ≤ c → c ≤ 167 → i ≤ j → g c j = g0 c j) → ab_Rn m_M_takeText 33 [some (2, 161), some (0, i)] [] (K, S, g, r) (ab_Qv K S P) := by
  intro m
  induction m with
  | zero =>
    intro i g h0 hi k1 k2 k3 k6 k7
    apply v_M_takeText_33 _ hr hK
    exact And.intro (fun _ => l_M_take70 P hr hK h 14 0 g (by omega) (by omega) (fun c a => k1 c (by omega)) k2 k3 (fun c j a b d e => k6 c j a b d (by omega)) (fun j a b => absurd b (by omega)) (fun j a => by rw [k1 168 (by omega)])) (fun q => absurd q (by simp only [wr]; omega))
  | succ m ih =>
    intro i g h0 hi k1 k2 k3 k6 k7
    apply v_M_takeText_33 _ hr hK
    refine And.intro (fun q => absurd q (by simp only [wr]; omega)) (fun _ => ⟨by omega, by omega, fun g1 h1 => ⟨by omega, by omega, fun g2 h2 => ⟨by omega, by omega, fun g3 h3 => ?_⟩⟩⟩)
    have f : ∀ c j : Int, ¬ (165 ≤ c ∧ c ≤ 167 ∧ j = i) → g3 c j = g c j := fun c j a => by rw [h3, up_n (by omega), h2, up_n (by omega), h1, up_n (by omega)]
    have w9 : g3 165 i = g 165 (4 + i) := by rw [h3, up_n (by omega), h2, up_n (by omega), h1, up_s]
    have w10 : g3 166 i = g 166 (4 + i) := by rw [h3, up_n (by omega), h2, up_s, h1, up_n (by omega)]
    have w11 : g3 167 i = g 167 (4 + i) := by rw [h3, up_s, h2, up_n (by omega), h1, up_n (by omega)]
    refine ih (i + 1) g3 (by omega) (by omega) (fun c a => by funext j; rw [f c j (by omega), k1 c a]) (fun j a b => by rw [f _ _ (by omega)]; exact k2 j a b) (fun j a b => by rw [f _ _ (by omega)]; exact k3 j a b) (fun c j a b d e => ?_) (fun c j a b d => by rw [f _ _ (by omega)]; exact k7 c j a b (by omega))
    by_cases q : j = i
    · rw [q]
      have hc : c = 165 ∨ c = 166 ∨ c = 167 := by omega
      rcases hc with hc | hc | hc
      · rw [hc, w9]; exact k7 _ _ (by omega) (by omega) (by omega)
      · rw [hc, w10]; exact k7 _ _ (by omega) (by omega) (by omega)
      · rw [hc, w11]; exact k7 _ _ (by omega) (by omega) (by omega)
    · rw [f _ _ (by omega)]; exact k6 c j a b d (by omega)
theorem l_M_take16 {K : Int} {S : Nat} {r g0 : ab_H} (P : ab_H → ab_H → Prop) (hr : SI r) (hK : 186 ≤ K) (h : ∀ g' : ab_H, TkM g0 g' → P g' r) : ∀ (m : Nat) (i : Int) (g : ab_H), 0 ≤ i → i + m = 8 → (∀ c : Int, ¬ (163 ≤ c ∧ c ≤ 164) → g c = g0 c) → (∀ j : Int, 0 ≤ j → j < 6 → g 163 j = g0 163 (6 + j)) → (∀ j : Int, 0 ≤ j → j < i → g 164 j = g0 164 (8 + j)) → (∀ j : Int, i ≤ j → g 164 j = g0 164 j) → ab_Rn m_M_takeText 16 [some (2, 161), some (0, i)] [] (K, S, g, r) (ab_Qv K S P) := by
  intro m
  induction m with
  | zero =>
    intro i g h0 hi k1 k2 k5 k6
    apply v_M_takeText_16 _ hr hK
    exact And.intro (fun _ => l_M_take33 P hr hK h 4 0 g (by omega) (by omega) (fun c a => k1 c (by omega)) k2 (fun j a b => k5 j a (by omega)) (fun c j a b d e => absurd e (by omega)) (fun c j a b d => by rw [k1 c (by omega)])) (fun q => absurd q (by simp only [wr]; omega))
  | succ m ih =>
    intro i g h0 hi k1 k2 k5 k6
    apply v_M_takeText_16 _ hr hK
    refine And.intro (fun q => absurd q (by simp only [wr]; omega)) (fun _ => ⟨by omega, by omega, fun g1 h1 => ?_⟩)
    refine ih (i + 1) g1 (by omega) (by omega) (fun c a => by rw [h1, up_f (by omega)]; exact k1 c a) (fun j a b => by rw [h1, up_f (by omega)]; exact k2 j a b) (fun j a b => ?_) (fun j a => by rw [h1, up_k (by omega)]; exact k6 j (by omega))
    rw [h1]
    by_cases q : j = i
    · rw [q, up_s]; exact k6 _ (by omega)
    · rw [up_k q]; exact k5 j a (by omega)
theorem l_M_take2 {K : Int} {S : Nat} {r g0 : ab_H} (P : ab_H → ab_H → Prop) (hr : SI r) (hK : 186 ≤ K) (h : ∀ g' : ab_H, TkM g0 g' → P g' r) : ∀ (m : Nat) (i : Int) (g : ab_H), 0 ≤ i → i + m = 6 → (∀ c : Int, c ≠ 163 → g c = g0 c) → (∀ j : Int, 0 ≤ j → j < i → g 163 j = g0 163 (6 + j)) → (∀ j : Int, i ≤ j → g 163 j = g0 163 j) → ab_Rn m_M_takeText 2 [some (2, 161), some (0, i)] [] (K, S, g, r) (ab_Qv K S P) := by
  intro m
  induction m with
  | zero =>
    intro i g h0 hi k1 k5 k6
    apply v_M_takeText_2 _ hr hK
    exact And.intro (fun _ => l_M_take16 P hr hK h 8 0 g (by omega) (by omega) (fun c a => k1 c (by omega)) (fun j a b => k5 j a (by omega)) (fun j a b => absurd b (by omega)) (fun j a => by rw [k1 164 (by omega)])) (fun q => absurd q (by simp only [wr]; omega))
  | succ m ih =>
    intro i g h0 hi k1 k5 k6
    apply v_M_takeText_2 _ hr hK
    refine And.intro (fun q => absurd q (by simp only [wr]; omega)) (fun _ => ?_)
    apply v_M_reading _ hr hK
    refine ⟨by omega, rfl, rfl, by omega, fun g1 h1 => ?_⟩
    refine ih (i + 1) g1 (by omega) (by omega) (fun c a => by rw [h1, up_f (by omega)]; exact k1 c a) (fun j a b => ?_) (fun j a => by rw [h1, up_k (by omega)]; exact k6 j (by omega))
    rw [h1]
    by_cases q : j = i
    · rw [q, up_s]; exact k6 _ (by omega)
    · rw [up_k q]; exact k5 j a (by omega)
theorem u_takeText {K : Int} {S : Nat} {g r : ab_H} (P : ab_H → ab_H → Prop) (hr : SI r) (hK : 186 ≤ K) (h : ∀ g' : ab_H, TkM g g' → P g' r) : ab_RV m_M_takeText [(2, 161)] K S g r P := by
  apply v_M_takeText _ hr hK
  exact l_M_take2 P hr hK h 6 0 g (by omega) (by omega) (fun _ _ => rfl) (fun j a b => absurd b (by omega)) (fun _ _ => rfl)
