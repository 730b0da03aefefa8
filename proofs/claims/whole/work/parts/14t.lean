/-! SPECS, part t: small ones of the reference. -/
theorem s_M_accounts {K : Int} {S : Nat} {g r : ab_H} {n : Int} (P : Int → ab_H → ab_H → Prop) (hr : SI r) (hK : 186 ≤ K) (hn : g 163 0 = n) (h : P n g r) : ab_RI m_M_accounts [(2, 161)] K S g r P := by
  apply v_M_accounts _ hr hK
  rw [hn]
  exact ⟨by omega, h⟩
theorem s_M_tallies {K : Int} {S : Nat} {g r : ab_H} {n : Int} (P : Int → ab_H → ab_H → Prop) (hr : SI r) (hK : 186 ≤ K) (hn : g 163 1 = n) (h : P n g r) : ab_RI m_M_tallies [(2, 161)] K S g r P := by
  apply v_M_tallies _ hr hK
  rw [hn]
  exact ⟨by omega, h⟩
theorem s_M_isAccount {K : Int} {S : Nat} {g r : ab_H} {a n : Int} (P : Int → ab_H → ab_H → Prop) (hr : SI r) (hK : 186 ≤ K) (hn : g 163 0 = n) (hn2 : 0 ≤ n ∧ n ≤ 8) (ha : -2147483648 ≤ a ∧ a ≤ 2147483647) (h : ∀ x : Int, ((x = 1 ∧ (0 ≤ a ∧ a < n)) ∨ (x = 0 ∧ ¬ (0 ≤ a ∧ a < n))) → P x g r) : ab_RI m_M_isAccount [(2, 161), (0, a)] K S g r P := by
  apply v_M_isAccount _ hr hK
  refine And.intro (fun h1 => h 0 (Or.inr ⟨rfl, by simp only [wr] at h1; omega⟩)) (fun h1 => ?_)
  apply s_M_accounts _ hr hK hn
  exact ⟨rfl, rfl, And.intro (fun h2 => h 0 (Or.inr ⟨rfl, by simp only [wr] at h1 h2; omega⟩)) (fun h2 => h 1 (Or.inl ⟨rfl, by simp only [wr] at h1 h2; omega⟩))⟩
theorem s_M_isTally {K : Int} {S : Nat} {g r : ab_H} {a n : Int} (P : Int → ab_H → ab_H → Prop) (hr : SI r) (hK : 186 ≤ K) (hn : g 163 1 = n) (hn2 : 0 ≤ n ∧ n ≤ 4) (ha : -2147483648 ≤ a ∧ a ≤ 2147483647) (h : ∀ x : Int, ((x = 1 ∧ (0 ≤ a ∧ a < n)) ∨ (x = 0 ∧ ¬ (0 ≤ a ∧ a < n))) → P x g r) : ab_RI m_M_isTally [(2, 161), (0, a)] K S g r P := by
  apply v_M_isTally _ hr hK
  refine And.intro (fun h1 => h 0 (Or.inr ⟨rfl, by simp only [wr] at h1; omega⟩)) (fun h1 => ?_)
  apply s_M_tallies _ hr hK hn
  exact ⟨rfl, rfl, And.intro (fun h2 => h 0 (Or.inr ⟨rfl, by simp only [wr] at h1 h2; omega⟩)) (fun h2 => h 1 (Or.inl ⟨rfl, by simp only [wr] at h1 h2; omega⟩))⟩
theorem s_M_isEvent {K : Int} {S : Nat} {g r : ab_H} {a n : Int} (P : Int → ab_H → ab_H → Prop) (hr : SI r) (hK : 186 ≤ K) (hn : g 174 1080 = n) (hn2 : 0 ≤ n ∧ n ≤ 120) (ha : -2147483648 ≤ a ∧ a ≤ 2147483647) (h : ∀ x : Int, ((x = 1 ∧ (0 ≤ a ∧ a < n)) ∨ (x = 0 ∧ ¬ (0 ≤ a ∧ a < n))) → P x g r) : ab_RI m_M_isEvent [(2, 161), (0, a)] K S g r P := by
  apply v_M_isEvent _ hr hK
  refine And.intro (fun h1 => h 0 (Or.inr ⟨rfl, by simp only [wr] at h1; omega⟩)) (fun h1 => ?_)
  apply s_M_many _ hr hK
  rw [hn]
  exact ⟨rfl, rfl, And.intro (fun h2 => h 0 (Or.inr ⟨rfl, by simp only [wr] at h1 h2; omega⟩)) (fun h2 => h 1 (Or.inl ⟨rfl, by simp only [wr] at h1 h2; omega⟩))⟩
theorem s_M_isTime {K : Int} {S : Nat} {g r : ab_H} {a : Int} (P : Int → ab_H → ab_H → Prop) (hr : SI r) (hK : 186 ≤ K) (ha : -2147483648 ≤ a ∧ a ≤ 2147483647) (h : ∀ x : Int, ((x = 1 ∧ (0 ≤ a ∧ a ≤ 9999)) ∨ (x = 0 ∧ ¬ (0 ≤ a ∧ a ≤ 9999))) → P x g r) : ab_RI m_M_isTime [(0, a)] K S g r P := by
  apply v_M_isTime _ hr hK
  simp only [wr]
  repeat' (first | refine And.intro ?_ ?_ | intro _)
  all_goals first | omega | (apply h; omega)
theorem s_M_isWhat {K : Int} {S : Nat} {g r : ab_H} {a : Int} (P : Int → ab_H → ab_H → Prop) (hr : SI r) (hK : 186 ≤ K) (ha : -2147483648 ≤ a ∧ a ≤ 2147483647) (h : ∀ x : Int, ((x = 1 ∧ (0 ≤ a ∧ a ≤ 3)) ∨ (x = 0 ∧ ¬ (0 ≤ a ∧ a ≤ 3))) → P x g r) : ab_RI m_M_isWhat [(0, a)] K S g r P := by
  apply v_M_isWhat _ hr hK
  simp only [wr]
  repeat' (first | refine And.intro ?_ ?_ | intro _)
  all_goals first | omega | (apply h; omega)
theorem s_M_has {K : Int} {S : Nat} {g r : ab_H} {a w n m : Int} {q : RS} (P : Int → ab_H → ab_H → Prop) (hr : SI r) (hK : 186 ≤ K) (ha : 0 ≤ a ∧ a < 8) (hw : 0 ≤ w ∧ w ≤ 3) (hq : StV g 178 q n) (hRB : RB m q) (h : P (rlook q a w) g r) : ab_RI m_M_has [(2, 161), (0, a), (0, w)] K S g r P := by
  have qa := hq.1 a ha.1 ha.2
  simp only [show (178 : Int) + 1 = 179 by omega, show (178 : Int) + 2 = 180 by omega, show (178 : Int) + 3 = 181 by omega, show (178 : Int) + 4 = 182 by omega] at qa
  have ra := hRB a
  have h' : ∀ x : Int, x = rlook q a w → P x g r := fun x hx => by rw [hx]; exact h
  apply v_M_has _ hr hK
  simp only [wr]
  repeat' (first | refine And.intro ?_ ?_ | intro _)
  all_goals first | omega | (apply h'; unfold rlook; (repeat' split) <;> omega)
theorem l_M_placeAt {K : Int} {S : Nat} {g r : ab_H} {t n : Int} {s : Int → Int} (P : Int → ab_H → ab_H → Prop) (hr : SI r) (hK : 186 ≤ K) (hs : EvS g s) (hm : g 174 1080 = n) (hn : 0 ≤ n ∧ n ≤ 120) (hE : EvOk s n) (ht : 0 ≤ t ∧ t ≤ 9999) : ∀ (m : Nat) (i : Int), 0 ≤ i → i + m = n → P (plN s t n m i) g r → ab_Rn m_M_placeAt 2 [some (2, 161), some (0, t), some (0, i)] [] (K, S, g, r) (ab_Qi K S P)
  | 0, i, h0, hi, h => by
    apply v_M_placeAt_2 _ hr hK
    apply s_M_many _ hr hK
    rw [hm]
    exact ⟨rfl, rfl, And.intro (fun _ => h) (fun h1 => absurd h1 (by simp only [wr]; omega))⟩
  | m + 1, i, h0, hi, h => by
    have c0 := hE i h0 (by omega)
    have hs1 : plN s t n (m + 1) i = if s (9 * i + 3) ≤ t then plN s t n m (i + 1) else i := rfl
    rw [hs1] at h
    apply v_M_placeAt_2 _ hr hK
    apply s_M_many _ hr hK
    rw [hm, hs (9 * i + 3) (by omega) (by omega)]
    refine ⟨rfl, rfl, And.intro (fun h1 => absurd h1 (by simp only [wr]; omega)) (fun _ => ⟨by omega, And.intro (fun h1 => ?_) (fun h1 => ?_)⟩)⟩
    · rw [if_neg (by simp only [wr] at h1; omega)] at h; exact h
    · rw [if_pos (by simp only [wr] at h1; omega)] at h
      exact l_M_placeAt P hr hK hs hm hn hE ht m (i + 1) (by omega) (by omega) h
theorem s_M_placeAt {K : Int} {S : Nat} {g r : ab_H} {t n : Int} {s : Int → Int} (P : Int → ab_H → ab_H → Prop) (hr : SI r) (hK : 186 ≤ K) (hs : EvS g s) (hm : g 174 1080 = n) (hn : 0 ≤ n ∧ n ≤ 120) (hE : EvOk s n) (ht : 0 ≤ t ∧ t ≤ 9999) (h : P (plc s t n) g r) : ab_RI m_M_placeAt [(2, 161), (0, t)] K S g r P := by
  apply v_M_placeAt _ hr hK
  exact l_M_placeAt P hr hK hs hm hn hE ht n.toNat 0 (by omega) (by omega) h
theorem s_M_latestTime {K : Int} {S : Nat} {g r : ab_H} {n : Int} {s : Int → Int} (P : Int → ab_H → ab_H → Prop) (hr : SI r) (hK : 186 ≤ K) (hs : EvS g s) (hm : g 174 1080 = n) (hn : 0 ≤ n ∧ n ≤ 120) (h : P (if 0 < n then s (9 * (n - 1) + 3) else 0) g r) : ab_RI m_M_latestTime [(2, 161)] K S g r P := by
  apply v_M_latestTime _ hr hK
  apply s_M_many _ hr hK
  rw [hm]
  refine ⟨rfl, rfl, And.intro (fun h1 => ?_) (fun h1 => ?_)⟩
  · have h2 : 0 < n := by simp only [wr] at h1; omega
    rw [if_pos h2] at h
    apply s_M_many _ hr hK
    rw [hm, hs (9 * (n - 1) + 3) (by omega) (by omega)]
    exact ⟨rfl, rfl, by omega, h⟩
  · rw [if_neg (by simp only [wr] at h1; omega)] at h; exact h
theorem l_M_asidesNow {K : Int} {S : Nat} {g r : ab_H} {n : Int} {q : RS} (P : Int → ab_H → ab_H → Prop) (hr : SI r) (hK : 186 ≤ K) (hm : g 174 1080 = n) (hn : n ≤ 120) (hq : ∀ e : Int, 0 ≤ e → e < n → g 183 e = q.2.2.2.2 e) (hc : ∀ e : Int, 0 ≤ q.2.2.2.2 e ∧ q.2.2.2.2 e ≤ 3) : ∀ (m : Nat) (i x : Int), 0 ≤ i → i + m = n → (∀ y : Int, y - x = psm (asd q.2.2.2.2) n - psm (asd q.2.2.2.2) i → P y g r) → ab_Rn m_M_asidesNow 4 [some (2, 161), some (0, x), some (0, i)] [] (K, S, g, r) (ab_Qi K S P)
  | 0, i, x, h0, hi, h => by
    apply v_M_asidesNow_4 _ hr hK
    apply s_M_many _ hr hK
    rw [hm]
    exact ⟨rfl, rfl, And.intro (fun _ => h x (by rw [show i = n by omega]; omega)) (fun h1 => absurd h1 (by simp only [wr]; omega))⟩
  | m + 1, i, x, h0, hi, h => by
    have hci := hc i
    have hp := psm_1 (f := asd q.2.2.2.2) h0
    apply v_M_asidesNow_4 _ hr hK
    apply s_M_many _ hr hK
    rw [hm, hq i h0 (by omega)]
    refine ⟨rfl, rfl, And.intro (fun h1 => absurd h1 (by simp only [wr]; omega)) (fun _ => ⟨by omega, And.intro (fun h1 => ?_) (fun h1 => ?_)⟩)⟩
    · refine l_M_asidesNow P hr hK hm hn hq hc m (i + 1) _ (by omega) (by omega) (fun y hy => h y ?_)
      have : asd q.2.2.2.2 i = 0 := if_pos (by simp only [wr] at h1; omega)
      omega
    · refine l_M_asidesNow P hr hK hm hn hq hc m (i + 1) _ (by omega) (by omega) (fun y hy => h y ?_)
      have : asd q.2.2.2.2 i = 1 := if_neg (by simp only [wr] at h1; omega)
      omega
theorem s_M_asidesNow {K : Int} {S : Nat} {g r : ab_H} {n : Int} {q : RS} (P : Int → ab_H → ab_H → Prop) (hr : SI r) (hK : 186 ≤ K) (hm : g 174 1080 = n) (hn : 0 ≤ n ∧ n ≤ 120) (hq : ∀ e : Int, 0 ≤ e → e < n → g 183 e = q.2.2.2.2 e) (hc : ∀ e : Int, 0 ≤ q.2.2.2.2 e ∧ q.2.2.2.2 e ≤ 3) (h : P (psm (asd q.2.2.2.2) n) g r) : ab_RI m_M_asidesNow [(2, 161)] K S g r P := by
  apply v_M_asidesNow _ hr hK
  refine l_M_asidesNow P hr hK hm hn.2 hq hc n.toNat 0 0 (by omega) (by omega) (fun y hy => ?_)
  rw [psm_0] at hy
  rw [show y = psm (asd q.2.2.2.2) n by omega]
  exact h
theorem l_M_voidedMany {K : Int} {S : Nat} {g r : ab_H} {n : Int} {s : Int → Int} (P : Int → ab_H → ab_H → Prop) (hr : SI r) (hK : 186 ≤ K) (hs : EvS g s) (hE : EvOk s n) (hm : g 174 1080 = n) (hn : n ≤ 120) : ∀ (m : Nat) (i x : Int), 0 ≤ i → i + m = n → (∀ y : Int, y - x = psm (vdd s) n - psm (vdd s) i → P y g r) → ab_Rn m_M_voidedMany 4 [some (2, 161), some (0, x), some (0, i)] [] (K, S, g, r) (ab_Qi K S P)
  | 0, i, x, h0, hi, h => by
    apply v_M_voidedMany_4 _ hr hK
    apply s_M_many _ hr hK
    rw [hm]
    exact ⟨rfl, rfl, And.intro (fun _ => h x (by rw [show i = n by omega]; omega)) (fun h1 => absurd h1 (by simp only [wr]; omega))⟩
  | m + 1, i, x, h0, hi, h => by
    have c0 := hE i h0 (by omega)
    have s8 := hs (9 * i + 8) (by omega) (by omega)
    have hp := psm_1 (f := vdd s) h0
    apply v_M_voidedMany_4 _ hr hK
    apply s_M_many _ hr hK
    rw [hm]
    refine ⟨rfl, rfl, And.intro (fun h1 => absurd h1 (by simp only [wr]; omega)) (fun _ => ?_)⟩
    apply s_M_isVoided _ hr hK (by omega) (by omega)
    intro y hy
    rw [s8] at hy
    refine ⟨rfl, rfl, And.intro (fun h1 => ?_) (fun h1 => ?_)⟩
    · refine l_M_voidedMany P hr hK hs hE hm hn m (i + 1) _ (by omega) (by omega) (fun z hz => h z ?_)
      have : vdd s i = 0 := if_pos (by simp only [wr] at h1; omega)
      omega
    · refine l_M_voidedMany P hr hK hs hE hm hn m (i + 1) _ (by omega) (by omega) (fun z hz => h z ?_)
      have : vdd s i = 1 := if_neg (by simp only [wr] at h1; omega)
      omega
theorem s_M_voidedMany {K : Int} {S : Nat} {g r : ab_H} {n : Int} {s : Int → Int} (P : Int → ab_H → ab_H → Prop) (hr : SI r) (hK : 186 ≤ K) (hs : EvS g s) (hE : EvOk s n) (hm : g 174 1080 = n) (hn : 0 ≤ n ∧ n ≤ 120) (h : P (psm (vdd s) n) g r) : ab_RI m_M_voidedMany [(2, 161)] K S g r P := by
  apply v_M_voidedMany _ hr hK
  refine l_M_voidedMany P hr hK hs hE hm hn.2 n.toNat 0 0 (by omega) (by omega) (fun y hy => ?_)
  rw [psm_0] at hy
  rw [show y = psm (vdd s) n by omega]
  exact h
theorem l_M_openMany {K : Int} {S : Nat} {g r : ab_H} {nA n b : Int} {q : RS} (P : Int → ab_H → ab_H → Prop) (hr : SI r) (hK : 186 ≤ K) (hA : g 163 0 = nA) (hA2 : 0 ≤ nA ∧ nA ≤ 8) (hq : StV g 178 q n) (hRB : RB b q) : ∀ (m : Nat) (i x : Int), 0 ≤ i → i + m = nA → (∀ y : Int, y - x = psm q.2.2.2.1 nA - psm q.2.2.2.1 i → P y g r) → ab_Rn m_M_openMany 6 [some (2, 161), some (0, x), some (0, i)] [] (K, S, g, r) (ab_Qi K S P)
  | 0, i, x, h0, hi, h => by
    apply v_M_openMany_6 _ hr hK
    apply s_M_accounts _ hr hK hA
    exact ⟨rfl, rfl, And.intro (fun _ => h x (by rw [show i = nA by omega]; omega)) (fun h1 => absurd h1 (by simp only [wr]; omega))⟩
  | m + 1, i, x, h0, hi, h => by
    have hp := psm_1 (f := q.2.2.2.1) h0
    have hqi : g 182 i = q.2.2.2.1 i := (hq.1 i h0 (by omega)).2.2.2
    have ri := hRB i
    apply v_M_openMany_6 _ hr hK
    apply s_M_accounts _ hr hK hA
    rw [hqi]
    refine ⟨rfl, rfl, And.intro (fun h1 => absurd h1 (by simp only [wr]; omega)) (fun _ => ⟨by omega, And.intro (fun h1 => ?_) (fun h1 => ?_)⟩)⟩
    · exact l_M_openMany P hr hK hA hA2 hq hRB m (i + 1) _ (by omega) (by omega) (fun z hz => h z (by simp only [wr] at h1; omega))
    · exact l_M_openMany P hr hK hA hA2 hq hRB m (i + 1) _ (by omega) (by omega) (fun z hz => h z (by simp only [wr] at h1; omega))
theorem l_M_balances {K : Int} {S : Nat} {g r : ab_H} {nA n : Int} {q : RS} (P : Int → ab_H → ab_H → Prop) (hr : SI r) (hK : 186 ≤ K) (hA : g 163 0 = nA) (hA2 : 0 ≤ nA ∧ nA ≤ 8) (hq : StV g 178 q n) : ∀ (m : Nat) (i x : Int), 0 ≤ i → i + m = nA → (∀ y : Int, y - x = psm q.1 nA - psm q.1 i → P y g r) → ab_Rn m_M_balances 4 [some (2, 161), some (0, x), some (0, i)] [] (K, S, g, r) (ab_Qi K S P)
  | 0, i, x, h0, hi, h => by
    apply v_M_balances_4 _ hr hK
    apply s_M_accounts _ hr hK hA
    exact ⟨rfl, rfl, And.intro (fun _ => h x (by rw [show i = nA by omega]; omega)) (fun h1 => absurd h1 (by simp only [wr]; omega))⟩
  | m + 1, i, x, h0, hi, h => by
    have hp := psm_1 (f := q.1) h0
    have hqi : g 179 i = q.1 i := (hq.1 i h0 (by omega)).1
    apply v_M_balances_4 _ hr hK
    apply s_M_accounts _ hr hK hA
    rw [hqi]
    refine ⟨rfl, rfl, And.intro (fun h1 => absurd h1 (by simp only [wr]; omega)) (fun _ => ⟨by omega, ?_⟩)⟩
    exact l_M_balances P hr hK hA hA2 hq m (i + 1) _ (by omega) (by omega) (fun z hz => h z (by omega))
theorem s_M_balances {K : Int} {S : Nat} {g r : ab_H} {nA n : Int} {q : RS} (P : Int → ab_H → ab_H → Prop) (hr : SI r) (hK : 186 ≤ K) (hA : g 163 0 = nA) (hA2 : 0 ≤ nA ∧ nA ≤ 8) (hq : StV g 178 q n) (h : P (psm q.1 nA) g r) : ab_RI m_M_balances [(2, 161)] K S g r P := by
  apply v_M_balances _ hr hK
  refine l_M_balances P hr hK hA hA2 hq nA.toNat 0 0 (by omega) (by omega) (fun y hy => ?_)
  rw [psm_0] at hy
  rw [show y = psm q.1 nA by omega]
  exact h
/-- COST of a PLACE -/
def cst (s : Int → Int) (q : SN) (p : Int) : Int := psm (wts s) p - psm (wts s) (lat q p)
theorem l_M_costOf {K : Int} {S : Nat} {g r : ab_H} {p n kp : Int} {s : Int → Int} {q : SN} (P : Int → ab_H → ab_H → Prop) (hr : SI r) (hK : 186 ≤ K) (hs : EvS g s) (hE : EvOk s n) (hn : n ≤ 120) (hq : SnV (g 174) q) (hok : SNok q kp n) (hkp : kp ≤ 7) (hp : 0 ≤ p ∧ p ≤ n) (h : P (cst s q p) g r) : ∀ (m : Nat) (i x : Int), 0 ≤ i → i + m = q.1 → x = latN q.2 p i.toNat → ab_Rn m_M_costOf 4 [some (2, 161), some (0, p), some (0, x), some (0, i)] [] (K, S, g, r) (ab_Qi K S P)
  | 0, i, x, h0, hi, hx => by
    have hz := hok.1
    have hl := lat_in hok hp.1
    have hx2 : x = lat q p := by rw [hx, show i = q.1 by omega]; rfl
    apply v_M_costOf_4 _ hr hK
    rw [hq.1]
    refine ⟨by omega, And.intro (fun _ => ?_) (fun h1 => absurd h1 (by simp only [wr]; omega))⟩
    apply s_M_weights _ hr hK hs hE hn (by omega) hp.2
    rw [hx2]
    exact ⟨rfl, rfl, h⟩
  | m + 1, i, x, h0, hi, hx => by
    have hz := hok.1
    have hb := hok.2.1 i h0 (by omega)
    have hqi := hq.2 i h0 (by omega)
    have hs1 : latN q.2 p (i + 1).toNat = if q.2 i ≤ p then q.2 i else latN q.2 p i.toNat := by
      rw [show (i + 1).toNat = i.toNat + 1 by omega]
      show (if q.2 (i.toNat : Int) ≤ p then _ else _) = _
      rw [show (i.toNat : Int) = i by omega]
    apply v_M_costOf_4 _ hr hK
    rw [hq.1]
    refine ⟨by omega, And.intro (fun h1 => absurd h1 (by simp only [wr]; omega)) (fun _ => ?_)⟩
    apply s_M_snapAt _ hr hK (by omega)
    rw [if_pos h0, hqi]
    refine ⟨rfl, rfl, And.intro (fun h1 => ?_) (fun h1 => ?_)⟩
    · exact l_M_costOf P hr hK hs hE hn hq hok hkp hp h m (i + 1) x (by omega) (by omega) (by rw [hs1, if_neg (by simp only [wr] at h1; omega)]; exact hx)
    · apply s_M_snapAt _ hr hK (by omega)
      rw [if_pos h0, hqi]
      exact ⟨rfl, rfl, l_M_costOf P hr hK hs hE hn hq hok hkp hp h m (i + 1) _ (by omega) (by omega) (by rw [hs1, if_pos (by simp only [wr] at h1; omega)])⟩
theorem s_M_costOf {K : Int} {S : Nat} {g r : ab_H} {p n kp : Int} {s : Int → Int} {q : SN} (P : Int → ab_H → ab_H → Prop) (hr : SI r) (hK : 186 ≤ K) (hs : EvS g s) (hE : EvOk s n) (hn : n ≤ 120) (hq : SnV (g 174) q) (hok : SNok q kp n) (hkp : kp ≤ 7) (hp : 0 ≤ p ∧ p ≤ n) (h : P (cst s q p) g r) : ab_RI m_M_costOf [(2, 161), (0, p)] K S g r P := by
  have hz := hok.1
  apply v_M_costOf _ hr hK
  exact l_M_costOf P hr hK hs hE hn hq hok hkp hp h q.1.toNat 0 0 (by omega) (by omega) rfl
/-- and with one SNAPSHOT more -/
def cwi (s : Int → Int) (q : SN) (m p : Int) : Int := if m ≤ p ∧ psm (wts s) p - psm (wts s) m < cst s q p then psm (wts s) p - psm (wts s) m else cst s q p
theorem cst_in {s : Int → Int} {q : SN} {n kp p : Int} (hE : EvOk s n) (hok : SNok q kp n) (hp : 0 ≤ p ∧ p ≤ n) : 0 ≤ cst s q p ∧ cst s q p ≤ 3 * p := by
  have hl := lat_in hok hp.1
  have h1 := W_in hE hp.1 hp.2
  have h2 := W_in hE hl.1 (by omega)
  have h3 := W_mono hE hl.1 hl.2 hp.2
  unfold cst
  omega
theorem l_M_costsWith {K : Int} {S : Nat} {g r : ab_H} {mo n kp : Int} {s : Int → Int} {q : SN} (P : Int → ab_H → ab_H → Prop) (hr : SI r) (hK : 186 ≤ K) (hs : EvS g s) (hm : g 174 1080 = n) (hE : EvOk s n) (hn : n ≤ 120) (hq : SnV (g 174) q) (hok : SNok q kp n) (hkp : kp ≤ 7) (hmo : 0 ≤ mo ∧ mo ≤ n) : ∀ (m : Nat) (i x : Int), 0 ≤ i → i + m = n + 1 → (∀ y : Int, y - x = psm (cwi s q mo) (n + 1) - psm (cwi s q mo) i → P y g r) → ab_Rn m_M_costsWith 4 [some (2, 161), some (0, mo), some (0, x), some (0, i), none, none] [] (K, S, g, r) (ab_Qi K S P)
  | 0, i, x, h0, hi, h => by
    apply v_M_costsWith_4 _ hr hK
    apply s_M_many _ hr hK
    rw [hm]
    exact ⟨rfl, rfl, And.intro (fun _ => h x (by rw [show i = n + 1 by omega]; omega)) (fun h1 => absurd h1 (by simp only [wr]; omega))⟩
  | m + 1, i, x, h0, hi, h => by
    have hp := psm_1 (f := cwi s q mo) h0
    have hc := cst_in (p := i) hE hok (by omega)
    apply v_M_costsWith_4 _ hr hK
    apply s_M_many _ hr hK
    rw [hm]
    refine ⟨rfl, rfl, And.intro (fun h1 => absurd h1 (by simp only [wr]; omega)) (fun _ => ?_)⟩
    apply s_M_costOf _ hr hK hs hE hn hq hok hkp (by omega)
    refine ⟨rfl, rfl, And.intro (fun h1 => And.intro (fun _ => ?_) (fun h2 => absurd h2 (by simp only [wr]; omega))) (fun h1 => ?_)⟩
    · refine l_M_costsWith P hr hK hs hm hE hn hq hok hkp hmo m (i + 1) _ (by omega) (by omega) (fun y hy => h y ?_)
      have : cwi s q mo i = cst s q i := if_neg (by simp only [wr] at h1; omega)
      omega
    · have h1' : mo ≤ i := by simp only [wr] at h1; omega
      have w1 := W_in hE (p := i) (by omega) (by omega)
      have w2 := W_in hE hmo.1 hmo.2
      have w3 := W_mono hE hmo.1 h1' (by omega)
      apply s_M_weights _ hr hK hs hE hn ⟨hmo.1, h1'⟩ (by omega)
      refine ⟨rfl, rfl, And.intro (fun h2 => ?_) (fun h2 => ?_)⟩
      · refine l_M_costsWith P hr hK hs hm hE hn hq hok hkp hmo m (i + 1) _ (by omega) (by omega) (fun y hy => h y ?_)
        have : cwi s q mo i = cst s q i := if_neg (by simp only [wr] at h2; omega)
        omega
      · refine l_M_costsWith P hr hK hs hm hE hn hq hok hkp hmo m (i + 1) _ (by omega) (by omega) (fun y hy => h y ?_)
        have : cwi s q mo i = psm (wts s) i - psm (wts s) mo := if_pos (by simp only [wr] at h2; omega)
        omega
theorem s_M_costsWith {K : Int} {S : Nat} {g r : ab_H} {mo n kp : Int} {s : Int → Int} {q : SN} (P : Int → ab_H → ab_H → Prop) (hr : SI r) (hK : 186 ≤ K) (hs : EvS g s) (hm : g 174 1080 = n) (hE : EvOk s n) (hn : 0 ≤ n ∧ n ≤ 120) (hq : SnV (g 174) q) (hok : SNok q kp n) (hkp : kp ≤ 7) (hmo : 0 ≤ mo ∧ mo ≤ n) (h : P (psm (cwi s q mo) (n + 1)) g r) : ab_RI m_M_costsWith [(2, 161), (0, mo)] K S g r P := by
  apply v_M_costsWith _ hr hK
  refine l_M_costsWith P hr hK hs hm hE hn.2 hq hok hkp hmo (n + 1).toNat 0 0 (by omega) (by omega) (fun y hy => ?_)
  rw [psm_0] at hy
  rw [show y = psm (cwi s q mo) (n + 1) by omega]
  exact h
/-- the first of the same -/
def fndN (f : Int → Int) (x : Int) : Nat → Int → Int
  | 0, _ => -1
  | m + 1, k => if f k = x then k else fndN f x m (k + 1)
def fnd (f : Int → Int) (n x : Int) : Int := fndN f x n.toNat 0
theorem fndN_in {f : Int → Int} {x : Int} : ∀ (m : Nat) (k : Int), 0 ≤ k → fndN f x m k = -1 ∨ (k ≤ fndN f x m k ∧ fndN f x m k < k + m)
  | 0, _, _ => Or.inl rfl
  | m + 1, k, h0 => by
    have := fndN_in (f := f) (x := x) m (k + 1) (by omega)
    show (if f k = x then k else fndN f x m (k + 1)) = -1 ∨ (k ≤ (if f k = x then k else fndN f x m (k + 1)) ∧ (if f k = x then k else fndN f x m (k + 1)) < k + ((m + 1 : Nat) : Int))
    split <;> omega
theorem fndN_ext {f f' : Int → Int} {x : Int} : ∀ (m : Nat) (k : Int), (∀ i : Int, k ≤ i → i < k + m → f i = f' i) → fndN f x m k = fndN f' x m k
  | 0, _, _ => rfl
  | m + 1, k, h => by
    show (if f k = x then k else fndN f x m (k + 1)) = (if f' k = x then k else fndN f' x m (k + 1))
    rw [h k (by omega) (by omega), fndN_ext m (k + 1) (fun i h0 h1 => h i (by omega) (by omega))]
theorem fnd_in {f : Int → Int} {n x : Int} (hn : 0 ≤ n) : fnd f n x = -1 ∨ (0 ≤ fnd f n x ∧ fnd f n x < n) := by
  have := fndN_in (f := f) (x := x) n.toNat 0 (by omega)
  unfold fnd
  omega
theorem fnd_ext {f f' : Int → Int} {n x : Int} (h : ∀ i : Int, 0 ≤ i → i < n → f i = f' i) : fnd f n x = fnd f' n x :=
  fndN_ext _ _ fun i h0 h1 => h i h0 (by omega)
theorem l_M_foundIn {K : Int} {S : Nat} {g r : ab_H} {c b n x n0 : Int} (P : Int → ab_H → ab_H → Prop) (hr : SI r) (hK : 186 ≤ K) (hc : ab_AR K c 100 n0) (hb : 0 ≤ b ∧ b + n ≤ n0) (hx : -2147483648 ≤ x ∧ x ≤ 2147483647) (hn : n ≤ 1000) (hf : ∀ i : Int, 0 ≤ i → i < n → 0 ≤ g c (b + i) ∧ g c (b + i) ≤ 2147483647) : ∀ (m : Nat) (i : Int), 0 ≤ i → i + m = n → P (fndN (fun j => g c (b + j)) x m i) g r → ab_Rn m_M_foundIn 2 [some (2, c), some (0, b), some (0, n), some (0, x), some (0, i)] [] (K, S, g, r) (ab_Qi K S P)
  | 0, i, h0, hi, h => by
    apply v_M_foundIn_2 _ hr hK hc
    exact And.intro (fun _ => h) (fun h1 => absurd h1 (by simp only [wr]; omega))
  | m + 1, i, h0, hi, h => by
    have hfi := hf i h0 (by omega)
    have hs : fndN (fun j => g c (b + j)) x (m + 1) i = if g c (b + i) = x then i else fndN (fun j => g c (b + j)) x m (i + 1) := rfl
    rw [hs] at h
    apply v_M_foundIn_2 _ hr hK hc
    refine And.intro (fun h1 => absurd h1 (by simp only [wr]; omega)) (fun _ => ⟨by omega, And.intro (fun h1 => ?_) (fun h1 => ?_)⟩)
    · rw [if_neg (by simp only [wr] at h1; omega)] at h
      exact l_M_foundIn P hr hK hc hb hx hn hf m (i + 1) (by omega) (by omega) h
    · rw [if_pos (by simp only [wr] at h1; omega)] at h; exact h
theorem s_M_foundIn {K : Int} {S : Nat} {g r : ab_H} {c b n x n0 : Int} (P : Int → ab_H → ab_H → Prop) (hr : SI r) (hK : 186 ≤ K) (hc : ab_AR K c 100 n0) (hb : 0 ≤ b ∧ b + n ≤ n0) (hx : -2147483648 ≤ x ∧ x ≤ 2147483647) (hn : 0 ≤ n ∧ n ≤ 1000) (hf : ∀ i : Int, 0 ≤ i → i < n → 0 ≤ g c (b + i) ∧ g c (b + i) ≤ 2147483647) (h : P (fnd (fun j => g c (b + j)) n x) g r) : ab_RI m_M_foundIn [(2, c), (0, b), (0, n), (0, x)] K S g r P := by
  apply v_M_foundIn _ hr hK hc
  exact l_M_foundIn P hr hK hc hb hx hn.2 hf n.toNat 0 (by omega) (by omega) h
