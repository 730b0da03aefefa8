/-! SPECS, part i: SNAPSHOTS, pure. -/
def lgo (pl : Int → Int) (o : Int) : Nat → Int
  | 0 => 0
  | n + 1 => if o < pl n then lgo pl o n else (n : Int) + 1
def gap (W pl : Int → Int) (k : Int) : Int := W (pl (k + 1)) - W (if 0 < k then pl (k - 1) else 0)
def lwr (W pl : Int → Int) : Nat → Int
  | 0 => 0
  | n + 1 => if gap W pl ((n : Int) + 1) < gap W pl (lwr W pl n) then (n : Int) + 1 else lwr W pl n
def rmv (pl : Int → Int) (k : Int) : Int → Int := fun i => if i < k then pl i else pl (i + 1)
abbrev SN : Type := Int × (Int → Int)
def sadd (W : Int → Int) (kp : Int) (q : SN) (p : Int) : SN := if kp < q.1 + 1 then (q.1, rmv (fu q.2 q.1 p) (lwr W (fu q.2 q.1 p) (q.1 - 1).toNat)) else (q.1 + 1, fu q.2 q.1 p)
def slat (q : SN) : Int := if 0 < q.1 then q.2 (q.1 - 1) else 0
def svoid (s : Int → Int) (q : SN) (e : Int) : SN := if s (9 * e + 0) = 7 then (lgo q.2 (s (9 * e + 2)) q.1.toNat, q.2) else q
def sdue (W : Int → Int) (ev : Int) (q : SN) (e : Int) : Int := if ev ≤ W (e + 1) - W (slat q) then 1 else 0
def sstep (s W : Int → Int) (ev kp : Int) (q : SN) (e : Int) : SN := if ev ≤ W (e + 1) - W (slat (svoid s q e)) then sadd W kp (svoid s q e) (e + 1) else svoid s q e
def snN (s : Int → Int) (ev kp : Int) : Nat → SN
  | 0 => (0, fun _ => 0)
  | n + 1 => sstep s (psm (wts s)) ev kp (snN s ev kp n) n
def sn (s : Int → Int) (ev kp n : Int) : SN := snN s ev kp n.toNat
theorem sn_s {s : Int → Int} {ev kp n : Int} (h : 0 ≤ n) : sn s ev kp (n + 1) = sstep s (psm (wts s)) ev kp (sn s ev kp n) n := by
  unfold sn
  rw [show (n + 1).toNat = n.toNat + 1 by omega]
  show sstep s (psm (wts s)) ev kp _ (n.toNat : Int) = _
  rw [show (n.toNat : Int) = n by omega]
/-- whether one is taken behind an EVENT, and is counted -/
def stk (s : Int → Int) (ev kp since e : Int) : Int := if since ≤ e then sdue (psm (wts s)) ev (svoid s (sn s ev kp e) e) e else 0
def SNok (q : SN) (kp n : Int) : Prop := (0 ≤ q.1 ∧ q.1 ≤ kp) ∧ (∀ i : Int, 0 ≤ i → i < q.1 → 1 ≤ q.2 i ∧ q.2 i ≤ n) ∧ ∀ i j : Int, 0 ≤ i → i < j → j < q.1 → q.2 i < q.2 j
theorem lgo_in {pl : Int → Int} {o : Int} : ∀ n : Nat, 0 ≤ lgo pl o n ∧ lgo pl o n ≤ n
  | 0 => by show 0 ≤ (0 : Int) ∧ (0 : Int) ≤ ((0 : Nat) : Int); omega
  | n + 1 => by
    have := lgo_in (pl := pl) (o := o) n
    show 0 ≤ (if o < pl n then lgo pl o n else (n : Int) + 1) ∧ (if o < pl n then lgo pl o n else (n : Int) + 1) ≤ ((n + 1 : Nat) : Int)
    split <;> omega
theorem lgo_ext {pl pl' : Int → Int} {o : Int} : ∀ n : Nat, (∀ i : Int, 0 ≤ i → i < n → pl i = pl' i) → lgo pl o n = lgo pl' o n
  | 0, _ => rfl
  | n + 1, h => by
    show (if o < pl n then lgo pl o n else (n : Int) + 1) = (if o < pl' n then lgo pl' o n else (n : Int) + 1)
    rw [h n (by omega) (by omega), lgo_ext n (fun i h0 h1 => h i h0 (by omega))]
theorem lwr_in {W pl : Int → Int} : ∀ n : Nat, 0 ≤ lwr W pl n ∧ lwr W pl n ≤ n
  | 0 => by show 0 ≤ (0 : Int) ∧ (0 : Int) ≤ ((0 : Nat) : Int); omega
  | n + 1 => by
    have := lwr_in (W := W) (pl := pl) n
    show 0 ≤ (if gap W pl ((n : Int) + 1) < gap W pl (lwr W pl n) then (n : Int) + 1 else lwr W pl n) ∧ (if gap W pl ((n : Int) + 1) < gap W pl (lwr W pl n) then (n : Int) + 1 else lwr W pl n) ≤ ((n + 1 : Nat) : Int)
    split <;> omega
theorem wts_in {s : Int → Int} {n : Int} (h : EvOk s n) {e : Int} (h0 : 0 ≤ e) (h1 : e < n) : 1 ≤ wts s e ∧ wts s e ≤ 3 := by
  have h2 := h e h0 h1
  unfold wts
  split
  · omega
  · rename_i h7
    have := h2.2.1 h7
    omega
theorem W_in {s : Int → Int} {n p : Int} (h : EvOk s n) (h0 : 0 ≤ p) (h1 : p ≤ n) : 0 ≤ psm (wts s) p ∧ psm (wts s) p ≤ 3 * p := by
  have h2 := psm_bnd (f := wts s) (lo := 0) (hi := 3) h0 (fun i h3 h4 => by have := wts_in h h3 (by omega); omega)
  omega
theorem W_mono {s : Int → Int} {n a b : Int} (h : EvOk s n) (h0 : 0 ≤ a) (h1 : a ≤ b) (h2 : b ≤ n) : psm (wts s) a ≤ psm (wts s) b :=
  psm_mono h0 h1 (fun i h3 h4 => by have := wts_in h (by omega : 0 ≤ i) (by omega); omega)
theorem SNok_0 {kp : Int} (h : 0 ≤ kp) : SNok (0, fun _ => 0) kp 0 := ⟨⟨Int.le_refl _, h⟩, fun i h0 h1 => absurd h1 (by show ¬ i < 0; omega), fun i j h0 h1 h2 => absurd h2 (by show ¬ j < 0; omega)⟩
theorem SNok_svoid {s : Int → Int} {q : SN} {kp n e : Int} (h : SNok q kp n) : SNok (svoid s q e) kp n := by
  unfold svoid
  split
  · have h1 := lgo_in (pl := q.2) (o := s (9 * e + 2)) q.1.toNat
    have h2 := h.1
    exact ⟨⟨h1.1, by show lgo _ _ _ ≤ kp; omega⟩, fun i h3 h4 => h.2.1 i h3 (by have : i < lgo q.2 (s (9 * e + 2)) q.1.toNat := h4; omega), fun i j h3 h4 h5 => h.2.2 i j h3 h4 (by have : j < lgo q.2 (s (9 * e + 2)) q.1.toNat := h5; omega)⟩
  · exact h
theorem SNok_sadd {W : Int → Int} {q : SN} {kp n : Int} (h : SNok q kp n) (hn : 0 ≤ n) : SNok (sadd W kp q (n + 1)) kp (n + 1) := by
  have hf : ∀ i : Int, 0 ≤ i → i < q.1 + 1 → (1 ≤ fu q.2 q.1 (n + 1) i ∧ fu q.2 q.1 (n + 1) i ≤ n + 1) := by
    intro i h0 h1
    simp only [fu]
    split
    · omega
    · have := h.2.1 i h0 (by omega); omega
  have hs : ∀ i j : Int, 0 ≤ i → i < j → j < q.1 + 1 → fu q.2 q.1 (n + 1) i < fu q.2 q.1 (n + 1) j := by
    intro i j h0 h1 h2
    have h3 := h.2.1 i h0 (by omega)
    simp only [fu]
    rw [if_neg (by omega)]
    split
    · omega
    · exact h.2.2 i j h0 h1 (by omega)
  have hz := h.1
  unfold sadd
  split
  · refine ⟨hz, fun i h0 h1 => ?_, fun i j h0 h1 h2 => ?_⟩
    · show 1 ≤ rmv _ _ i ∧ rmv _ _ i ≤ n + 1
      have h1' : i < q.1 := h1
      unfold rmv
      split
      · exact hf i h0 (by omega)
      · exact hf (i + 1) (by omega) (by omega)
    · show rmv _ _ i < rmv _ _ j
      have h2' : j < q.1 := h2
      unfold rmv
      split
      · split
        · exact hs i j h0 h1 (by omega)
        · exact hs i (j + 1) h0 (by omega) (by omega)
      · rw [if_neg (by omega)]
        exact hs (i + 1) (j + 1) (by omega) (by omega) (by omega)
  · exact ⟨⟨by show 0 ≤ q.1 + 1; omega, by show q.1 + 1 ≤ kp; omega⟩, fun i h0 h1 => hf i h0 h1, fun i j h0 h1 h2 => hs i j h0 h1 h2⟩
theorem SNok_up {q : SN} {kp n m : Int} (h : SNok q kp n) (hm : n ≤ m) : SNok q kp m := ⟨h.1, fun i h0 h1 => by have := h.2.1 i h0 h1; omega, h.2.2⟩
theorem SNok_step {s W : Int → Int} {ev kp n : Int} {q : SN} (h : SNok q kp n) (hn : 0 ≤ n) : SNok (sstep s W ev kp q n) kp (n + 1) := by
  unfold sstep
  split
  · exact SNok_sadd (SNok_svoid h) hn
  · exact SNok_up (SNok_svoid h) (by omega)
theorem SNok_snN {s : Int → Int} {ev kp : Int} (hk : 0 ≤ kp) : ∀ n : Nat, SNok (snN s ev kp n) kp n
  | 0 => SNok_0 hk
  | n + 1 => by
    have h1 := SNok_step (s := s) (W := psm (wts s)) (ev := ev) (SNok_snN (s := s) (ev := ev) hk n) (by omega)
    rw [show (((n + 1 : Nat)) : Int) = (n : Int) + 1 by omega]
    exact h1
theorem SNok_sn {s : Int → Int} {ev kp n : Int} (hk : 0 ≤ kp) (hn : 0 ≤ n) : SNok (sn s ev kp n) kp n := by
  have h1 := SNok_snN (s := s) (ev := ev) hk n.toNat
  rw [show (n.toNat : Int) = n by omega] at h1
  exact h1
theorem slat_in {q : SN} {kp n : Int} (h : SNok q kp n) (hn : 0 ≤ n) : 0 ≤ slat q ∧ slat q ≤ n := by
  unfold slat
  split
  · have := h.2.1 (q.1 - 1) (by omega) (by omega); omega
  · omega
/-- the fold depends on KINDS, others and SHAPES alone -/
theorem wts_ext {s s' : Int → Int} {e : Int} (h0 : s (9 * e + 0) = s' (9 * e + 0)) (h4 : s (9 * e + 4) = s' (9 * e + 4)) : wts s e = wts s' e := by
  unfold wts; rw [h0, h4]
/-- the SNAPSHOTS shown are those of q -/
def SnV (s : Int → Int) (q : SN) : Prop := s 1081 = q.1 ∧ ∀ i : Int, 0 ≤ i → i < q.1 → s (1082 + i) = q.2 i
def ShV (g : ab_H) (o : Int) (q : SN) : Prop := g o 1 = q.1 ∧ ∀ i : Int, 0 ≤ i → i < q.1 → g (o + 1) i = q.2 i
theorem ShV_mono {g g' : ab_H} {o : Int} {q : SN} (h : ShV g o q) (hf : ∀ c i : Int, o ≤ c → c ≤ o + 1 → g' c i = g c i) : ShV g' o q := ⟨by rw [hf _ _ (by omega) (by omega)]; exact h.1, fun i h0 h1 => by rw [hf _ _ (by omega) (by omega)]; exact h.2 i h0 h1⟩
/-- the latest at or ahead of a PLACE -/
def latN (pl : Int → Int) (p : Int) : Nat → Int
  | 0 => 0
  | n + 1 => if pl n ≤ p then pl n else latN pl p n
def lat (q : SN) (p : Int) : Int := latN q.2 p q.1.toNat
theorem latN_in {pl : Int → Int} {p m : Int} (hp : 0 ≤ p) : ∀ n : Nat, (∀ i : Int, 0 ≤ i → i < n → 1 ≤ pl i ∧ pl i ≤ m) → 0 ≤ latN pl p n ∧ latN pl p n ≤ p
  | 0, _ => ⟨Int.le_refl _, hp⟩
  | n + 1, h => by
    have h1 := latN_in hp n (fun i h0 h1 => h i h0 (by omega))
    have h2 := h n (by omega) (by omega)
    show 0 ≤ (if pl n ≤ p then pl n else latN pl p n) ∧ (if pl n ≤ p then pl n else latN pl p n) ≤ p
    split <;> omega
theorem lat_in {q : SN} {kp n p : Int} (h : SNok q kp n) (hp : 0 ≤ p) : 0 ≤ lat q p ∧ lat q p ≤ p :=
  latN_in (m := n) hp _ (fun i h0 h1 => h.2.1 i h0 (by have := h.1; omega))
theorem lat_slat {q : SN} {kp n p : Int} (h : SNok q kp n) (hp : n ≤ p) : lat q p = slat q := by
  have hz := h.1
  unfold lat slat
  by_cases h1 : 0 < q.1
  · rw [if_pos h1, show q.1.toNat = (q.1 - 1).toNat + 1 by omega]
    show (if q.2 ((q.1 - 1).toNat : Int) ≤ p then q.2 ((q.1 - 1).toNat : Int) else latN q.2 p (q.1 - 1).toNat) = _
    have h2 := h.2.1 (q.1 - 1) (by omega) (by omega)
    rw [show ((q.1 - 1).toNat : Int) = q.1 - 1 by omega, if_pos (by omega)]
  · rw [if_neg h1, show q.1.toNat = 0 by omega]
    rfl
