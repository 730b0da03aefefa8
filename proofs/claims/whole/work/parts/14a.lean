/-! SPECS, part a: sums, reads of updated heaps, the pure replay. -/
theorem up_a {g : ab_H} {a k v b j : Int} (h : b ≠ a) : ab_up g a k v b j = g b j := if_neg fun hc => h hc.1
theorem up_k {g : ab_H} {a k v b j : Int} (h : j ≠ k) : ab_up g a k v b j = g b j := if_neg fun hc => h hc.2
theorem up_e {g : ab_H} {a k v b j : Int} (h : b = a) (h2 : j = k) : ab_up g a k v b j = v := if_pos ⟨h, h2⟩
theorem up_s {g : ab_H} {a k v : Int} : ab_up g a k v a k = v := if_pos ⟨rfl, rfl⟩
theorem up_i {g : ab_H} {a k v j : Int} : ab_up g a k v a j = if j = k then v else g a j := by
  by_cases h : j = k
  · rw [if_pos h, up_e rfl h]
  · rw [if_neg h, up_k h]
theorem cpy_a {g : ab_H} {s sp d dp n b j : Int} (h : b ≠ d) : ab_cpy g s sp d dp n b j = g b j := if_neg fun hc => h hc.1
theorem cpy_k {g : ab_H} {s sp d dp n b j : Int} (h : j < dp ∨ dp + n ≤ j) : ab_cpy g s sp d dp n b j = g b j := if_neg fun hc => by omega
theorem cpy_e {g : ab_H} {s sp d dp n b j : Int} (h : b = d) (h1 : dp ≤ j ∧ j < dp + n) : ab_cpy g s sp d dp n b j = g s (sp + (j - dp)) := if_pos ⟨h, h1⟩
def fu (f : Int → Int) (i v : Int) : Int → Int := fun j => if j = i then v else f j
theorem fu_s {f : Int → Int} {i v : Int} : fu f i v i = v := if_pos rfl
theorem fu_e {f : Int → Int} {i v j : Int} (h : j = i) : fu f i v j = v := if_pos h
theorem fu_n {f : Int → Int} {i v j : Int} (h : j ≠ i) : fu f i v j = f j := if_neg h
def psum (f : Int → Int) : Nat → Int
  | 0 => 0
  | n + 1 => psum f n + f n
def psm (f : Int → Int) (n : Int) : Int := psum f n.toNat
theorem psm_0 {f : Int → Int} : psm f 0 = 0 := rfl
theorem psm_s {f : Int → Int} {n : Int} (h : 0 ≤ n) : psm f (n + 1) = psm f n + f n := by
  unfold psm
  rw [show (n + 1).toNat = n.toNat + 1 by omega]
  show psum f n.toNat + f (n.toNat : Int) = _
  rw [show (n.toNat : Int) = n by omega]
theorem psum_ext {f f' : Int → Int} : ∀ n : Nat, (∀ i : Int, 0 ≤ i → i < n → f i = f' i) → psum f n = psum f' n
  | 0, _ => rfl
  | n + 1, h => by
    show psum f n + f n = psum f' n + f' n
    rw [psum_ext n (fun i h0 h1 => h i h0 (by omega)), h n (by omega) (by omega)]
theorem psm_ext {f f' : Int → Int} {n : Int} (h : ∀ i : Int, 0 ≤ i → i < n → f i = f' i) : psm f n = psm f' n :=
  psum_ext _ fun i h0 h1 => h i h0 (by omega)
theorem psum_bnd {f : Int → Int} {lo hi : Int} : ∀ n : Nat, (∀ i : Int, 0 ≤ i → i < n → lo ≤ f i ∧ f i ≤ hi) → lo * n ≤ psum f n ∧ psum f n ≤ hi * n
  | 0, _ => by show lo * ((0 : Nat) : Int) ≤ 0 ∧ 0 ≤ hi * ((0 : Nat) : Int); simp
  | n + 1, h => by
    have h1 := psum_bnd n (fun i h0 h1 => h i h0 (by omega))
    have h2 := h n (by omega) (by omega)
    show lo * ((n + 1 : Nat) : Int) ≤ psum f n + f n ∧ psum f n + f n ≤ hi * ((n + 1 : Nat) : Int)
    rw [show (((n + 1 : Nat)) : Int) = (n : Int) + 1 by omega, Int.mul_add, Int.mul_add]
    omega
theorem psm_bnd {f : Int → Int} {lo hi n : Int} (h0 : 0 ≤ n) (h : ∀ i : Int, 0 ≤ i → i < n → lo ≤ f i ∧ f i ≤ hi) : lo * n ≤ psm f n ∧ psm f n ≤ hi * n := by
  have h1 := psum_bnd n.toNat (fun i h0 h1 => h i h0 (by omega))
  rw [show (n.toNat : Int) = n by omega] at h1
  exact h1
theorem psum_mono {f : Int → Int} {a : Nat} : ∀ d : Nat, (∀ i : Int, (a : Int) ≤ i → i < ((a + d : Nat) : Int) → 0 ≤ f i) → psum f a ≤ psum f (a + d)
  | 0, _ => Int.le_refl _
  | d + 1, h => by
    have h1 := psum_mono d (fun i h0 h1 => h i h0 (by omega))
    have h2 := h ((a + d : Nat) : Int) (by omega) (by omega)
    show psum f a ≤ psum f (a + d) + f ((a + d : Nat) : Int)
    omega
theorem psm_mono {f : Int → Int} {a b : Int} (h0 : 0 ≤ a) (h1 : a ≤ b) (h : ∀ i : Int, a ≤ i → i < b → 0 ≤ f i) : psm f a ≤ psm f b := by
  have h2 := psum_mono (f := f) (a := a.toNat) (b.toNat - a.toNat) (fun i h3 h4 => h i (by omega) (by omega))
  rw [show a.toNat + (b.toNat - a.toNat) = b.toNat by omega] at h2
  exact h2
/-- the STATE: BALANCE, LOCKED, LIMIT, OPEN; CAUSES -/
abbrev RS : Type := (Int → Int) × (Int → Int) × (Int → Int) × (Int → Int) × (Int → Int)
def rs0 : RS := (fun _ => 0, fun _ => 0, fun _ => 0, fun _ => 0, fun _ => 0)
def rcause (k a o x y b : Int) (q : RS) : Int :=
  if b ≠ 0 then 1 else
  if k = 0 then (if q.2.2.2.1 a ≠ 0 then 2 else 0) else
  if q.2.2.2.1 a = 0 then 2 else
  if k = 6 ∧ q.2.2.2.1 o = 0 then 2 else
  if (k = 2 ∨ k = 6) ∧ q.1 a - x - y - q.2.1 a < - q.2.2.1 a then 3 else
  if k = 3 ∧ q.1 a < q.2.1 a + x then 3 else
  if k = 4 ∧ q.2.1 a < x then 3 else
  if k = 5 ∧ (q.1 a ≠ 0 ∨ q.2.1 a ≠ 0) then 3 else 0
def rapply (k a o x y : Int) (q : RS) : RS :=
  if k = 0 then (fu q.1 a 0, fu q.2.1 a 0, fu q.2.2.1 a x, fu q.2.2.2.1 a 1, q.2.2.2.2) else
  if k = 1 then (fu q.1 a (q.1 a + (x - y)), q.2.1, q.2.2.1, q.2.2.2.1, q.2.2.2.2) else
  if k = 2 then (fu q.1 a (q.1 a - (x + y)), q.2.1, q.2.2.1, q.2.2.2.1, q.2.2.2.2) else
  if k = 3 then (q.1, fu q.2.1 a (q.2.1 a + x), q.2.2.1, q.2.2.2.1, q.2.2.2.2) else
  if k = 4 then (q.1, fu q.2.1 a (q.2.1 a - x), q.2.2.1, q.2.2.2.1, q.2.2.2.2) else
  if k = 5 then (q.1, q.2.1, q.2.2.1, fu q.2.2.2.1 a 0, q.2.2.2.2) else
  (fu (fu q.1 a (q.1 a - (x + y))) o (fu q.1 a (q.1 a - (x + y)) o + x), q.2.1, q.2.2.1, q.2.2.2.1, q.2.2.2.2)
/-- an EVENT is passed over -/
def rover (s : Int → Int) (but vo e : Int) : Prop := s (9 * e + 0) = 7 ∨ e = but ∨ (s (9 * e + 8) ≠ 0 ∧ s (9 * e + 8) ≤ vo)
theorem rover_dec (s : Int → Int) (but vo e : Int) : rover s but vo e ∨ ¬ rover s but vo e := Classical.em _
def rset (q : RS) (e c : Int) : RS := (q.1, q.2.1, q.2.2.1, q.2.2.2.1, fu q.2.2.2.2 e c)
def rcz (s : Int → Int) (L : Int → Int → Int) (B : Int → Int) (q : RS) (e : Int) : Int := rcause (s (9 * e + 0)) (s (9 * e + 1)) (s (9 * e + 2)) (L e 0) (L e 1) (B e) q
def rstep (s : Int → Int) (L : Int → Int → Int) (B : Int → Int) (but vo : Int) (q : RS) (e : Int) : RS :=
  if s (9 * e + 0) = 7 ∨ e = but ∨ (s (9 * e + 8) ≠ 0 ∧ s (9 * e + 8) ≤ vo) then rset q e 0 else
  if rcz s L B q e = 0 then rapply (s (9 * e + 0)) (s (9 * e + 1)) (s (9 * e + 2)) (L e 0) (L e 1) (rset q e 0) else rset q e (rcz s L B q e)
def repN (s : Int → Int) (L : Int → Int → Int) (B : Int → Int) (but vo : Int) : Nat → RS
  | 0 => rs0
  | n + 1 => rstep s L B but vo (repN s L B but vo n) n
def rep (s : Int → Int) (L : Int → Int → Int) (B : Int → Int) (but vo n : Int) : RS := repN s L B but vo n.toNat
theorem rep_0 {s : Int → Int} {L : Int → Int → Int} {B : Int → Int} {but vo : Int} : rep s L B but vo 0 = rs0 := rfl
theorem rep_s {s : Int → Int} {L : Int → Int → Int} {B : Int → Int} {but vo n : Int} (h : 0 ≤ n) : rep s L B but vo (n + 1) = rstep s L B but vo (rep s L B but vo n) n := by
  unfold rep
  rw [show (n + 1).toNat = n.toNat + 1 by omega]
  show rstep s L B but vo _ (n.toNat : Int) = _
  rw [show (n.toNat : Int) = n by omega]
/-- what holds of a replay's numbers -/
def RB (m : Int) (q : RS) : Prop := ∀ a, (-2000000 * m ≤ q.1 a ∧ q.1 a ≤ 2000000 * m) ∧ (0 ≤ q.2.1 a ∧ q.2.1 a ≤ 1000000 * m) ∧ (0 ≤ q.2.2.1 a ∧ q.2.2.1 a ≤ 1000000) ∧ (q.2.2.2.1 a = 0 ∨ q.2.2.2.1 a = 1)
theorem RB_rset {m : Int} {q : RS} {e c : Int} (h : RB m q) : RB m (rset q e c) := h
theorem RB_up {m : Int} {q : RS} (h : RB m q) (hm : 0 ≤ m) : RB (m + 1) q := by
  intro a
  have h1 := h a
  omega
theorem rcause_in {k a o x y b : Int} {q : RS} : 0 ≤ rcause k a o x y b q ∧ rcause k a o x y b q ≤ 3 := by
  unfold rcause
  repeat' split
  all_goals omega
theorem rcause_4 {a o x y b : Int} {q : RS} (h : rcause 4 a o x y b q = 0) : x ≤ q.2.1 a := by
  by_cases h1 : q.2.1 a < x
  · exfalso
    unfold rcause at h
    repeat' split at h
    all_goals omega
  · omega
theorem RB_apply {m k a o x y b : Int} {q : RS} (h : RB m q) (hm : 0 ≤ m) (hx : 0 ≤ x ∧ x ≤ 1000000) (hy : 0 ≤ y ∧ y ≤ 1000000) (hc : rcause k a o x y b q = 0) : RB (m + 1) (rapply k a o x y q) := by
  intro c
  have h1 := h c
  have h2 := h a
  have h3 := h o
  have h4 : k = 4 → x ≤ q.2.1 a := fun hk => by subst hk; exact rcause_4 hc
  unfold rapply
  repeat' split
  all_goals simp only [fu]
  all_goals refine ⟨?_, ?_, ?_, ?_⟩
  all_goals (repeat' split)
  all_goals omega
theorem RB_0 : RB 0 rs0 := by
  intro a
  show (-2000000 * 0 ≤ (0 : Int) ∧ (0 : Int) ≤ 2000000 * 0) ∧ (0 ≤ (0 : Int) ∧ (0 : Int) ≤ 1000000 * 0) ∧ (0 ≤ (0 : Int) ∧ (0 : Int) ≤ 1000000) ∧ ((0 : Int) = 0 ∨ (0 : Int) = 1)
  omega
/-- of what the EVENTS are -/
def EvOk (s : Int → Int) (n : Int) : Prop := ∀ e : Int, 0 ≤ e → e < n → (0 ≤ s (9 * e + 0) ∧ s (9 * e + 0) ≤ 7) ∧ (s (9 * e + 0) ≠ 7 → (0 ≤ s (9 * e + 1) ∧ s (9 * e + 1) < 8) ∧ (1 ≤ s (9 * e + 4) ∧ s (9 * e + 4) ≤ 3) ∧ ∀ f : Int, 0 ≤ f → f < 3 → 0 ≤ s (9 * e + 5 + f) ∧ s (9 * e + 5 + f) ≤ 99999) ∧ (s (9 * e + 0) = 6 → 0 ≤ s (9 * e + 2) ∧ s (9 * e + 2) < 8) ∧ (s (9 * e + 0) = 7 → (0 ≤ s (9 * e + 2) ∧ s (9 * e + 2) < e) ∧ s (9 * (s (9 * e + 2)) + 0) ≠ 7 ∧ s (9 * e + 4) = 0) ∧ (0 ≤ s (9 * e + 3) ∧ s (9 * e + 3) ≤ 9999) ∧ (0 ≤ s (9 * e + 8) ∧ s (9 * e + 8) ≤ n)
/-- LIFTED FIELDS and BROKEN -/
def LfOk (s : Int → Int) (Lf : Int → Int → Int) (B : Int → Int) (n : Int) : Prop := ∀ e : Int, 0 ≤ e → e < n → s (9 * e + 0) ≠ 7 → (B e = 0 ∨ B e = 1) ∧ ∀ f : Int, 0 ≤ f → f < 3 → (0 ≤ Lf e f ∧ Lf e f ≤ 999000000) ∧ (B e = 0 → Lf e f ≤ 1000000)
theorem RB_step {s : Int → Int} {Lf : Int → Int → Int} {B : Int → Int} {but vo n e m : Int} {q : RS} (hf : LfOk s Lf B n) (he : 0 ≤ e) (hn : e < n) (hm : 0 ≤ m) (h : RB m q) : RB (m + 1) (rstep s Lf B but vo q e) := by
  unfold rstep
  split
  · exact RB_up (RB_rset h) hm
  · rename_i h1
    have h2 := hf e he hn (fun hc => h1 (Or.inl hc))
    split
    · rename_i h3
      have hb : B e = 0 := by
        rcases h2.1 with h4 | h4
        · exact h4
        · exfalso
          unfold rcz rcause at h3
          rw [if_pos (by omega : B e ≠ 0)] at h3
          omega
      have h5 := h2.2 0 (by omega) (by omega)
      have h6 := h2.2 1 (by omega) (by omega)
      exact RB_apply (b := B e) (RB_rset h) hm ⟨h5.1.1, h5.2 hb⟩ ⟨h6.1.1, h6.2 hb⟩ h3
    · exact RB_up (RB_rset h) hm
theorem RB_repN {s : Int → Int} {Lf : Int → Int → Int} {B : Int → Int} {but vo n : Int} (hf : LfOk s Lf B n) : ∀ m : Nat, (m : Int) ≤ n → RB m (repN s Lf B but vo m)
  | 0, _ => RB_0
  | m + 1, h => by
    have h1 := RB_step (but := but) (vo := vo) (e := m) hf (by omega) (by omega) (by omega) (RB_repN hf (but := but) (vo := vo) m (by omega))
    rw [show (((m + 1 : Nat)) : Int) = (m : Int) + 1 by omega]
    exact h1
theorem RB_rep {s : Int → Int} {Lf : Int → Int → Int} {B : Int → Int} {but vo n m : Int} (hf : LfOk s Lf B n) (h0 : 0 ≤ m) (h : m ≤ n) : RB m (rep s Lf B but vo m) := by
  have h1 := RB_repN (but := but) (vo := vo) hf m.toNat (by omega)
  rw [show (m.toNat : Int) = m by omega] at h1
  exact h1
/-- the weight of an EVENT -/
def wts (s : Int → Int) (e : Int) : Int := if s (9 * e + 0) = 7 then 1 else 4 - s (9 * e + 4)
/-- the class's Log shows the EVENTS s -/
def LgV (g : ab_H) (o : Int) (s : Int → Int) (n : Int) : Prop := g o 10 = n ∧ (0 ≤ n ∧ n ≤ 120) ∧ (∀ e : Int, 0 ≤ e → e < n → g (o + 1) e = s (9 * e + 0) ∧ (s (9 * e + 0) ≠ 7 → g (o + 2) e = s (9 * e + 1)) ∧ (s (9 * e + 0) = 6 ∨ s (9 * e + 0) = 7 → g (o + 3) e = s (9 * e + 2)) ∧ g (o + 4) e = s (9 * e + 3) ∧ g (o + 5) e = s (9 * e + 4) ∧ g (o + 9) e = s (9 * e + 8) - 1 ∧ (s (9 * e + 0) ≠ 7 → ∀ f : Int, 0 ≤ f → f < 3 → g (o + 6) (3 * e + f) = s (9 * e + 5 + f))) ∧ ∀ p : Int, 0 ≤ p → p ≤ n → g (o + 10) p = psm (wts s) p
/-- and holds them LIFTED -/
def LgL (g : ab_H) (o : Int) (s : Int → Int) (Lf : Int → Int → Int) (B : Int → Int) (n : Int) : Prop := ∀ e : Int, 0 ≤ e → e < n → s (9 * e + 0) ≠ 7 → g (o + 8) e = B e ∧ ∀ f : Int, 0 ≤ f → f < 3 → g (o + 7) (3 * e + f) = Lf e f
theorem LgV_mono {g g' : ab_H} {o : Int} {s : Int → Int} {n : Int} (h : LgV g o s n) (hf : ∀ c i : Int, o ≤ c → c ≤ o + 10 → g' c i = g c i) : LgV g' o s n := by
  refine ⟨?_, h.2.1, fun e h0 h1 => ?_, fun p h0 h1 => ?_⟩
  · rw [hf _ _ (by omega) (by omega)]; exact h.1
  · have h2 := h.2.2.1 e h0 h1
    refine ⟨?_, fun h3 => ?_, fun h3 => ?_, ?_, ?_, ?_, fun h3 f h4 h5 => ?_⟩
    · rw [hf _ _ (by omega) (by omega)]; exact h2.1
    · rw [hf _ _ (by omega) (by omega)]; exact h2.2.1 h3
    · rw [hf _ _ (by omega) (by omega)]; exact h2.2.2.1 h3
    · rw [hf _ _ (by omega) (by omega)]; exact h2.2.2.2.1
    · rw [hf _ _ (by omega) (by omega)]; exact h2.2.2.2.2.1
    · rw [hf _ _ (by omega) (by omega)]; exact h2.2.2.2.2.2.1
    · rw [hf _ _ (by omega) (by omega)]; exact h2.2.2.2.2.2.2 h3 f h4 h5
  · rw [hf _ _ (by omega) (by omega)]; exact h.2.2.2 p h0 h1
theorem LgL_mono {g g' : ab_H} {o : Int} {s : Int → Int} {Lf : Int → Int → Int} {B : Int → Int} {n : Int} (h : LgL g o s Lf B n) (hf : ∀ c i : Int, o ≤ c → c ≤ o + 10 → g' c i = g c i) : LgL g' o s Lf B n := by
  intro e h0 h1 h2
  have h3 := h e h0 h1 h2
  refine ⟨?_, fun f h4 h5 => ?_⟩
  · rw [hf _ _ (by omega) (by omega)]; exact h3.1
  · rw [hf _ _ (by omega) (by omega)]; exact h3.2 f h4 h5
/-- the class's State holds a STATE, and the CAUSES of the first n EVENTS -/
def StV (g : ab_H) (o : Int) (q : RS) (n : Int) : Prop := (∀ a : Int, 0 ≤ a → a < 8 → g (o + 1) a = q.1 a ∧ g (o + 2) a = q.2.1 a ∧ g (o + 3) a = q.2.2.1 a ∧ g (o + 4) a = q.2.2.2.1 a) ∧ ∀ e : Int, 0 ≤ e → e < n → g (o + 5) e = q.2.2.2.2 e
theorem StV_mono {g g' : ab_H} {o : Int} {q : RS} {n : Int} (h : StV g o q n) (hf : ∀ c i : Int, o ≤ c → c ≤ o + 5 → g' c i = g c i) : StV g' o q n := by
  refine ⟨fun a h0 h1 => ?_, fun e h0 h1 => ?_⟩
  · have h2 := h.1 a h0 h1
    refine ⟨?_, ?_, ?_, ?_⟩
    · rw [hf _ _ (by omega) (by omega)]; exact h2.1
    · rw [hf _ _ (by omega) (by omega)]; exact h2.2.1
    · rw [hf _ _ (by omega) (by omega)]; exact h2.2.2.1
    · rw [hf _ _ (by omega) (by omega)]; exact h2.2.2.2
  · rw [hf _ _ (by omega) (by omega)]; exact h.2 e h0 h1
