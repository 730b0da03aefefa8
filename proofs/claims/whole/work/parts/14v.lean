/-! SPECS, part v: the relation of class and reference. -/
theorem EvOk_ext {s s' : Int → Int} {n : Int} (h : ∀ j : Int, 0 ≤ j → j < 1080 → s' j = s j) (hn : n ≤ 120) (hE : EvOk s n) : EvOk s' n := by
  intro i h0 h1
  have hi := hE i h0 h1
  rw [h (9 * i + 0) (by omega) (by omega), h (9 * i + 1) (by omega) (by omega), h (9 * i + 2) (by omega) (by omega), h (9 * i + 3) (by omega) (by omega), h (9 * i + 4) (by omega) (by omega), h (9 * i + 8) (by omega) (by omega)]
  refine ⟨hi.1, fun a => ⟨(hi.2.1 a).1, (hi.2.1 a).2.1, fun j h2 h3 => by rw [h (9 * i + 5 + j) (by omega) (by omega)]; exact (hi.2.1 a).2.2 j h2 h3⟩, hi.2.2.1, fun a => ?_, hi.2.2.2.2⟩
  have h9 := hi.2.2.2.1 a
  rw [h (9 * (s (9 * i + 2)) + 0) (by omega) (by omega)]
  exact h9
theorem rstep_ext {s s' : Int → Int} {L L' : Int → Int → Int} {B B' : Int → Int} {but vo e : Int} {q : RS} (h : ∀ f : Int, 0 ≤ f → f < 9 → s' (9 * e + f) = s (9 * e + f)) (hL : L' e = L e) (hB : B' e = B e) : rstep s' L' B' but vo q e = rstep s L B but vo q e := by
  unfold rstep rcz
  rw [h 0 (by omega) (by omega), h 1 (by omega) (by omega), h 2 (by omega) (by omega), h 8 (by omega) (by omega), hL, hB]
theorem rep_ext {s s' : Int → Int} {L L' : Int → Int → Int} {B B' : Int → Int} {but vo n : Int} (hn : 0 ≤ n) (h : ∀ e f : Int, 0 ≤ e → e < n → 0 ≤ f → f < 9 → s' (9 * e + f) = s (9 * e + f)) (hL : ∀ e : Int, 0 ≤ e → e < n → L' e = L e) (hB : ∀ e : Int, 0 ≤ e → e < n → B' e = B e) : rep s' L' B' but vo n = rep s L B but vo n := by
  have key : ∀ m : Nat, (m : Int) ≤ n → repN s' L' B' but vo m = repN s L B but vo m := by
    intro m
    induction m with
    | zero => intro _; rfl
    | succ m ih =>
      intro hm
      show rstep s' L' B' but vo (repN s' L' B' but vo m) m = rstep s L B but vo (repN s L B but vo m) m
      rw [ih (by omega)]
      exact rstep_ext (fun f h0 h1 => h m f (by omega) (by omega) h0 h1) (hL m (by omega) (by omega)) (hB m (by omega) (by omega))
  exact key n.toNat (by omega)
theorem rep_vo {s : Int → Int} {L : Int → Int → Int} {B : Int → Int} {but vo vo' n : Int} (hn : 0 ≤ n) (h : ∀ e : Int, 0 ≤ e → e < n → s (9 * e + 8) ≤ vo ∧ s (9 * e + 8) ≤ vo') : rep s L B but vo n = rep s L B but vo' n := by
  have key : ∀ m : Nat, (m : Int) ≤ n → repN s L B but vo m = repN s L B but vo' m := by
    intro m
    induction m with
    | zero => intro _; rfl
    | succ m ih =>
      intro hm
      show rstep s L B but vo (repN s L B but vo m) m = rstep s L B but vo' (repN s L B but vo' m) m
      rw [ih (by omega)]
      have h1 := h m (by omega) (by omega)
      unfold rstep
      by_cases hc : s (9 * (m : Int) + 0) = 7 ∨ (m : Int) = but ∨ (s (9 * (m : Int) + 8) ≠ 0 ∧ s (9 * (m : Int) + 8) ≤ vo)
      · rw [if_pos hc, if_pos (by omega)]
      · have hc' : ¬ (s (9 * (m : Int) + 0) = 7 ∨ (m : Int) = but ∨ (s (9 * (m : Int) + 8) ≠ 0 ∧ s (9 * (m : Int) + 8) ≤ vo')) := by omega
        rw [if_neg hc, if_neg hc']
  exact key n.toNat (by omega)
theorem wat_ext {s s' : Int → Int} {L L' : Int → Int → Int} {B B' : Int → Int} {but vo w n : Int} (hn : 0 ≤ n) (h : ∀ e f : Int, 0 ≤ e → e < n → 0 ≤ f → f < 9 → s' (9 * e + f) = s (9 * e + f)) (hL : ∀ e : Int, 0 ≤ e → e < n → L' e = L e) (hB : ∀ e : Int, 0 ≤ e → e < n → B' e = B e) : wat s' L' B' but vo w n = wat s L B but vo w n := by
  have key : ∀ m : Nat, (m : Int) ≤ n → watN s' L' B' but vo w m = watN s L B but vo w m := by
    intro m
    induction m with
    | zero => intro _; rfl
    | succ m ih =>
      intro hm
      show (if w = -1 then watN s' L' B' but vo w m else wstep ((rep s' L' B' but vo ((m : Int) + 1)).1 w) m (watN s' L' B' but vo w m)) = (if w = -1 then watN s L B but vo w m else wstep ((rep s L B but vo ((m : Int) + 1)).1 w) m (watN s L B but vo w m))
      rw [ih (by omega), rep_ext (by omega) (fun e f h0 h1 h2 h3 => h e f h0 (by omega) h2 h3) (fun e h0 h1 => hL e h0 (by omega)) (fun e h0 h1 => hB e h0 (by omega))]
  exact key n.toNat (by omega)
theorem LFB_EvS {T : TT} {s s' : Int → Int} {pk ps e n : Int} (h : ∀ j : Int, 0 ≤ j → j < 1080 → s' j = s j) (hn : n ≤ 120) (h0 : 0 ≤ e) (h1 : e < n) : LF T s' pk ps e = LF T s pk ps e ∧ BF T s' pk ps e = BF T s pk ps e :=
  LF_ext (h _ (by omega) (by omega)) (h _ (by omega) (by omega)) (fun f h2 h3 => h _ (by omega) (by omega))
/-- the reference replays, the EVENTS alone given -/
theorem t_M_replays {K : Int} {S : Nat} {g r : ab_H} {n k but vo w pk ps : Int} {T : TT} {s : Int → Int} (P : ab_H → ab_H → Prop) (hr : SI r) (hK : 186 ≤ K) (hT : TOk T) (hE : EvOk s n) (hn : n ≤ 120) (hk : 0 ≤ k ∧ k ≤ n) (hbut : -1 ≤ but ∧ but ≤ 1000) (hvo : 0 ≤ vo ∧ vo ≤ 1000) (hw : w = -1 ∨ (0 ≤ w ∧ w < 8)) (hpk : -1 ≤ pk ∧ pk ≤ 7) (hps : -1 ≤ ps ∧ ps ≤ 7) (hs : EvS g s) (hv : ReT g T) (hp : g 161 34 = pk) (hq : g 161 35 = ps) (h : ∀ g' : ab_H, MFr g g' → StV g' 178 (rep s (LF T s pk ps) (BF T s pk ps) but vo k) k → WV g' (wat s (LF T s pk ps) (BF T s pk ps) but vo w k) → P g' r) : ab_RV m_M_replays [(2, 161), (0, k), (0, but), (0, vo), (0, w)] K S g r P := by
  apply s_M_replays (s := g 174) _ hr hK hT (EvOk_ext hs hn hE) hn hk hbut hvo hw hpk hps rfl hv hp hq
  intro g' f' h1 h2
  refine h g' f' ?_ ?_
  · rw [← rep_ext (s' := g 174) (L' := LF T (g 174) pk ps) (B' := BF T (g 174) pk ps) hk.1 (fun e f a b c d => hs _ (by omega) (by omega)) (fun e a b => (LFB_EvS hs hn a (by omega)).1) (fun e a b => (LFB_EvS hs hn a (by omega)).2)]
    exact h1
  · rw [← wat_ext (s' := g 174) (L' := LF T (g 174) pk ps) (B' := BF T (g 174) pk ps) hk.1 (fun e f a b c d => hs _ (by omega) (by omega)) (fun e a b => (LFB_EvS hs hn a (by omega)).1) (fun e a b => (LFB_EvS hs hn a (by omega)).2)]
    exact h2
theorem t_M_replaysAll {K : Int} {S : Nat} {g r : ab_H} {n pk ps : Int} {T : TT} {s : Int → Int} (P : ab_H → ab_H → Prop) (hr : SI r) (hK : 186 ≤ K) (hT : TOk T) (hE : EvOk s n) (hn : 0 ≤ n ∧ n ≤ 120) (hpk : -1 ≤ pk ∧ pk ≤ 7) (hps : -1 ≤ ps ∧ ps ≤ 7) (hs : EvS g s) (hm : g 174 1080 = n) (hv : ReT g T) (hp : g 161 34 = pk) (hq : g 161 35 = ps) (h : ∀ g' : ab_H, MFr g g' → StV g' 178 (rep s (LF T s pk ps) (BF T s pk ps) (-1) 120 n) n → P g' r) : ab_RV m_M_replaysAll [(2, 161)] K S g r P := by
  apply v_M_replaysAll _ hr hK
  apply s_M_many _ hr hK
  rw [hm]
  refine ⟨rfl, rfl, ?_⟩
  apply t_M_replays _ hr hK hT hE hn.2 ⟨hn.1, Int.le_refl _⟩ (by omega) (by omega) (Or.inl rfl) hpk hps hs hv hp hq
  intro g' f' hq' _
  exact ⟨rfl, h g' f' hq'⟩
/-- a row of the reference's, what lies in it alone -/
def cn (x : Int → Int) : Int → Int := fun l => if 0 ≤ l ∧ l < 1607 then x l else 0
theorem cn_in {x : Int → Int} {l : Int} (h0 : 0 ≤ l) (h1 : l < 1607) : cn x l = x l := if_pos ⟨h0, h1⟩
theorem cn_ext {x y : Int → Int} (h : ∀ l : Int, 0 ≤ l → l < 1607 → x l = y l) : cn x = cn y := by
  funext l
  unfold cn
  by_cases hl : 0 ≤ l ∧ l < 1607
  · rw [if_pos hl, if_pos hl, h l hl.1 hl.2]
  · rw [if_neg hl, if_neg hl]
def AcOk (s : Int → Int) (n nA : Int) : Prop := ∀ e : Int, 0 ≤ e → e < n → (s (9 * e + 0) ≠ 7 → s (9 * e + 1) < nA) ∧ (s (9 * e + 0) = 6 → s (9 * e + 2) < nA) ∧ (s (9 * e + 0) = 7 → s (9 * e + 1) = -2) ∧ (s (9 * e + 0) ≠ 6 → s (9 * e + 0) ≠ 7 → s (9 * e + 2) = -2)
def tpx (x : Int → Int) (t : Int) : Int := x (1091 + 129 * t)
def tcx (x : Int → Int) (t : Int) : Int → Int := fun e => x (1091 + 129 * t + 9 + e)
def TyOk (T : TT) (tf : Int → Int) (x : Int → Int) : Prop := ∀ t : Int, 0 ≤ t → t < 4 → TyV x (1091 + 129 * t) x (tpx x t) (tcx x t) ∧ TcOk x (tcx x t) (tpx x t) (x 1080) (fun e => LF T x (-1) (-1) e (tf t - 1))
/-- a row of the reference's is sound -/
def GoodS (T : TT) (tf : Int → Int) (nA : Int) (x : Int → Int) : Prop := (0 ≤ x 1080 ∧ x 1080 ≤ 120) ∧ EvOk x (x 1080) ∧ VdOk x (x 1080) ∧ AcOk x (x 1080) nA ∧ (1 ≤ x 1089 ∧ x 1089 ≤ 999) ∧ (0 ≤ x 1090 ∧ x 1090 ≤ 6) ∧ SnV x (sn x (x 1089) (x 1090) (x 1080)) ∧ TyOk T tf x
def tt (g : ab_H) : TT := (g 168, g 169, g 170, g 171)
def ss (g : ab_H) : Int → Int := cn (g 174)
def sj (g : ab_H) (j : Int) : Int → Int := cn (fun i => g 177 (1607 * j + i))
def si (g : ab_H) : Int → Int := cn (g 176)
/-- a Mark tells of a row -/
def MkV (g : ab_H) (M : Int) (x : Int → Int) : Prop := g M 0 = x 1080 ∧ g M 1 = x 1089 ∧ g M 2 = x 1090 ∧ TaP g (M + 1) (tpx x) (fun t => ne0 (tcx x t))
/-- the TERMS -/
def RelT (g : ab_H) (o : Int) : Prop := TOk (tt g) ∧ TeV g o (tt g) ∧ (g o 1 = g 163 0 ∧ 0 ≤ g 163 0 ∧ g 163 0 ≤ 8) ∧ (∀ i : Int, 0 ≤ i → i < g 163 0 → g (o + 1) i = g 164 i ∧ 0 ≤ g 164 i ∧ g 164 i ≤ 2147483647) ∧ (g o 5 = g 163 1 ∧ 0 ≤ g 163 1 ∧ g 163 1 ≤ 4) ∧ (∀ t : Int, 0 ≤ t → t < g 163 1 → (g (o + 2) t = g 165 t ∧ 0 ≤ g 165 t ∧ g 165 t ≤ 2147483647) ∧ (g (o + 3) t = g 166 t ∧ 0 ≤ g 166 t ∧ g 166 t ≤ 6) ∧ (g (o + 4) t = g 167 t ∧ 1 ≤ g 167 t ∧ g 167 t ≤ 3)) ∧ (g o 12 = g 163 4 ∧ 0 ≤ g 163 4 ∧ g 163 4 ≤ 99999)
/-- the TAPE, the latest FAULT -/
def RelP (g : ab_H) : Prop := (g 0 1 = g 161 2 ∧ 0 ≤ g 161 2 ∧ g 161 2 ≤ 900) ∧ (∀ i : Int, 0 ≤ i → i < g 161 2 → (-128 ≤ g 1 i ∧ g 1 i < 128) ∧ g 162 i = g 1 i % 256) ∧ g 2 6 = g 161 24 ∧ g 2 7 = g 161 25
/-- the class's pointers -/
def RelR (r : ab_H) : Prop := SI r ∧ ((r 0 3 = 5 ∧ r 0 4 = 14) ∨ (r 0 3 = 14 ∧ r 0 4 = 5)) ∧ ((r 0 5 = 23 ∧ r 0 6 = 34) ∨ (r 0 5 = 34 ∧ r 0 6 = 23)) ∧ (∀ j : Int, 0 ≤ j → j < 20 → isMk (r 65 j) ∧ r 65 j ≠ 77) ∧ ∀ i j : Int, 0 ≤ i → i < j → j < 20 → r 65 i ≠ r 65 j
def LL (g : ab_H) (s : Int → Int) : Int → Int → Int := LF (tt g) s (-1) (-1)
def BB (g : ab_H) (s : Int → Int) : Int → Int := BF (tt g) s (-1) (-1)
/-- the EVENTS, SNAPSHOTS, STATE, TALLIES -/
def RelS (g r : ab_H) : Prop := GoodS (tt g) (g 167) (g 163 0) (ss g) ∧ LgV g (r 0 5) (ss g) (ss g 1080) ∧ LgL g (r 0 5) (ss g) (LL g (ss g)) (BB g (ss g)) (ss g 1080) ∧ (g 57 2 = ss g 1089 ∧ g 57 3 = ss g 1090) ∧ ShV g 57 (sn (ss g) (ss g 1089) (ss g 1090) (ss g 1080)) ∧ StV g 45 (rep (ss g) (LL g (ss g)) (BB g (ss g)) (-1) 120 (ss g 1080)) (ss g 1080) ∧ TaP g 61 (tpx (ss g)) (fun t => ne0 (tcx (ss g) t))
/-- what can be undone -/
def RelU (g r : ab_H) : Prop := (g 0 14 = g 161 30 ∧ 0 ≤ g 161 30 ∧ g 161 30 ≤ 20) ∧ (∀ j : Int, 0 ≤ j → j < g 161 30 → GoodS (tt g) (g 167) (g 163 0) (sj g j) ∧ MkV g (r 65 j) (sj g j) ∧ CutOf (ss g) (sj g j) (sj g j 1080) ∧ sj g j 1080 ≤ ss g 1080) ∧ ∀ i j : Int, 0 ≤ i → i < j → j < g 161 30 → sj g i 1080 ≤ sj g j 1080
/-- the IMAGE -/
def RelI (g : ab_H) : Prop := (g 0 17 = g 161 31 ∧ (g 161 31 = 0 ∨ g 161 31 = 1)) ∧ (g 161 31 = 1 → GoodS (tt g) (g 167) (g 163 0) (si g) ∧ LgV g 66 (si g) (si g 1080) ∧ LgL g 66 (si g) (LL g (si g)) (BB g (si g)) (si g 1080) ∧ MkV g 77 (si g))
def Rel (g r : ab_H) : Prop := RelR r ∧ RelP g ∧ RelT g (r 0 3) ∧ RelS g r ∧ RelU g r ∧ RelI g ∧ g 161 34 = -1 ∧ (-1 ≤ g 161 35 ∧ g 161 35 ≤ 7) ∧ isWd (r 4 5) ∧ g (r 0 6 + 10) 0 = 0
theorem Rel_EvS {g r : ab_H} (_ : Rel g r) : EvS g (ss g) := fun j h0 h1 => (cn_in h0 (by omega)).symm
