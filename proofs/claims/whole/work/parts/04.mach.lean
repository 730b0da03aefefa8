/-! THE ABSTRACT MACHINE: its steps and runs. -/
/-- the locals, by their places; a long stands at the first of its two, none at the second -/
abbrev ab_F : Type := List (Option ab_V)
def ab_lk (L : ab_F) (i : Nat) : Option ab_V := match ab_nth L i with
  | some o => o
  | none => none
def ab_set : ab_F → Nat → Option ab_V → ab_F
  | [], _, _ => []
  | _ :: t, 0, v => v :: t
  | a :: t, n + 1, v => a :: ab_set t n v
/-- a store kills a long whose second half it is -/
def ab_kl (L : ab_F) (i : Nat) : ab_F := match i with
  | 0 => L
  | j + 1 => match ab_lk L j with
    | some (1, _) => ab_set L j none
    | _ => L
def ab_s1 (L : ab_F) (i : Nat) (v : ab_V) : ab_F := ab_set (ab_kl L i) i (some v)
def ab_s2 (L : ab_F) (i : Nat) (v : ab_V) : ab_F := ab_set (ab_set (ab_kl L i) i (some v)) (i + 1) none
def ab_and (x y : Int) : Int := (Int32.ofInt x &&& Int32.ofInt y).toInt
def ab_or (x y : Int) : Int := (Int32.ofInt x ||| Int32.ofInt y).toInt
def ab_xor (x y : Int) : Int := (Int32.ofInt x ^^^ Int32.ofInt y).toInt
def ab_shl (x y : Int) : Int := (Int32.ofInt x <<< (Int32.ofInt y &&& 31)).toInt
def ab_shr (x y : Int) : Int := (Int32.ofInt x >>> (Int32.ofInt y &&& 31)).toInt
def ab_ush (x y : Int) : Int := (((Int32.ofInt x).toUInt32 >>> ((Int32.ofInt y).toUInt32 &&& Int32.toUInt32 31)).toInt32).toInt
def ab_rem (x y : Int) : Int := (Int32.ofInt x - Int32.ofInt x / Int32.ofInt y * Int32.ofInt y).toInt
def ab_i2b (x : Int) : Int := ((Int32.ofInt x).toInt8.toInt32).toInt
def ab_lor (x y : Int) : Int := (Int64.ofInt x ||| Int64.ofInt y).toInt
def ab_lsh (x y : Int) : Int := (Int64.ofInt x <<< ((Int32.ofInt y).toInt64 &&& 63)).toInt
def ab_cmp (x y : Int) : Int := if wl x < wl y then -1 else if wl x = wl y then 0 else 1
def ab_max (x y : Int) : Int := if wr x < wr y then y else x
def ab_min (x y : Int) : Int := if wr y < wr x then y else x
/-- what touches locals and stack alone: the next place, the locals, the stack -/
def ab_ps (o : ab_O) (L : ab_F) (st : List ab_V) : Option (Nat × ab_F × List ab_V) :=
  match o.1, st with
  | 2, st => some (o.2.2.2, L, (0, o.2.2.1) :: st)
  | 3, st => match ab_lk L o.2.1 with
    | some (0, x) => some (o.2.2.2, L, (0, x) :: st)
    | _ => none
  | 4, st => match ab_lk L o.2.1 with
    | some (1, x) => some (o.2.2.2, L, (1, x) :: st)
    | _ => none
  | 5, st => match ab_lk L o.2.1 with
    | some (2, x) => some (o.2.2.2, L, (2, x) :: st)
    | _ => none
  | 6, (0, x) :: st => some (o.2.2.2, ab_s1 L o.2.1 (0, x), st)
  | 7, (1, x) :: st => some (o.2.2.2, ab_s2 L o.2.1 (1, x), st)
  | 8, (2, x) :: st => some (o.2.2.2, ab_s1 L o.2.1 (2, x), st)
  | 9, st => match ab_lk L o.2.1 with
    | some (0, x) => some (o.2.2.2, ab_s1 L o.2.1 (0, x + o.2.2.1), st)
    | _ => none
  | 10, (0, y) :: (0, x) :: st => some (o.2.2.2, L, (0, x + y) :: st)
  | 11, (0, y) :: (0, x) :: st => some (o.2.2.2, L, (0, x - y) :: st)
  | 12, (0, y) :: (0, x) :: st => some (o.2.2.2, L, (0, x * y) :: st)
  | 13, (0, y) :: (0, x) :: st => some (o.2.2.2, L, (0, ab_and x y) :: st)
  | 14, (0, y) :: (0, x) :: st => some (o.2.2.2, L, (0, ab_or x y) :: st)
  | 15, (0, y) :: (0, x) :: st => some (o.2.2.2, L, (0, ab_xor x y) :: st)
  | 16, (0, y) :: (0, x) :: st => some (o.2.2.2, L, (0, ab_shl x y) :: st)
  | 17, (0, y) :: (0, x) :: st => some (o.2.2.2, L, (0, ab_shr x y) :: st)
  | 18, (0, y) :: (0, x) :: st => some (o.2.2.2, L, (0, ab_ush x y) :: st)
  | 20, (0, x) :: st => some (o.2.2.2, L, (0, -x) :: st)
  | 21, (0, x) :: st => some (o.2.2.2, L, (0, ab_i2b x) :: st)
  | 22, (0, x) :: st => some (o.2.2.2, L, (1, wr x) :: st)
  | 23, (1, x) :: st => some (o.2.2.2, L, (0, x) :: st)
  | 24, (1, y) :: (1, x) :: st => some (o.2.2.2, L, (1, ab_lor x y) :: st)
  | 25, (0, y) :: (1, x) :: st => some (o.2.2.2, L, (1, ab_lsh x y) :: st)
  | 26, (1, y) :: (1, x) :: st => some (o.2.2.2, L, (0, ab_cmp x y) :: st)
  | 27, st => some (o.2.2.2, L, (1, o.2.2.1) :: st)
  | 28, (0, x) :: st => some (o.2.2.2, L, (0, x) :: (0, x) :: st)
  | 28, (2, x) :: st => some (o.2.2.2, L, (2, x) :: (2, x) :: st)
  | 29, (0, y) :: (2, x) :: st => some (o.2.2.2, L, (0, y) :: (2, x) :: (0, y) :: (2, x) :: st)
  | 30, (0, _) :: st => some (o.2.2.2, L, st)
  | 31, st => some (o.2.1, L, st)
  | 42, st => some (o.2.2.2, L, (2, o.2.2.1) :: st)
  | 62, (2, a) :: st => if a = -3 then some (o.2.2.2, L, (0, 17) :: st) else none
  | 71, st => some (o.2.2.2, L, (2, -22) :: st)
  | _, _ => none

def ab_cnd (b : Int) (x y : Int) : Prop := match b with
  | 0 => wr x = wr y
  | 1 => ¬ wr x = wr y
  | 2 => wr x < wr y
  | 3 => wr y ≤ wr x
  | 4 => wr y < wr x
  | _ => wr x ≤ wr y
def ab_cB (b : Int) (x y : Int) : Bool := match b with
  | 0 => decide (wr x = wr y)
  | 1 => !decide (wr x = wr y)
  | 2 => decide (wr x < wr y)
  | 3 => decide (wr y ≤ wr x)
  | 4 => decide (wr y < wr x)
  | _ => decide (wr x ≤ wr y)
def ab_ts (t : Nat) (x : Int) : Nat := match ab_nth ab_tsL t with
  | some q => if wr x < q.1 then q.2.1 else (ab_nth q.2.2 (wr x - q.1).toNat).getD q.2.1
  | none => 0
def ab_new (g : ab_H) (K v : Int) : ab_H := fun a k => if a = K then v else g a k
def ab_cpy (g : ab_H) (s sp d dp n : Int) : ab_H := fun a k => if a = d ∧ dp ≤ k ∧ k < dp + n then g s (sp + (k - dp)) else g a k
def ab_cat : List ab_V → Nat
  | [] => 0
  | v :: t => cond (Nat.beq v.1 1) 2 1 + ab_cat t
/-- a field of a word of the language -/
def ab_wv (f : Nat) (a : Int) : ab_V := match f with
  | 1 => (1, ((ab_nth ab_wt (-5 - a).toNat).getD (0, 0, 0)).1)
  | 2 => (0, ((ab_nth ab_wt (-5 - a).toNat).getD (0, 0, 0)).2.1)
  | _ => (0, ((ab_nth ab_wt (-5 - a).toNat).getD (0, 0, 0)).2.2)
/-- what touches the world: no calls, no ends -/
def ab_ex (o : ab_O) (L : ab_F) (st : List ab_V) (w : ab_W) : Option (Nat × ab_F × List ab_V × ab_W) :=
  match o.1, st with
  | 19, (0, y) :: (0, x) :: st => if wr y = 0 then none else some (o.2.2.2, L, (0, ab_rem x y) :: st, w)
  | 32, (0, x) :: st => some (if ab_cB o.2.2.1 x 0 then o.2.1 else o.2.2.2, L, st, w)
  | 33, (0, y) :: (0, x) :: st => some (if ab_cB o.2.2.1 x y then o.2.1 else o.2.2.2, L, st, w)
  | 34, (0, x) :: st => some (ab_ts o.2.1 x, L, st, w)
  | 35, (2, a) :: st => if (ab_kd a).1 = o.2.2.1 ∧ 0 ≤ a ∧ ab_po a < w.1 then some (o.2.2.2, L, (0, w.2.2.1 a o.2.1) :: st, w) else none
  | 37, (2, a) :: st => if ((ab_kd a).1 = o.2.2.1 ∧ 0 ≤ a ∧ ab_po a < w.1) ∧ w.2.2.2 a o.2.1 ≠ -1 then some (o.2.2.2, L, (2, w.2.2.2 a o.2.1) :: st, w) else none
  | 38, (0, x) :: (2, a) :: st => if (ab_kd a).1 = o.2.2.1 ∧ 0 ≤ a ∧ ab_po a < w.1 then some (o.2.2.2, L, st, (w.1, w.2.1, ab_up w.2.2.1 a o.2.1 x, w.2.2.2)) else none
  | 39, (0, x) :: (2, a) :: st => if ((ab_kd a).1 = o.2.2.1 ∧ 0 ≤ a ∧ ab_po a < w.1) ∧ (x = 0 ∨ x = 1) then some (o.2.2.2, L, st, (w.1, w.2.1, ab_up w.2.2.1 a o.2.1 x, w.2.2.2)) else none
  | 40, (2, x) :: (2, a) :: st => if ((ab_kd a).1 = o.2.2.1 ∧ 0 ≤ a ∧ ab_po a < w.1) ∧ x ≠ -1 then some (o.2.2.2, L, st, (w.1, w.2.1, w.2.2.1, ab_up w.2.2.2 a o.2.1 x)) else none
  | 41, (2, x) :: (2, a) :: st => if ((ab_kd a).1 = o.2.2.1 ∧ 0 ≤ a ∧ ab_po a < w.1) ∧ x ≠ -1 then some (o.2.2.2, L, st, (w.1, w.2.1, w.2.2.1, ab_up w.2.2.2 a o.2.1 x)) else none
  | 43, (0, j) :: (2, a) :: st => if ((ab_kd a).1 = 100 ∧ 0 ≤ a ∧ ab_po a < w.1) ∧ 0 ≤ j ∧ j < (ab_kd a).2 then some (o.2.2.2, L, (0, w.2.2.1 a j) :: st, w) else none
  | 44, (0, j) :: (2, a) :: st => if ((ab_kd a).1 = 101 ∧ 0 ≤ a ∧ ab_po a < w.1) ∧ 0 ≤ j ∧ j < (ab_kd a).2 then some (o.2.2.2, L, (0, w.2.2.1 a j) :: st, w) else none
  | 45, (0, j) :: (2, a) :: st => if ((ab_kd a).1 = 102 ∧ 0 ≤ a ∧ ab_po a < w.1) ∧ 0 ≤ j ∧ j < (ab_kd a).2 then some (o.2.2.2, L, (0, w.2.2.1 a j) :: st, w) else none
  | 46, (0, j) :: (2, a) :: st => if ((ab_kd a).1 = 103 ∧ 0 ≤ a ∧ ab_po a < w.1) ∧ 0 ≤ j ∧ j < (ab_kd a).2 then some (o.2.2.2, L, (1, w.2.2.1 a j) :: st, w) else none
  | 47, (0, j) :: (2, a) :: st => if (((ab_kd a).1 = 104 ∧ 0 ≤ a ∧ ab_po a < w.1) ∧ 0 ≤ j ∧ j < (ab_kd a).2) ∧ w.2.2.2 a j ≠ -1 then some (o.2.2.2, L, (2, w.2.2.2 a j) :: st, w) else none
  | 48, (0, x) :: (0, j) :: (2, a) :: st => if ((ab_kd a).1 = 100 ∧ 0 ≤ a ∧ ab_po a < w.1) ∧ 0 ≤ j ∧ j < (ab_kd a).2 then some (o.2.2.2, L, st, (w.1, w.2.1, ab_up w.2.2.1 a j x, w.2.2.2)) else none
  | 49, (0, x) :: (0, j) :: (2, a) :: st => if ((ab_kd a).1 = 101 ∧ 0 ≤ a ∧ ab_po a < w.1) ∧ 0 ≤ j ∧ j < (ab_kd a).2 then some (o.2.2.2, L, st, (w.1, w.2.1, ab_up w.2.2.1 a j (ab_i2b x), w.2.2.2)) else none
  | 50, (0, x) :: (0, j) :: (2, a) :: st => if (((ab_kd a).1 = 102 ∧ 0 ≤ a ∧ ab_po a < w.1) ∧ 0 ≤ j ∧ j < (ab_kd a).2) ∧ (x = 0 ∨ x = 1) then some (o.2.2.2, L, st, (w.1, w.2.1, ab_up w.2.2.1 a j x, w.2.2.2)) else none
  | 51, (1, x) :: (0, j) :: (2, a) :: st => if ((ab_kd a).1 = 103 ∧ 0 ≤ a ∧ ab_po a < w.1) ∧ 0 ≤ j ∧ j < (ab_kd a).2 then some (o.2.2.2, L, st, (w.1, w.2.1, ab_up w.2.2.1 a j x, w.2.2.2)) else none
  | 52, st => if ab_kd (ab_nm w.1) = ((o.2.1 : Int), (ab_nF o.2.1 : Int)) ∧ 0 ≤ w.1 ∧ w.1 < 187 then some (o.2.2.2, L, (2, ab_nm w.1) :: st, (w.1 + 1, w.2.1 + ab_nF o.2.1, ab_new w.2.2.1 (ab_nm w.1) 0, ab_new w.2.2.2 (ab_nm w.1) (-1))) else none
  | 53, (0, n) :: st => if ab_kd (ab_nm w.1) = (100 + (o.2.1 : Int), n) ∧ 0 ≤ w.1 ∧ w.1 < 187 ∧ 0 ≤ n ∧ n < 100000 then some (o.2.2.2, L, (2, ab_nm w.1) :: st, (w.1 + 1, w.2.1 + n.toNat, ab_new w.2.2.1 (ab_nm w.1) 0, ab_new w.2.2.2 (ab_nm w.1) (-1))) else none
  | 54, (0, n) :: st => if ab_kd (ab_nm w.1) = (104, n) ∧ 0 ≤ w.1 ∧ w.1 < 187 ∧ 0 ≤ n ∧ n < 100000 then some (o.2.2.2, L, (2, ab_nm w.1) :: st, (w.1 + 1, w.2.1 + n.toNat, ab_new w.2.2.1 (ab_nm w.1) 0, ab_new w.2.2.2 (ab_nm w.1) (-1))) else none
  | 55, (0, y) :: (0, x) :: st => if ab_cat st ≤ 8 then some (o.2.2.2, L, (0, ab_max x y) :: st, w) else none
  | 56, (0, y) :: (0, x) :: st => if ab_cat st ≤ 8 then some (o.2.2.2, L, (0, ab_min x y) :: st, w) else none
  | 57, (0, n) :: (0, dp) :: (2, d) :: (0, sp) :: (2, s) :: st => if (((ab_kd s).1 = 100 ∧ 0 ≤ s ∧ ab_po s < w.1) ∧ ((ab_kd d).1 = 100 ∧ 0 ≤ d ∧ ab_po d < w.1)) ∧ ab_cat st ≤ 8 ∧ s ≠ d ∧ 187 ≤ w.1 ∧ 0 ≤ n ∧ 0 ≤ sp ∧ 0 ≤ dp ∧ sp + n ≤ (ab_kd s).2 ∧ dp + n ≤ (ab_kd d).2 then some (o.2.2.2, L, st, (w.1, w.2.1, ab_cpy w.2.2.1 s sp d dp n, w.2.2.2)) else none
  | 58, (2, a) :: st => if ab_cat st ≤ 8 then some (o.2.2.2, L, st, w) else none
  | 60, (2, x) :: (0, j) :: (2, a) :: st => if (((ab_kd a).1 = 104 ∧ 0 ≤ a ∧ ab_po a < w.1) ∧ 0 ≤ j ∧ j < (ab_kd a).2) ∧ ((ab_kd x).1 = 5 ∧ 0 ≤ x ∧ ab_po x < w.1) then some (o.2.2.2, L, st, (w.1, w.2.1, w.2.2.1, ab_up w.2.2.2 a j x)) else none
  | 61, (2, a) :: st => if (ab_kd a).1 = 100 + (o.2.1 : Int) ∧ 0 ≤ a ∧ ab_po a < w.1 then some (o.2.2.2, L, (0, (ab_kd a).2) :: st, w) else none
  | 63, (0, j) :: (2, a) :: st => if a = -3 ∧ 0 ≤ j ∧ j < 17 then some (o.2.2.2, L, (2, -5 - j) :: st, w) else none
  | 64, (0, j) :: (2, a) :: st => if a = -4 ∧ 0 ≤ j ∧ j < 17 then some (o.2.2.2, L, (0, (ab_nth ab_swm j.toNat).getD 0) :: st, w) else none
  | 65, (2, a) :: st => if a ≤ -5 ∧ -21 ≤ a then some (o.2.2.2, L, ab_wv o.2.1 a :: st, w) else none
  | 66, (2, a) :: st => if ab_cat st ≤ 8 ∧ a ≤ -5 ∧ -21 ≤ a then some (o.2.2.2, L, (0, -5 - a) :: st, w) else none
  | 67, (0, j) :: (2, a) :: st => if a = -2 ∧ 0 ≤ j ∧ j < w.2.2.2 (-2) (-1) then some (o.2.2.2, L, (0, w.2.2.1 (-2) j) :: st, w) else none
  | 68, (2, a) :: st => if a = -2 then some (o.2.2.2, L, (0, w.2.2.2 (-2) (-1)) :: st, w) else none
  | 69, (2, a) :: st => if ab_cat st ≤ 8 ∧ a = -22 then some (o.2.2.2, L, (0, 86) :: st, w) else none
  | 70, (0, j) :: (2, a) :: st => if ab_cat st ≤ 8 ∧ a = -22 ∧ 0 ≤ j ∧ j < 86 then some (o.2.2.2, L, (0, (ab_nth ab_str j.toNat).getD 0) :: st, w) else none
  | _, st => match ab_ps o L st with
    | some q => some (q.1, q.2.1, q.2.2, w)
    | none => none
/-- the locals of a method's entry -/
def ab_e0 : List ab_V → ab_F
  | [] => []
  | v :: t => cond (Nat.beq v.1 1) (some v :: none :: ab_e0 t) (some v :: ab_e0 t)
def ab_pad : Nat → ab_F → ab_F
  | 0, L => L
  | n + 1, [] => none :: ab_pad n []
  | n + 1, a :: t => a :: ab_pad n t
def ab_en (k : Nat) (av : List ab_V) : ab_F := ab_pad (ab_mxl k) (ab_e0 av)
/-- the receiver of a call is an object of the method's class -/
def ab_rv (k : Nat) (args : List ab_V) (K : Int) : Prop := ab_rcv k = -1 ∨ ∃ a t, args = (2, a) :: t ∧ (ab_kd a).1 = ab_rcv k ∧ 0 ≤ a ∧ ab_po a < K
def ab_rvB (k : Nat) (args : List ab_V) (K : Int) : Bool := decide (ab_rcv k = -1) || match args with
  | (2, a) :: _ => decide ((ab_kd a).1 = ab_rcv k ∧ 0 ≤ a ∧ ab_po a < K)
  | _ => false
def ab_okc (k k' n : Nat) (rest : List ab_V) (st : List ab_V) : Bool := Nat.blt k' 245 && Nat.ble (ab_cat (st.take n)) (ab_mxl k') && Nat.blt (ab_dep k') (ab_dep k) && Nat.ble (ab_cat rest) 8 && Nat.ble n st.length
/-- a method's end: what is returned; behind 72 what is thrown, by its number -/
def ab_rt (k i : Nat) (st : List ab_V) : Option (List ab_V) := match ab_nth (ab_cod k) i with
  | some o => match o.1, o.2.1, st with
    | 0, 0, [] => some []
    | 0, 1, [(0, x)] => some [(0, x)]
    | 0, 2, [(0, x)] => if x = 0 ∨ x = 1 then some [(0, x)] else none
    | 72, c, [] => some [(9, c)]
    | _, _, _ => none
  | none => none
def ab_nt : List ab_V → Bool
  | [] => true
  | [v] => Nat.blt v.1 9
  | _ => false
/-- a step within a frame; a call is a step, done by rn -/
def ab_sp (rn : Nat → ab_F → ab_W → Option (List ab_V × ab_W)) (k i : Nat) (L : ab_F) (st : List ab_V) (w : ab_W) : Option (Nat × ab_F × List ab_V × ab_W) :=
  match ab_nth (ab_cod k) i with
  | none => none
  | some o => match o.1 with
    | 1 =>
      if ab_okc k o.2.1 o.2.2.1.toNat (st.drop o.2.2.1.toNat) st && ab_rvB o.2.1 (st.take o.2.2.1.toNat).reverse w.1 then
        match rn o.2.1 (ab_en o.2.1 (st.take o.2.2.1.toNat).reverse) w with
        | none => none
        | some q => if ab_nt q.1 then some (o.2.2.2, L, q.1 ++ st.drop o.2.2.1.toNat, q.2) else none
      else none
    | _ => ab_ex o L st w
/-- the run of a method's code from a place on, calls and all: what is returned, the world then -/
def ab_run : Nat → Nat → Nat → ab_F → List ab_V → ab_W → Option (List ab_V × ab_W)
  | 0, _, _, _, _, _ => none
  | n + 1, k, i, L, st, w =>
    match ab_rt k i st with
    | some v => some (v, w)
    | none => match ab_sp (fun k' L' w' => ab_run n k' 0 L' [] w') k i L st w with
      | none => none
      | some q => ab_run n k q.1 q.2.1 q.2.2.1 q.2.2.2
/-- from that place on the method ends, with what satisfies Q -/
def ab_Rn (k i : Nat) (L : ab_F) (st : List ab_V) (w : ab_W) (Q : List ab_V → ab_W → Prop) : Prop := ∃ n v w', ab_run n k i L st w = some (v, w') ∧ Q v w'
/-- so many steps within a frame -/
def ab_it (n : Nat) (k : Nat) : Nat → (Nat × ab_F × List ab_V × ab_W) → Option (Nat × ab_F × List ab_V × ab_W)
  | 0, q => some q
  | t + 1, q => match ab_sp (fun k' L' w' => ab_run n k' 0 L' [] w') k q.1 q.2.1 q.2.2.1 q.2.2.2 with
    | none => none
    | some q' => ab_it n k t q'
