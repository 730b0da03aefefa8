section AbOpen
variable {p : Program} {l : Launch} {e : Env} {R : Room} {s : State} {m : MethodId} {args : Array Value} {below : List Frame} {meth : Method} {c : Code} {Q : State → Prop} {D : va_G} {cA : Nat → ClassId} {bnd : Nat} {aS : Int → Nat} {SL : Nat} {xs : Nat → Int32} {K0 : Int} {S0 : Nat} {k : Nat}
theorem ab_p19 {i a nx : Nat} {b : Int} {L : ab_F} {st : List ab_V} {w : ab_W} {x y : Int} (C : ab_Cx D cA bnd aS SL xs k p R s m args meth c) (ho : ab_nth (ab_cod k) i = some (19, a, b, nx)) (hy : ¬ wr y = 0) (kk : ab_WW p l e R s m args below meth c Q D cA bnd aS SL xs K0 S0 k nx L ((0, ab_rem x y) :: st) w) : ab_WW p l e R s m args below meth c Q D cA bnd aS SL xs K0 S0 k i L ((0, y) :: (0, x) :: st) w := by
  intro H locs ls hw hS hl
  obtain ⟨hd, -, hp⟩ := ab_dec1 ho (by decide) rfl rfl
  have kk := kk H locs ls hw hS hl
  rw [hp] at kk
  simp only [List.map_cons, ab_cv, ab_rem, Int32.ofInt_toInt] at kk ⊢
  exact lv_irem C.1 C.2.1 hd (fun h => hy ((ab_eq y 0).mp h)) kk
theorem ab_p53 {i a nx : Nat} {b : Int} {L : ab_F} {st : List ab_V} {w : ab_W} {n : Int} (C : ab_Cx D cA bnd aS SL xs k p R s m args meth c) (ho : ab_nth (ab_cod k) i = some (53, a, b, nx)) (hkd : ab_kd (ab_nm w.1) = (100 + (a : Int), n)) (h0 : 0 ≤ w.1) (h186 : w.1 < 187) (hn0 : 0 ≤ n) (hn1 : n < 100000) (hr1 : (w.1 + 1 - K0).toNat ≤ R.cells) (hr2 : w.2.1 + n.toNat - S0 ≤ R.slots) (hk0 : K0 ≤ w.1) (hs0 : S0 ≤ w.2.1) (kk : ab_WW p l e R s m args below meth c Q D cA bnd aS SL xs K0 S0 k nx L ((2, ab_nm w.1) :: st) (w.1 + 1, w.2.1 + n.toNat, ab_new w.2.2.1 (ab_nm w.1) 0, ab_new w.2.2.2 (ab_nm w.1) (-1))) : ab_WW p l e R s m args below meth c Q D cA bnd aS SL xs K0 S0 k i L ((0, n) :: st) w := by
  obtain ⟨-, hsc, -⟩ := ab_dec1 ho (by decide) rfl rfl
  have ha : a < 4 := ab_blt hsc
  match a, ha, ho, hkd with
  | 0, _, ho, hkd => exact ab_p53_0 C ho hkd h0 h186 hn0 hn1 hr1 hr2 hk0 hs0 kk
  | 1, _, ho, hkd => exact ab_p53_1 C ho hkd h0 h186 hn0 hn1 hr1 hr2 hk0 hs0 kk
  | 2, _, ho, hkd => exact ab_p53_2 C ho hkd h0 h186 hn0 hn1 hr1 hr2 hk0 hs0 kk
  | 3, _, ho, hkd => exact ab_p53_3 C ho hkd h0 h186 hn0 hn1 hr1 hr2 hk0 hs0 kk
theorem ab_p65 {i a nx : Nat} {b : Int} {L : ab_F} {st : List ab_V} {w : ab_W} {x : Int} (C : ab_Cx D cA bnd aS SL xs k p R s m args meth c) (ho : ab_nth (ab_cod k) i = some (65, a, b, nx)) (hx : x ≤ -5 ∧ -21 ≤ x) (kk : ab_WW p l e R s m args below meth c Q D cA bnd aS SL xs K0 S0 k nx L (ab_wv a x :: st) w) : ab_WW p l e R s m args below meth c Q D cA bnd aS SL xs K0 S0 k i L ((2, x) :: st) w := by
  obtain ⟨-, hsc, -⟩ := ab_dec1 ho (by decide) rfl rfl
  simp only [Bool.and_eq_true] at hsc
  have h1 := Nat.le_of_ble_eq_true hsc.1.1
  have h3 := Nat.le_of_ble_eq_true hsc.1.2
  match a, h1, h3, ho, kk with
  | 1, _, _, ho, kk => exact ab_p65_1 C ho hx kk
  | 2, _, _, ho, kk => exact ab_p65_2 C ho hx kk
  | 3, _, _, ho, kk => exact ab_p65_3 C ho hx kk
end AbOpen
