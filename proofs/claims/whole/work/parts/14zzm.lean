/-! SPECS, part zzm: text, what a LINE makes of what is read: pure. -/
def zb (X : ZX) (f : Zd → ZX) : ZX := match X with
  | .error (f, w) => ZX.bad f w
  | .ok d => f d
def zpl (X : ZX) : Int := match X with
  | .error (_, _) => 0
  | .ok d => d.p
def zck (X : ZX) (C : Zd → Bool) (f w : Int) : ZX := zb X (fun d => if C d = true then .ok d else ZX.bad f w)
def zroom (d : Zd) (x y : Int) : ZX := if y ≤ x then ZX.bad 2 d.p else .ok d
def addA (d : Zd) (v : Int) : Zd := (Zd.mk d.p (d.nA + 1) (fu d.an d.nA v) d.nT d.tn d.tk d.tf d.T d.ev d.kp d.sd d.sn d.sb d.n d.E)
def addT (d : Zd) (v k f : Int) : Zd := (Zd.mk d.p d.nA d.an (d.nT + 1) (fu d.tn d.nT v) (fu d.tk d.nT k) (fu d.tf d.nT f) d.T d.ev d.kp d.sd d.sn d.sb d.n d.E)
def gix (k s : Int) : Int := 2 * k + s - 1
def addSt (T : TT) (i o f x : Int) : TT := (fu T.1 i (T.1 i + 1), fu T.2.1 (4 * i + T.1 i) o, fu T.2.2.1 (4 * i + T.1 i) f, fu T.2.2.2 (4 * i + T.1 i) x)
def addS (d : Zd) (i o f x : Int) : Zd := (Zd.mk d.p d.nA d.an d.nT d.tn d.tk d.tf (addSt d.T i o f x) d.ev d.kp d.sd d.sn d.sb d.n d.E)
def ev8 (k a o t s x y w : Int) : Int → Int := fun f => if f = 0 then k else if f = 1 then a else if f = 2 then o else if f = 3 then t else if f = 4 then s else if f = 5 then x else if f = 6 then y else w
def addEE (d : Zd) (v : Int → Int) : Int → Int → Int := fun e => if e = d.n then v else d.E e
theorem addEE_n {d : Zd} {v : Int → Int} : addEE d v d.n = v := if_pos rfl
theorem addEE_o {d : Zd} {v : Int → Int} {e : Int} (h : e ≠ d.n) : addEE d v e = d.E e := if_neg h
def addE (d : Zd) (k a o t s x y w : Int) : Zd := (Zd.mk d.p d.nA d.an d.nT d.tn d.tk d.tf d.T d.ev d.kp d.sd d.sn d.sb (d.n + 1) (addEE d (ev8 k a o t s x y w)))
noncomputable def zl_acc (b : Int → Int) (n : Int) (d : Zd) : ZX :=
  zb (zck (znam b n (zadv b n (zroom d d.nA 8))).2 (fun d3 => decide (fnd d3.an d3.nA (znam b n (zadv b n (zroom d d.nA 8))).1 = -1)) 3 (zpl (zadv b n (zroom d d.nA 8)))) (fun d4 => .ok (addA d4 (znam b n (zadv b n (zroom d d.nA 8))).1))
/-- the pieces of a LIFT -/
noncomputable def zf_a (b : Int → Int) (n : Int) (d : Zd) : Int × ZX := zword b n (zadv b n (.ok d)) 0 6
noncomputable def zf_e (b : Int → Int) (n : Int) (d : Zd) : Int × ZX := znum b n (zf_a b n d).2 1 2
noncomputable def zf_4 (b : Int → Int) (n : Int) (d : Zd) : ZX := zck (zf_e b n d).2 (fun d4 => decide (d4.T.1 (gix (zf_a b n d).1 (zf_e b n d).1) < 4)) 2 (zpl (zf_a b n d).2)
noncomputable def zf_o (b : Int → Int) (n : Int) (d : Zd) : Int × ZX := zword b n (zf_4 b n d) 8 11
noncomputable def zf_f (b : Int → Int) (n : Int) (d : Zd) : Int × ZX := znum b n (zf_o b n d).2 1 3
noncomputable def zf_x (b : Int → Int) (n : Int) (d : Zd) : Int × ZX := if (zf_o b n d).1 = 11 then znum b n (zf_f b n d).2 1 3 else znum b n (zf_f b n d).2 0 999
noncomputable def zl_lift (b : Int → Int) (n : Int) (d : Zd) : ZX := zb (zf_x b n d).2 (fun d5 => .ok (addS d5 (gix (zf_a b n d).1 (zf_e b n d).1) (zf_o b n d).1 (zf_f b n d).1 (zf_x b n d).1))
/-- the pieces of a TALLY -/
noncomputable def zt_a (b : Int → Int) (n : Int) (d : Zd) : Int × ZX := znam b n (zadv b n (zroom d d.nT 4))
noncomputable def zt_3 (b : Int → Int) (n : Int) (d : Zd) : ZX := zck (zt_a b n d).2 (fun d3 => decide (fnd d3.tn d3.nT (zt_a b n d).1 = -1)) 3 (zpl (zadv b n (zroom d d.nT 4)))
noncomputable def zt_k (b : Int → Int) (n : Int) (d : Zd) : Int × ZX := zword b n (zt_3 b n d) 0 6
noncomputable def zt_f (b : Int → Int) (n : Int) (d : Zd) : Int × ZX := znum b n (zt_k b n d).2 1 3
noncomputable def zl_tally (b : Int → Int) (n : Int) (d : Zd) : ZX := zb (zt_f b n d).2 (fun d5 => .ok (addT d5 (zt_a b n d).1 (zt_k b n d).1 (zt_f b n d).1))
noncomputable def zn_1 (b : Int → Int) (n : Int) (d : Zd) : ZX := zadv b n (if d.sn = 0 then .ok (Zd.mk d.p d.nA d.an d.nT d.tn d.tk d.tf d.T d.ev d.kp d.sd 1 d.sb d.n d.E) else ZX.bad 3 d.p)
noncomputable def zn_2 (b : Int → Int) (n : Int) (d : Zd) : ZX := zb (znum b n (zn_1 b n d) 1 999).2 (fun d2 => .ok (Zd.mk d2.p d2.nA d2.an d2.nT d2.tn d2.tk d2.tf d2.T ((znum b n (zn_1 b n d) 1 999).1) d2.kp d2.sd d2.sn d2.sb d2.n d2.E))
noncomputable def zl_snap (b : Int → Int) (n : Int) (d : Zd) : ZX := zb (znum b n (zn_2 b n d) 0 6).2 (fun d2 => .ok (Zd.mk d2.p d2.nA d2.an d2.nT d2.tn d2.tk d2.tf d2.T d2.ev ((znum b n (zn_2 b n d) 0 6).1) d2.sd d2.sn d2.sb d2.n d2.E))
noncomputable def zs_1 (b : Int → Int) (n : Int) (d : Zd) : ZX := zadv b n (if d.sb = 0 then .ok (Zd.mk d.p d.nA d.an d.nT d.tn d.tk d.tf d.T d.ev d.kp d.sd d.sn 1 d.n d.E) else ZX.bad 3 d.p)
noncomputable def zl_seed (b : Int → Int) (n : Int) (d : Zd) : ZX := zb (znum b n (zs_1 b n d) 0 99999).2 (fun d2 => .ok (Zd.mk d2.p d2.nA d2.an d2.nT d2.tn d2.tk d2.tf d2.T d2.ev d2.kp ((znum b n (zs_1 b n d) 0 99999).1) d2.sn d2.sb d2.n d2.E))
/-- the pieces of a VOID -/
noncomputable def zv_a (b : Int → Int) (n : Int) (d : Zd) : Int × ZX := znum b n (zadv b n (zroom d d.n 50)) 0 2147483647
noncomputable def zv_3 (b : Int → Int) (n : Int) (d : Zd) : ZX := zck (zv_a b n d).2 (fun d3 => decide ((zv_a b n d).1 < d3.n ∧ zs d3 (9 * (zv_a b n d).1 + 0) ≠ 7)) 4 (zpl (zadv b n (zroom d d.n 50)))
noncomputable def zv_4 (b : Int → Int) (n : Int) (d : Zd) : ZX := zck (zv_3 b n d) (fun d3 => decide (zs d3 (9 * (zv_a b n d).1 + 8) = 0)) 3 (zpl (zadv b n (zroom d d.n 50)))
noncomputable def zv_t (b : Int → Int) (n : Int) (d : Zd) : Int × ZX := ztime b n (zv_4 b n d)
noncomputable def zl_void (b : Int → Int) (n : Int) (d : Zd) : ZX := zb (zv_t b n d).2 (fun d5 => .ok (addE d5 7 (-2) (zv_a b n d).1 (zv_t b n d).1 0 0 0 0))
/-- the pieces of an EVENT -/
noncomputable def ze_a (b : Int → Int) (n : Int) (d : Zd) : Int × ZX := zacc b n (zadv b n (zroom d d.n 50))
noncomputable def ze_o (b : Int → Int) (n : Int) (d : Zd) (k : Int) : Int × ZX := if k = 6 then zacc b n (ze_a b n d).2 else (-2, (ze_a b n d).2)
noncomputable def ze_3 (b : Int → Int) (n : Int) (d : Zd) (k : Int) : ZX := zck (ze_o b n d k).2 (fun _ => decide ((ze_o b n d k).1 ≠ (ze_a b n d).1)) 3 (zpl (ze_a b n d).2)
noncomputable def ze_t (b : Int → Int) (n : Int) (d : Zd) (k : Int) : Int × ZX := ztime b n (ze_3 b n d k)
noncomputable def ze_s (b : Int → Int) (n : Int) (d : Zd) (k : Int) : Int × ZX := znum b n (ze_t b n d k).2 1 3
noncomputable def ze_x (b : Int → Int) (n : Int) (d : Zd) (k : Int) : Int × ZX := znum b n (ze_s b n d k).2 0 99999
noncomputable def ze_y (b : Int → Int) (n : Int) (d : Zd) (k : Int) : Int × ZX := if 1 < (ze_s b n d k).1 then znum b n (ze_x b n d k).2 0 99999 else (0, (ze_x b n d k).2)
noncomputable def ze_w (b : Int → Int) (n : Int) (d : Zd) (k : Int) : Int × ZX := if 2 < (ze_s b n d k).1 then znum b n (ze_y b n d k).2 0 99999 else (0, (ze_y b n d k).2)
noncomputable def zl_event (b : Int → Int) (n : Int) (d : Zd) (k : Int) : ZX := zb (ze_w b n d k).2 (fun d5 => .ok (addE d5 k (ze_a b n d).1 (ze_o b n d k).1 (ze_t b n d k).1 (ze_s b n d k).1 (ze_x b n d k).1 (ze_y b n d k).1 (ze_w b n d k).1))
noncomputable def zbody (b : Int → Int) (n : Int) (d : Zd) : ZX := if tki b n d.p ≠ 0 ∨ (8 ≤ tv b n d.p ∧ tv b n d.p ≤ 11) then ZX.bad 1 d.p else if tv b n d.p ≤ 6 then zl_event b n d (tv b n d.p) else if tv b n d.p = 7 then zl_void b n d else if tv b n d.p = 12 then zl_acc b n d else if tv b n d.p = 13 then zl_lift b n d else if tv b n d.p = 14 then zl_tally b n d else if tv b n d.p = 15 then zl_snap b n d else zl_seed b n d
noncomputable def zline (b : Int → Int) (n : Int) (d : Zd) : ZX := zstop b n (zbody b n d)
noncomputable def zloop (b : Int → Int) (n : Int) : Nat → ZX → Int → Int × ZX
  | 0, X, l => (l, X)
  | _ + 1, .error (f, w), l => (l, ZX.bad f w)
  | m + 1, .ok d, l => if tki b n d.p = 4 then (l, .ok d) else zloop b n m (zline b n d) (l + 1)
def zd0 (p : Int) : Zd := (Zd.mk p 0 (fun _ => 0) 0 (fun _ => 0) (fun _ => 0) (fun _ => 0) ((fun _ => 0, fun _ => 0, fun _ => 0, fun _ => 0)) 20 3 0 0 0 0 (fun _ _ => 0))
/-- only the place goes on -/
def zsm (n lo : Int) (C : Prop) (d0 : Zd) (X : ZX) : Prop := ∀ d : Zd, X = .ok d → C ∧ (lo ≤ d.p ∧ d.p ≤ n) ∧ d = (Zd.mk d.p d0.nA d0.an d0.nT d0.tn d0.tk d0.tf d0.T d0.ev d0.kp d0.sd d0.sn d0.sb d0.n d0.E)
theorem zsm_bad {n lo : Int} {C : Prop} {d0 : Zd} {f w : Int} : zsm n lo C d0 (ZX.bad f w) := fun d e => by cases e
theorem zsm_adv {b : Int → Int} {n lo : Int} {C : Prop} {d0 : Zd} {X : ZX} (hb : TxB b n) (hl : 0 ≤ lo) (h : zsm n lo C d0 X) : zsm n lo C d0 (zadv b n X) := by
  cases X with
  | error q => obtain ⟨f, w⟩ := q; exact zsm_bad
  | ok d =>
    intro d' e
    obtain ⟨h1, h2, h3⟩ := h d rfl
    have hp := nxp_b hb (p := d.p) (by omega)
    cases e
    refine ⟨h1, ⟨by show lo ≤ nxp b n d.p; omega, hp.1.2⟩, ?_⟩
    rw [h3]
theorem zsm_b {n lo : Int} {C : Prop} {d0 : Zd} {X : ZX} {f : Zd → ZX} (h : zsm n lo C d0 X) (hf : ∀ d : Zd, X = .ok d → zsm n lo C d0 (f d)) : zsm n lo C d0 (zb X f) := by
  cases X with
  | error q => obtain ⟨f, w⟩ := q; exact zsm_bad
  | ok d => exact hf d rfl
theorem zsm_ck {n lo : Int} {C : Prop} {d0 : Zd} {X : ZX} {c : Zd → Bool} {f w : Int} (h : zsm n lo C d0 X) : zsm n lo C d0 (zck X c f w) := by
  unfold zck
  refine zsm_b h (fun d e => ?_)
  by_cases hc : c d = true
  · rw [if_pos hc]; rw [e] at h; exact h
  · rw [if_neg hc]; exact zsm_bad
theorem zsm_ck2 {n lo : Int} {C D : Prop} {d0 : Zd} {X : ZX} {c : Zd → Bool} {f w : Int} (h : zsm n lo C d0 X) (hD : ∀ p : Int, c (Zd.mk p d0.nA d0.an d0.nT d0.tn d0.tk d0.tf d0.T d0.ev d0.kp d0.sd d0.sn d0.sb d0.n d0.E) = true → D) : zsm n lo (C ∧ D) d0 (zck X c f w) := by
  cases X with
  | error q => obtain ⟨f, w⟩ := q; exact zsm_bad
  | ok d =>
    intro d' e
    have e2 : (if c d = true then Except.ok d else ZX.bad f w) = .ok d' := e
    by_cases hc : c d = true
    · rw [if_pos hc] at e2
      cases e2
      obtain ⟨h1, h2, h3⟩ := h d rfl
      exact ⟨⟨h1, hD d.p (by rw [← h3]; exact hc)⟩, h2, h3⟩
    · rw [if_neg hc] at e2; cases e2
theorem zsm_num {b : Int → Int} {n lo : Int} {C : Prop} {d0 : Zd} {X : ZX} {l u : Int} (hb : TxB b n) (hl : 0 ≤ lo) (h : zsm n lo C d0 X) : zsm n lo (C ∧ (l ≤ (znum b n X l u).1 ∧ (znum b n X l u).1 ≤ u)) d0 (znum b n X l u).2 := by
  cases X with
  | error q => obtain ⟨f, w⟩ := q; exact zsm_bad
  | ok d =>
    unfold znum
    by_cases h1 : tki b n d.p ≠ 2
    · simp only [if_pos h1]; exact zsm_bad
    · simp only [if_neg h1]
      by_cases h2 : tv b n d.p < l ∨ u < tv b n d.p
      · simp only [if_pos h2]; exact zsm_bad
      · simp only [if_neg h2]
        intro d' e
        obtain ⟨a1, a2, a3⟩ := zsm_adv hb hl h d' e
        exact ⟨⟨a1, by omega⟩, a2, a3⟩
theorem zsm_word {b : Int → Int} {n lo : Int} {C : Prop} {d0 : Zd} {X : ZX} {l u : Int} (hb : TxB b n) (hl : 0 ≤ lo) (h : zsm n lo C d0 X) : zsm n lo (C ∧ (l ≤ (zword b n X l u).1 ∧ (zword b n X l u).1 ≤ u)) d0 (zword b n X l u).2 := by
  cases X with
  | error q => obtain ⟨f, w⟩ := q; exact zsm_bad
  | ok d =>
    unfold zword
    by_cases h2 : tki b n d.p ≠ 0 ∨ tv b n d.p < l ∨ u < tv b n d.p
    · simp only [if_pos h2]; exact zsm_bad
    · simp only [if_neg h2]
      intro d' e
      obtain ⟨a1, a2, a3⟩ := zsm_adv hb hl h d' e
      exact ⟨⟨a1, by omega⟩, a2, a3⟩
theorem zsm_nam {b : Int → Int} {n lo : Int} {C : Prop} {d0 : Zd} {X : ZX} (hb : TxB b n) (hl : 0 ≤ lo) (h : zsm n lo C d0 X) : zsm n lo C d0 (znam b n X).2 := by
  cases X with
  | error q => obtain ⟨f, w⟩ := q; exact zsm_bad
  | ok d =>
    unfold znam
    by_cases h2 : tki b n d.p ≠ 1
    · simp only [if_pos h2]; exact zsm_bad
    · simp only [if_neg h2]; exact zsm_adv hb hl h
theorem znam_b {b : Int → Int} {n lo : Int} {C : Prop} {d0 : Zd} {X : ZX} (hb : TxB b n) (hl : 0 ≤ lo) (h : zsm n lo C d0 X) : 0 ≤ (znam b n X).1 ∧ (znam b n X).1 ≤ 1073741823 := by
  cases X with
  | error q => obtain ⟨f, w⟩ := q; exact ⟨Int.le_refl _, by show (0 : Int) ≤ _; omega⟩
  | ok d =>
    unfold znam
    obtain ⟨h1, h2, h3⟩ := h d rfl
    by_cases hk : tki b n d.p ≠ 1
    · simp only [if_pos hk]; omega
    · simp only [if_neg hk]
      exact (tk_b hb (p := d.p) (by omega)).2.2.2.2.1 (by omega)
theorem zsm_acc {b : Int → Int} {n lo : Int} {C : Prop} {d0 : Zd} {X : ZX} (hb : TxB b n) (hl : 0 ≤ lo) (h0 : 0 ≤ d0.nA) (h : zsm n lo C d0 X) : zsm n lo (C ∧ (0 ≤ (zacc b n X).1 ∧ (zacc b n X).1 < d0.nA)) d0 (zacc b n X).2 := by
  cases X with
  | error q => obtain ⟨f, w⟩ := q; exact zsm_bad
  | ok d =>
    unfold zacc
    by_cases h2 : tki b n d.p ≠ 1
    · simp only [if_pos h2]; exact zsm_bad
    · simp only [if_neg h2]
      by_cases h3 : fnd d.an d.nA (tv b n d.p) = -1
      · simp only [if_pos h3]; exact zsm_bad
      · simp only [if_neg h3]
        intro d' e
        obtain ⟨a1, a2, a3⟩ := zsm_adv hb hl h d' e
        obtain ⟨b1, b2, b3⟩ := h d rfl
        have e1 : d.nA = d0.nA := by rw [b3]
        have hf := fnd_in (f := d.an) (x := tv b n d.p) (n := d.nA) (by omega)
        exact ⟨⟨a1, by omega⟩, a2, a3⟩
theorem zacc_b {b : Int → Int} {n lo : Int} {C : Prop} {d0 : Zd} {X : ZX} (h0 : 0 ≤ d0.nA ∧ d0.nA ≤ 8) (h : zsm n lo C d0 X) : 0 ≤ (zacc b n X).1 ∧ (zacc b n X).1 ≤ 8 := by
  cases X with
  | error q => obtain ⟨f, w⟩ := q; exact ⟨Int.le_refl _, by show (0 : Int) ≤ _; omega⟩
  | ok d =>
    unfold zacc
    obtain ⟨b1, b2, b3⟩ := h d rfl
    have e1 : d.nA = d0.nA := by rw [b3]
    by_cases h2 : tki b n d.p ≠ 1
    · simp only [if_pos h2]; omega
    · simp only [if_neg h2]
      by_cases h3 : fnd d.an d.nA (tv b n d.p) = -1
      · simp only [if_pos h3]; omega
      · simp only [if_neg h3]
        have hf := fnd_in (f := d.an) (x := tv b n d.p) (n := d.nA) (by omega)
        omega
theorem zsm_time {b : Int → Int} {n lo : Int} {C : Prop} {d0 : Zd} {X : ZX} (hb : TxB b n) (hl : 0 ≤ lo) (hI : Inv d0) (h : zsm n lo C d0 X) : zsm n lo (C ∧ (0 ≤ (ztime b n X).1 ∧ (ztime b n X).1 ≤ 9999)) d0 (ztime b n X).2 := by
  cases X with
  | error q => obtain ⟨f, w⟩ := q; exact zsm_bad
  | ok d =>
    intro d' e
    obtain ⟨a1, a2, a3⟩ := zsm_num (l := tmin d) (u := 9999) hb hl h d' e
    obtain ⟨b1, b2, b3⟩ := h d rfl
    have hm : tmin d = tmin d0 := by rw [b3]; rfl
    have ht := tmin_b hI
    refine ⟨⟨a1.1, ?_⟩, a2, a3⟩
    have h2 := a1.2
    show 0 ≤ (znum b n (.ok d) (tmin d) 9999).1 ∧ (znum b n (.ok d) (tmin d) 9999).1 ≤ 9999
    omega
theorem zsm_mono {n lo : Int} {C D : Prop} {d0 : Zd} {X : ZX} (h : zsm n lo C d0 X) (hd : C → D) : zsm n lo D d0 X := fun d e => ⟨hd (h d e).1, (h d e).2⟩
theorem zstop_b {b : Int → Int} {n : Int} {X : ZX} {F : Zd → Zd} (h1 : ∀ d : Zd, (F d).p = d.p) (h2 : ∀ (d : Zd) (x : Int), F (Zd.mk x d.nA d.an d.nT d.tn d.tk d.tf d.T d.ev d.kp d.sd d.sn d.sb d.n d.E) = (Zd.mk x (F d).nA (F d).an (F d).nT (F d).tn (F d).tk (F d).tf (F d).T (F d).ev (F d).kp (F d).sd (F d).sn (F d).sb (F d).n (F d).E)) : zstop b n (zb X (fun d => .ok (F d))) = zb (zstop b n X) (fun d => .ok (F d)) := by
  cases X with
  | error q => obtain ⟨f, w⟩ := q; rfl
  | ok d =>
    show (if tki b n (F d).p ≠ 3 then ZX.bad 1 (F d).p else .ok (Zd.mk (nxp b n (F d).p) (F d).nA (F d).an (F d).nT (F d).tn (F d).tk (F d).tf (F d).T (F d).ev (F d).kp (F d).sd (F d).sn (F d).sb (F d).n (F d).E)) = zb (if tki b n d.p ≠ 3 then ZX.bad 1 d.p else .ok (Zd.mk (nxp b n d.p) d.nA d.an d.nT d.tn d.tk d.tf d.T d.ev d.kp d.sd d.sn d.sb d.n d.E)) (fun d => .ok (F d))
    rw [h1 d]
    by_cases hk : tki b n d.p ≠ 3
    · rw [if_pos hk, if_pos hk]; rfl
    · rw [if_neg hk, if_neg hk]
      exact congrArg Except.ok (h2 d (nxp b n d.p)).symm
theorem zsm_stop {b : Int → Int} {n lo : Int} {C : Prop} {d0 : Zd} {X : ZX} (hb : TxB b n) (hl : 0 ≤ lo) (h : zsm n lo C d0 X) : zsm n lo C d0 (zstop b n X) := by
  cases X with
  | error q => obtain ⟨f, w⟩ := q; exact zsm_bad
  | ok d =>
    show zsm n lo C d0 (if tki b n d.p ≠ 3 then ZX.bad 1 d.p else zadv b n (.ok d))
    by_cases hk : tki b n d.p ≠ 3
    · rw [if_pos hk]; exact zsm_bad
    · rw [if_neg hk]; exact zsm_adv hb hl h
