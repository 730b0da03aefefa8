/-! SPECS, part zzx: text, the reference's LINES of SNAP, SEED, LIFT. -/
theorem u_flag {x : Mx} {X : ZX} {g : ab_H} {F : Zd → Zd} {j : Int} (hj : j = 14 ∨ j = 15) (h : MR x X g) (hF : ∀ d : Zd, F d = Zd.mk d.p d.nA d.an d.nT d.tn d.tk d.tf d.T d.ev d.kp d.sd (if j = 14 then 1 else d.sn) (if j = 15 then 1 else d.sb) d.n d.E) : MR x (zb X (fun d => .ok (F d))) (ab_up g 161 j 1) := by
  have f2 : ∀ y i : Int, ¬ (y = 161 ∧ i = j) → ab_up g 161 j 1 y i = g y i := fun y i a => up_n a
  have fc : ∀ y : Int, y ≠ 161 → ab_up g 161 j 1 y = g y := fun y a => up_f a
  have key : ∀ d : Zd, MB x d g → MB x (F d) (ab_up g 161 j 1) := by
    intro d hd
    obtain ⟨h1, h2, h3, h4, h5, h6⟩ := hd
    obtain ⟨d1, d2, d3, d4, d5, d6⟩ := h3
    rw [hF]
    refine ⟨⟨by rw [f2 161 17 (by omega)]; exact h1.1, fun i a b => by rw [fc 162 (by omega)]; exact h1.2 i a b⟩, by rw [f2 161 18 (by omega)]; exact h2, ⟨by rw [fc 163 (by omega)]; exact d1, fun i a b => by rw [fc 164 (by omega)]; exact d2 i a b, fun t a b => by rw [fc 165 (by omega), fc 166 (by omega), fc 167 (by omega)]; exact d3 t a b, fun i a b => by rw [fc 168 (by omega), fc 169 (by omega), fc 170 (by omega), fc 171 (by omega)]; exact d4 i a b, fun e a b => by rw [fc 172 (by omega), fc 173 (by omega)]; exact d5 e a b, ?_⟩, ?_, ⟨fun c i a b => by rw [fc c a]; exact h5.1 c i a b, fun i a => by rw [f2 161 i (by omega)]; exact h5.2.1 i a, fun i a => by rw [fc 163 (by omega)]; exact h5.2.2.1 i a, fun i a => by rw [fc 164 (by omega)]; exact h5.2.2.2.1 i a, fun c i a b e => by rw [fc c (by omega)]; exact h5.2.2.2.2.1 c i a b e, fun i a => by rw [fc 168 (by omega)]; exact h5.2.2.2.2.2.1 i a, fun c i a b e => by rw [fc c (by omega)]; exact h5.2.2.2.2.2.2 c i a b e⟩, by rw [f2 161 16 (by omega)]; exact h6⟩
    · have u : ∀ i y : Int, g 161 i = y → ab_up g 161 j 1 161 i = if j = i then 1 else y := by
        intro i y hy
        rw [up_i]
        by_cases e : i = j
        · rw [if_pos e, if_pos e.symm]
        · rw [if_neg e, if_neg (fun x => e x.symm)]; exact hy
      exact ⟨u 14 _ d6.1, u 15 _ d6.2⟩
    · refine ⟨h4.1, h4.2.1, h4.2.2.1, h4.2.2.2.1, h4.2.2.2.2.1, h4.2.2.2.2.2.1, ?_, h4.2.2.2.2.2.2.2⟩
      have h7 := h4.2.2.2.2.2.2.1
      show ((if j = 14 then 1 else d.sn) = 0 ∨ (if j = 14 then 1 else d.sn) = 1) ∧ ((if j = 15 then 1 else d.sb) = 0 ∨ (if j = 15 then 1 else d.sb) = 1)
      constructor <;> split <;> omega
  cases X with
  | error q =>
    obtain ⟨f, w⟩ := q
    obtain ⟨⟨d, hd⟩, h6, h7, h8⟩ := h
    exact ⟨⟨F d, key d hd⟩, by rw [f2 161 22 (by omega)]; exact h6, by rw [f2 161 23 (by omega)]; exact h7, h8⟩
  | ok d =>
    obtain ⟨h1, h2, h3, h4⟩ := h
    have hp : (F d).p = d.p := by rw [hF]
    refine ⟨key d h1, by rw [f2 161 22 (by omega)]; exact h2, by rw [hp]; exact h3, ?_⟩
    rw [hp]
    unfold TokM at h4 ⊢
    rw [f2 161 19 (by omega), f2 161 18 (by omega), f2 161 20 (by omega), f2 161 21 (by omega)]
    exact h4
theorem u_num163 {x : Mx} {X : ZX} {g : ab_H} {i v : Int} {F : Zd → Zd} (hi : 8 ≤ i ∧ i ≤ 10) (h : MR x X g) (hF : ∀ d : Zd, F d = Zd.mk d.p d.nA d.an d.nT d.tn d.tk d.tf d.T (if i = 8 then v else d.ev) (if i = 9 then v else d.kp) (if i = 10 then v else d.sd) d.sn d.sb d.n d.E) (hI : ∀ d : Zd, Inv d → Inv (F d)) : MR x (zb X (fun d => .ok (F d))) (ab_up g 163 i v) := by
  have f2 : ∀ y j : Int, ¬ (y = 163 ∧ j = i) → ab_up g 163 i v y j = g y j := fun y j a => up_n a
  have fc : ∀ y : Int, y ≠ 163 → ab_up g 163 i v y = g y := fun y a => up_f a
  have key : ∀ d : Zd, MB x d g → MB x (F d) (ab_up g 163 i v) := by
    intro d hd
    obtain ⟨h1, h2, h3, h4, h5, h6⟩ := hd
    have hI2 := hI d h4
    obtain ⟨d1, d2, d3, d4, d5, d6⟩ := h3
    rw [hF] at hI2 ⊢
    refine ⟨⟨by rw [fc 161 (by omega)]; exact h1.1, fun j a b => by rw [fc 162 (by omega)]; exact h1.2 j a b⟩, by rw [fc 161 (by omega)]; exact h2, ⟨?_, fun j a b => by rw [fc 164 (by omega)]; exact d2 j a b, fun t a b => by rw [fc 165 (by omega), fc 166 (by omega), fc 167 (by omega)]; exact d3 t a b, fun j a b => by rw [fc 168 (by omega), fc 169 (by omega), fc 170 (by omega), fc 171 (by omega)]; exact d4 j a b, fun e a b => by rw [fc 172 (by omega), fc 173 (by omega)]; exact d5 e a b, by rw [fc 161 (by omega)]; exact d6⟩, hI2, ⟨fun c j a b => by rw [fc c (by omega)]; exact h5.1 c j a b, fun j a => by rw [fc 161 (by omega)]; exact h5.2.1 j a, fun j a => by rw [f2 163 j (by omega)]; exact h5.2.2.1 j a, fun j a => by rw [fc 164 (by omega)]; exact h5.2.2.2.1 j a, fun c j a b e => by rw [fc c (by omega)]; exact h5.2.2.2.2.1 c j a b e, fun j a => by rw [fc 168 (by omega)]; exact h5.2.2.2.2.2.1 j a, fun c j a b e => by rw [fc c (by omega)]; exact h5.2.2.2.2.2.2 c j a b e⟩, by rw [fc 161 (by omega)]; exact h6⟩
    have u : ∀ j y : Int, g 163 j = y → ab_up g 163 i v 163 j = if i = j then v else y := by
      intro j y hy
      rw [up_i]
      by_cases e : j = i
      · rw [if_pos e, if_pos e.symm]
      · rw [if_neg e, if_neg (fun x => e x.symm)]; exact hy
    exact ⟨by rw [f2 _ _ (by omega)]; exact d1.1, by rw [f2 _ _ (by omega)]; exact d1.2.1, u 8 _ d1.2.2.1, u 9 _ d1.2.2.2.1, u 10 _ d1.2.2.2.2.1, by rw [f2 _ _ (by omega)]; exact d1.2.2.2.2.2⟩
  have f161 := fc 161 (by omega)
  cases X with
  | error q =>
    obtain ⟨f, w⟩ := q
    obtain ⟨⟨d, hd⟩, h6, h7, h8⟩ := h
    exact ⟨⟨F d, key d hd⟩, by rw [f161]; exact h6, by rw [f161]; exact h7, h8⟩
  | ok d =>
    obtain ⟨h1, h2, h3, h4⟩ := h
    have hp : (F d).p = d.p := by rw [hF]
    refine ⟨key d h1, by rw [f161]; exact h2, by rw [hp]; exact h3, ?_⟩
    rw [hp]
    unfold TokM at h4 ⊢
    rw [f161]
    exact h4
theorem u_snap2 {K : Int} {S : Nat} {r : ab_H} {x : Mx} {d : Zd} (P : ab_H → ab_H → Prop) (hr : SI r) (hK : 186 ≤ K) (hb : TxB x.b x.n) (h : ∀ g' : ab_H, MR x (zl_snap x.b x.n d) g' → P g' r) : ∀ g1 : ab_H, MR x (if d.sn = 0 then .ok (Zd.mk d.p d.nA d.an d.nT d.tn d.tk d.tf d.T d.ev d.kp d.sd 1 d.sb d.n d.E) else ZX.bad 3 d.p) g1 → ab_RV m_M_goOn [(2, 161)] K S g1 r (fun g2 r' => r' = r ∧ (ab_RI m_M_numeral [(2, 161), (0, 1), (0, 999)] K S g2 r (fun x5 g4 r' => r' = r ∧ (ab_RV m_M_reads [(2, 161), (0, 2), (0, x5)] K S g4 r (fun g6 r' => r' = r ∧ (ab_RI m_M_numeral [(2, 161), (0, 0), (0, 6)] K S g6 r (fun x9 g8 r' => r' = r ∧ (ab_RV m_M_reads [(2, 161), (0, 3), (0, x9)] K S g8 r (fun g10 r' => r' = r ∧ (P g10 r))))))))))  := by
  intro g1 k1
  apply u_goOn _ hr hK hb k1
  intro g2 k2 f2
  have k2' : MR x (zn_1 x.b x.n d) g2 := k2
  refine ⟨rfl, ?_⟩
  apply u_num _ hr hK hb k2' (by omega) (by omega)
  intro g4 k4 f4
  refine ⟨rfl, ?_⟩
  apply v_M_reads _ hr hK
  refine ⟨by omega, fun g6 hg6 => ⟨rfl, ?_⟩⟩
  have u1 := num_u (b := x.b) (n := x.n) (l := 1) (u := 999) (X := zn_1 x.b x.n d) (by omega)
  have k6 : MR x (zn_2 x.b x.n d) g6 := by
    rw [hg6]
    exact u_num163 (F := fun d2 => Zd.mk d2.p d2.nA d2.an d2.nT d2.tn d2.tk d2.tf d2.T (znum x.b x.n (zn_1 x.b x.n d) 1 999).1 d2.kp d2.sd d2.sn d2.sb d2.n d2.E) (by omega) k4 (fun d => by simp) (fun d hI => ⟨hI.1, hI.2.1, hI.2.2.1, hI.2.2.2.1, hI.2.2.2.2.1, ⟨u1, hI.2.2.2.2.2.1.2⟩, hI.2.2.2.2.2.2⟩)
  apply u_num _ hr hK hb k6 (by omega) (by omega)
  intro g8 k8 f8
  refine ⟨rfl, ?_⟩
  apply v_M_reads _ hr hK
  refine ⟨by omega, fun g10 hg10 => ⟨rfl, h g10 ?_⟩⟩
  have u2 := num_u (b := x.b) (n := x.n) (l := 0) (u := 6) (X := zn_2 x.b x.n d) (by omega)
  rw [hg10]
  exact u_num163 (F := fun d2 => Zd.mk d2.p d2.nA d2.an d2.nT d2.tn d2.tk d2.tf d2.T d2.ev (znum x.b x.n (zn_2 x.b x.n d) 0 6).1 d2.sd d2.sn d2.sb d2.n d2.E) (by omega) k8 (fun d => by simp) (fun d hI => ⟨hI.1, hI.2.1, hI.2.2.1, hI.2.2.2.1, hI.2.2.2.2.1, ⟨hI.2.2.2.2.2.1.1, u2, hI.2.2.2.2.2.1.2.2⟩, hI.2.2.2.2.2.2⟩)
theorem u_readSnap {K : Int} {S : Nat} {g r : ab_H} {x : Mx} {d : Zd} (P : ab_H → ab_H → Prop) (hr : SI r) (hK : 186 ≤ K) (hb : TxB x.b x.n) (hx : MR x (.ok d) g) (h : ∀ g' : ab_H, MR x (zl_snap x.b x.n d) g' → P g' r) : ab_RV m_M_readSnap [(2, 161)] K S g r P := by
  have e4 : g 161 14 = d.sn := hx.1.2.2.1.2.2.2.2.2.1
  have hs : d.sn = 0 ∨ d.sn = 1 := hx.1.2.2.2.1.2.2.2.2.2.2.1.1
  apply v_M_readSnap _ hr hK
  rw [e4]
  refine And.intro (fun e g1 hg1 => u_snap2 P hr hK hb h g1 ?_) (fun e => ?_)
  · have e0 : d.sn = 0 := by simp only [wr] at e; omega
    rw [if_pos e0, hg1]
    exact u_flag (j := 14) (F := fun d2 => Zd.mk d2.p d2.nA d2.an d2.nT d2.tn d2.tk d2.tf d2.T d2.ev d2.kp d2.sd 1 d2.sb d2.n d2.E) (by omega) hx (fun d => by simp)
  · have e0 : d.sn ≠ 0 := fun hh => e (by rw [hh])
    apply u_wrong _ hr hK hx (by omega)
    intro g8 k8 f8
    refine ⟨rfl, fun g14 hg14 => u_snap2 P hr hK hb h g14 ?_⟩
    rw [if_neg e0, hg14]
    exact u_flag (X := .error (3, d.p)) (j := 14) (F := fun d2 => Zd.mk d2.p d2.nA d2.an d2.nT d2.tn d2.tk d2.tf d2.T d2.ev d2.kp d2.sd 1 d2.sb d2.n d2.E) (by omega) k8 (fun d => by simp)
theorem u_seed2 {K : Int} {S : Nat} {r : ab_H} {x : Mx} {d : Zd} (P : ab_H → ab_H → Prop) (hr : SI r) (hK : 186 ≤ K) (hb : TxB x.b x.n) (h : ∀ g' : ab_H, MR x (zl_seed x.b x.n d) g' → P g' r) : ∀ g1 : ab_H, MR x (if d.sb = 0 then .ok (Zd.mk d.p d.nA d.an d.nT d.tn d.tk d.tf d.T d.ev d.kp d.sd d.sn 1 d.n d.E) else ZX.bad 3 d.p) g1 → ab_RV m_M_goOn [(2, 161)] K S g1 r (fun g2 r' => r' = r ∧ (ab_RI m_M_numeral [(2, 161), (0, 0), (0, 99999)] K S g2 r (fun x5 g4 r' => r' = r ∧ (ab_RV m_M_reads [(2, 161), (0, 4), (0, x5)] K S g4 r (fun g6 r' => r' = r ∧ (P g6 r)))))) := by
  intro g1 k1
  apply u_goOn _ hr hK hb k1
  intro g2 k2 f2
  have k2' : MR x (zs_1 x.b x.n d) g2 := k2
  refine ⟨rfl, ?_⟩
  apply u_num _ hr hK hb k2' (by omega) (by omega)
  intro g4 k4 f4
  refine ⟨rfl, ?_⟩
  apply v_M_reads _ hr hK
  refine ⟨by omega, fun g6 hg6 => ⟨rfl, h g6 ?_⟩⟩
  have u1 := num_u (b := x.b) (n := x.n) (l := 0) (u := 99999) (X := zs_1 x.b x.n d) (by omega)
  rw [hg6]
  exact u_num163 (F := fun d2 => Zd.mk d2.p d2.nA d2.an d2.nT d2.tn d2.tk d2.tf d2.T d2.ev d2.kp (znum x.b x.n (zs_1 x.b x.n d) 0 99999).1 d2.sn d2.sb d2.n d2.E) (by omega) k4 (fun d => by simp) (fun d hI => ⟨hI.1, hI.2.1, hI.2.2.1, hI.2.2.2.1, hI.2.2.2.2.1, ⟨hI.2.2.2.2.2.1.1, hI.2.2.2.2.2.1.2.1, u1⟩, hI.2.2.2.2.2.2⟩)
theorem u_readSeed {K : Int} {S : Nat} {g r : ab_H} {x : Mx} {d : Zd} (P : ab_H → ab_H → Prop) (hr : SI r) (hK : 186 ≤ K) (hb : TxB x.b x.n) (hx : MR x (.ok d) g) (h : ∀ g' : ab_H, MR x (zl_seed x.b x.n d) g' → P g' r) : ab_RV m_M_readSeed [(2, 161)] K S g r P := by
  have e4 : g 161 15 = d.sb := hx.1.2.2.1.2.2.2.2.2.2
  have hs : d.sb = 0 ∨ d.sb = 1 := hx.1.2.2.2.1.2.2.2.2.2.2.1.2
  apply v_M_readSeed _ hr hK
  rw [e4]
  refine And.intro (fun e g1 hg1 => u_seed2 P hr hK hb h g1 ?_) (fun e => ?_)
  · have e0 : d.sb = 0 := by simp only [wr] at e; omega
    rw [if_pos e0, hg1]
    exact u_flag (j := 15) (F := fun d2 => Zd.mk d2.p d2.nA d2.an d2.nT d2.tn d2.tk d2.tf d2.T d2.ev d2.kp d2.sd d2.sn 1 d2.n d2.E) (by omega) hx (fun d => by simp)
  · have e0 : d.sb ≠ 0 := fun hh => e (by rw [hh])
    apply u_wrong _ hr hK hx (by omega)
    intro g8 k8 f8
    refine ⟨rfl, fun g14 hg14 => u_seed2 P hr hK hb h g14 ?_⟩
    rw [if_neg e0, hg14]
    exact u_flag (X := .error (3, d.p)) (j := 15) (F := fun d2 => Zd.mk d2.p d2.nA d2.an d2.nT d2.tn d2.tk d2.tf d2.T d2.ev d2.kp d2.sd d2.sn 1 d2.n d2.E) (by omega) k8 (fun d => by simp)
