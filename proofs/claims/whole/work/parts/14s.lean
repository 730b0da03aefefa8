/-! SPECS, part s: TALLIES of the reference see. -/
def tyF (s v : Int → Int) : Nat → Int → (Int → Int) → Int → Int
  | 0, _, c => c
  | m + 1, p, c => tyF s v m (p + 1) (tyc s c v p)
theorem TcOk_tyc {s c v V : Int → Int} {p n : Int} (h : TcOk s c p n V) (hp : p < n) (hv : v p = 0 ∨ ((1 ≤ v p ∧ v p ≤ 1000001) ∧ v p = V p + 1)) (h120 : n ≤ 120) : TcOk s (tyc s c v p) (p + 1) n V := by
  refine ⟨by have := h.1; omega, fun e h0 h1 => ?_⟩
  have h2 := h.2 e h0 h1
  unfold tyc
  split
  · simp only [fu]
    split
    · exact Or.inl rfl
    · rcases h2 with h2 | h2
      · exact Or.inl h2
      · exact Or.inr ⟨⟨by omega, h2.1.2⟩, h2.2⟩
  · rename_i h7
    simp only [fu]
    split
    · rename_i h3
      subst h3
      rcases hv with hv | hv
      · exact Or.inl hv
      · exact Or.inr ⟨⟨by omega, h7⟩, hv⟩
    · rcases h2 with h2 | h2
      · exact Or.inl h2
      · exact Or.inr ⟨⟨by omega, h2.1.2⟩, h2.2⟩
def TyFr (g g' : ab_H) (b : Int) : Prop := (∀ c : Int, c ≠ 174 → c ≠ 178 → g' c = g c) ∧ ∀ j : Int, ¬ (b ≤ j ∧ j < b + 129) → g' 174 j = g 174 j
theorem TyFr_rfl {g : ab_H} {b : Int} : TyFr g g b := ⟨fun _ _ _ => rfl, fun _ _ => rfl⟩
theorem TyFr_tr {g g1 g2 : ab_H} {b : Int} (h : TyFr g g1 b) (h2 : TyFr g1 g2 b) : TyFr g g2 b := ⟨fun c a d => by rw [h2.1 c a d, h.1 c a d], fun j a => by rw [h2.2 j a, h.2 j a]⟩
theorem TyFr_up {g g1 : ab_H} {b k v : Int} (hg : g1 = ab_up g 174 k v) (hk : b ≤ k ∧ k < b + 129) : TyFr g g1 b := ⟨fun c a _ => by rw [hg, up_f a], fun j a => by rw [hg, up_k (by omega)]⟩
theorem TyFr_8 {g g1 : ab_H} {b : Int} (h : ∀ c : Int, c ≠ 178 → g1 c = g c) : TyFr g g1 b := ⟨fun c _ d => h c d, fun j _ => by rw [h 174 (by omega)]⟩
theorem EvS_TyFr {g g' : ab_H} {s : Int → Int} {b : Int} (h : EvS g s) (hf : TyFr g g' b) (hb : 1091 ≤ b) : EvS g' s := fun j h0 h1 => by rw [hf.2 j (by omega)]; exact h j h0 h1
theorem s_M_sees {K : Int} {S : Nat} {g r : ab_H} {t n k f ps vo b p : Int} {T : TT} {s c : Int → Int} (P : ab_H → ab_H → Prop) (hr : SI r) (hK : 186 ≤ K) (hT : TOk T) (hv : ReT g T) (hs : EvS g s) (hE : EvOk s n) (hn : n ≤ 120) (hp : g 161 34 = -1) (hps : g 161 35 = ps) (hps2 : -1 ≤ ps ∧ ps ≤ 7) (ht : 0 ≤ t ∧ t < 4) (hk : g 166 t = k) (hk2 : 0 ≤ k ∧ k ≤ 6) (hf : g 167 t = f) (hf2 : 1 ≤ f ∧ f ≤ 3) (hc : ∀ e : Int, 0 ≤ e → e < n → g 183 e = (rep s (LF T s (-1) (-1)) (BF T s (-1) (-1)) (-1) vo n).2.2.2.2 e) (hb : b = 1091 + 129 * t) (hty : TyV (g 174) b s p c) (hok : TcOk s c p n (fun e => LF T s (-1) (-1) e (f - 1))) (hpn : p < n) (h : ∀ g' : ab_H, TyFr g g' b → TyV (g' 174) b s p (tyc s c (cvn s (fun e => LF T s (-1) (-1) e (f - 1)) (rep s (LF T s (-1) (-1)) (BF T s (-1) (-1)) (-1) vo n).2.2.2.2 k) p) → ((cvn s (fun e => LF T s (-1) (-1) e (f - 1)) (rep s (LF T s (-1) (-1)) (BF T s (-1) (-1)) (-1) vo n).2.2.2.2 k p) = 0 ∨ ((1 ≤ (cvn s (fun e => LF T s (-1) (-1) e (f - 1)) (rep s (LF T s (-1) (-1)) (BF T s (-1) (-1)) (-1) vo n).2.2.2.2 k p) ∧ (cvn s (fun e => LF T s (-1) (-1) e (f - 1)) (rep s (LF T s (-1) (-1)) (BF T s (-1) (-1)) (-1) vo n).2.2.2.2 k p) ≤ 1000001) ∧ (cvn s (fun e => LF T s (-1) (-1) e (f - 1)) (rep s (LF T s (-1) (-1)) (BF T s (-1) (-1)) (-1) vo n).2.2.2.2 k p) = LF T s (-1) (-1) p (f - 1) + 1)) → P g' r) : ab_RV m_M_sees [(2, 161), (0, t), (0, p)] K S g r P := by
  have hp0 := hok.1
  have c0 := hE p hp0.1 hpn
  have s0 := hs (9 * p + 0) (by omega) (by omega)
  have s1 := hs (9 * p + 1) (by omega) (by omega)
  have s2 := hs (9 * p + 2) (by omega) (by omega)
  have hcvz : ∀ (V cau : Int → Int), cvn s V cau k p = 0 ∨ cvn s V cau k p = V p + 1 := by
    intro V cau
    unfold cvn
    split
    · exact Or.inl rfl
    · exact Or.inr rfl
  generalize hcv : (cvn s (fun e => LF T s (-1) (-1) e (f - 1)) (rep s (LF T s (-1) (-1)) (BF T s (-1) (-1)) (-1) vo n).2.2.2.2 k) = v at h
  have hvp : v p = 0 ∨ v p = LF T s (-1) (-1) p (f - 1) + 1 := by rw [← hcv]; exact hcvz _ _
  apply v_M_sees _ hr hK
  apply v_M_tallyAt _ hr hK
  rw [← hb]
  refine ⟨rfl, rfl, ?_⟩
  apply s_M_isVoid _ hr hK (by omega) (by omega)
  intro x hx
  rw [s0] at hx
  refine ⟨rfl, rfl, And.intro (fun h1 => ⟨by omega, ?_⟩) (fun h1 => ?_)⟩
  · have h7 : s (9 * p + 0) = 7 := by simp only [wr] at h1; omega
    have c7 := c0.2.2.2.1 h7
    have co := hE (s (9 * p + 2)) c7.1.1 (by omega)
    have co1 := co.2.1 c7.2.1
    have so1 := hs (9 * (s (9 * p + 2)) + 1) (by omega) (by omega)
    have hco := hty.2.1 (s (9 * p + 2)) (by omega) (by omega)
    have hoo := hok.2 (s (9 * p + 2)) (by omega) (by omega)
    have hv0 : v p = 0 := by
      rw [← hcv]
      unfold cvn
      rw [if_pos (Or.inl h7)]
    rw [s2, so1, hco]
    have ht7 : tyc s c v p = fu c (s (9 * p + 2)) 0 := by unfold tyc; rw [if_pos h7]
    rw [ht7] at h
    refine ⟨by omega, And.intro (fun h2 => ⟨by omega, by omega, by omega, by omega, fun g3 hg3 => ⟨by omega, fun g4 hg4 => ?_⟩⟩) (fun h2 => ?_)⟩
    · have h2' : c (s (9 * p + 2)) ≠ 0 := fun hc0 => h2 (by rw [hc0])
      have f3 := TyFr_up (b := b) hg3 (by omega)
      have f4 := TyFr_up (b := b) hg4 (by omega)
      refine h g4 (TyFr_tr f3 f4) ⟨?_, fun e h3 h4 => ?_, fun a h3 h4 => ?_⟩ (Or.inl hv0)
      · rw [hg4, up_k (by omega), hg3, up_k (by omega)]; exact hty.1
      · rw [hg4, up_i]
        simp only [fu]
        by_cases h5 : e = s (9 * p + 2)
        · rw [if_pos (by omega), if_pos h5]
        · rw [if_neg (by omega), if_neg h5, hg3, up_k (by omega)]; exact hty.2.1 e h3 h4
      · have ha := hty.2.2 a h3 h4
        rw [tcn_fu, psm_fu (by omega) (by omega), hg4, up_k (by omega), hg3, up_i]
        rw [if_neg (by omega : ¬ ((0 : Int) ≠ 0 ∧ s (9 * s (9 * p + 2) + 1) = a))]
        unfold tcn
        by_cases h5 : s (9 * s (9 * p + 2) + 1) = a
        · rw [if_pos (by omega), if_pos ⟨h2', h5⟩, h5, ha]
          unfold tcn
          omega
        · rw [if_neg (by omega), if_neg (fun hh => h5 hh.2), ha]
          unfold tcn
          omega
    · have h2' : c (s (9 * p + 2)) = 0 := by
        rcases hoo with hoo | hoo
        · exact hoo
        · simp only [wr] at h2; omega
      have hcc : fu c (s (9 * p + 2)) 0 = c := by
        funext i
        simp only [fu]
        split
        · rename_i h3; rw [h3, h2']
        · rfl
      rw [hcc] at h
      exact h g TyFr_rfl hty (Or.inl hv0)
  · have h7 : s (9 * p + 0) ≠ 7 := by simp only [wr] at h1; omega
    have c1 := c0.2.1 h7
    have ht7 : tyc s c v p = fu c p (v p) := by unfold tyc; rw [if_neg h7]
    rw [ht7] at h
    have hcp : c p = 0 := by
      rcases hok.2 p (by omega) (by omega) with h2 | h2
      · exact h2
      · omega
    apply s_M_counts (n := n) (vo := vo) _ hr hK hT hv hs hE hn ⟨hp0.1, hpn⟩ hp hps hps2 ht hk hk2 hf hf2 (hc p hp0.1 hpn)
    intro y g5 f5 hy hyb
    rw [hcv] at hy
    rw [← hy] at h hvp
    have hs5 : g5 174 = g 174 := f5 174 (by omega)
    refine ⟨rfl, by omega, fun g7 hg7 => ?_⟩
    have f7 : TyFr g g7 b := TyFr_tr (TyFr_8 f5) (TyFr_up hg7 (by omega))
    have f71 : g7 174 (9 * p + 1) = s (9 * p + 1) := by rw [hg7, up_k (by omega), hs5]; exact s1
    rw [f71]
    have base : ∀ e : Int, 0 ≤ e → e < 120 → g7 174 (b + 9 + e) = fu c p y e := by
      intro e h3 h4
      rw [hg7, up_i]
      simp only [fu]
      by_cases h5 : e = p
      · rw [if_pos (by omega), if_pos h5]
      · rw [if_neg (by omega), if_neg h5, hs5]; exact hty.2.1 e h3 h4
    have sum : ∀ a : Int, 0 ≤ a → a < 8 → psm (tcn s (fu c p y) a) 120 = g 174 (b + 1 + a) + (if y ≠ 0 ∧ s (9 * p + 1) = a then y - 1 else 0) := by
      intro a h3 h4
      rw [tcn_fu, psm_fu (by omega) (by omega), hty.2.2 a h3 h4]
      have : tcn s c a p = 0 := by unfold tcn; rw [if_neg (fun hh => hh.1 hcp)]
      omega
    refine And.intro (fun h2 => ?_) (fun h2 => ⟨by omega, by omega, by omega, fun g8 hg8 => ?_⟩)
    · have hy0 : y = 0 := by simp only [wr] at h2; omega
      refine h g7 f7 ⟨?_, base, fun a h3 h4 => ?_⟩ (by omega)
      · rw [hg7, up_k (by omega), hs5]; exact hty.1
      · rw [sum a h3 h4, if_neg (fun hh => hh.1 hy0), hg7, up_k (by omega), hs5]; omega
    · have hy0 : 1 ≤ y := by simp only [wr] at h2; omega
      refine h g8 (TyFr_tr f7 (TyFr_up hg8 (by omega))) ⟨?_, fun e h3 h4 => ?_, fun a h3 h4 => ?_⟩ (by omega)
      · rw [hg8, up_k (by omega), hg7, up_k (by omega), hs5]; exact hty.1
      · rw [hg8, up_k (by omega)]; exact base e h3 h4
      · rw [sum a h3 h4, hg8, up_i]
        by_cases h5 : a = s (9 * p + 1)
        · rw [if_pos (by omega), if_pos ⟨by omega, h5.symm⟩, hg7, up_k (by omega), hs5, h5]
        · rw [if_neg (by omega), if_neg (fun hh => h5 hh.2.symm), hg7, up_k (by omega), hs5]; omega
theorem l_M_see {K : Int} {S : Nat} {r : ab_H} {t n k f ps vo b nn sn : Int} {T : TT} {s : Int → Int} (P : Int → ab_H → ab_H → Prop) (hr : SI r) (hK : 186 ≤ K) (hT : TOk T) (hE : EvOk s n) (hn : 0 ≤ n ∧ n ≤ 120) (hps2 : -1 ≤ ps ∧ ps ≤ 7) (ht : 0 ≤ t ∧ t < 4) (hk2 : 0 ≤ k ∧ k ≤ 6) (hf2 : 1 ≤ f ∧ f ≤ 3) (hb : b = 1091 + 129 * t) (hnn : 1 ≤ nn ∧ nn ≤ 120) (hsn : sn ≤ nn) : ∀ (m : Nat) (i p : Int) (c : Int → Int) (g : ab_H), 0 ≤ i → i + m = sn → (sn = nn ∨ p + m = n) → p + m ≤ n → ReT g T → EvS g s → g 174 1080 = n → g 161 34 = -1 → g 161 35 = ps → g 166 t = k → g 167 t = f → (∀ e : Int, 0 ≤ e → e < n → g 183 e = (rep s (LF T s (-1) (-1)) (BF T s (-1) (-1)) (-1) vo n).2.2.2.2 e) → TyV (g 174) b s p c → TcOk s c p n (fun e => LF T s (-1) (-1) e (f - 1)) → (∀ g' : ab_H, TyFr g g' b → TyV (g' 174) b s (p + m) (tyF s (cvn s (fun e => LF T s (-1) (-1) e (f - 1)) (rep s (LF T s (-1) (-1)) (BF T s (-1) (-1)) (-1) vo n).2.2.2.2 k) m p c) → TcOk s (tyF s (cvn s (fun e => LF T s (-1) (-1) e (f - 1)) (rep s (LF T s (-1) (-1)) (BF T s (-1) (-1)) (-1) vo n).2.2.2.2 k) m p c) (p + m) n (fun e => LF T s (-1) (-1) e (f - 1)) → P sn g' r) → ab_Rn m_M_see 35 [some (2, 161), some (0, t), some (0, nn), some (0, b), some (0, i)] [] (K, S, g, r) (ab_Qi K S P)
  | 0, i, p, c, g, h0, hi, hor, hpn, hv, hs, hm, hp, hps, hk, hf, hc, hty, hok, h => by
    have his : i = sn := by omega
    subst his
    have hp0 := hok.1
    have hh := h g TyFr_rfl (by rw [show p + ((0 : Nat) : Int) = p by omega]; exact hty) (by rw [show p + ((0 : Nat) : Int) = p by omega]; exact hok)
    apply v_M_see_35 _ hr hK
    refine And.intro (fun _ => hh) (fun h1 => ⟨by omega, ?_⟩)
    apply s_M_many _ hr hK
    rw [hm, show b + 0 = b by omega, hty.1]
    refine ⟨rfl, rfl, And.intro (fun _ => hh) (fun h2 => ?_)⟩
    exfalso
    simp only [wr] at h1 h2
    omega
  | m + 1, i, p, c, g, h0, hi, hor, hpn, hv, hs, hm, hp, hps, hk, hf, hc, hty, hok, h => by
    have hp0 := hok.1
    apply v_M_see_35 _ hr hK
    refine And.intro (fun h1 => absurd h1 (by simp only [wr]; omega)) (fun _ => ⟨by omega, ?_⟩)
    apply s_M_many _ hr hK
    rw [hm, show b + 0 = b by omega, hty.1]
    refine ⟨rfl, rfl, And.intro (fun h1 => absurd h1 (by simp only [wr]; omega)) (fun _ => ⟨by omega, ?_⟩)⟩
    apply s_M_sees (n := n) (vo := vo) (c := c) _ hr hK hT hv hs hE hn.2 hp hps hps2 ht hk hk2 hf hf2 hc hb hty hok (by omega)
    intro g2 f2 hty2 hvb
    refine ⟨rfl, by omega, by omega, fun g4 hg4 => ?_⟩
    rw [hty2.1] at hg4
    have f4 : TyFr g g4 b := TyFr_tr f2 (TyFr_up hg4 (by omega))
    have hty4 : TyV (g4 174) b s (p + 1) (tyc s c (cvn s (fun e => LF T s (-1) (-1) e (f - 1)) (rep s (LF T s (-1) (-1)) (BF T s (-1) (-1)) (-1) vo n).2.2.2.2 k) p) := ⟨by rw [hg4, up_s], fun e h3 h4 => by rw [hg4, up_k (by omega)]; exact hty2.2.1 e h3 h4, fun a h3 h4 => by rw [hg4, up_k (by omega)]; exact hty2.2.2 a h3 h4⟩
    refine l_M_see P hr hK hT hE hn hps2 ht hk2 hf2 hb hnn hsn m (i + 1) (p + 1) _ g4 (by omega) (by omega) (by omega) (by omega) (ReT_mono hv (fun c' h3 h4 => f4.1 c' (by omega) (by omega))) (EvS_TyFr hs f4 (by omega)) (by rw [f4.2 1080 (by omega)]; exact hm) (by rw [f4.1 161 (by omega) (by omega)]; exact hp) (by rw [f4.1 161 (by omega) (by omega)]; exact hps) (by rw [f4.1 166 (by omega) (by omega)]; exact hk) (by rw [f4.1 167 (by omega) (by omega)]; exact hf) (fun e h3 h4 => by rw [f4.1 183 (by omega) (by omega)]; exact hc e h3 h4) hty4 (TcOk_tyc hok (by omega) hvb hn.2) (fun g' f' hty' hok' => h g' (TyFr_tr f4 f') ?_ ?_)
    · rw [show p + ((m + 1 : Nat) : Int) = p + 1 + m by omega]; exact hty'
    · rw [show p + ((m + 1 : Nat) : Int) = p + 1 + m by omega]; exact hok'
