/-! THE LAW'S BODY: what a call never touches: what lies below 0, and the law's own long. -/
def pr_op (o : ab_O) : Bool := !Nat.beq o.1 51 && (Nat.blt o.1 38 || Nat.blt 41 o.1 || decide (o.2.2.1 ≠ 103))
theorem pr_C : (List.range 245).all (fun k => (ab_cod k).all pr_op) = true := by decide +kernel
theorem pr_ok {k i : Nat} {o : ab_O} (hk : k < 245) (h : ab_nth (ab_cod k) i = some o) : o.1 ≠ 51 ∧ (o.1 < 38 ∨ 41 < o.1 ∨ o.2.2.1 ≠ 103) := by
  have h1 := List.all_eq_true.mp (List.all_eq_true.mp pr_C k (List.mem_range.mpr hk)) o (ab_nth_mem h)
  simp only [pr_op, Bool.and_eq_true, Bool.or_eq_true, Bool.not_eq_true', decide_eq_true_eq] at h1
  refine ⟨fun e => ?_, ?_⟩
  · rw [e] at h1; exact absurd h1.1 (by decide)
  · rcases h1.2 with (h2 | h2) | h2
    · exact Or.inl (ab_blt h2)
    · exact Or.inr (Or.inl (ab_blt h2))
    · exact Or.inr (Or.inr h2)
def Prt (c : Int) : Prop := c < 0 ∨ c = 185
theorem prt_ne {c a : Int} (hc : Prt c) (h0 : 0 ≤ a) (h1 : (ab_kd a).1 ≠ 103) : c ≠ a := by
  rcases hc with hc | hc
  · omega
  · intro e
    rw [← e, hc] at h1
    exact h1 (by decide +kernel)
theorem prt_new {c K : Int} (hc : Prt c) (h0 : 187 ≤ K) (h1 : K < 187) : c ≠ ab_nm K := by omega
theorem prt_cpy {g : ab_H} {s sp d dp n c : Int} (h : c ≠ d) : ab_cpy g s sp d dp n c = g c := by
  funext j
  simp [ab_cpy, h]
theorem ab_ex_prt {o : ab_O} {L : ab_F} {st : List ab_V} {w : ab_W} {q : Nat × ab_F × List ab_V × ab_W} (h51 : o.1 ≠ 51) (hput : o.1 < 38 ∨ 41 < o.1 ∨ o.2.2.1 ≠ 103) (hK : 187 ≤ w.1) (h : ab_ex o L st w = some q) : ∀ c : Int, Prt c → q.2.2.2.2.2.1 c = w.2.2.1 c ∧ q.2.2.2.2.2.2 c = w.2.2.2 c := by
  unfold ab_ex at h
  split at h
  all_goals first
    | (cases h; exact fun c _ => ⟨rfl, rfl⟩)
    | (split at h
       · rename_i hg
         cases h
         first
           | exact fun c _ => ⟨rfl, rfl⟩
           | exact fun c hc => ⟨ab_up_ne (prt_ne hc (by omega) (by omega)), rfl⟩
           | exact fun c hc => ⟨rfl, ab_up_ne (prt_ne hc (by omega) (by omega))⟩
           | exact fun c hc => ⟨ab_new_ne (prt_new hc hK (by omega)), ab_new_ne (prt_new hc hK (by omega))⟩
           | exact fun c hc => ⟨prt_cpy (prt_ne hc (by omega) (by omega)), rfl⟩
       · cases h)
    | (split at h
       · cases h
       · cases h
         exact fun c _ => ⟨rfl, rfl⟩)
    | (exfalso; omega)
theorem ab_run_prt : ∀ (n k i : Nat) {L : ab_F} {st : List ab_V} {w : ab_W} {x : List ab_V × ab_W}, k < 245 → 187 ≤ w.1 → ab_run n k i L st w = some x → ∀ c : Int, Prt c → x.2.2.2.1 c = w.2.2.1 c ∧ x.2.2.2.2 c = w.2.2.2 c := by
  intro n
  induction n with
  | zero => intro k i L st w x _ _ h; simp [ab_run] at h
  | succ n ih =>
    intro k i L st w x hk hK h
    rw [ab_run] at h
    split at h
    · cases h; exact fun c _ => ⟨rfl, rfl⟩
    · cases hs : ab_sp (fun k' L' w' => ab_run n k' 0 L' [] w') k i L st w with
      | none => rw [hs] at h; cases h
      | some q =>
        rw [hs] at h
        have hm := ab_sp_mono hs
        have h2 := ih _ _ hk (Int.le_trans hK hm.1) h
        have h3 : ∀ c : Int, Prt c → q.2.2.2.2.2.1 c = w.2.2.1 c ∧ q.2.2.2.2.2.2 c = w.2.2.2 c := by
          unfold ab_sp at hs
          cases ho : ab_nth (ab_cod k) i with
          | none => rw [ho] at hs; cases hs
          | some o =>
            have hpr := pr_ok hk ho
            rw [ho] at hs
            dsimp only at hs
            split at hs
            · split at hs
              · rename_i hc
                simp only [Bool.and_eq_true] at hc
                have hok := hc.1
                simp only [ab_okc, Bool.and_eq_true] at hok
                split at hs
                · cases hs
                · rename_i y hy
                  split at hs
                  · cases hs
                    have h9 := ih _ _ (ab_blt hok.1.1.1.1) hK hy
                    exact h9
                  · cases hs
              · cases hs
            · exact ab_ex_prt hpr.1 hpr.2 hK hs
        exact fun c hc => ⟨(h2 c hc).1.trans (h3 c hc).1, (h2 c hc).2.trans (h3 c hc).2⟩
theorem RI_prt {k : Nat} {av : List ab_V} {S : Nat} {K : Int} {g r : ab_H} {P : Int → ab_H → ab_H → Prop} (hk : k < 245) (hK : 187 ≤ K) (h : ab_RI k av K S g r P) : ab_RI k av K S g r (fun x g1 r1 => P x g1 r1 ∧ ∀ c : Int, Prt c → g1 c = g c ∧ r1 c = r c) := by
  obtain ⟨n, v, w', hr, x, g1, r1, h1, h2, h3⟩ := h
  have h4 := ab_run_prt n k 0 hk (w := (K, S, g, r)) hK hr
  rw [h2] at h4
  exact ⟨n, v, w', hr, x, g1, r1, h1, h2, h3, h4⟩
