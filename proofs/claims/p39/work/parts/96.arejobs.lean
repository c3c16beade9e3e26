/-! ===== p39: the law's look at each job ===== -/
section
variable {n : Nat} {p d w r f s : Nat → Int} {σ : omH}
theorem s_X11_completion_v {v : Int} (hok : omOk n p d w r f s) (hc : omCv n p d w r f s σ) (h24 : σ 24 0 = 1) (h : 0 ≤ v ∧ v < n) : s_X11_completion v σ = some (Sum.inr (σ 28 v.toNat)) := by
  have hn := hok.1
  unfold s_X11_completion
  rw [(s_X11_needJob_eq hok hc ⟨by omega, by omega⟩).1 h, om_b0, Sum.elim_inr, s_X11_needPlan_eq.2 h24, om_b0, Sum.elim_inr, omw_id (by omega) (by omega), omg_t ⟨by omega, by omega⟩]
theorem s_X11_lateness_v {v : Int} (hok : omOk n p d w r f s) (hc : omCv n p d w r f s σ) (h24 : σ 24 0 = 1) (h : 0 ≤ v ∧ v < n) : s_X11_lateness v σ = some (Sum.inr (σ 28 v.toNat - d v.toNat)) := by
  have hn := hok.1
  unfold s_X11_lateness
  rw [(s_X11_needJob_eq hok hc ⟨by omega, by omega⟩).1 h, om_b0, Sum.elim_inr, s_X11_needPlan_eq.2 h24, om_b0, Sum.elim_inr, omw_id (by omega) (by omega), omg_t ⟨by omega, by omega⟩, omg_t ⟨by omega, by omega⟩, hc.2.2.1]
theorem s_X11_totals (hok : omOk n p d w r f s) (hc : omCv n p d w r f s σ) (h24 : σ 24 0 = 1) (hC : omCr n (σ 28)) : s_X11_maxLateness σ = some (Sum.inr (omTot n 0 d w (σ 28))) ∧ s_X11_lateJobs σ = some (Sum.inr (omTot n 1 d w (σ 28))) ∧ s_X11_completions σ = some (Sum.inr (omTot n 2 d w (σ 28))) ∧ s_X11_weightedCompletions σ = some (Sum.inr (omTot n 3 d w (σ 28))) ∧ s_X11_weightedTardiness σ = some (Sum.inr (omTot n 4 d w (σ 28))) := by
  have h0 := s_X11_needPlan_eq.2 h24
  refine ⟨?_, ?_, ?_, ?_, ?_⟩
  · unfold s_X11_maxLateness
    rw [h0, om_b0, Sum.elim_inr, s_X5_total_eq hok hc (c := 0) (by decide) hC, om_b0]
  · unfold s_X11_lateJobs
    rw [h0, om_b0, Sum.elim_inr, s_X5_total_eq hok hc (c := 1) (by decide) hC, om_b0]
  · unfold s_X11_completions
    rw [h0, om_b0, Sum.elim_inr, s_X5_total_eq hok hc (c := 2) (by decide) hC, om_b0]
  · unfold s_X11_weightedCompletions
    rw [h0, om_b0, Sum.elim_inr, s_X5_total_eq hok hc (c := 3) (by decide) hC, om_b0]
  · unfold s_X11_weightedTardiness
    rw [h0, om_b0, Sum.elim_inr, s_X5_total_eq hok hc (c := 4) (by decide) hC, om_b0]
end
theorem om_lt55 {C k n : Nat} (hk : k < n) (hn : n ≤ 10) (hC : C ≤ 40) : C + k < 55 := by omega
theorem om_lt55' {k n : Nat} (hk : k < n) (hn : n ≤ 10) : k < 55 := by omega
theorem om_wk {k n : Nat} (hk : k < n) (hn : n ≤ 10) : omw (k : Int) = (k : Int) := om_wn (by omega)
theorem om_rngd {a b : Int} (ha : 0 ≤ a ∧ a ≤ 1000) (hb : 0 ≤ b ∧ b ≤ 300) : -1000 ≤ a - b ∧ a - b ≤ 1000 := by omega
theorem om_t01 {α : Type} {c : Prop} [Decidable c] {a b : α} (h : c) : (if omw (if c then 1 else 0 : Int) = 0 then a else b) = b := by
  rw [if_pos h, if_neg om_ne10]
/-- one job's pieces -/
theorem l_L_areJobs_39_eq {j : Nat} {v2 v3 v4 v5 v6 v7 : Int} {P : List omPc} {σ : omH} (hP : omPC P σ) (hB : omPok 1000 P) (hj : j < 10) : ∀ (m k fuel : Nat), k + m = P.length → m < fuel → l_L_areJobs_39 v2 v3 v4 v5 v6 v7 (j : Int) σ fuel (omSm (j : Int) (P.drop m)) (omLa (j : Int) (P.drop m)) (k : Int) = some (omSm (j : Int) P, omLa (j : Int) P) := by
  have hl20 := hP.2.1
  intro m
  induction m with
  | zero =>
    intro k fuel hk hf
    obtain ⟨fuel, rfl⟩ : ∃ z, fuel = z + 1 := ⟨fuel - 1, by omega⟩
    have : k = P.length := by omega
    subst this
    rw [l_L_areJobs_39.eq_2, om_pc_len hP, om_b0, if_neg (Int.lt_irrefl _)]
    rfl
  | succ m ih =>
    intro k fuel hk hf
    obtain ⟨fuel, rfl⟩ : ∃ z, fuel = z + 1 := ⟨fuel - 1, by omega⟩
    obtain ⟨x, hx, hkx⟩ := om_cut hk
    have hBm : omPok 1000 (P.drop m) := hB.drop m
    rw [hx] at hBm
    have hx0 := hBm x List.mem_cons_self
    have hih := ih (k + 1) fuel (by omega) (by omega)
    rw [hx] at hih
    have e1 : ((k + 1 : Nat) : Int) = (k : Int) + 1 := by omega
    rw [e1] at hih
    have c1 := om_lt_w (show k < P.length by omega) hl20
    have k2 := s_X11_kindOf_at hP hkx
    have k3 := s_X11_whoseIs_at hP hkx
    have k4 := s_X11_startOf_at hP hkx hk
    have k6 := s_X11_endOf_at hP hkx
    rw [l_L_areJobs_39.eq_2, om_pc_len hP, om_b0, if_pos c1, k2, om_b0, Sum.elim_inr, k3, k6, k4]
    by_cases h0 : x.1 = 0 ∧ x.2.1 = (j : Int)
    · have e2 : omSm (j : Int) (x :: P.drop (m + 1)) = omSm (j : Int) (P.drop (m + 1)) + (x.2.2 - omNow (P.drop (m + 1))) := by
        show omSm (j : Int) (P.drop (m + 1)) + (if x.1 = 0 ∧ x.2.1 = (j : Int) then _ else _) = _
        rw [if_pos h0]
      have e3 : omLa (j : Int) (x :: P.drop (m + 1)) = x.2.2 := if_pos h0
      rw [e2, e3] at hih
      rw [h0.1, h0.2, if_pos om_eq00, om_b0, Sum.elim_inr, if_pos rfl, om_b0, if_neg om_ne10, om_b0, Sum.elim_inr, om_b0, Sum.elim_inr, om_b0, if_neg om_ne10, om_b0, Sum.elim_inr, om_b0]
      exact hih
    · have e2 : omSm (j : Int) (x :: P.drop (m + 1)) = omSm (j : Int) (P.drop (m + 1)) + 0 := by
        show omSm (j : Int) (P.drop (m + 1)) + (if x.1 = 0 ∧ x.2.1 = (j : Int) then _ else _) = _
        rw [if_neg h0]
      have e3 : omLa (j : Int) (x :: P.drop (m + 1)) = omLa (j : Int) (P.drop (m + 1)) := if_neg h0
      rw [e2, e3] at hih
      have e4 : (if omw x.1 = 0 then Option.bind (some (Sum.inr x.2.1 : Nat ⊕ Int)) (fun r14 => Sum.elim (fun u15 => none) (fun u15 => (if omw u15 = omw (j : Int) then some (1 : Int) else some 0)) r14) else some 0) = some 0 := by
        by_cases h1 : x.1 = 0
        · have h2 : ¬ x.2.1 = (j : Int) := fun h => h0 ⟨h1, h⟩
          rw [h1, if_pos om_eq00, om_b0, Sum.elim_inr, if_neg (by rw [om_w_small (by omega) (by omega), om_wn (by omega)]; exact h2)]
        · rw [if_neg (by rw [om_w_small (by omega) (by omega)]; exact h1)]
      rw [e4, om_b0, if_pos om_eq00, om_b0, if_pos om_eq00, om_b0]
      exact hih
/-- the greatest one, from -1000 on -/
def omM1 (n : Nat) (g : Nat → Int) : Int := max (-1000) (omMx n g)
theorem omTd_if {w x : Int} : (if 0 < x then w * x else 0) = w * max 0 x := by
  by_cases h : 0 < x
  · rw [if_pos h, Int.max_eq_right (by omega)]
  · rw [if_neg h, Int.max_eq_left (by omega), Int.mul_zero]
theorem om_max_w {a b : Int} (ha : -1000 ≤ a ∧ a ≤ 1000) (hb : -1000 ≤ b ∧ b ≤ 1000) : (if omw a < omw b then some b else some a) = some (max a b) := by
  rw [om_w_small ha.1 ha.2, om_w_small hb.1 hb.2]
  by_cases h : a < b
  · rw [if_pos h, Int.max_eq_right (by omega)]
  · rw [if_neg h, Int.max_eq_left (by omega)]
theorem omM1_rng {n k : Nat} {p d w r f s C : Nat → Int} (hok : omOk n p d w r f s) (hC : omCr n C) (hk : k ≤ n) : -1000 ≤ omM1 k (omCs 0 d w C) ∧ omM1 k (omCs 0 d w C) ≤ 1000 := by
  have h := omMx_lub (n := k) (g := omCs 0 d w C) (B := 1000) (by decide) (fun j hj => by
    have h1 := hC j (by omega)
    have h2 := hok.2.1 j (by omega)
    have e : omCs 0 d w C j = C j - d j := if_pos rfl
    omega)
  unfold omM1
  omega
theorem l_L_areJobs_21_eq {n : Nat} {p d w r f s : Nat → Int} {P : List omPc} {σ : omH} (hok : omOk n p d w r f s) (hc : omCv n p d w r f s σ) (hT : omTb n p d w r f s σ) (hP : omPC P σ) (h24 : σ 24 0 = 1) (hC : omCr n (σ 28)) (hB : omPok 1000 P) (hS : ∀ j, j < n → omSm (j : Int) P = p j ∧ omLa (j : Int) P = σ 28 j) : ∀ (m k fuel : Nat), k + m = n → m < fuel → l_L_areJobs_21 σ fuel (omM1 k (omCs 0 d w (σ 28))) (omSum k (omCs 1 d w (σ 28))) (omSum k (omCs 2 d w (σ 28))) (omSum k (omCs 3 d w (σ 28))) (omSum k (omCs 4 d w (σ 28))) 1 (k : Int) = some (omM1 n (omCs 0 d w (σ 28)), omSum n (omCs 1 d w (σ 28)), omSum n (omCs 2 d w (σ 28)), omSum n (omCs 3 d w (σ 28)), omSum n (omCs 4 d w (σ 28)), 1) := by
  have hn := hok.1
  have hl20 := hP.2.1
  intro m
  induction m with
  | zero =>
    intro k fuel hk hf
    obtain ⟨fuel, rfl⟩ : ∃ z, fuel = z + 1 := ⟨fuel - 1, by omega⟩
    have : k = n := by omega
    subst this
    rw [l_L_areJobs_21.eq_2, omg_t om_54, om_54n, hT.1, if_neg (Int.lt_irrefl _)]
  | succ m ih =>
    intro k fuel hk hf
    obtain ⟨fuel, rfl⟩ : ∃ z, fuel = z + 1 := ⟨fuel - 1, by omega⟩
    have hkn : k < n := by omega
    have ho := hok.2.1 k hkn
    have htj := hT.2.1 k hkn
    have hCk := hC k hkn
    have hin := l_L_areJobs_39_eq (j := k) (v2 := omM1 k (omCs 0 d w (σ 28))) (v3 := omSum k (omCs 1 d w (σ 28))) (v4 := omSum k (omCs 2 d w (σ 28))) (v5 := omSum k (omCs 3 d w (σ 28))) (v6 := omSum k (omCs 4 d w (σ 28))) (v7 := 1) hP hB (by omega) P.length 0 FU (by omega) (by rw [FU_eq]; omega)
    rw [om_drop_nil rfl, (hS k hkn).1, (hS k hkn).2] at hin
    have hin' : l_L_areJobs_39 (omM1 k (omCs 0 d w (σ 28))) (omSum k (omCs 1 d w (σ 28))) (omSum k (omCs 2 d w (σ 28))) (omSum k (omCs 3 d w (σ 28))) (omSum k (omCs 4 d w (σ 28))) 1 (k : Int) σ FU 0 0 0 = some (p k, σ 28 k) := hin
    have hv : (0 : Int) ≤ (k : Int) ∧ (k : Int) < n := ⟨Int.natCast_nonneg k, Int.ofNat_lt.mpr hkn⟩
    have k1 := s_X11_completion_v hok hc h24 hv
    have k2 := s_X11_lateness_v hok hc h24 hv
    rw [Int.toNat_natCast] at k1 k2
    have hih := ih (k + 1) fuel (by omega) (by omega)
    have e1 : ((k + 1 : Nat) : Int) = (k : Int) + 1 := by omega
    rw [e1] at hih
    have cw : omw (k : Int) < omw (n : Int) := om_lt_w hkn (Nat.le_trans hn (by decide))
    have a0 : omCs 0 d w (σ 28) k = σ 28 k - d k := if_pos rfl
    have a1 : omCs 1 d w (σ 28) k = if 0 < σ 28 k - d k then 1 else 0 := rfl
    have a2 : omCs 2 d w (σ 28) k = σ 28 k := rfl
    have a3 : omCs 3 d w (σ 28) k = w k * σ 28 k := rfl
    have a4 : omCs 4 d w (σ 28) k = w k * max 0 (σ 28 k - d k) := rfl
    have b0 : omM1 (k + 1) (omCs 0 d w (σ 28)) = max (omM1 k (omCs 0 d w (σ 28))) (σ 28 k - d k) := by
      show max (-1000) (max (omMx k (omCs 0 d w (σ 28))) (omCs 0 d w (σ 28) k)) = max (max (-1000) (omMx k (omCs 0 d w (σ 28)))) (σ 28 k - d k)
      rw [a0]
      omega
    have b1 : ∀ c, omSum (k + 1) (omCs c d w (σ 28)) = omSum k (omCs c d w (σ 28)) + omCs c d w (σ 28) k := fun c => rfl
    rw [b0, b1, b1, b1, b1, a1, a2, a3, a4] at hih
    have hM := omM1_rng (w := w) hok hC (Nat.le_of_lt hkn)
    have hd := om_rngd hCk ⟨ho.2.2.1, ho.2.2.2.1⟩
    have hw : omw (σ 28 k - d k) = σ 28 k - d k := om_w_small hd.1 hd.2
    rw [l_L_areJobs_21.eq_2, omg_t om_54, om_54n, hT.1, if_pos cw, hin', om_b0, om_ix (c := 10) (C := 10) rfl (om_lt55 hkn hn (by decide)), omg_t (om_ixg (om_lt55 hkn hn (by decide))), if_neg om_ne10, om_wk hkn hn, omg_t (om_ixg (om_lt55' hkn hn)), Int.toNat_natCast, Int.toNat_natCast, htj.1, htj.2.1, if_pos rfl, k1, om_b0, Sum.elim_inr, if_pos rfl, k2, om_b0, Sum.elim_inr, if_pos rfl, om_b0, om_max_w hM hd, om_b0, hw, om_ix (c := 20) (C := 20) rfl (om_lt55 hkn hn (by decide)), omg_t (om_ixg (om_lt55 hkn hn (by decide))), Int.toNat_natCast, htj.2.2.1, om_ite_some, om_b0, omg_t (om_ixg (om_lt55 hkn hn (by decide))), om_ite_some, om_b0, omTd_if]
    exact hih
theorem s_L_areJobs_eq {n : Nat} {p d w r f s : Nat → Int} {P : List omPc} {σ : omH} (hok : omOk n p d w r f s) (hn0 : 0 < n) (hc : omCv n p d w r f s σ) (hT : omTb n p d w r f s σ) (hP : omPC P σ) (h24 : σ 24 0 = 1) (hC : omCr n (σ 28)) (hB : omPok 1000 P) (hS : ∀ j, j < n → omSm (j : Int) P = p j ∧ omLa (j : Int) P = σ 28 j) : s_L_areJobs σ = some 1 := by
  have hn := hok.1
  obtain ⟨t0, t1, t2, t3, t4⟩ := s_X11_totals hok hc h24 hC
  have h1 := l_L_areJobs_21_eq hok hc hT hP h24 hC hB hS n 0 FU (by omega) (by rw [FU_eq]; omega)
  have h1' : l_L_areJobs_21 σ FU (-1000) 0 0 0 0 1 0 = some (omM1 n (omCs 0 d w (σ 28)), omSum n (omCs 1 d w (σ 28)), omSum n (omCs 2 d w (σ 28)), omSum n (omCs 3 d w (σ 28)), omSum n (omCs 4 d w (σ 28)), 1) := h1
  have e0 : omTot n 0 d w (σ 28) = omM1 n (omCs 0 d w (σ 28)) := by
    have h2 : omTot n 0 d w (σ 28) = omMx n (omCs 0 d w (σ 28)) := if_pos rfl
    have h3 := omMx_ge (g := omCs 0 d w (σ 28)) hn0
    have h4 : omCs 0 d w (σ 28) 0 = σ 28 0 - d 0 := if_pos rfl
    have h5 := hC 0 hn0
    have h6 := hok.2.1 0 hn0
    unfold omM1
    omega
  have e1 : omTot n 1 d w (σ 28) = omSum n (omCs 1 d w (σ 28)) := if_neg (by decide)
  have e2 : omTot n 2 d w (σ 28) = omSum n (omCs 2 d w (σ 28)) := if_neg (by decide)
  have e3 : omTot n 3 d w (σ 28) = omSum n (omCs 3 d w (σ 28)) := if_neg (by decide)
  have e4 : omTot n 4 d w (σ 28) = omSum n (omCs 4 d w (σ 28)) := if_neg (by decide)
  rw [e0] at t0
  rw [e1] at t1
  rw [e2] at t2
  rw [e3] at t3
  rw [e4] at t4
  unfold s_L_areJobs
  rw [h1', om_b0, if_neg om_ne10, t0, om_b0, Sum.elim_inr, if_pos rfl, t1, om_b0, Sum.elim_inr, if_pos rfl, t2, om_b0, Sum.elim_inr, if_pos rfl, t3, om_b0, Sum.elim_inr, if_pos rfl, t4, om_b0, Sum.elim_inr, if_pos rfl]
