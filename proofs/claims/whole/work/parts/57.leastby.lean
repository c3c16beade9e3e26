theorem om_leastLateness {σ : omH} (hI : omInv σ) : omGood (s_L_leastLateness σ) s_X12_leastLateness := by
  obtain ⟨n, p, d, w, r, f, s, h1, h2, h3, h45, h6⟩ := id hI
  have hn := h1.1
  by_cases hf : 1 ≤ n ∧ n ≤ 7
  · obtain ⟨σ1, a1, a2⟩ := s_X4_least_eq (c := 0) (c2 := 8) (E := fun _ _ t j => t + p j) (Bd := fun k => 100 + 50 * (k : Int)) h1 hf.2 (by decide) (by decide) h2 (fun k hk => by show 0 ≤ 100 + 50 * (k : Int) ∧ 100 + 50 * (k : Int) ≤ 1000; omega) (fun k S u t j ht1 ht2 hj => by
      have ht2' : t ≤ 100 + 50 * (k : Int) := ht2
      have := h1.2.1 j hj
      show 0 ≤ t + p j ∧ t + p j ≤ 100 + 50 * ((k + 1 : Nat) : Int)
      omega) (fun τ q S u t j g1 g2 g3 g4 g5 g6 g7 g8 g9 g10 g11 => s_X4_endBehind_8 h1 g1 g2 g6)
    have hm0 : omMv n p d w r f s (omsu σ1 60 0 (omw (min 1000000 (omVl n 0 d w f (fun _ _ t j => t + p j) n 0 4 0 (omA0 0))))) := (h3.ex a2 (by simp)).ex (W := [60]) (omEx.su (by simp)) (by simp)
    have hm1 : omMv n p d w r f s (omsu (omsu σ1 60 0 (omw (min 1000000 (omVl n 0 d w f (fun _ _ t j => t + p j) n 0 4 0 (omA0 0))))) 43 0 0) := hm0.ex2 (W := [43]) (omEx.su (by simp)) (by rw [omsu_n (Or.inr (by decide))]) (by simp)
    obtain ⟨σ2, c1, c2, c3⟩ := s_X12_costs_eq (v := 0) h1 (by decide) hm1
    have hval := om_row (c := 0) (v := 0) h1 (by decide) c3
    refine omGood.rd3 (σ1 := σ1) (σ2 := σ2) (v := (min 1000000 (omVl n 0 d w f (fun _ _ t j => t + p j) n 0 4 0 (omA0 0)))) (W2 := [56]) hI a2 (by simp) ?_ ?_ c2 (by simp)
    · unfold s_L_leastLateness s_X11_leastLateness
      rw [(s_X11_needFewJobs_eq h1 h2).2 hf, om_b0]
      simp only [Sum.elim_inr]
      rw [(show s_X4_least 8 0 σ = some ((min 1000000 (omVl n 0 d w f (fun _ _ t j => t + p j) n 0 4 0 (omA0 0))), σ1) from a1), om_b0, om_b0]
      simp only [Sum.elim_inr]
      rw [omg_t (by decide)]
      rfl
    · unfold s_X12_leastLateness s_X12_leastBy
      rw [(s_X12_areFew_eq h1 hm0).2 hf, om_b0, if_neg (by show ¬ omw 1 = 0; decide)]
      have c1' : s_X12_costs 0 (omsu (omsu σ1 60 0 (omw (min 1000000 (omVl n 0 d w f (fun _ _ t j => t + p j) n 0 4 0 (omA0 0))))) 43 0 0) = some σ2 := c1
      show Option.bind (Option.bind (s_X12_costs 0 (omsu (omsu σ1 60 0 (omw (min 1000000 (omVl n 0 d w f (fun _ _ t j => t + p j) n 0 4 0 (omA0 0))))) 43 0 0)) _) _ = _
      rw [c1', om_b0, omg_t (by decide), om_b0, hval]
      rfl
  · refine omGood.th (k := 1) (v := 0) hI (Or.inl rfl) ?_ ?_
    · unfold s_L_leastLateness s_X11_leastLateness
      rw [(s_X11_needFewJobs_eq h1 h2).1 hf]
      rfl
    · unfold s_X12_leastLateness
      rw [(s_X12_areFew_eq h1 h3).1 hf, om_b0, if_pos (by show omw 0 = 0; decide)]
theorem om_leastCompletions {σ : omH} (hI : omInv σ) : omGood (s_L_leastCompletions σ) s_X12_leastCompletions := by
  obtain ⟨n, p, d, w, r, f, s, h1, h2, h3, h45, h6⟩ := id hI
  have hn := h1.1
  by_cases hf : 1 ≤ n ∧ n ≤ 7
  · obtain ⟨σ1, a1, a2⟩ := s_X4_least_eq (c := 3) (c2 := 8) (E := fun _ _ t j => t + p j) (Bd := fun k => 100 + 50 * (k : Int)) h1 hf.2 (by decide) (by decide) h2 (fun k hk => by show 0 ≤ 100 + 50 * (k : Int) ∧ 100 + 50 * (k : Int) ≤ 1000; omega) (fun k S u t j ht1 ht2 hj => by
      have ht2' : t ≤ 100 + 50 * (k : Int) := ht2
      have := h1.2.1 j hj
      show 0 ≤ t + p j ∧ t + p j ≤ 100 + 50 * ((k + 1 : Nat) : Int)
      omega) (fun τ q S u t j g1 g2 g3 g4 g5 g6 g7 g8 g9 g10 g11 => s_X4_endBehind_8 h1 g1 g2 g6)
    have hm0 : omMv n p d w r f s (omsu σ1 60 0 (omw (min 1000000 (omVl n 3 d w f (fun _ _ t j => t + p j) n 0 4 0 (omA0 3))))) := (h3.ex a2 (by simp)).ex (W := [60]) (omEx.su (by simp)) (by simp)
    have hm1 : omMv n p d w r f s (omsu (omsu σ1 60 0 (omw (min 1000000 (omVl n 3 d w f (fun _ _ t j => t + p j) n 0 4 0 (omA0 3))))) 43 0 0) := hm0.ex2 (W := [43]) (omEx.su (by simp)) (by rw [omsu_n (Or.inr (by decide))]) (by simp)
    obtain ⟨σ2, c1, c2, c3⟩ := s_X12_costs_eq (v := 1) h1 (by decide) hm1
    have hval := om_row (c := 3) (v := 1) h1 (by decide) c3
    refine omGood.rd3 (σ1 := σ1) (σ2 := σ2) (v := (min 1000000 (omVl n 3 d w f (fun _ _ t j => t + p j) n 0 4 0 (omA0 3)))) (W2 := [56]) hI a2 (by simp) ?_ ?_ c2 (by simp)
    · unfold s_L_leastCompletions s_X11_leastCompletions
      rw [(s_X11_needFewJobs_eq h1 h2).2 hf, om_b0]
      simp only [Sum.elim_inr]
      rw [(show s_X4_least 8 3 σ = some ((min 1000000 (omVl n 3 d w f (fun _ _ t j => t + p j) n 0 4 0 (omA0 3))), σ1) from a1), om_b0, om_b0]
      simp only [Sum.elim_inr]
      rw [omg_t (by decide)]
      rfl
    · unfold s_X12_leastCompletions s_X12_leastBy
      rw [(s_X12_areFew_eq h1 hm0).2 hf, om_b0, if_neg (by show ¬ omw 1 = 0; decide)]
      have c1' : s_X12_costs 1 (omsu (omsu σ1 60 0 (omw (min 1000000 (omVl n 3 d w f (fun _ _ t j => t + p j) n 0 4 0 (omA0 3))))) 43 0 0) = some σ2 := c1
      show Option.bind (Option.bind (s_X12_costs 1 (omsu (omsu σ1 60 0 (omw (min 1000000 (omVl n 3 d w f (fun _ _ t j => t + p j) n 0 4 0 (omA0 3))))) 43 0 0)) _) _ = _
      rw [c1', om_b0, omg_t (by decide), om_b0, hval]
      rfl
  · refine omGood.th (k := 1) (v := 0) hI (Or.inl rfl) ?_ ?_
    · unfold s_L_leastCompletions s_X11_leastCompletions
      rw [(s_X11_needFewJobs_eq h1 h2).1 hf]
      rfl
    · unfold s_X12_leastCompletions
      rw [(s_X12_areFew_eq h1 h3).1 hf, om_b0, if_pos (by show omw 0 = 0; decide)]
theorem om_leastTardiness {σ : omH} (hI : omInv σ) : omGood (s_L_leastTardiness σ) s_X12_leastTardiness := by
  obtain ⟨n, p, d, w, r, f, s, h1, h2, h3, h45, h6⟩ := id hI
  have hn := h1.1
  by_cases hf : 1 ≤ n ∧ n ≤ 7
  · obtain ⟨σ1, a1, a2⟩ := s_X4_least_eq (c := 4) (c2 := 8) (E := fun _ _ t j => t + p j) (Bd := fun k => 100 + 50 * (k : Int)) h1 hf.2 (by decide) (by decide) h2 (fun k hk => by show 0 ≤ 100 + 50 * (k : Int) ∧ 100 + 50 * (k : Int) ≤ 1000; omega) (fun k S u t j ht1 ht2 hj => by
      have ht2' : t ≤ 100 + 50 * (k : Int) := ht2
      have := h1.2.1 j hj
      show 0 ≤ t + p j ∧ t + p j ≤ 100 + 50 * ((k + 1 : Nat) : Int)
      omega) (fun τ q S u t j g1 g2 g3 g4 g5 g6 g7 g8 g9 g10 g11 => s_X4_endBehind_8 h1 g1 g2 g6)
    have hm0 : omMv n p d w r f s (omsu σ1 60 0 (omw (min 1000000 (omVl n 4 d w f (fun _ _ t j => t + p j) n 0 4 0 (omA0 4))))) := (h3.ex a2 (by simp)).ex (W := [60]) (omEx.su (by simp)) (by simp)
    have hm1 : omMv n p d w r f s (omsu (omsu σ1 60 0 (omw (min 1000000 (omVl n 4 d w f (fun _ _ t j => t + p j) n 0 4 0 (omA0 4))))) 43 0 0) := hm0.ex2 (W := [43]) (omEx.su (by simp)) (by rw [omsu_n (Or.inr (by decide))]) (by simp)
    obtain ⟨σ2, c1, c2, c3⟩ := s_X12_costs_eq (v := 2) h1 (by decide) hm1
    have hval := om_row (c := 4) (v := 2) h1 (by decide) c3
    refine omGood.rd3 (σ1 := σ1) (σ2 := σ2) (v := (min 1000000 (omVl n 4 d w f (fun _ _ t j => t + p j) n 0 4 0 (omA0 4)))) (W2 := [56]) hI a2 (by simp) ?_ ?_ c2 (by simp)
    · unfold s_L_leastTardiness s_X11_leastTardiness
      rw [(s_X11_needFewJobs_eq h1 h2).2 hf, om_b0]
      simp only [Sum.elim_inr]
      rw [(show s_X4_least 8 4 σ = some ((min 1000000 (omVl n 4 d w f (fun _ _ t j => t + p j) n 0 4 0 (omA0 4))), σ1) from a1), om_b0, om_b0]
      simp only [Sum.elim_inr]
      rw [omg_t (by decide)]
      rfl
    · unfold s_X12_leastTardiness s_X12_leastBy
      rw [(s_X12_areFew_eq h1 hm0).2 hf, om_b0, if_neg (by show ¬ omw 1 = 0; decide)]
      have c1' : s_X12_costs 2 (omsu (omsu σ1 60 0 (omw (min 1000000 (omVl n 4 d w f (fun _ _ t j => t + p j) n 0 4 0 (omA0 4))))) 43 0 0) = some σ2 := c1
      show Option.bind (Option.bind (s_X12_costs 2 (omsu (omsu σ1 60 0 (omw (min 1000000 (omVl n 4 d w f (fun _ _ t j => t + p j) n 0 4 0 (omA0 4))))) 43 0 0)) _) _ = _
      rw [c1', om_b0, omg_t (by decide), om_b0, hval]
      rfl
  · refine omGood.th (k := 1) (v := 0) hI (Or.inl rfl) ?_ ?_
    · unfold s_L_leastTardiness s_X11_leastTardiness
      rw [(s_X11_needFewJobs_eq h1 h2).1 hf]
      rfl
    · unfold s_X12_leastTardiness
      rw [(s_X12_areFew_eq h1 h3).1 hf, om_b0, if_pos (by show omw 0 = 0; decide)]
