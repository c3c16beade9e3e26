theorem om_leastPreemptiveLateness {σ : omH} (hI : omInv σ) : omGood (s_L_leastPreemptiveLateness σ) s_X12_leastPreemptiveLateness := by
  obtain ⟨n, p, d, w, r, f, s, h1, h2, h3, h45, h6⟩ := id hI
  have hn := h1.1
  have hpw := om_pow_le hn
  by_cases hf : 1 ≤ n ∧ n ≤ 7
  · obtain ⟨σ1, a1, a2⟩ := s_X4_least_eq (c := 0) (c2 := 10) (E := fun S _ _ j => ((omTe n p r S j : Nat) : Int)) (Bd := fun _ => 1000) h1 hf.2 (by decide) (by decide) h2 (fun k hk => by show (0 : Int) ≤ 1000 ∧ (1000 : Int) ≤ 1000; decide) (fun k S u t j ht1 ht2 hj => by
      have hT := (omTe_ok (S := S) h1 hj).1
      show 0 ≤ ((omTe n p r S j : Nat) : Int) ∧ ((omTe n p r S j : Nat) : Int) ≤ 1000
      omega) (fun τ q S u t j g1 g2 g3 g4 g5 g6 g7 g8 g9 g10 g11 => s_X4_endBehind_10 h1 g1 g2 g3 g4 (by omega) g6)
    have hm0 : omMv n p d w r f s (omsu σ1 60 0 (omw (min 1000000 (omVl n 0 d w f (fun S _ _ j => ((omTe n p r S j : Nat) : Int)) n 0 4 0 (omA0 0))))) := (h3.ex a2 (by simp)).ex (W := [60]) (omEx.su (by simp)) (by simp)
    have hm1 : omMv n p d w r f s (omsu (omsu σ1 60 0 (omw (min 1000000 (omVl n 0 d w f (fun S _ _ j => ((omTe n p r S j : Nat) : Int)) n 0 4 0 (omA0 0))))) 43 0 0) := hm0.ex2 (W := [43]) (omEx.su (by simp)) (by rw [omsu_n (Or.inr (by decide))]) (by simp)
    obtain ⟨σ2, g, c1, c2, c3, c4, c5⟩ := s_X12_leastOfPriorities_eq (v := 0) h1 (by decide) hf.1 hf.2 hm1
    have hval := om_prior (n := n) (c := 0) (p := p) (d := d) (w := w) (r := r) (f := f) c3 c4 c5
    refine omGood.rd3 (σ1 := σ1) (σ2 := σ2) (v := (min 1000000 (omVl n 0 d w f (fun S _ _ j => ((omTe n p r S j : Nat) : Int)) n 0 4 0 (omA0 0)))) (W2 := [54, 59]) hI a2 (by simp) ?_ ?_ c2 (by simp)
    · unfold s_L_leastPreemptiveLateness s_X11_leastPreemptiveLateness
      rw [(s_X11_needFewJobs_eq h1 h2).2 hf, om_b0]
      simp only [Sum.elim_inr]
      rw [(show s_X4_least 10 0 σ = some ((min 1000000 (omVl n 0 d w f (fun S _ _ j => ((omTe n p r S j : Nat) : Int)) n 0 4 0 (omA0 0))), σ1) from a1), om_b0, om_b0]
      simp only [Sum.elim_inr]
      rw [omg_t (by decide)]
      rfl
    · unfold s_X12_leastPreemptiveLateness
      rw [(s_X12_areFew_eq h1 hm0).2 hf, om_b0, if_neg (by show ¬ omw 1 = 0; decide)]
      have c1' : s_X12_leastOfPriorities 0 (omsu (omsu σ1 60 0 (omw (min 1000000 (omVl n 0 d w f (fun S _ _ j => ((omTe n p r S j : Nat) : Int)) n 0 4 0 (omA0 0))))) 43 0 0) = some (g, σ2) := c1
      show Option.bind (s_X12_leastOfPriorities 0 (omsu (omsu σ1 60 0 (omw (min 1000000 (omVl n 0 d w f (fun S _ _ j => ((omTe n p r S j : Nat) : Int)) n 0 4 0 (omA0 0))))) 43 0 0)) _ = _
      rw [c1', om_b0, hval]
  · refine omGood.th (k := 1) (v := 0) hI (Or.inl rfl) ?_ ?_
    · unfold s_L_leastPreemptiveLateness s_X11_leastPreemptiveLateness
      rw [(s_X11_needFewJobs_eq h1 h2).1 hf]
      rfl
    · unfold s_X12_leastPreemptiveLateness
      rw [(s_X12_areFew_eq h1 h3).1 hf, om_b0, if_pos (by show omw 0 = 0; decide)]
theorem om_leastPreemptiveCompletions {σ : omH} (hI : omInv σ) : omGood (s_L_leastPreemptiveCompletions σ) s_X12_leastPreemptiveCompletions := by
  obtain ⟨n, p, d, w, r, f, s, h1, h2, h3, h45, h6⟩ := id hI
  have hn := h1.1
  have hpw := om_pow_le hn
  by_cases hf : 1 ≤ n ∧ n ≤ 7
  · obtain ⟨σ1, a1, a2⟩ := s_X4_least_eq (c := 2) (c2 := 10) (E := fun S _ _ j => ((omTe n p r S j : Nat) : Int)) (Bd := fun _ => 1000) h1 hf.2 (by decide) (by decide) h2 (fun k hk => by show (0 : Int) ≤ 1000 ∧ (1000 : Int) ≤ 1000; decide) (fun k S u t j ht1 ht2 hj => by
      have hT := (omTe_ok (S := S) h1 hj).1
      show 0 ≤ ((omTe n p r S j : Nat) : Int) ∧ ((omTe n p r S j : Nat) : Int) ≤ 1000
      omega) (fun τ q S u t j g1 g2 g3 g4 g5 g6 g7 g8 g9 g10 g11 => s_X4_endBehind_10 h1 g1 g2 g3 g4 (by omega) g6)
    have hm0 : omMv n p d w r f s (omsu σ1 60 0 (omw (min 1000000 (omVl n 2 d w f (fun S _ _ j => ((omTe n p r S j : Nat) : Int)) n 0 4 0 (omA0 2))))) := (h3.ex a2 (by simp)).ex (W := [60]) (omEx.su (by simp)) (by simp)
    have hm1 : omMv n p d w r f s (omsu (omsu σ1 60 0 (omw (min 1000000 (omVl n 2 d w f (fun S _ _ j => ((omTe n p r S j : Nat) : Int)) n 0 4 0 (omA0 2))))) 43 0 0) := hm0.ex2 (W := [43]) (omEx.su (by simp)) (by rw [omsu_n (Or.inr (by decide))]) (by simp)
    obtain ⟨σ2, g, c1, c2, c3, c4, c5⟩ := s_X12_leastOfPriorities_eq (v := 1) h1 (by decide) hf.1 hf.2 hm1
    have hval := om_prior (n := n) (c := 2) (p := p) (d := d) (w := w) (r := r) (f := f) c3 c4 c5
    refine omGood.rd3 (σ1 := σ1) (σ2 := σ2) (v := (min 1000000 (omVl n 2 d w f (fun S _ _ j => ((omTe n p r S j : Nat) : Int)) n 0 4 0 (omA0 2)))) (W2 := [54, 59]) hI a2 (by simp) ?_ ?_ c2 (by simp)
    · unfold s_L_leastPreemptiveCompletions s_X11_leastPreemptiveCompletions
      rw [(s_X11_needFewJobs_eq h1 h2).2 hf, om_b0]
      simp only [Sum.elim_inr]
      rw [(show s_X4_least 10 2 σ = some ((min 1000000 (omVl n 2 d w f (fun S _ _ j => ((omTe n p r S j : Nat) : Int)) n 0 4 0 (omA0 2))), σ1) from a1), om_b0, om_b0]
      simp only [Sum.elim_inr]
      rw [omg_t (by decide)]
      rfl
    · unfold s_X12_leastPreemptiveCompletions
      rw [(s_X12_areFew_eq h1 hm0).2 hf, om_b0, if_neg (by show ¬ omw 1 = 0; decide)]
      have c1' : s_X12_leastOfPriorities 1 (omsu (omsu σ1 60 0 (omw (min 1000000 (omVl n 2 d w f (fun S _ _ j => ((omTe n p r S j : Nat) : Int)) n 0 4 0 (omA0 2))))) 43 0 0) = some (g, σ2) := c1
      show Option.bind (s_X12_leastOfPriorities 1 (omsu (omsu σ1 60 0 (omw (min 1000000 (omVl n 2 d w f (fun S _ _ j => ((omTe n p r S j : Nat) : Int)) n 0 4 0 (omA0 2))))) 43 0 0)) _ = _
      rw [c1', om_b0, hval]
  · refine omGood.th (k := 1) (v := 0) hI (Or.inl rfl) ?_ ?_
    · unfold s_L_leastPreemptiveCompletions s_X11_leastPreemptiveCompletions
      rw [(s_X11_needFewJobs_eq h1 h2).1 hf]
      rfl
    · unfold s_X12_leastPreemptiveCompletions
      rw [(s_X12_areFew_eq h1 h3).1 hf, om_b0, if_pos (by show omw 0 = 0; decide)]
