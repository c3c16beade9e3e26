theorem om_planLeastTardiness {σ : omH} (hI : omInv σ) : omGood (s_L_planLeastTardiness σ) s_X12_planLeastTardiness := by
  obtain ⟨n, p, d, w, r, f, s, h1, h2, h3, h45, h6⟩ := id hI
  have hn := h1.1
  have hpw := om_pow_le hn
  by_cases hz : n = 0
  · refine omGood.th (k := 1) (v := 0) hI (Or.inl rfl) ?_ ?_
    · unfold s_L_planLeastTardiness s_X11_planLeastTardiness
      rw [(s_X11_needSomeJob_eq h1 h2).1 hz]
      rfl
    · unfold s_X12_planLeastTardiness
      rw [(s_X12_hasJobs_eq h1 h3).1 hz, om_b0, if_pos (by show omw 0 = 0; decide)]
  · obtain ⟨τ0, q, T, a1, a2, a3, a4⟩ := s_X7_orderByTardiness_eq h1 h2
    obtain ⟨g1, g2, g3⟩ := omHt_seq (fun i hi => (a4 i hi).1)
    obtain ⟨τ1, b1, b2, b3, b4, b5, b6, b7⟩ := om_followed (v := 0) (c := 4) h1 (by decide) (by decide) g1 g2 g3 (h2.ex a2 (by simp)) (fun i hi => (a4 i hi).2)
    have hex1 : omEx [24, 25, 26, 27, 28, 30, 34] σ τ1 := (a2.mono (by simp)).trans (b5.mono (by simp))
    have hm0 : omMv n p d w r f s (omsu τ1 60 0 (omw (omTot n 4 d w (τ1 28)))) := (h3.ex hex1 (by simp)).ex (W := [60]) (omEx.su (by simp)) (by simp)
    have hm1 : omMv n p d w r f s (omsu (omsu τ1 60 0 (omw (omTot n 4 d w (τ1 28)))) 43 0 0) := hm0.ex2 (W := [43]) (omEx.su (by simp)) (by rw [omsu_n (Or.inr (by decide))]) (by simp)
    obtain ⟨τ2, c1, c2, c3⟩ := s_X12_costs_eq (v := 2) h1 (by decide) hm1
    have hm2 := hm1.ex c2 (by simp)
    have hTT : ∀ S, S < 2 ^ n → T S = τ2 56 S := fun S hS => omEq_uniq a3 (fun S hS => (c3 S hS).1) (2 ^ n) S hS (by omega)
    obtain ⟨τ3, e1, e2, e3⟩ := l_X12_planLeastTardiness_18_eq h1 c3 hTT (fun i hi => (a4 i hi).1) n 0 FU τ2 (by omega) (by rw [FU_eq]; omega) hm2 rfl (fun i hi => by omega)
    have e1' : l_X12_planLeastTardiness_18 FU 0 0 τ2 = some τ3 := e1
    have hm3 := hm2.ex e2 (by simp)
    obtain ⟨τ4, k1, k2, k3, k4, k5, k6⟩ := s_X12_worksInOrder_eq h1 g1 g2 hm3 e3
    have hm4 := hm3.ex2 k3 (k5 1 (by decide) (by decide)) (by simp)
    have hEr : ∀ i, i < n → 0 ≤ omEd 0 p f s q i ∧ omEd 0 p f s q i ≤ 1000 := fun i hi => by have := omEd_rng (v := 0) h1 g1 hi; omega
    have hval : omTot n 4 d w (τ4 53) = omTot n 4 d w (τ1 28) := omTot_q g3 k6 b7
    refine om_planGood (σ1 := τ1) (σ2 := τ4) (val := omTot n 4 d w (τ1 28)) (W := [43, 50, 51, 52, 53, 54, 56]) h1 b3 ?_ b4 b6 b7 ?_ ?_ (by simp) hm4 k2 k4 ?_ k6 hEr g3
    · unfold s_L_planLeastTardiness s_X11_planLeastTardiness
      rw [(s_X11_needSomeJob_eq h1 h2).2 (by omega), om_b0]
      simp only [Sum.elim_inr]
      have b1' : s_X5_follow 0 τ0 = some τ1 := b1
      rw [a1, om_b0, b1', om_b0, b2, om_b0, om_b0]
      simp only [Sum.elim_inr]
      rw [omg_t (by decide)]
      rfl
    · unfold s_X12_planLeastTardiness
      have c1' : s_X12_costs 2 (omsu (omsu τ1 60 0 (omw (omTot n 4 d w (τ1 28)))) 43 0 0) = some τ2 := c1
      rw [(s_X12_hasJobs_eq h1 hm0).2 (by omega), om_b0, if_neg (by show ¬ omw 1 = 0; decide)]
      show Option.bind (s_X12_costs 2 (omsu (omsu τ1 60 0 (omw (omTot n 4 d w (τ1 28)))) 43 0 0)) _ = _
      rw [c1', om_b0, e1', om_b0, k1, om_b0, show s_X12_sum 3 τ4 = some (omTot n 4 d w _) from s_X12_sum_eq (y := 3) h1 hm4 (omCr_q g3 k6 hEr) (by decide), om_b0, hval]
    · exact (((omEx.su (by simp)).trans (c2.mono (by simp))).trans (e2.mono (by simp))).trans (k3.mono (by simp))
    · rw [k5 0 (by decide) (by decide), e2 43 (by simp), c2 43 (by simp), omsu_s]
