theorem om_planPreemptiveByDates {σ : omH} (hI : omInv σ) : omGood (s_L_planPreemptiveByDates σ) s_X12_planPreemptiveByDates := by
  obtain ⟨n, p, d, w, r, f, s, h1, h2, h3, h45, h6⟩ := id hI
  have hn := h1.1
  by_cases hz : n = 0
  · refine omGood.th (k := 1) (v := 0) hI (Or.inl rfl) ?_ ?_
    · unfold s_L_planPreemptiveByDates s_X11_planPreemptiveByDates
      rw [(s_X11_needSomeJob_eq h1 h2).1 hz]
      rfl
    · unfold s_X12_planPreemptiveByDates
      rw [(s_X12_hasJobs_eq h1 h3).1 hz, om_b0, if_pos (by show omw 0 = 0; decide)]
  · obtain ⟨τ1, b1, b2, b3, b4, b5, b6⟩ := s_X6_make_eq (v := 0) h1 (by decide) h2
    have hc1 := h2.ex b2 (by simp)
    have hEk := omEs_ok (v := 0) (d := d) h1 20
    have hlt : ∀ j, j < n → (omEs 0 n p d r 20).2.1 j < p j := fun j hj => by
      rw [omEs_done h1 j hj]
      have := h1.2.1 j hj
      omega
    have hE1 : ∀ j, j < n → τ1 28 j = (omEs 0 n p d r 20).2.2 j := fun j hj => b6 j hj (hlt j hj)
    have hEr : ∀ j, j < n → 0 ≤ (omEs 0 n p d r 20).2.2 j ∧ (omEs 0 n p d r 20).2.2 j ≤ 1000 := fun j hj => hEk.2.2.2.2.1 j hj (hlt j hj)
    have hC1 : omCr n (τ1 28) := fun j hj => by rw [hE1 j hj]; exact hEr j hj
    have hm0 : omMv n p d w r f s (omsu τ1 60 0 (omw (omTot n 0 d w (τ1 28)))) := (h3.ex b2 (by simp)).ex (W := [60]) (omEx.su (by simp)) (by simp)
    have hm1 : omMv n p d w r f s (omsu (omsu τ1 60 0 (omw (omTot n 0 d w (τ1 28)))) 43 0 0) := hm0.ex2 (W := [43]) (omEx.su (by simp)) (by rw [omsu_n (Or.inr (by decide))]) (by simp)
    obtain ⟨τ2, e1, e2, e3, e4, e5, e6, e7⟩ := s_X12_worksByTime_eq (b := 1) (v := 0) h1 (by decide) hm1
    have hm2 := hm1.ex2 e2 (e4 1 (by decide) (by decide)) (by simp)
    have hE2 : ∀ j, j < n → τ2 53 j = (omEs 0 n p d r 20).2.2 j := fun j hj => e7 j hj (hlt j hj)
    have hC2 : omCr n (τ2 53) := fun j hj => by rw [hE2 j hj]; exact hEr j hj
    have hval : omTot n 0 d w (τ2 53) = omTot n 0 d w (τ1 28) := omTot_congr (fun j hj => by rw [hE1 j hj, hE2 j hj])
    refine om_planGood (σ1 := τ1) (σ2 := τ2) (val := (omTot n 0 d w (τ1 28))) (P := (omEs 0 n p d r 20).1) (E := (omEs 0 n p d r 20).2.2) (q := fun i => i) (W := [43, 50, 51, 52, 53, 55]) h1 hc1 ?_ b4 b3 hE1 ?_ ?_ (by simp) hm2 e5 e3 ?_ hE2 hEr (fun j hj => ⟨j, hj, rfl⟩)
    · unfold s_L_planPreemptiveByDates s_X11_planPreemptiveByDates
      rw [(s_X11_needSomeJob_eq h1 h2).2 (by omega), om_b0]
      simp only [Sum.elim_inr]
      rw [(show s_X6_make 0 σ = some τ1 from b1), om_b0, s_X5_total_eq h1 hc1 (by decide) hC1, om_b0, om_b0]
      simp only [Sum.elim_inr]
      rw [omg_t (by decide)]
      rfl
    · unfold s_X12_planPreemptiveByDates
      have e1' : s_X12_worksByTime 1 (omsu (omsu τ1 60 0 (omw (omTot n 0 d w (τ1 28)))) 43 0 0) = some τ2 := e1
      rw [(s_X12_hasJobs_eq h1 hm0).2 (by omega), om_b0, if_neg (by show ¬ omw 1 = 0; decide)]
      show Option.bind (s_X12_worksByTime 1 (omsu (omsu τ1 60 0 (omw (omTot n 0 d w (τ1 28)))) 43 0 0)) _ = _
      rw [e1', om_b0, s_X12_greatest_eq h1 hm2 hC2, om_b0, hval]
    · exact (omEx.su (by simp)).trans e2
    · rw [e4 0 (by decide) (by decide), omsu_s]
theorem om_planPreemptiveShortest {σ : omH} (hI : omInv σ) : omGood (s_L_planPreemptiveShortest σ) s_X12_planPreemptiveShortest := by
  obtain ⟨n, p, d, w, r, f, s, h1, h2, h3, h45, h6⟩ := id hI
  have hn := h1.1
  by_cases hz : n = 0
  · refine omGood.th (k := 1) (v := 0) hI (Or.inl rfl) ?_ ?_
    · unfold s_L_planPreemptiveShortest s_X11_planPreemptiveShortest
      rw [(s_X11_needSomeJob_eq h1 h2).1 hz]
      rfl
    · unfold s_X12_planPreemptiveShortest
      rw [(s_X12_hasJobs_eq h1 h3).1 hz, om_b0, if_pos (by show omw 0 = 0; decide)]
  · obtain ⟨τ1, b1, b2, b3, b4, b5, b6⟩ := s_X6_make_eq (v := 1) h1 (by decide) h2
    have hc1 := h2.ex b2 (by simp)
    have hEk := omEs_ok (v := 1) (d := d) h1 20
    have hlt : ∀ j, j < n → (omEs 1 n p d r 20).2.1 j < p j := fun j hj => by
      rw [omEs_done h1 j hj]
      have := h1.2.1 j hj
      omega
    have hE1 : ∀ j, j < n → τ1 28 j = (omEs 1 n p d r 20).2.2 j := fun j hj => b6 j hj (hlt j hj)
    have hEr : ∀ j, j < n → 0 ≤ (omEs 1 n p d r 20).2.2 j ∧ (omEs 1 n p d r 20).2.2 j ≤ 1000 := fun j hj => hEk.2.2.2.2.1 j hj (hlt j hj)
    have hC1 : omCr n (τ1 28) := fun j hj => by rw [hE1 j hj]; exact hEr j hj
    have hm0 : omMv n p d w r f s (omsu τ1 60 0 (omw (omTot n 2 d w (τ1 28)))) := (h3.ex b2 (by simp)).ex (W := [60]) (omEx.su (by simp)) (by simp)
    have hm1 : omMv n p d w r f s (omsu (omsu τ1 60 0 (omw (omTot n 2 d w (τ1 28)))) 43 0 0) := hm0.ex2 (W := [43]) (omEx.su (by simp)) (by rw [omsu_n (Or.inr (by decide))]) (by simp)
    obtain ⟨τ2, e1, e2, e3, e4, e5, e6, e7⟩ := s_X12_worksByTime_eq (b := 0) (v := 1) h1 (by decide) hm1
    have hm2 := hm1.ex2 e2 (e4 1 (by decide) (by decide)) (by simp)
    have hE2 : ∀ j, j < n → τ2 53 j = (omEs 1 n p d r 20).2.2 j := fun j hj => e7 j hj (hlt j hj)
    have hC2 : omCr n (τ2 53) := fun j hj => by rw [hE2 j hj]; exact hEr j hj
    have hval : omTot n 2 d w (τ2 53) = omTot n 2 d w (τ1 28) := omTot_congr (fun j hj => by rw [hE1 j hj, hE2 j hj])
    refine om_planGood (σ1 := τ1) (σ2 := τ2) (val := (omTot n 2 d w (τ1 28))) (P := (omEs 1 n p d r 20).1) (E := (omEs 1 n p d r 20).2.2) (q := fun i => i) (W := [43, 50, 51, 52, 53, 55]) h1 hc1 ?_ b4 b3 hE1 ?_ ?_ (by simp) hm2 e5 e3 ?_ hE2 hEr (fun j hj => ⟨j, hj, rfl⟩)
    · unfold s_L_planPreemptiveShortest s_X11_planPreemptiveShortest
      rw [(s_X11_needSomeJob_eq h1 h2).2 (by omega), om_b0]
      simp only [Sum.elim_inr]
      rw [(show s_X6_make 1 σ = some τ1 from b1), om_b0, s_X5_total_eq h1 hc1 (by decide) hC1, om_b0, om_b0]
      simp only [Sum.elim_inr]
      rw [omg_t (by decide)]
      rfl
    · unfold s_X12_planPreemptiveShortest
      have e1' : s_X12_worksByTime 0 (omsu (omsu τ1 60 0 (omw (omTot n 2 d w (τ1 28)))) 43 0 0) = some τ2 := e1
      rw [(s_X12_hasJobs_eq h1 hm0).2 (by omega), om_b0, if_neg (by show ¬ omw 1 = 0; decide)]
      show Option.bind (s_X12_worksByTime 0 (omsu (omsu τ1 60 0 (omw (omTot n 2 d w (τ1 28)))) 43 0 0)) _ = _
      rw [e1', om_b0, (show s_X12_sum 1 τ2 = some (omTot n 2 d w (τ2 53)) from s_X12_sum_eq (y := 1) h1 hm2 hC2 (by decide)), om_b0, hval]
    · exact (omEx.su (by simp)).trans e2
    · rw [e4 0 (by decide) (by decide), omsu_s]
