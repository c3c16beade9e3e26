/-! ===== plans by an order ===== -/
theorem s_X11_needSomeJob_eq {n : Nat} {p d w r f s : Nat → Int} {σ : omH} (hok : omOk n p d w r f s) (hc : omCv n p d w r f s σ) : (n = 0 → s_X11_needSomeJob σ = some (Sum.inl 2)) ∧ (0 < n → s_X11_needSomeJob σ = some (Sum.inr ())) := by
  have hn := hok.1
  unfold s_X11_needSomeJob
  rw [hc.1, om_wn (by omega)]
  exact ⟨fun h => if_pos (by omega), fun h => if_neg (by omega)⟩
theorem s_X12_hasJobs_eq {n : Nat} {p d w r f s : Nat → Int} {σ : omH} (hok : omOk n p d w r f s) (hm : omMv n p d w r f s σ) : (n = 0 → s_X12_hasJobs σ = some (0, omsu σ 43 0 1)) ∧ (0 < n → s_X12_hasJobs σ = some (1, omsu σ 43 0 0)) := by
  have hn := hok.1
  unfold s_X12_hasJobs
  rw [hm.1, om_wn (by omega)]
  refine ⟨fun h => ?_, fun h => ?_⟩
  · rw [if_pos (by omega), om_b0, s_X12_holds1, om_b0, omg_t (Or.inl rfl)]
  · rw [if_neg (by omega), om_b0, s_X12_holds0, om_b0, omg_t (Or.inr rfl)]
theorem om_planGood {n : Nat} {p d w r f s : Nat → Int} {σ1 σ2 : omH} {P : List omPc} {E : Nat → Int} {q : Nat → Nat} {val : Int} {W : List Nat} {a : Option (Int × omH)} {b : omH → Option (Int × omH)} (hok : omOk n p d w r f s) (hc : omCv n p d w r f s σ1) (ha : a = some (0, omsu σ1 60 0 (omw val))) (hP : omPC P σ1) (h24 : σ1 24 0 = 1) (hE1 : ∀ i, i < n → σ1 28 (q i) = E i) (hb : b (omsu σ1 60 0 (omw val)) = some (val, σ2)) (hex : omEx W (omsu σ1 60 0 (omw val)) σ2) (hW : ∀ o ∈ [17, 18, 19, 20, 21, 22, 23, 24, 25, 26, 27, 28, 60], o ∉ W) (hm : omMv n p d w r f s σ2) (hQ : omPM P σ2) (h8 : σ2 43 8 = 1) (h0 : σ2 43 0 = 0) (hE2 : ∀ i, i < n → σ2 53 (q i) = E i) (hr : ∀ i, i < n → 0 ≤ E i ∧ E i ≤ 1000) (hs : ∀ j, j < n → ∃ i, i < n ∧ q i = j) : omGood a b := by
  refine ⟨0, _, val, σ2, ha, hb, h0, by decide, by decide, fun _ => by rw [hex 60 (hW _ (by simp)), omsu_s], n, p, d, w, r, f, s, hok, ?_, hm, ⟨P, ?_, hQ⟩, Or.inr ⟨?_, h8, fun j hj => ?_⟩⟩
  · exact (hc.ex (W := [60]) (omEx.su (by simp)) (by simp)).ex hex (fun o ho => hW o (by simp at ho ⊢; omega))
  · exact (hP.ex (W := [60]) (omEx.su (by simp)) (by simp)).ex hex (fun o ho => hW o (by simp at ho ⊢; omega))
  · rw [hex 24 (hW _ (by simp)), omsu_n (Or.inl (by decide))]; exact h24
  · obtain ⟨i, hi, rfl⟩ := hs j hj
    rw [hex 28 (hW _ (by simp)), omsu_n (Or.inl (by decide)), hE1 i hi, hE2 i hi]
    exact ⟨rfl, hr i hi⟩
/-- the totals over completions that agree -/
theorem omTot_q {n c : Nat} {d w C C' E : Nat → Int} {q : Nat → Nat} (hs : ∀ j, j < n → ∃ i, i < n ∧ q i = j) (h1 : ∀ i, i < n → C (q i) = E i) (h2 : ∀ i, i < n → C' (q i) = E i) : omTot n c d w C = omTot n c d w C' :=
  omTot_congr (fun j hj => by obtain ⟨i, hi, rfl⟩ := hs j hj; rw [h1 i hi, h2 i hi])
theorem omCr_q {n : Nat} {C E : Nat → Int} {q : Nat → Nat} (hs : ∀ j, j < n → ∃ i, i < n ∧ q i = j) (h1 : ∀ i, i < n → C (q i) = E i) (h2 : ∀ i, i < n → 0 ≤ E i ∧ E i ≤ 1000) : omCr n C := fun j hj => by
  obtain ⟨i, hi, rfl⟩ := hs j hj
  rw [h1 i hi]
  exact h2 i hi
/-- the class's half: an order laid, followed and totalled -/
theorem om_followed {n v c : Nat} {p d w r f s : Nat → Int} {q : Nat → Nat} {σ : omH} (hok : omOk n p d w r f s) (hvv : v < 2) (hcc : c < 5) (hq : ∀ i, i < n → q i < n) (hinj : ∀ i k, i < n → k < n → q i = q k → i = k) (hs : ∀ j, j < n → ∃ i, i < n ∧ q i = j) (hv : omCv n p d w r f s σ) (hr : ∀ i, i < n → σ 30 i = q i) :
    ∃ σ', s_X5_follow v σ = some σ' ∧ s_X5_total c σ' = some (omTot n c d w (σ' 28)) ∧ omCv n p d w r f s σ' ∧ omPC (omPl v p f s q n).1 σ' ∧ omEx [24, 25, 26, 27, 28] σ σ' ∧ σ' 24 0 = 1 ∧ ∀ i, i < n → σ' 28 (q i) = omEd v p f s q i := by
  obtain ⟨σ', z1, z2, z3, z4, z5⟩ := s_X5_follow_eq hok hvv hq hinj hv hr
  have hv' := hv.ex z3 (by simp)
  exact ⟨σ', z1, s_X5_total_eq hok hv' hcc (omCr_q hs z5 (fun i hi => by have := omEd_rng (v := v) hok hq hi; omega)), hv', z2, z3, z4, z5⟩
theorem om_planByDueDates {σ : omH} (hI : omInv σ) : omGood (s_L_planByDueDates σ) s_X12_planByDueDates := by
  obtain ⟨n, p, d, w, r, f, s, h1, h2, h3, h45, h6⟩ := id hI
  have hn := h1.1
  by_cases hz : n = 0
  · refine omGood.th (k := 1) (v := 0) hI (Or.inl rfl) ?_ ?_
    · unfold s_L_planByDueDates s_X11_planByDueDates
      rw [(s_X11_needSomeJob_eq h1 h2).1 hz]
      rfl
    · unfold s_X12_planByDueDates
      rw [(s_X12_hasJobs_eq h1 h3).1 hz, om_b0, if_pos (by show omw 0 = 0; decide)]
  · obtain ⟨τ0, q, a1, a2, a3, a4⟩ := s_X2_fillInOrder_eq (c := 5) (a := 30) h1 h2 (by decide) (Or.inl rfl)
    have hinj : ∀ i k, i < n → k < n → q i = q k → i = k := fun i k hi hk he => a3.inj (omKb_so h1) hi hk he
    obtain ⟨τ1, b1, b2, b3, b4, b5, b6, b7⟩ := om_followed (v := 0) (c := 0) h1 (by decide) (by decide) a3.1 hinj a3.2.1 (h2.ex a2 (by simp)) a4
    have hex1 : omEx [24, 25, 26, 27, 28, 30] σ τ1 := (a2.mono (by simp)).trans (b5.mono (by simp))
    have hm0 : omMv n p d w r f s (omsu τ1 60 0 (omw (omTot n 0 d w (τ1 28)))) := (h3.ex hex1 (by simp)).ex (W := [60]) (omEx.su (by simp)) (by simp)
    have hm1 : omMv n p d w r f s (omsu (omsu τ1 60 0 (omw (omTot n 0 d w (τ1 28)))) 43 0 0) := hm0.ex2 (W := [43]) (omEx.su (by simp)) (by rw [omsu_n (Or.inr (by decide))]) (by simp)
    obtain ⟨τ2, c1, c2, c3⟩ := s_X12_laysOrder_eq (v := 1) h1 (by decide) hm1 a3
    have hm2 := hm1.ex c2 (by simp)
    obtain ⟨τ3, e1, e2, e3, e4, e5, e6⟩ := s_X12_worksInOrder_eq h1 a3.1 hinj hm2 c3
    have hm3 := hm2.ex2 e3 (e5 1 (by decide) (by decide)) (by simp)
    have hEr : ∀ i, i < n → 0 ≤ omEd 0 p f s q i ∧ omEd 0 p f s q i ≤ 1000 := fun i hi => by have := omEd_rng (v := 0) h1 a3.1 hi; omega
    have hval : omTot n 0 d w (τ3 53) = omTot n 0 d w (τ1 28) := omTot_q a3.2.1 e6 b7
    refine om_planGood (σ1 := τ1) (σ2 := τ3) (val := omTot n 0 d w (τ1 28)) (W := [43, 50, 51, 52, 53, 54]) h1 b3 ?_ b4 b6 b7 ?_ ?_ (by simp) hm3 e2 e4 ?_ e6 hEr a3.2.1
    · unfold s_L_planByDueDates s_X11_planByDueDates s_X7_orderByDueDates
      rw [(s_X11_needSomeJob_eq h1 h2).2 (by omega), om_b0]
      simp only [Sum.elim_inr]
      have b1' : s_X5_follow 0 τ0 = some τ1 := b1
      rw [a1, om_b0, om_b0, b1', om_b0, b2, om_b0, om_b0]
      simp only [Sum.elim_inr]
      rw [omg_t (by decide)]
      rfl
    · unfold s_X12_planByDueDates
      have c1' : s_X12_laysOrder 1 (omsu (omsu τ1 60 0 (omw (omTot n 0 d w (τ1 28)))) 43 0 0) = some τ2 := c1
      rw [(s_X12_hasJobs_eq h1 hm0).2 (by omega), om_b0, if_neg (by show ¬ omw 1 = 0; decide)]
      show Option.bind (s_X12_laysOrder 1 (omsu (omsu τ1 60 0 (omw (omTot n 0 d w (τ1 28)))) 43 0 0)) _ = _
      rw [c1', om_b0, e1, om_b0, s_X12_greatest_eq h1 hm3 (omCr_q a3.2.1 e6 hEr), om_b0, hval]
    · exact ((omEx.su (by simp)).trans (c2.mono (by simp))).trans (e3.mono (by simp))
    · rw [e5 0 (by decide) (by decide), c2 43 (by simp), omsu_s]
theorem om_planByRatios {σ : omH} (hI : omInv σ) : omGood (s_L_planByRatios σ) s_X12_planByRatios := by
  obtain ⟨n, p, d, w, r, f, s, h1, h2, h3, h45, h6⟩ := id hI
  have hn := h1.1
  by_cases hz : n = 0
  · refine omGood.th (k := 1) (v := 0) hI (Or.inl rfl) ?_ ?_
    · unfold s_L_planByRatios s_X11_planByRatios
      rw [(s_X11_needSomeJob_eq h1 h2).1 hz]
      rfl
    · unfold s_X12_planByRatios
      rw [(s_X12_hasJobs_eq h1 h3).1 hz, om_b0, if_pos (by show omw 0 = 0; decide)]
  · obtain ⟨τ0, q, a1, a2, a3, a4⟩ := s_X2_fillInOrder_eq (c := 7) (a := 30) h1 h2 (by decide) (Or.inl rfl)
    have hinj : ∀ i k, i < n → k < n → q i = q k → i = k := fun i k hi hk he => a3.inj (omKb_so h1) hi hk he
    obtain ⟨τ1, b1, b2, b3, b4, b5, b6, b7⟩ := om_followed (v := 0) (c := 3) h1 (by decide) (by decide) a3.1 hinj a3.2.1 (h2.ex a2 (by simp)) a4
    have hex1 : omEx [24, 25, 26, 27, 28, 30] σ τ1 := (a2.mono (by simp)).trans (b5.mono (by simp))
    have hm0 : omMv n p d w r f s (omsu τ1 60 0 (omw (omTot n 3 d w (τ1 28)))) := (h3.ex hex1 (by simp)).ex (W := [60]) (omEx.su (by simp)) (by simp)
    have hm1 : omMv n p d w r f s (omsu (omsu τ1 60 0 (omw (omTot n 3 d w (τ1 28)))) 43 0 0) := hm0.ex2 (W := [43]) (omEx.su (by simp)) (by rw [omsu_n (Or.inr (by decide))]) (by simp)
    obtain ⟨τ2, c1, c2, c3⟩ := s_X12_laysOrder_eq (v := 0) h1 (by decide) hm1 a3
    have hm2 := hm1.ex c2 (by simp)
    obtain ⟨τ3, e1, e2, e3, e4, e5, e6⟩ := s_X12_worksInOrder_eq h1 a3.1 hinj hm2 c3
    have hm3 := hm2.ex2 e3 (e5 1 (by decide) (by decide)) (by simp)
    have hEr : ∀ i, i < n → 0 ≤ omEd 0 p f s q i ∧ omEd 0 p f s q i ≤ 1000 := fun i hi => by have := omEd_rng (v := 0) h1 a3.1 hi; omega
    have hval : omTot n 3 d w (τ3 53) = omTot n 3 d w (τ1 28) := omTot_q a3.2.1 e6 b7
    refine om_planGood (σ1 := τ1) (σ2 := τ3) (val := omTot n 3 d w (τ1 28)) (W := [43, 50, 51, 52, 53, 54]) h1 b3 ?_ b4 b6 b7 ?_ ?_ (by simp) hm3 e2 e4 ?_ e6 hEr a3.2.1
    · unfold s_L_planByRatios s_X11_planByRatios s_X7_orderByRatios
      rw [(s_X11_needSomeJob_eq h1 h2).2 (by omega), om_b0]
      simp only [Sum.elim_inr]
      have b1' : s_X5_follow 0 τ0 = some τ1 := b1
      rw [a1, om_b0, om_b0, b1', om_b0, b2, om_b0, om_b0]
      simp only [Sum.elim_inr]
      rw [omg_t (by decide)]
      rfl
    · unfold s_X12_planByRatios
      have c1' : s_X12_laysOrder 0 (omsu (omsu τ1 60 0 (omw (omTot n 3 d w (τ1 28)))) 43 0 0) = some τ2 := c1
      rw [(s_X12_hasJobs_eq h1 hm0).2 (by omega), om_b0, if_neg (by show ¬ omw 1 = 0; decide)]
      show Option.bind (s_X12_laysOrder 0 (omsu (omsu τ1 60 0 (omw (omTot n 3 d w (τ1 28)))) 43 0 0)) _ = _
      rw [c1', om_b0, e1, om_b0, show s_X12_sum 2 τ3 = some (omTot n 3 d w _) from s_X12_sum_eq (y := 2) h1 hm3 (omCr_q a3.2.1 e6 hEr) (by decide), om_b0, hval]
    · exact ((omEx.su (by simp)).trans (c2.mono (by simp))).trans (e3.mono (by simp))
    · rw [e5 0 (by decide) (by decide), c2 43 (by simp), omsu_s]
