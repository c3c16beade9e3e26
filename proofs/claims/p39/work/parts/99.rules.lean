/-! ===== p39: the seven rules, as the law holds them against their second ways ===== -/
def omRu (U : Int) (u n : Nat) (p d w r f s : Nat → Int) (σ : omH) : Prop := ∃ (c : Int) (τ : omH) (P : List omPc) (τ' : omH), s_L_plans U σ = some (c, τ) ∧ omPg u n p d w r f s P τ ∧ s_L_told U τ = some c ∧ s_L_isBest U c τ = some (1, τ') ∧ omEx [38, 39, 41, 42] τ τ'
theorem om_few7 {n : Nat} {α : Type} {F : Int → Option α} (hn : n ≤ 10) : (n ≤ 7 → Option.bind (if omw 7 < omw (n : Int) then some (0 : Int) else some 1) F = F 1) ∧ (¬ n ≤ 7 → Option.bind (if omw 7 < omw (n : Int) then some (0 : Int) else some 1) F = F 0) := by
  have e : omw (n : Int) = (n : Int) := om_wn (by omega)
  rw [e]
  constructor
  · intro h
    rw [if_neg (by show ¬ (7 : Int) < (n : Int); omega), om_b0]
  · intro h
    rw [if_pos (by show (7 : Int) < (n : Int); omega), om_b0]
section
variable {n : Nat} {p d w r f s : Nat → Int} {σ : omH}
theorem om_rule0 (hok : omOk n p d w r f s) (hn : 0 < n) (hc : omCv n p d w r f s σ) (hT : omTb n p d w r f s σ) : omRu 0 0 n p d w r f s σ := by
  have hn10 := hok.1
  obtain ⟨τ0, q, a1, a2, a3, a4⟩ := s_X2_fillInOrder_eq (c := 5) (a := 30) hok hc (by decide) (Or.inl rfl)
  have hinj : ∀ i k, i < n → k < n → q i = q k → i = k := fun i k hi hk he => a3.inj (omKb_so hok) hi hk he
  obtain ⟨τ, b1, b2, b3, b4, b5, b6, b7⟩ := om_followed (v := 0) (c := 0) hok (by decide) (by decide) a3.1 hinj a3.2.1 (hc.ex a2 (by simp)) a4
  have b1' : s_X5_follow 0 τ0 = some τ := b1
  have hT1 : omTb n p d w r f s τ := (hT.ex a2 (by simp)).ex b5 (by simp)
  have hpg := omPg_row (u := 0) hok (by decide) a3.1 hinj a3.2.1 b3 hT1 b4 b6 b7
  have hcv := hpg.1
  have hC : ∀ i, i < n → τ 28 (q i) = omPs p q (i + 1) := fun i hi => by rw [b7 i hi, omEd0 hok a3.1 hi]
  have hord : omSt (omBk d) n q := a3
  have hwin := om_edd (r := r) (w := w) hok hn hord hC
  have hval := om_edd_least hok hn hord hC
  have hbest : ∃ τ', s_L_isBest 0 (omTot n 0 d w (τ 28)) τ = some (1, τ') ∧ omEx [38, 39, 41, 42] τ τ' := by
    obtain ⟨ρ, w1, w2⟩ := s_X11_windowBound_eq (v := 0) hok hn hcv (by decide)
    have w1' : s_X11_windowBound 0 τ = some (Sum.inr (omBst 0 n p d r, ρ)) := w1
    have hcw := hcv.ex w2 (by simp)
    by_cases h7 : n ≤ 7
    · obtain ⟨ρ2, l1, l2⟩ := om_least8 (c := 0) hok h7 (by decide) hcw
      refine ⟨ρ2, ?_, (w2.mono (by simp)).trans (l2.mono (by simp))⟩
      unfold s_L_isBest s_X11_jobs
      rw [om_b0, hcv.1, (om_few7 hn10).1 h7, if_pos (show omw 0 = 0 by decide), w1', om_b0, Sum.elim_inr, if_pos (congrArg omw hwin), if_neg om_ne10]
      unfold s_X11_leastLateness
      rw [(s_X11_needFewJobs_eq hok hcw).2 ⟨hn, h7⟩, om_b0, Sum.elim_inr, l1, om_b0, om_b0, Sum.elim_inr, if_pos (congrArg omw hval.symm)]
    · refine ⟨ρ, ?_, w2.mono (by simp)⟩
      unfold s_L_isBest s_X11_jobs
      rw [om_b0, hcv.1, (om_few7 hn10).2 h7, if_pos (show omw 0 = 0 by decide), w1', om_b0, Sum.elim_inr, if_pos (congrArg omw hwin), if_pos om_eq00]
  obtain ⟨τ', hb1, hb2⟩ := hbest
  obtain ⟨t0, t1, t2, t3, t4⟩ := s_X11_totals hok hcv hpg.2.2.2.1 hpg.2.2.2.2.1
  refine ⟨omTot n 0 d w (τ 28), τ, _, τ', ?_, hpg, ?_, hb1, hb2⟩
  · unfold s_L_plans s_X11_planByDueDates s_X7_orderByDueDates
    rw [if_pos (show omw 0 = 0 by decide), (s_X11_needSomeJob_eq hok hc).2 hn, om_b0, Sum.elim_inr, a1, om_b0, om_b0, b1', om_b0, b2, om_b0, om_b0, Sum.elim_inr]
  · unfold s_L_told
    rw [if_neg (show ¬ omw 0 = omw 1 by decide), if_neg (show ¬ omw 0 = omw 2 by decide), if_neg (show ¬ omw 0 = omw 3 by decide), if_neg (show ¬ omw 0 = omw 6 by decide), t0, om_b0, Sum.elim_inr]
theorem om_rule2 (hok : omOk n p d w r f s) (hn : 0 < n) (hc : omCv n p d w r f s σ) (hT : omTb n p d w r f s σ) : omRu 2 2 n p d w r f s σ := by
  have hn10 := hok.1
  obtain ⟨τ0, q, a1, a2, a3, a4⟩ := s_X2_fillInOrder_eq (c := 7) (a := 30) hok hc (by decide) (Or.inl rfl)
  have hinj : ∀ i k, i < n → k < n → q i = q k → i = k := fun i k hi hk he => a3.inj (omKb_so hok) hi hk he
  obtain ⟨τ, b1, b2, b3, b4, b5, b6, b7⟩ := om_followed (v := 0) (c := 3) hok (by decide) (by decide) a3.1 hinj a3.2.1 (hc.ex a2 (by simp)) a4
  have b1' : s_X5_follow 0 τ0 = some τ := b1
  have hT1 : omTb n p d w r f s τ := (hT.ex a2 (by simp)).ex b5 (by simp)
  have hpg := omPg_row (u := 2) hok (by decide) a3.1 hinj a3.2.1 b3 hT1 b4 b6 b7
  have hcv := hpg.1
  have hC : ∀ i, i < n → τ 28 (q i) = omPs p q (i + 1) := fun i hi => by rw [b7 i hi, omEd0 hok a3.1 hi]
  have hord : omSt (omBr w p) n q := a3
  have hval := om_ratio_least (d := d) (f := f) hok hord hC (by have := (omTot_rng (c := 3) (w := w) hok hpg.2.2.2.2.1).2; omega)
  have hbest : ∃ τ', s_L_isBest 2 (omTot n 3 d w (τ 28)) τ = some (1, τ') ∧ omEx [38, 39, 41, 42] τ τ' := by
    by_cases h7 : n ≤ 7
    · obtain ⟨ρ2, l1, l2⟩ := om_least8 (c := 3) hok h7 (by decide) hcv
      refine ⟨ρ2, ?_, l2.mono (by simp)⟩
      unfold s_L_isBest s_X11_jobs
      rw [om_b0, hcv.1, (om_few7 hn10).1 h7, if_neg (show ¬ omw 2 = 0 by decide), if_neg (show ¬ omw 2 = 1 by decide), if_pos (show omw 2 = 2 by decide), if_neg om_ne10]
      unfold s_X11_leastCompletions
      rw [(s_X11_needFewJobs_eq hok hcv).2 ⟨hn, h7⟩, om_b0, Sum.elim_inr, l1, om_b0, om_b0, Sum.elim_inr, if_pos (congrArg omw hval.symm)]
    · refine ⟨τ, ?_, omEx.rfl'⟩
      unfold s_L_isBest s_X11_jobs
      rw [om_b0, hcv.1, (om_few7 hn10).2 h7, if_neg (show ¬ omw 2 = 0 by decide), if_neg (show ¬ omw 2 = 1 by decide), if_pos (show omw 2 = 2 by decide), if_pos om_eq00]
  obtain ⟨τ', hb1, hb2⟩ := hbest
  obtain ⟨t0, t1, t2, t3, t4⟩ := s_X11_totals hok hcv hpg.2.2.2.1 hpg.2.2.2.2.1
  refine ⟨omTot n 3 d w (τ 28), τ, _, τ', ?_, hpg, ?_, hb1, hb2⟩
  · unfold s_L_plans s_X11_planByRatios s_X7_orderByRatios
    rw [if_neg (show ¬ omw 2 = 0 by decide), if_neg (show ¬ omw 2 = 1 by decide), if_pos (show omw 2 = 2 by decide), (s_X11_needSomeJob_eq hok hc).2 hn, om_b0, Sum.elim_inr, a1, om_b0, om_b0, b1', om_b0, b2, om_b0, om_b0, Sum.elim_inr]
  · unfold s_L_told
    rw [if_neg (show ¬ omw 2 = omw 1 by decide), if_pos rfl, t3, om_b0, Sum.elim_inr]
theorem om_rule3 (hok : omOk n p d w r f s) (hn : 0 < n) (hc : omCv n p d w r f s σ) (hT : omTb n p d w r f s σ) : omRu 3 3 n p d w r f s σ := by
  have hn10 := hok.1
  obtain ⟨τ0, q, T, a1, a2, a3, a4⟩ := s_X7_orderByTardiness_eq hok hc
  obtain ⟨g1, g2, g3⟩ := omHt_seq (fun i hi => (a4 i hi).1)
  obtain ⟨τ, b1, b2, b3, b4, b5, b6, b7⟩ := om_followed (v := 0) (c := 4) hok (by decide) (by decide) g1 g2 g3 (hc.ex a2 (by simp)) (fun i hi => (a4 i hi).2)
  have b1' : s_X5_follow 0 τ0 = some τ := b1
  have hT1 : omTb n p d w r f s τ := (hT.ex a2 (by simp)).ex b5 (by simp)
  have hpg := omPg_row (u := 3) hok (by decide) g1 g2 g3 b3 hT1 b4 b6 b7
  have hcv := hpg.1
  have hC : ∀ i, i < n → τ 28 (q i) = omPs p q (i + 1) := fun i hi => by rw [b7 i hi, omEd0 hok g1 hi]
  have hcost := om_tardy_cost (C := τ 28) a3 (fun i hi => (a4 i hi).1) hC
  have hval : min 1000000 (omVl n 4 d w f (fun _ _ t j => t + p j) n 0 4 0 (omA0 4)) = omTot n 4 d w (τ 28) := by
    rw [hcost]
    exact om_tardy_least hok a3
  have hbest : ∃ τ', s_L_isBest 3 (omTot n 4 d w (τ 28)) τ = some (1, τ') ∧ omEx [38, 39, 41, 42] τ τ' := by
    by_cases h7 : n ≤ 7
    · obtain ⟨ρ2, l1, l2⟩ := om_least8 (c := 4) hok h7 (by decide) hcv
      refine ⟨ρ2, ?_, l2.mono (by simp)⟩
      unfold s_L_isBest s_X11_jobs
      rw [om_b0, hcv.1, (om_few7 hn10).1 h7, if_neg (show ¬ omw 3 = 0 by decide), if_neg (show ¬ omw 3 = 1 by decide), if_neg (show ¬ omw 3 = 2 by decide), if_pos (show omw 3 = 3 by decide), if_neg om_ne10]
      unfold s_X11_leastTardiness
      rw [(s_X11_needFewJobs_eq hok hcv).2 ⟨hn, h7⟩, om_b0, Sum.elim_inr, l1, om_b0, om_b0, Sum.elim_inr, if_pos (congrArg omw hval.symm)]
    · refine ⟨τ, ?_, omEx.rfl'⟩
      unfold s_L_isBest s_X11_jobs
      rw [om_b0, hcv.1, (om_few7 hn10).2 h7, if_neg (show ¬ omw 3 = 0 by decide), if_neg (show ¬ omw 3 = 1 by decide), if_neg (show ¬ omw 3 = 2 by decide), if_pos (show omw 3 = 3 by decide), if_pos om_eq00]
  obtain ⟨τ', hb1, hb2⟩ := hbest
  obtain ⟨t0, t1, t2, t3, t4⟩ := s_X11_totals hok hcv hpg.2.2.2.1 hpg.2.2.2.2.1
  refine ⟨omTot n 4 d w (τ 28), τ, _, τ', ?_, hpg, ?_, hb1, hb2⟩
  · unfold s_L_plans s_X11_planLeastTardiness
    rw [if_neg (show ¬ omw 3 = 0 by decide), if_neg (show ¬ omw 3 = 1 by decide), if_neg (show ¬ omw 3 = 2 by decide), if_pos (show omw 3 = 3 by decide), (s_X11_needSomeJob_eq hok hc).2 hn, om_b0, Sum.elim_inr, a1, om_b0, b1', om_b0, b2, om_b0, om_b0, Sum.elim_inr]
  · unfold s_L_told
    rw [if_neg (show ¬ omw 3 = omw 1 by decide), if_neg (show ¬ omw 3 = omw 2 by decide), if_pos rfl, t4, om_b0, Sum.elim_inr]
theorem om_rule4 (hok : omOk n p d w r f s) (hn : 0 < n) (hc : omCv n p d w r f s σ) (hT : omTb n p d w r f s σ) : omRu 4 4 n p d w r f s σ := by
  have hn10 := hok.1
  obtain ⟨τ0, q, R, a1, a2, a3, a4, a5⟩ := s_X7_orderByFamilies_eq hok hc
  obtain ⟨g1, g2, g3⟩ := omSs_perm (n := n) (q := q) (fun i hi => ⟨(a5 i hi).1.1, (a5 i hi).1.2.1.1.1⟩)
  obtain ⟨τ, b1, b2, b3, b4, b5, b6, b7⟩ := om_followed (v := 1) (c := 0) hok (by decide) (by decide) g1 g2 g3 (hc.ex a2 (by simp)) (fun i hi => (a5 i hi).2)
  have b1' : s_X5_follow 1 τ0 = some τ := b1
  have hT1 : omTb n p d w r f s τ := (hT.ex a2 (by simp)).ex b5 (by simp)
  have hpg := omPg_fam hok g1 g2 g3 b3 hT1 b4 b6 b7
  have hcv := hpg.1
  have hval := om_fam (w := w) hok hn a3 a4 (fun i hi => (a5 i hi).1) b7
  have hbest : ∃ τ', s_L_isBest 4 (omTot n 0 d w (τ 28)) τ = some (1, τ') ∧ omEx [38, 39, 41, 42] τ τ' := by
    by_cases h7 : n ≤ 7
    · obtain ⟨ρ2, l1, l2⟩ := om_least9 (c := 0) hok h7 (by decide) hcv
      refine ⟨ρ2, ?_, l2.mono (by simp)⟩
      unfold s_L_isBest s_X11_jobs
      rw [om_b0, hcv.1, (om_few7 hn10).1 h7, if_neg (show ¬ omw 4 = 0 by decide), if_neg (show ¬ omw 4 = 1 by decide), if_neg (show ¬ omw 4 = 2 by decide), if_neg (show ¬ omw 4 = 3 by decide), if_pos (show omw 4 = 4 by decide), if_neg om_ne10]
      unfold s_X11_leastWithSetups
      rw [(s_X11_needFewJobs_eq hok hcv).2 ⟨hn, h7⟩, om_b0, Sum.elim_inr, l1, om_b0, om_b0, Sum.elim_inr, if_pos (congrArg omw hval.symm)]
    · refine ⟨τ, ?_, omEx.rfl'⟩
      unfold s_L_isBest s_X11_jobs
      rw [om_b0, hcv.1, (om_few7 hn10).2 h7, if_neg (show ¬ omw 4 = 0 by decide), if_neg (show ¬ omw 4 = 1 by decide), if_neg (show ¬ omw 4 = 2 by decide), if_neg (show ¬ omw 4 = 3 by decide), if_pos (show omw 4 = 4 by decide), if_pos om_eq00]
  obtain ⟨τ', hb1, hb2⟩ := hbest
  obtain ⟨t0, t1, t2, t3, t4⟩ := s_X11_totals hok hcv hpg.2.2.2.1 hpg.2.2.2.2.1
  refine ⟨omTot n 0 d w (τ 28), τ, _, τ', ?_, hpg, ?_, hb1, hb2⟩
  · unfold s_L_plans s_X11_planByFamilies
    rw [if_neg (show ¬ omw 4 = 0 by decide), if_neg (show ¬ omw 4 = 1 by decide), if_neg (show ¬ omw 4 = 2 by decide), if_neg (show ¬ omw 4 = 3 by decide), if_pos (show omw 4 = 4 by decide), (s_X11_needSomeJob_eq hok hc).2 hn, om_b0, Sum.elim_inr, a1, om_b0, b1', om_b0, b2, om_b0, om_b0, Sum.elim_inr]
  · unfold s_L_told
    rw [if_neg (show ¬ omw 4 = omw 1 by decide), if_neg (show ¬ omw 4 = omw 2 by decide), if_neg (show ¬ omw 4 = omw 3 by decide), if_neg (show ¬ omw 4 = omw 6 by decide), t0, om_b0, Sum.elim_inr]
theorem om_rule5 (hok : omOk n p d w r f s) (hn : 0 < n) (hc : omCv n p d w r f s σ) (hT : omTb n p d w r f s σ) : omRu 5 5 n p d w r f s σ := by
  have hn10 := hok.1
  obtain ⟨τ, b1, b2, b3, b4⟩ := s_X6_make_eq (v := 0) hok (by decide) hc
  have b1' : s_X6_make 0 σ = some τ := b1
  have hT1 : omTb n p d w r f s τ := hT.ex b2 (by simp)
  obtain ⟨hpg, h28⟩ := omPg_pre (u := 5) hok (by decide) (hc.ex b2 (by simp)) hT1 b3 b4
  have hcv := hpg.1
  have htot := s_X5_total_eq hok hcv (c := 0) (by decide) hpg.2.2.2.2.1
  obtain ⟨q, hq⟩ := om_sort_ex (omBk_so n d)
  have hag := om_agree_dates hok hq
  have hC : ∀ k, k < n → τ 28 (q k) = ((omTe n p r (omSs q k) (q k) : Nat) : Int) := fun k hk => by rw [h28 _ (hq.1 k hk), hag k hk]
  have hwin := om_dates (w := w) hok hn hq hC
  have hval := om_dates_least (w := w) (f := f) hok hn hq hC
  have hbest : ∃ τ', s_L_isBest 5 (omTot n 0 d w (τ 28)) τ = some (1, τ') ∧ omEx [38, 39, 41, 42] τ τ' := by
    obtain ⟨ρ, w1, w2⟩ := s_X11_windowBound_eq (v := 1) hok hn hcv (by decide)
    have w1' : s_X11_windowBound 1 τ = some (Sum.inr (omBst 1 n p d r, ρ)) := w1
    have hcw := hcv.ex w2 (by simp)
    by_cases h7 : n ≤ 7
    · obtain ⟨ρ2, l1, l2⟩ := om_least10 (c := 0) hok h7 (by decide) hcw
      refine ⟨ρ2, ?_, (w2.mono (by simp)).trans (l2.mono (by simp))⟩
      unfold s_L_isBest s_X11_jobs
      rw [om_b0, hcv.1, (om_few7 hn10).1 h7, if_neg (show ¬ omw 5 = 0 by decide), if_neg (show ¬ omw 5 = 1 by decide), if_neg (show ¬ omw 5 = 2 by decide), if_neg (show ¬ omw 5 = 3 by decide), if_neg (show ¬ omw 5 = 4 by decide), if_pos (show omw 5 = 5 by decide), w1', om_b0, Sum.elim_inr, if_pos (congrArg omw hwin), if_neg om_ne10]
      unfold s_X11_leastPreemptiveLateness
      rw [(s_X11_needFewJobs_eq hok hcw).2 ⟨hn, h7⟩, om_b0, Sum.elim_inr, l1, om_b0, om_b0, Sum.elim_inr, if_pos (congrArg omw hval.symm)]
    · refine ⟨ρ, ?_, w2.mono (by simp)⟩
      unfold s_L_isBest s_X11_jobs
      rw [om_b0, hcv.1, (om_few7 hn10).2 h7, if_neg (show ¬ omw 5 = 0 by decide), if_neg (show ¬ omw 5 = 1 by decide), if_neg (show ¬ omw 5 = 2 by decide), if_neg (show ¬ omw 5 = 3 by decide), if_neg (show ¬ omw 5 = 4 by decide), if_pos (show omw 5 = 5 by decide), w1', om_b0, Sum.elim_inr, if_pos (congrArg omw hwin), if_pos om_eq00]
  obtain ⟨τ', hb1, hb2⟩ := hbest
  obtain ⟨t0, t1, t2, t3, t4⟩ := s_X11_totals hok hcv hpg.2.2.2.1 hpg.2.2.2.2.1
  refine ⟨omTot n 0 d w (τ 28), τ, _, τ', ?_, hpg, ?_, hb1, hb2⟩
  · unfold s_L_plans s_X11_planPreemptiveByDates
    rw [if_neg (show ¬ omw 5 = 0 by decide), if_neg (show ¬ omw 5 = 1 by decide), if_neg (show ¬ omw 5 = 2 by decide), if_neg (show ¬ omw 5 = 3 by decide), if_neg (show ¬ omw 5 = 4 by decide), if_pos (show omw 5 = 5 by decide), (s_X11_needSomeJob_eq hok hc).2 hn, om_b0, Sum.elim_inr, b1', om_b0, htot, om_b0, om_b0, Sum.elim_inr]
  · unfold s_L_told
    rw [if_neg (show ¬ omw 5 = omw 1 by decide), if_neg (show ¬ omw 5 = omw 2 by decide), if_neg (show ¬ omw 5 = omw 3 by decide), if_neg (show ¬ omw 5 = omw 6 by decide), t0, om_b0, Sum.elim_inr]
theorem om_rule6 (hok : omOk n p d w r f s) (hn : 0 < n) (hc : omCv n p d w r f s σ) (hT : omTb n p d w r f s σ) : omRu 6 6 n p d w r f s σ := by
  have hn10 := hok.1
  obtain ⟨τ, b1, b2, b3, b4⟩ := s_X6_make_eq (v := 1) hok (by decide) hc
  have b1' : s_X6_make 1 σ = some τ := b1
  have hT1 : omTb n p d w r f s τ := hT.ex b2 (by simp)
  obtain ⟨hpg, h28⟩ := omPg_pre (u := 6) hok (by decide) (hc.ex b2 (by simp)) hT1 b3 b4
  have hcv := hpg.1
  have htot := s_X5_total_eq hok hcv (c := 2) (by decide) hpg.2.2.2.2.1
  have htc : omTot n 2 d w (τ 28) = omTot n 2 d w (omEs 1 n p d r 20).2.2 := omTot_congr h28
  have hval : min 1000000 (omVl n 2 d w f (fun S _ _ j => ((omTe n p r S j : Nat) : Int)) n 0 4 0 (omA0 2)) = omTot n 2 d w (τ 28) := by
    have hle := (omTot_rng (c := 2) (w := w) hok hpg.2.2.2.2.1).2
    rw [htc] at hle ⊢
    exact om_short_least hok (by omega)
  have hbest : ∃ τ', s_L_isBest 6 (omTot n 2 d w (τ 28)) τ = some (1, τ') ∧ omEx [38, 39, 41, 42] τ τ' := by
    by_cases h7 : n ≤ 7
    · obtain ⟨ρ2, l1, l2⟩ := om_least10 (c := 2) hok h7 (by decide) hcv
      refine ⟨ρ2, ?_, l2.mono (by simp)⟩
      unfold s_L_isBest s_X11_jobs
      rw [om_b0, hcv.1, (om_few7 hn10).1 h7, if_neg (show ¬ omw 6 = 0 by decide), if_neg (show ¬ omw 6 = 1 by decide), if_neg (show ¬ omw 6 = 2 by decide), if_neg (show ¬ omw 6 = 3 by decide), if_neg (show ¬ omw 6 = 4 by decide), if_neg (show ¬ omw 6 = 5 by decide), if_neg om_ne10]
      unfold s_X11_leastPreemptiveCompletions
      rw [(s_X11_needFewJobs_eq hok hcv).2 ⟨hn, h7⟩, om_b0, Sum.elim_inr, l1, om_b0, om_b0, Sum.elim_inr, if_pos (congrArg omw hval.symm)]
    · refine ⟨τ, ?_, omEx.rfl'⟩
      unfold s_L_isBest s_X11_jobs
      rw [om_b0, hcv.1, (om_few7 hn10).2 h7, if_neg (show ¬ omw 6 = 0 by decide), if_neg (show ¬ omw 6 = 1 by decide), if_neg (show ¬ omw 6 = 2 by decide), if_neg (show ¬ omw 6 = 3 by decide), if_neg (show ¬ omw 6 = 4 by decide), if_neg (show ¬ omw 6 = 5 by decide), if_pos om_eq00]
  obtain ⟨τ', hb1, hb2⟩ := hbest
  obtain ⟨t0, t1, t2, t3, t4⟩ := s_X11_totals hok hcv hpg.2.2.2.1 hpg.2.2.2.2.1
  refine ⟨omTot n 2 d w (τ 28), τ, _, τ', ?_, hpg, ?_, hb1, hb2⟩
  · unfold s_L_plans s_X11_planPreemptiveShortest
    rw [if_neg (show ¬ omw 6 = 0 by decide), if_neg (show ¬ omw 6 = 1 by decide), if_neg (show ¬ omw 6 = 2 by decide), if_neg (show ¬ omw 6 = 3 by decide), if_neg (show ¬ omw 6 = 4 by decide), if_neg (show ¬ omw 6 = 5 by decide), (s_X11_needSomeJob_eq hok hc).2 hn, om_b0, Sum.elim_inr, b1', om_b0, htot, om_b0, om_b0, Sum.elim_inr]
  · unfold s_L_told
    rw [if_neg (show ¬ omw 6 = omw 1 by decide), if_neg (show ¬ omw 6 = omw 2 by decide), if_neg (show ¬ omw 6 = omw 3 by decide), if_pos rfl, t2, om_b0, Sum.elim_inr]
theorem om_rule1 (hok : omOk n p d w r f s) (hn : 0 < n) (hc : omCv n p d w r f s σ) (hT : omTb n p d w r f s σ) : omRu 1 1 n p d w r f s σ := by
  have hn10 := hok.1
  have hpw := om_pow_le hn10
  obtain ⟨τ0, q, a1, a2, a3, a4⟩ := s_X2_fillInOrder_eq (c := 5) (a := 31) hok hc (by decide) (by decide)
  have hinj : ∀ i k, i < n → k < n → q i = q k → i = k := fun i k hi hk he => a3.inj (omKb_so hok) hi hk he
  have hc0 := hc.ex a2 (by simp)
  obtain ⟨f1, f2, f3, f4, f5⟩ := omFw_ok hok a3.1 hinj n (Nat.le_refl n)
  obtain ⟨g1, g2, g3, g4⟩ := omQf_ok a3.1 a3.2.1 f2 f3 f5
  have hQi := om_onto g1 g2
  obtain ⟨τ1, b1, b2, b3⟩ := l_X7_orderWithFewestLate_18_eq hok a3.1 hinj n 0 FU τ0 (by omega) (by rw [FU_eq]; omega) hc0 a4 (fun i hi => absurd hi (by show ¬ i < 0; omega))
  have b1' : l_X7_orderWithFewestLate_18 FU 0 0 0 τ0 = _ := b1
  have hc1 := hc0.ex b2 (by simp)
  obtain ⟨τ2, c1, c2, c3⟩ := l_X7_putDroppedBehind_6_eq (S := (omFw n p d q n).1) (u := (((omFw n p d q n).2.1 : Nat) : Int)) hok a3.1 (by omega) g3 n 0 FU τ1 (by omega) (by rw [FU_eq]; omega) hc1 (fun i hi => by rw [b2 31 (by simp)]; exact a4 i hi) (fun i hi => absurd hi (by show ¬ i < 0; omega))
  have c1' : l_X7_putDroppedBehind_6 (((omFw n p d q n).1 : Nat) : Int) (((omFw n p d q n).2.1 : Nat) : Int) FU 0 0 τ1 = _ := c1
  have hc2 := hc1.ex c2 (by simp)
  obtain ⟨τ3, e1, e2, e3⟩ := l_X7_putDroppedBehind_56_eq (t := omCt q (omFw n p d q n).1 n) (c := (omFw n p d q n).2.1) hn10 f3 g4 (omFw n p d q n).2.1 0 FU τ2 (by omega) (by rw [FU_eq]; omega) (fun i hi => by rw [c2 32 (by simp)]; exact b3 i hi) (fun i hi => c3 i (by omega))
  have e1' : l_X7_putDroppedBehind_56 (((omFw n p d q n).2.1 : Nat) : Int) FU ((omCt q (omFw n p d q n).1 n : Nat) : Int) 0 τ2 = some τ3 := e1
  have hc3 := hc2.ex e2 (by simp)
  obtain ⟨τ, k1, k2, k3, k4, k5, k6, k7⟩ := om_followed (v := 0) (c := 1) hok (by decide) (by decide) g1 hQi g2 hc3 e3
  have k1' : s_X5_follow 0 τ3 = some τ := k1
  have hT1 : omTb n p d w r f s τ := ((((hT.ex a2 (by simp)).ex b2 (by simp)).ex c2 (by simp)).ex e2 (by simp)).ex k5 (by simp)
  have hpg := omPg_row (u := 1) hok (by decide) g1 hQi g2 k3 hT1 k4 k6 k7
  have hcv := hpg.1
  have hC : ∀ i, i < n → τ 28 (omQf n q (omFw n p d q n).1 (omFw n p d q n).2.2 i) = omPs p (omQf n q (omFw n p d q n).1 (omFw n p d q n).2.2) (i + 1) := fun i hi => by rw [k7 i hi, omEd0 hok g1 hi]
  have hord : omSt (omBk d) n q := a3
  obtain ⟨hl1, hl2⟩ := om_fewest (w := w) hok hord (omSq_of g1 hQi) hC
  obtain ⟨τ', q', s1, s2, s3⟩ := s_X11_fewestLateBySets_eq hok hcv
  have hqq : ∀ i, i < n → q' i = q i := fun i hi => by
    have h1 := omRk_q (omBk_so n d) s3 hi
    have h2 := omRk_q (omBk_so n d) hord hi
    apply Classical.byContradiction
    intro hne
    exact omRk_ne (omBk_so n d) (s3.1 i hi) (hord.1 i hi) hne (by rw [h1, h2])
  have hmo : omMo n p d q' (2 ^ n) = omMo n p d q (2 ^ n) := by
    have hoq : ∀ S, omOq n p d q' S ↔ omOq n p d q S := fun S => by
      unfold omOq
      constructor
      · intro h k hk hb
        have := h k hk (by rw [hqq k hk]; exact hb)
        rw [hqq k hk] at this
        have e : omTq p q' S (k + 1) = omTq p q S (k + 1) := omSum_congr (fun i hi => by rw [hqq i (by omega)])
        rw [← e]; exact this
      · intro h k hk hb
        rw [hqq k hk] at hb ⊢
        have e : omTq p q' S (k + 1) = omTq p q S (k + 1) := omSum_congr (fun i hi => by rw [hqq i (by omega)])
        rw [e]; exact h k hk hb
    obtain ⟨m1, m2, m3, m4⟩ := omMo_char (n := n) (p := p) (d := d) (q := q) (2 ^ n)
    obtain ⟨n1, n2, n3, n4⟩ := omMo_char (n := n) (p := p) (d := d) (q := q') (2 ^ n)
    obtain ⟨A, A1, A2, A3⟩ := m2 (Nat.two_pow_pos n)
    obtain ⟨B, B1, B2, B3⟩ := n2 (Nat.two_pow_pos n)
    have h1 := m1 B B1 ((hoq B).mp B2)
    have h2 := n1 A A1 ((hoq A).mpr A2)
    omega
  obtain ⟨t0, t1, t2, t3, t4⟩ := s_X11_totals hok hcv hpg.2.2.2.1 hpg.2.2.2.2.1
  refine ⟨(((omFw n p d q n).2.1 : Nat) : Int), τ, _, τ', ?_, hpg, ?_, ?_, s2.mono (by simp)⟩
  · unfold s_L_plans s_X11_planFewestLate s_X7_orderWithFewestLate s_X7_putDroppedBehind
    rw [if_neg (show ¬ omw 1 = 0 by decide), if_pos (show omw 1 = 1 by decide), (s_X11_needSomeJob_eq hok hc).2 hn, om_b0, Sum.elim_inr, a1, om_b0, b1', om_b0]
    dsimp only
    rw [c1', om_b0]
    dsimp only
    rw [e1', om_b0, om_b0, om_b0]
    dsimp only
    rw [k1', om_b0, om_b0, Sum.elim_inr]
  · unfold s_L_told
    rw [if_pos rfl, t1, om_b0, Sum.elim_inr, hl1]
  · unfold s_L_isBest s_X11_jobs
    rw [om_b0, hcv.1]
    by_cases h7 : n ≤ 7
    · rw [(om_few7 hn10).1 h7, if_neg (show ¬ omw 1 = 0 by decide), if_pos (show omw 1 = 1 by decide), s1, om_b0, if_pos (congrArg omw (by rw [hmo]; exact hl2))]
    · rw [(om_few7 hn10).2 h7, if_neg (show ¬ omw 1 = 0 by decide), if_pos (show omw 1 = 1 by decide), s1, om_b0, if_pos (congrArg omw (by rw [hmo]; exact hl2))]
end
