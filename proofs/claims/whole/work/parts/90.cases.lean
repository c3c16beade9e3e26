theorem om_canBit {v1 v : Int} {σ1 σ2 : omH} (h : s_X12_canBeOnTime v1 σ1 = some (v, σ2)) : v = 0 ∨ v = 1 := by
  unfold s_X12_canBeOnTime at h
  obtain ⟨t, h1, h2⟩ := Option.bind_eq_some_iff.mp h
  obtain ⟨r2, h3, h4⟩ := Option.bind_eq_some_iff.mp h2
  split at h4
  · simp only [Option.some.injEq, Prod.mk.injEq] at h4
    exact Or.inl h4.1.symm
  · obtain ⟨t10, h5, h6⟩ := Option.bind_eq_some_iff.mp h4
    unfold omg at h6
    split at h6
    · rename_i h7
      simp only [Option.some.injEq, Prod.mk.injEq] at h6
      omega
    · cases h6
theorem om_gd {L : Nat} {x i : Int} (hx : 0 ≤ x ∧ x + 7 ≤ L) (hL : L ≤ 3584) (h1 : 0 ≤ i) (h2 : i ≤ 6) : 0 ≤ omw (x + i) ∧ omw (x + i) < L := by
  rw [omw_id (by omega) (by omega)]
  omega
theorem om_op0 {L : Nat} {xs : Nat → Int} {rec : Int → omH → Option ((Int × omH) ⊕ omH)} {x : Int} {σ : omH} (hx : 0 ≤ x ∧ x + 7 ≤ L) (hL : L ≤ 3584) (hxs : ∀ j, -2147483648 ≤ xs j ∧ xs j < 2147483648) (hI : omInv σ) : ∃ σ2, lc_0 L xs rec x σ = rec (x + 7) σ2 ∧ omInv σ2 := by
  obtain ⟨k, σ1, v, σ2, g1, g2, g3, g4, g5, g6, g7⟩ := om_addJob hI (hxs (omw (x + 1)).toNat) (hxs (omw (x + 2)).toNat) (hxs (omw (x + 3)).toNat) (hxs (omw (x + 4)).toNat) (hxs (omw (x + 5)).toNat)
  refine ⟨σ2, ?_, g7⟩
  unfold lc_0
  rw [omg_t (om_gd (i := 1) hx hL (by decide) (by decide)), omg_t (om_gd (i := 2) hx hL (by decide) (by decide)), omg_t (om_gd (i := 3) hx hL (by decide) (by decide)), omg_t (om_gd (i := 4) hx hL (by decide) (by decide)), omg_t (om_gd (i := 5) hx hL (by decide) (by decide)), g1, om_b0, omg_t (om_gd (i := 1) hx hL (by decide) (by decide)), omg_t (om_gd (i := 2) hx hL (by decide) (by decide)), omg_t (om_gd (i := 3) hx hL (by decide) (by decide)), omg_t (om_gd (i := 4) hx hL (by decide) (by decide)), omg_t (om_gd (i := 5) hx hL (by decide) (by decide))]
  show Option.bind (s_X12_addJob (xs (omw (x + 1)).toNat) (xs (omw (x + 2)).toNat) (xs (omw (x + 3)).toNat) (xs (omw (x + 4)).toNat) (xs (omw (x + 5)).toNat) σ1) _ = _
  rw [g2, om_b0]
  exact om_tail g3 g4 g5 g6
theorem om_op1 {L : Nat} {xs : Nat → Int} {rec : Int → omH → Option ((Int × omH) ⊕ omH)} {x : Int} {σ : omH} (hx : 0 ≤ x ∧ x + 7 ≤ L) (hL : L ≤ 3584) (hxs : ∀ j, -2147483648 ≤ xs j ∧ xs j < 2147483648) (hI : omInv σ) : ∃ σ2, lc_1 L xs rec x σ = rec (x + 7) σ2 ∧ omInv σ2 := by
  obtain ⟨k, σ1, σ2, g1, g2, g3, g4, g5, g7⟩ := om_changeJob hI (hxs _) (hxs _) (hxs _) (hxs _) (hxs _) (hxs _) (v := xs (omw (x + 1)).toNat) (a := xs (omw (x + 2)).toNat) (b := xs (omw (x + 3)).toNat) (c := xs (omw (x + 4)).toNat) (e := xs (omw (x + 5)).toNat) (g := xs (omw (x + 6)).toNat)
  refine ⟨σ2, ?_, g7⟩
  unfold lc_1
  rw [omg_t (om_gd (i := 1) hx hL (by decide) (by decide)), omg_t (om_gd (i := 2) hx hL (by decide) (by decide)), omg_t (om_gd (i := 3) hx hL (by decide) (by decide)), omg_t (om_gd (i := 4) hx hL (by decide) (by decide)), omg_t (om_gd (i := 5) hx hL (by decide) (by decide)), omg_t (om_gd (i := 6) hx hL (by decide) (by decide)), g1, om_b0, omg_t (om_gd (i := 1) hx hL (by decide) (by decide)), omg_t (om_gd (i := 2) hx hL (by decide) (by decide)), omg_t (om_gd (i := 3) hx hL (by decide) (by decide)), omg_t (om_gd (i := 4) hx hL (by decide) (by decide)), omg_t (om_gd (i := 5) hx hL (by decide) (by decide)), omg_t (om_gd (i := 6) hx hL (by decide) (by decide))]
  show Option.bind (s_X12_changeJob (xs (omw (x + 1)).toNat) (xs (omw (x + 2)).toNat) (xs (omw (x + 3)).toNat) (xs (omw (x + 4)).toNat) (xs (omw (x + 5)).toNat) (xs (omw (x + 6)).toNat) σ1) _ = _
  rw [g2, om_b0]
  unfold s_X12_thrown
  rw [om_b0, g3, if_pos rfl]
theorem om_op2 {L : Nat} {xs : Nat → Int} {rec : Int → omH → Option ((Int × omH) ⊕ omH)} {x : Int} {σ : omH} (hx : 0 ≤ x ∧ x + 7 ≤ L) (hL : L ≤ 3584) (hxs : ∀ j, -2147483648 ≤ xs j ∧ xs j < 2147483648) (hI : omInv σ) : ∃ σ2, lc_2 L xs rec x σ = rec (x + 7) σ2 ∧ omInv σ2 := by
  obtain ⟨k, σ1, v, σ2, g1, g2, g3, g4, g5, g6, g7⟩ := om_removeJob hI (hxs (omw (x + 1)).toNat)
  refine ⟨σ2, ?_, g7⟩
  unfold lc_2
  rw [omg_t (om_gd (i := 1) hx hL (by decide) (by decide)), g1, om_b0, omg_t (om_gd (i := 1) hx hL (by decide) (by decide))]
  show Option.bind (s_X12_removeJob (xs (omw (x + 1)).toNat) σ1) _ = _
  rw [g2, om_b0]
  exact om_tail g3 g4 g5 g6
theorem om_op3 {L : Nat} {xs : Nat → Int} {rec : Int → omH → Option ((Int × omH) ⊕ omH)} {x : Int} {σ : omH} (hx : 0 ≤ x ∧ x + 7 ≤ L) (hL : L ≤ 3584) (hxs : ∀ j, -2147483648 ≤ xs j ∧ xs j < 2147483648) (hI : omInv σ) : ∃ σ2, lc_3 L xs rec x σ = rec (x + 7) σ2 ∧ omInv σ2 := by
  obtain ⟨k, σ1, v, σ2, g1, g2, g3, g4, g5, g6, g7⟩ := om_setSetup hI (hxs (omw (x + 1)).toNat) (hxs (omw (x + 2)).toNat)
  refine ⟨σ2, ?_, g7⟩
  unfold lc_3
  rw [omg_t (om_gd (i := 1) hx hL (by decide) (by decide)), omg_t (om_gd (i := 2) hx hL (by decide) (by decide)), g1, om_b0, omg_t (om_gd (i := 1) hx hL (by decide) (by decide)), omg_t (om_gd (i := 2) hx hL (by decide) (by decide))]
  show Option.bind (s_X12_setSetup (xs (omw (x + 1)).toNat) (xs (omw (x + 2)).toNat) σ1) _ = _
  rw [g2, om_b0]
  exact om_tail g3 g4 g5 g6
theorem om_op5 {L : Nat} {xs : Nat → Int} {rec : Int → omH → Option ((Int × omH) ⊕ omH)} {x : Int} {σ : omH} (hx : 0 ≤ x ∧ x + 7 ≤ L) (hL : L ≤ 3584) (hxs : ∀ j, -2147483648 ≤ xs j ∧ xs j < 2147483648) (hI : omInv σ) : ∃ σ2, lc_5 L xs rec x σ = rec (x + 7) σ2 ∧ omInv σ2 := by
  obtain ⟨k, σ1, v, σ2, g1, g2, g3, g4, g5, g6, g7⟩ := om_planByDueDates hI
  refine ⟨σ2, ?_, g7⟩
  unfold lc_5
  rw [g1, om_b0]
  show Option.bind (s_X12_planByDueDates σ1) _ = _
  rw [g2, om_b0]
  exact om_tail g3 g4 g5 g6
theorem om_op6 {L : Nat} {xs : Nat → Int} {rec : Int → omH → Option ((Int × omH) ⊕ omH)} {x : Int} {σ : omH} (hx : 0 ≤ x ∧ x + 7 ≤ L) (hL : L ≤ 3584) (hxs : ∀ j, -2147483648 ≤ xs j ∧ xs j < 2147483648) (hI : omInv σ) : ∃ σ2, lc_6 L xs rec x σ = rec (x + 7) σ2 ∧ omInv σ2 := by
  obtain ⟨k, σ1, v, σ2, g1, g2, g3, g4, g5, g6, g7⟩ := om_planFewestLate hI
  refine ⟨σ2, ?_, g7⟩
  unfold lc_6
  rw [g1, om_b0]
  show Option.bind (s_X12_planFewestLate σ1) _ = _
  rw [g2, om_b0]
  exact om_tail g3 g4 g5 g6
theorem om_op7 {L : Nat} {xs : Nat → Int} {rec : Int → omH → Option ((Int × omH) ⊕ omH)} {x : Int} {σ : omH} (hx : 0 ≤ x ∧ x + 7 ≤ L) (hL : L ≤ 3584) (hxs : ∀ j, -2147483648 ≤ xs j ∧ xs j < 2147483648) (hI : omInv σ) : ∃ σ2, lc_7 L xs rec x σ = rec (x + 7) σ2 ∧ omInv σ2 := by
  obtain ⟨k, σ1, v, σ2, g1, g2, g3, g4, g5, g6, g7⟩ := om_planByRatios hI
  refine ⟨σ2, ?_, g7⟩
  unfold lc_7
  rw [g1, om_b0]
  show Option.bind (s_X12_planByRatios σ1) _ = _
  rw [g2, om_b0]
  exact om_tail g3 g4 g5 g6
theorem om_op8 {L : Nat} {xs : Nat → Int} {rec : Int → omH → Option ((Int × omH) ⊕ omH)} {x : Int} {σ : omH} (hx : 0 ≤ x ∧ x + 7 ≤ L) (hL : L ≤ 3584) (hxs : ∀ j, -2147483648 ≤ xs j ∧ xs j < 2147483648) (hI : omInv σ) : ∃ σ2, lc_8 L xs rec x σ = rec (x + 7) σ2 ∧ omInv σ2 := by
  obtain ⟨k, σ1, v, σ2, g1, g2, g3, g4, g5, g6, g7⟩ := om_planLeastTardiness hI
  refine ⟨σ2, ?_, g7⟩
  unfold lc_8
  rw [g1, om_b0]
  show Option.bind (s_X12_planLeastTardiness σ1) _ = _
  rw [g2, om_b0]
  exact om_tail g3 g4 g5 g6
theorem om_op9 {L : Nat} {xs : Nat → Int} {rec : Int → omH → Option ((Int × omH) ⊕ omH)} {x : Int} {σ : omH} (hx : 0 ≤ x ∧ x + 7 ≤ L) (hL : L ≤ 3584) (hxs : ∀ j, -2147483648 ≤ xs j ∧ xs j < 2147483648) (hI : omInv σ) : ∃ σ2, lc_9 L xs rec x σ = rec (x + 7) σ2 ∧ omInv σ2 := by
  obtain ⟨k, σ1, v, σ2, g1, g2, g3, g4, g5, g6, g7⟩ := om_planByFamilies hI
  refine ⟨σ2, ?_, g7⟩
  unfold lc_9
  rw [g1, om_b0]
  show Option.bind (s_X12_planByFamilies σ1) _ = _
  rw [g2, om_b0]
  exact om_tail g3 g4 g5 g6
theorem om_op10 {L : Nat} {xs : Nat → Int} {rec : Int → omH → Option ((Int × omH) ⊕ omH)} {x : Int} {σ : omH} (hx : 0 ≤ x ∧ x + 7 ≤ L) (hL : L ≤ 3584) (hxs : ∀ j, -2147483648 ≤ xs j ∧ xs j < 2147483648) (hI : omInv σ) : ∃ σ2, lc_10 L xs rec x σ = rec (x + 7) σ2 ∧ omInv σ2 := by
  obtain ⟨k, σ1, v, σ2, g1, g2, g3, g4, g5, g6, g7⟩ := om_planPreemptiveByDates hI
  refine ⟨σ2, ?_, g7⟩
  unfold lc_10
  rw [g1, om_b0]
  show Option.bind (s_X12_planPreemptiveByDates σ1) _ = _
  rw [g2, om_b0]
  exact om_tail g3 g4 g5 g6
theorem om_op11 {L : Nat} {xs : Nat → Int} {rec : Int → omH → Option ((Int × omH) ⊕ omH)} {x : Int} {σ : omH} (hx : 0 ≤ x ∧ x + 7 ≤ L) (hL : L ≤ 3584) (hxs : ∀ j, -2147483648 ≤ xs j ∧ xs j < 2147483648) (hI : omInv σ) : ∃ σ2, lc_11 L xs rec x σ = rec (x + 7) σ2 ∧ omInv σ2 := by
  obtain ⟨k, σ1, v, σ2, g1, g2, g3, g4, g5, g6, g7⟩ := om_planPreemptiveShortest hI
  refine ⟨σ2, ?_, g7⟩
  unfold lc_11
  rw [g1, om_b0]
  show Option.bind (s_X12_planPreemptiveShortest σ1) _ = _
  rw [g2, om_b0]
  exact om_tail g3 g4 g5 g6
theorem om_op14 {L : Nat} {xs : Nat → Int} {rec : Int → omH → Option ((Int × omH) ⊕ omH)} {x : Int} {σ : omH} (hx : 0 ≤ x ∧ x + 7 ≤ L) (hL : L ≤ 3584) (hxs : ∀ j, -2147483648 ≤ xs j ∧ xs j < 2147483648) (hI : omInv σ) : ∃ σ2, lc_14 L xs rec x σ = rec (x + 7) σ2 ∧ omInv σ2 := by
  obtain ⟨k, σ1, v, σ2, g1, g2, g3, g4, g5, g6, g7⟩ := om_kindOf hI (hxs (omw (x + 1)).toNat)
  refine ⟨σ2, ?_, g7⟩
  unfold lc_14
  rw [omg_t (om_gd (i := 1) hx hL (by decide) (by decide)), g1, om_b0, omg_t (om_gd (i := 1) hx hL (by decide) (by decide))]
  show Option.bind (s_X12_kindOf (xs (omw (x + 1)).toNat) σ1) _ = _
  rw [g2, om_b0]
  exact om_tail g3 g4 g5 g6
theorem om_op15 {L : Nat} {xs : Nat → Int} {rec : Int → omH → Option ((Int × omH) ⊕ omH)} {x : Int} {σ : omH} (hx : 0 ≤ x ∧ x + 7 ≤ L) (hL : L ≤ 3584) (hxs : ∀ j, -2147483648 ≤ xs j ∧ xs j < 2147483648) (hI : omInv σ) : ∃ σ2, lc_15 L xs rec x σ = rec (x + 7) σ2 ∧ omInv σ2 := by
  obtain ⟨k, σ1, v, σ2, g1, g2, g3, g4, g5, g6, g7⟩ := om_whoseIs hI (hxs (omw (x + 1)).toNat)
  refine ⟨σ2, ?_, g7⟩
  unfold lc_15
  rw [omg_t (om_gd (i := 1) hx hL (by decide) (by decide)), g1, om_b0, omg_t (om_gd (i := 1) hx hL (by decide) (by decide))]
  show Option.bind (s_X12_whoseIs (xs (omw (x + 1)).toNat) σ1) _ = _
  rw [g2, om_b0]
  exact om_tail g3 g4 g5 g6
theorem om_op16 {L : Nat} {xs : Nat → Int} {rec : Int → omH → Option ((Int × omH) ⊕ omH)} {x : Int} {σ : omH} (hx : 0 ≤ x ∧ x + 7 ≤ L) (hL : L ≤ 3584) (hxs : ∀ j, -2147483648 ≤ xs j ∧ xs j < 2147483648) (hI : omInv σ) : ∃ σ2, lc_16 L xs rec x σ = rec (x + 7) σ2 ∧ omInv σ2 := by
  obtain ⟨k, σ1, v, σ2, g1, g2, g3, g4, g5, g6, g7⟩ := om_startOf hI (hxs (omw (x + 1)).toNat)
  refine ⟨σ2, ?_, g7⟩
  unfold lc_16
  rw [omg_t (om_gd (i := 1) hx hL (by decide) (by decide)), g1, om_b0, omg_t (om_gd (i := 1) hx hL (by decide) (by decide))]
  show Option.bind (s_X12_startOf (xs (omw (x + 1)).toNat) σ1) _ = _
  rw [g2, om_b0]
  exact om_tail g3 g4 g5 g6
theorem om_op17 {L : Nat} {xs : Nat → Int} {rec : Int → omH → Option ((Int × omH) ⊕ omH)} {x : Int} {σ : omH} (hx : 0 ≤ x ∧ x + 7 ≤ L) (hL : L ≤ 3584) (hxs : ∀ j, -2147483648 ≤ xs j ∧ xs j < 2147483648) (hI : omInv σ) : ∃ σ2, lc_17 L xs rec x σ = rec (x + 7) σ2 ∧ omInv σ2 := by
  obtain ⟨k, σ1, v, σ2, g1, g2, g3, g4, g5, g6, g7⟩ := om_endOf hI (hxs (omw (x + 1)).toNat)
  refine ⟨σ2, ?_, g7⟩
  unfold lc_17
  rw [omg_t (om_gd (i := 1) hx hL (by decide) (by decide)), g1, om_b0, omg_t (om_gd (i := 1) hx hL (by decide) (by decide))]
  show Option.bind (s_X12_endOf (xs (omw (x + 1)).toNat) σ1) _ = _
  rw [g2, om_b0]
  exact om_tail g3 g4 g5 g6
theorem om_op18 {L : Nat} {xs : Nat → Int} {rec : Int → omH → Option ((Int × omH) ⊕ omH)} {x : Int} {σ : omH} (hx : 0 ≤ x ∧ x + 7 ≤ L) (hL : L ≤ 3584) (hxs : ∀ j, -2147483648 ≤ xs j ∧ xs j < 2147483648) (hI : omInv σ) : ∃ σ2, lc_18 L xs rec x σ = rec (x + 7) σ2 ∧ omInv σ2 := by
  obtain ⟨k, σ1, v, σ2, g1, g2, g3, g4, g5, g6, g7⟩ := om_completion hI (hxs (omw (x + 1)).toNat)
  refine ⟨σ2, ?_, g7⟩
  unfold lc_18
  rw [omg_t (om_gd (i := 1) hx hL (by decide) (by decide)), g1, om_b0, omg_t (om_gd (i := 1) hx hL (by decide) (by decide))]
  show Option.bind (s_X12_completion (xs (omw (x + 1)).toNat) σ1) _ = _
  rw [g2, om_b0]
  exact om_tail g3 g4 g5 g6
theorem om_op19 {L : Nat} {xs : Nat → Int} {rec : Int → omH → Option ((Int × omH) ⊕ omH)} {x : Int} {σ : omH} (hx : 0 ≤ x ∧ x + 7 ≤ L) (hL : L ≤ 3584) (hxs : ∀ j, -2147483648 ≤ xs j ∧ xs j < 2147483648) (hI : omInv σ) : ∃ σ2, lc_19 L xs rec x σ = rec (x + 7) σ2 ∧ omInv σ2 := by
  obtain ⟨k, σ1, v, σ2, g1, g2, g3, g4, g5, g6, g7⟩ := om_lateness hI (hxs (omw (x + 1)).toNat)
  refine ⟨σ2, ?_, g7⟩
  unfold lc_19
  rw [omg_t (om_gd (i := 1) hx hL (by decide) (by decide)), g1, om_b0, omg_t (om_gd (i := 1) hx hL (by decide) (by decide))]
  show Option.bind (s_X12_lateness (xs (omw (x + 1)).toNat) σ1) _ = _
  rw [g2, om_b0]
  exact om_tail g3 g4 g5 g6
theorem om_op20 {L : Nat} {xs : Nat → Int} {rec : Int → omH → Option ((Int × omH) ⊕ omH)} {x : Int} {σ : omH} (hx : 0 ≤ x ∧ x + 7 ≤ L) (hL : L ≤ 3584) (hxs : ∀ j, -2147483648 ≤ xs j ∧ xs j < 2147483648) (hI : omInv σ) : ∃ σ2, lc_20 L xs rec x σ = rec (x + 7) σ2 ∧ omInv σ2 := by
  obtain ⟨k, σ1, v, σ2, g1, g2, g3, g4, g5, g6, g7⟩ := om_maxLateness hI
  refine ⟨σ2, ?_, g7⟩
  unfold lc_20
  rw [g1, om_b0]
  show Option.bind (s_X12_maxLateness σ1) _ = _
  rw [g2, om_b0]
  exact om_tail g3 g4 g5 g6
theorem om_op21 {L : Nat} {xs : Nat → Int} {rec : Int → omH → Option ((Int × omH) ⊕ omH)} {x : Int} {σ : omH} (hx : 0 ≤ x ∧ x + 7 ≤ L) (hL : L ≤ 3584) (hxs : ∀ j, -2147483648 ≤ xs j ∧ xs j < 2147483648) (hI : omInv σ) : ∃ σ2, lc_21 L xs rec x σ = rec (x + 7) σ2 ∧ omInv σ2 := by
  obtain ⟨k, σ1, v, σ2, g1, g2, g3, g4, g5, g6, g7⟩ := om_lateJobs hI
  refine ⟨σ2, ?_, g7⟩
  unfold lc_21
  rw [g1, om_b0]
  show Option.bind (s_X12_lateJobs σ1) _ = _
  rw [g2, om_b0]
  exact om_tail g3 g4 g5 g6
theorem om_op22 {L : Nat} {xs : Nat → Int} {rec : Int → omH → Option ((Int × omH) ⊕ omH)} {x : Int} {σ : omH} (hx : 0 ≤ x ∧ x + 7 ≤ L) (hL : L ≤ 3584) (hxs : ∀ j, -2147483648 ≤ xs j ∧ xs j < 2147483648) (hI : omInv σ) : ∃ σ2, lc_22 L xs rec x σ = rec (x + 7) σ2 ∧ omInv σ2 := by
  obtain ⟨k, σ1, v, σ2, g1, g2, g3, g4, g5, g6, g7⟩ := om_completions hI
  refine ⟨σ2, ?_, g7⟩
  unfold lc_22
  rw [g1, om_b0]
  show Option.bind (s_X12_completions σ1) _ = _
  rw [g2, om_b0]
  exact om_tail g3 g4 g5 g6
theorem om_op23 {L : Nat} {xs : Nat → Int} {rec : Int → omH → Option ((Int × omH) ⊕ omH)} {x : Int} {σ : omH} (hx : 0 ≤ x ∧ x + 7 ≤ L) (hL : L ≤ 3584) (hxs : ∀ j, -2147483648 ≤ xs j ∧ xs j < 2147483648) (hI : omInv σ) : ∃ σ2, lc_23 L xs rec x σ = rec (x + 7) σ2 ∧ omInv σ2 := by
  obtain ⟨k, σ1, v, σ2, g1, g2, g3, g4, g5, g6, g7⟩ := om_weightedCompletions hI
  refine ⟨σ2, ?_, g7⟩
  unfold lc_23
  rw [g1, om_b0]
  show Option.bind (s_X12_weightedCompletions σ1) _ = _
  rw [g2, om_b0]
  exact om_tail g3 g4 g5 g6
theorem om_op24 {L : Nat} {xs : Nat → Int} {rec : Int → omH → Option ((Int × omH) ⊕ omH)} {x : Int} {σ : omH} (hx : 0 ≤ x ∧ x + 7 ≤ L) (hL : L ≤ 3584) (hxs : ∀ j, -2147483648 ≤ xs j ∧ xs j < 2147483648) (hI : omInv σ) : ∃ σ2, lc_24 L xs rec x σ = rec (x + 7) σ2 ∧ omInv σ2 := by
  obtain ⟨k, σ1, v, σ2, g1, g2, g3, g4, g5, g6, g7⟩ := om_weightedTardiness hI
  refine ⟨σ2, ?_, g7⟩
  unfold lc_24
  rw [g1, om_b0]
  show Option.bind (s_X12_weightedTardiness σ1) _ = _
  rw [g2, om_b0]
  exact om_tail g3 g4 g5 g6
theorem om_op25 {L : Nat} {xs : Nat → Int} {rec : Int → omH → Option ((Int × omH) ⊕ omH)} {x : Int} {σ : omH} (hx : 0 ≤ x ∧ x + 7 ≤ L) (hL : L ≤ 3584) (hxs : ∀ j, -2147483648 ≤ xs j ∧ xs j < 2147483648) (hI : omInv σ) : ∃ σ2, lc_25 L xs rec x σ = rec (x + 7) σ2 ∧ omInv σ2 := by
  obtain ⟨k, σ1, v, σ2, g1, g2, g3, g4, g5, g6, g7⟩ := om_leastLateness hI
  refine ⟨σ2, ?_, g7⟩
  unfold lc_25
  rw [g1, om_b0]
  show Option.bind (s_X12_leastLateness σ1) _ = _
  rw [g2, om_b0]
  exact om_tail g3 g4 g5 g6
theorem om_op26 {L : Nat} {xs : Nat → Int} {rec : Int → omH → Option ((Int × omH) ⊕ omH)} {x : Int} {σ : omH} (hx : 0 ≤ x ∧ x + 7 ≤ L) (hL : L ≤ 3584) (hxs : ∀ j, -2147483648 ≤ xs j ∧ xs j < 2147483648) (hI : omInv σ) : ∃ σ2, lc_26 L xs rec x σ = rec (x + 7) σ2 ∧ omInv σ2 := by
  obtain ⟨k, σ1, v, σ2, g1, g2, g3, g4, g5, g6, g7⟩ := om_leastCompletions hI
  refine ⟨σ2, ?_, g7⟩
  unfold lc_26
  rw [g1, om_b0]
  show Option.bind (s_X12_leastCompletions σ1) _ = _
  rw [g2, om_b0]
  exact om_tail g3 g4 g5 g6
theorem om_op27 {L : Nat} {xs : Nat → Int} {rec : Int → omH → Option ((Int × omH) ⊕ omH)} {x : Int} {σ : omH} (hx : 0 ≤ x ∧ x + 7 ≤ L) (hL : L ≤ 3584) (hxs : ∀ j, -2147483648 ≤ xs j ∧ xs j < 2147483648) (hI : omInv σ) : ∃ σ2, lc_27 L xs rec x σ = rec (x + 7) σ2 ∧ omInv σ2 := by
  obtain ⟨k, σ1, v, σ2, g1, g2, g3, g4, g5, g6, g7⟩ := om_leastTardiness hI
  refine ⟨σ2, ?_, g7⟩
  unfold lc_27
  rw [g1, om_b0]
  show Option.bind (s_X12_leastTardiness σ1) _ = _
  rw [g2, om_b0]
  exact om_tail g3 g4 g5 g6
theorem om_op28 {L : Nat} {xs : Nat → Int} {rec : Int → omH → Option ((Int × omH) ⊕ omH)} {x : Int} {σ : omH} (hx : 0 ≤ x ∧ x + 7 ≤ L) (hL : L ≤ 3584) (hxs : ∀ j, -2147483648 ≤ xs j ∧ xs j < 2147483648) (hI : omInv σ) : ∃ σ2, lc_28 L xs rec x σ = rec (x + 7) σ2 ∧ omInv σ2 := by
  obtain ⟨k, σ1, v, σ2, g1, g2, g3, g4, g5, g6, g7⟩ := om_leastWithSetups hI
  refine ⟨σ2, ?_, g7⟩
  unfold lc_28
  rw [g1, om_b0]
  show Option.bind (s_X12_leastWithSetups σ1) _ = _
  rw [g2, om_b0]
  exact om_tail g3 g4 g5 g6
theorem om_op29 {L : Nat} {xs : Nat → Int} {rec : Int → omH → Option ((Int × omH) ⊕ omH)} {x : Int} {σ : omH} (hx : 0 ≤ x ∧ x + 7 ≤ L) (hL : L ≤ 3584) (hxs : ∀ j, -2147483648 ≤ xs j ∧ xs j < 2147483648) (hI : omInv σ) : ∃ σ2, lc_29 L xs rec x σ = rec (x + 7) σ2 ∧ omInv σ2 := by
  obtain ⟨k, σ1, v, σ2, g1, g2, g3, g4, g5, g6, g7⟩ := om_leastPreemptiveLateness hI
  refine ⟨σ2, ?_, g7⟩
  unfold lc_29
  rw [g1, om_b0]
  show Option.bind (s_X12_leastPreemptiveLateness σ1) _ = _
  rw [g2, om_b0]
  exact om_tail g3 g4 g5 g6
theorem om_op30 {L : Nat} {xs : Nat → Int} {rec : Int → omH → Option ((Int × omH) ⊕ omH)} {x : Int} {σ : omH} (hx : 0 ≤ x ∧ x + 7 ≤ L) (hL : L ≤ 3584) (hxs : ∀ j, -2147483648 ≤ xs j ∧ xs j < 2147483648) (hI : omInv σ) : ∃ σ2, lc_30 L xs rec x σ = rec (x + 7) σ2 ∧ omInv σ2 := by
  obtain ⟨k, σ1, v, σ2, g1, g2, g3, g4, g5, g6, g7⟩ := om_leastPreemptiveCompletions hI
  refine ⟨σ2, ?_, g7⟩
  unfold lc_30
  rw [g1, om_b0]
  show Option.bind (s_X12_leastPreemptiveCompletions σ1) _ = _
  rw [g2, om_b0]
  exact om_tail g3 g4 g5 g6
theorem om_op31 {L : Nat} {xs : Nat → Int} {rec : Int → omH → Option ((Int × omH) ⊕ omH)} {x : Int} {σ : omH} (hx : 0 ≤ x ∧ x + 7 ≤ L) (hL : L ≤ 3584) (hxs : ∀ j, -2147483648 ≤ xs j ∧ xs j < 2147483648) (hI : omInv σ) : ∃ σ2, lc_31 L xs rec x σ = rec (x + 7) σ2 ∧ omInv σ2 := by
  obtain ⟨k, σ1, v, σ2, g1, g2, g3, g4, g5, g6, g7⟩ := om_canBeOnTime hI (hxs (omw (x + 1)).toNat)
  refine ⟨σ2, ?_, g7⟩
  have hv := om_canBit g2
  unfold lc_31
  rw [omg_t (om_gd (i := 1) hx hL (by decide) (by decide)), g1, om_b0, omg_t (om_gd (i := 1) hx hL (by decide) (by decide))]
  show Option.bind (s_X12_canBeOnTime (xs (omw (x + 1)).toNat) σ1) _ = _
  rw [g2, om_b0]
  show Option.bind (s_X12_thrown σ2) (fun r35 => (if omw r35 = omw k then (if omw k = 0 then omg (0 ≤ omw 0 ∧ omw 0 < 1) (Option.bind (if omw v = 0 then some (0 : Int) else some 1) (fun t => if omw (omcmp (σ2 60 (omw 0).toNat) t) = 0 then rec (x + 7) σ2 else some (Sum.inl ((0, σ2))))) else rec (x + 7) σ2) else some (Sum.inl ((0, σ2))))) = _
  have e1 : (if omw v = 0 then some (0 : Int) else some 1) = some (omw v) := by
    rcases hv with rfl | rfl <;> rfl
  rw [e1]
  exact om_tail g3 g4 g5 g6
theorem om_op33 {L : Nat} {xs : Nat → Int} {rec : Int → omH → Option ((Int × omH) ⊕ omH)} {x : Int} {σ : omH} (hx : 0 ≤ x ∧ x + 7 ≤ L) (hL : L ≤ 3584) (hxs : ∀ j, -2147483648 ≤ xs j ∧ xs j < 2147483648) (hI : omInv σ) : ∃ σ2, lc_33 L xs rec x σ = rec (x + 7) σ2 ∧ omInv σ2 := by
  have hv : ∃ v : Nat, v < 2 ∧ (if omw (xs (omw (x + 1)).toNat) = 0 then some (0 : Int) else some 1) = some (v : Int) := by
    split
    · exact ⟨0, by decide, rfl⟩
    · exact ⟨1, by decide, rfl⟩
  obtain ⟨v, hv1, hv2⟩ := hv
  obtain ⟨k, σ1, u, σ2, g1, g2, g3, g4, g5, g6, g7⟩ := om_windowBound hv1 hI
  refine ⟨σ2, ?_, g7⟩
  unfold lc_33
  rw [omg_t (om_gd (i := 1) hx hL (by decide) (by decide)), hv2, om_b0, g1, om_b0, omg_t (om_gd (i := 1) hx hL (by decide) (by decide)), om_b0]
  show Option.bind (s_X12_windowBound v σ1) _ = _
  rw [g2, om_b0]
  exact om_tail g3 g4 g5 g6
theorem om_op34 {L : Nat} {xs : Nat → Int} {rec : Int → omH → Option ((Int × omH) ⊕ omH)} {x : Int} {σ : omH} (hx : 0 ≤ x ∧ x + 7 ≤ L) (hL : L ≤ 3584) (hxs : ∀ j, -2147483648 ≤ xs j ∧ xs j < 2147483648) (hI : omInv σ) : ∃ σ2, lc_34 L xs rec x σ = rec (x + 7) σ2 ∧ omInv σ2 := by
  obtain ⟨k, σ1, v, σ2, g1, g2, g3, g4, g5, g6, g7⟩ := om_windowDue hI
  refine ⟨σ2, ?_, g7⟩
  unfold lc_34
  rw [g1, om_b0]
  show Option.bind (s_X12_windowDue σ1) _ = _
  rw [g2, om_b0]
  exact om_tail g3 g4 g5 g6
theorem om_op35 {L : Nat} {xs : Nat → Int} {rec : Int → omH → Option ((Int × omH) ⊕ omH)} {x : Int} {σ : omH} (hx : 0 ≤ x ∧ x + 7 ≤ L) (hL : L ≤ 3584) (hxs : ∀ j, -2147483648 ≤ xs j ∧ xs j < 2147483648) (hI : omInv σ) : ∃ σ2, lc_35 L xs rec x σ = rec (x + 7) σ2 ∧ omInv σ2 := by
  obtain ⟨k, σ1, v, σ2, g1, g2, g3, g4, g5, g6, g7⟩ := om_windowRelease hI
  refine ⟨σ2, ?_, g7⟩
  unfold lc_35
  rw [g1, om_b0]
  show Option.bind (s_X12_windowRelease σ1) _ = _
  rw [g2, om_b0]
  exact om_tail g3 g4 g5 g6
