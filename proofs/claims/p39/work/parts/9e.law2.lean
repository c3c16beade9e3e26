/-! ===== p39: the law's loops ===== -/
theorem om_and31 (a : Int) : ∃ z : Nat, z < 2147483648 ∧ omand a 2147483647 = (z : Int) := by
  obtain ⟨z, hz, e⟩ := pk_andE (omi a) (m := omi 2147483647) 31 (by decide)
  refine ⟨z, hz, ?_⟩
  unfold omand
  rw [e]
  exact nI_toInt hz
theorem om_far {m : Nat} (hm : m ≤ 100) : ∃ z : Nat, z < 2147483648 ∧ (omw (104729 * ((m : Int) + 2))).tmod (omw 65521) = (z : Int) := by
  have e : (104729 : Int) * ((m : Int) + 2) = ((104729 * (m + 2) : Nat) : Int) := by omega
  have h : 104729 * (m + 2) < 2147483648 := by omega
  rw [e, om_tm (m := 65521) (by decide) h]
  exact ⟨_, Nat.lt_trans (Nat.mod_lt _ (by decide)) (by decide), rfl⟩
theorem s_L_draw_eq {L m : Nat} {xs : Nat → Int} {σ : omH} (hL : L ≤ 260) (hm : m ≤ 100) : ∃ z : Nat, z < 2147483648 ∧ s_L_draw L xs (m : Int) σ = some (z : Int) := by
  have wm : omw (m : Int) = (m : Int) := om_wn (by omega)
  have wL : omw (L : Int) = (L : Int) := om_wn (by omega)
  unfold s_L_draw
  by_cases h : m < L
  · obtain ⟨z, hz, e⟩ := om_and31 (xs m)
    refine ⟨z, hz, ?_⟩
    rw [wm, wL, if_pos (Int.ofNat_lt.mpr h), omg_t ⟨Int.natCast_nonneg m, Int.ofNat_lt.mpr h⟩, Int.toNat_natCast, e]
  · obtain ⟨z, hz, e⟩ := om_far hm
    refine ⟨z, hz, ?_⟩
    rw [wm, wL, if_neg (fun h' => h (Int.ofNat_lt.mp h')), omg_t (by decide), e]
theorem om_rules {u n : Nat} {p d w r f s : Nat → Int} {σ : omH} (hok : omOk n p d w r f s) (hn : 0 < n) (hc : omCv n p d w r f s σ) (hT : omTb n p d w r f s σ) (hu : u < 7) : omRu (u : Int) u n p d w r f s σ := by
  match u, hu with
  | 0, _ => exact om_rule0 hok hn hc hT
  | 1, _ => exact om_rule1 hok hn hc hT
  | 2, _ => exact om_rule2 hok hn hc hT
  | 3, _ => exact om_rule3 hok hn hc hT
  | 4, _ => exact om_rule4 hok hn hc hT
  | 5, _ => exact om_rule5 hok hn hc hT
  | 6, _ => exact om_rule6 hok hn hc hT
  | u + 7, h => exact absurd h (by omega)
/-- one rule, all that the law asks of it -/
theorem om_checked {u n : Nat} {p d w r f s : Nat → Int} {σ : omH} (hok : omOk n p d w r f s) (hn : 0 < n) (hc : omCv n p d w r f s σ) (hT : omTb n p d w r f s σ) (hu : u < 7) : ∃ (c : Int) (τ τ1 τ2 : omH), s_L_plans (u : Int) σ = some (c, τ) ∧ s_L_told (u : Int) τ = some c ∧ s_L_isBest (u : Int) c τ = some (1, τ1) ∧ s_L_isPlan (u : Int) τ1 = some 1 ∧ s_L_areJobs τ1 = some 1 ∧ s_L_isWindow τ1 = some (1, τ2) ∧ omJs τ2 := by
  obtain ⟨c, τ, P, τ1, h1, h2, h3, h4, h5⟩ := om_rules hok hn hc hT hu
  obtain ⟨g1, g2, g3, g4, g5, g6, g7, g8, g9, g10⟩ := h2.ex h5 (by simp)
  obtain ⟨τ2, w1, w2⟩ := s_L_isWindow_eq hok hn g1 g2
  exact ⟨c, τ, τ1, τ2, h1, h3, h4, s_L_isPlan_eq hok g2 g3 g4 g6 g7 g8 g9 hu, s_L_areJobs_eq hok hn g1 g2 g3 g4 g5 g7 g10, w1, n, p, d, w, r, f, s, hok, g1.ex w2 (by simp), g2.ex w2 (by simp), fun hz => absurd hz (Nat.pos_iff_ne_zero.mp hn)⟩
theorem om_rule_w {k5 k z : Nat} (hk5 : k5 ≤ 16) (hk : k ≤ 2) (hz : z < 2147483648) : ∃ u : Nat, u < 7 ∧ (omw (((2 * (k5 : Int)) + (k : Int)) + ((omw (z : Int)).tmod (omw 7)))).tmod (omw 7) = (u : Int) := by
  have m7 := Nat.mod_lt z (show 0 < 7 by decide)
  rw [om_tm (m := 7) (by decide) hz]
  generalize z % 7 = y at m7
  have e : (2 * (k5 : Int)) + (k : Int) + (y : Int) = ((2 * k5 + k + y : Nat) : Int) := by omega
  have h : 2 * k5 + k + y < 2147483648 := by omega
  rw [e, om_tm (m := 7) (by decide) h]
  exact ⟨_, Nat.mod_lt _ (by decide), rfl⟩
theorem om_3k {k : Nat} : 3 * (k : Int) = ((3 * k : Nat) : Int) := by omega
theorem om_3k1 {k : Nat} : 3 * (k : Int) + 1 = ((3 * k + 1 : Nat) : Int) := by omega
theorem om_3k2 {k : Nat} : 3 * (k : Int) + 2 = ((3 * k + 2 : Nat) : Int) := by omega
theorem om_k2 {k : Nat} (h : k < 2) : omw (k : Int) < omw 2 := by
  rw [om_wn (by omega)]
  show (k : Int) < 2
  omega
theorem om_k2' : ¬ omw ((2 : Nat) : Int) < omw 2 := by decide
theorem om_pos_w {n : Nat} (h : n ≤ 10) : 0 < omw (n : Int) ↔ 0 < n := by
  rw [om_wn (by omega)]
  omega
theorem l_L_law_111_eq {L k5 : Nat} {xs : Nat → Int} {v4 : Int} (hL : L ≤ 260) (hk5 : k5 ≤ 16) : ∀ (m k fuel : Nat) (σ : omH), k + m = 2 → m < fuel → omJs σ → ∃ σ', l_L_law_111 L xs v4 (k5 : Int) fuel 1 (k : Int) σ = some (1, σ') ∧ omJs σ' := by
  intro m
  induction m with
  | zero =>
    intro k fuel σ hk hf hJ
    obtain ⟨fuel, rfl⟩ : ∃ z, fuel = z + 1 := ⟨fuel - 1, by omega⟩
    have : k = 2 := by omega
    subst this
    refine ⟨σ, ?_, hJ⟩
    rw [l_L_law_111.eq_2, if_neg om_k2']
  | succ m ih =>
    intro k fuel σ hk hf hJ
    obtain ⟨fuel, rfl⟩ : ∃ z, fuel = z + 1 := ⟨fuel - 1, by omega⟩
    have hk2 : k < 2 := by omega
    obtain ⟨n, p, d, w, r, f, s, hok, hc, hT, h0⟩ := id hJ
    by_cases hn : 0 < n
    · obtain ⟨z, hz, hd⟩ := s_L_draw_eq (xs := xs) (σ := σ) hL (show 3 * k5 ≤ 100 by omega)
      obtain ⟨u, hu, hru⟩ := om_rule_w hk5 (Nat.le_of_lt hk2) hz
      obtain ⟨c, τ, τ1, τ2, a1, a2, a3, a4, a5, a6, a7⟩ := om_checked hok hn hc hT hu
      obtain ⟨σ', b1, b2⟩ := ih (k + 1) fuel τ2 (by omega) (by omega) a7
      refine ⟨σ', ?_, b2⟩
      rw [om_succI] at b1
      rw [l_L_law_111.eq_2, if_pos (om_k2 hk2), if_neg om_ne10, omg_t om_54, om_54n, hT.1, if_pos ((om_pos_w hok.1).mpr hn), om_3k, hd, om_b0, omg_t (by decide), omg_t (by decide), hru, a1, om_b0]
      dsimp only
      rw [a2, om_b0, if_pos rfl, a3, om_b0]
      dsimp only
      rw [if_neg om_ne10, a4, om_b0, if_neg om_ne10, a5, om_b0, if_neg om_ne10, a6, om_b0]
      dsimp only
      rw [if_neg om_ne10, om_b0]
      exact b1
    · refine ⟨σ, ?_, hJ⟩
      rw [l_L_law_111.eq_2, if_pos (om_k2 hk2), if_neg om_ne10, omg_t om_54, om_54n, hT.1, if_neg (fun h => hn ((om_pos_w hok.1).mp h))]
theorem l_L_law_63_eq {L S : Nat} {xs : Nat → Int} (hL : L ≤ 260) (hS : S ≤ 16) : ∀ (m k fuel : Nat) (σ : omH), k + m = S → m < fuel → omJs σ → ∃ σ', l_L_law_63 L xs (S : Int) fuel 1 (k : Int) σ = some (1, σ') ∧ omJs σ' := by
  intro m
  induction m with
  | zero =>
    intro k fuel σ hk hf hJ
    obtain ⟨fuel, rfl⟩ : ∃ z, fuel = z + 1 := ⟨fuel - 1, by omega⟩
    have : k = S := by omega
    subst this
    refine ⟨σ, ?_, hJ⟩
    rw [l_L_law_63.eq_2, if_neg (Int.lt_irrefl _)]
  | succ m ih =>
    intro k fuel σ hk hf hJ
    obtain ⟨fuel, rfl⟩ : ∃ z, fuel = z + 1 := ⟨fuel - 1, by omega⟩
    have hkS : k < S := by omega
    have cw : omw (k : Int) < omw (S : Int) := om_lt_w hkS (by omega)
    obtain ⟨z0, hz0, hd0⟩ := s_L_draw_eq (xs := xs) (σ := σ) hL (show 3 * k ≤ 100 by omega)
    obtain ⟨z1, hz1, hd1⟩ := s_L_draw_eq (xs := xs) (σ := σ) hL (show 3 * k + 1 ≤ 100 by omega)
    obtain ⟨z2, hz2, hd2⟩ := s_L_draw_eq (xs := xs) (σ := σ) hL (show 3 * k + 2 ≤ 100 by omega)
    obtain ⟨τ, a1, a2⟩ := s_L_step_eq hJ hz0 hz1 hz2
    obtain ⟨τ2, c1, c2⟩ := l_L_law_111_eq (xs := xs) (v4 := (S : Int)) hL (show k ≤ 16 by omega) 2 0 FU τ (by omega) (by rw [FU_eq]; omega) a2
    have c1' : l_L_law_111 L xs (S : Int) (k : Int) FU 1 0 τ = some (1, τ2) := c1
    obtain ⟨σ', b1, b2⟩ := ih (k + 1) fuel τ2 (by omega) (by omega) c2
    refine ⟨σ', ?_, b2⟩
    rw [om_succI] at b1
    rw [l_L_law_63.eq_2, if_pos cw, if_neg om_ne10, om_3k1, om_3k2, om_3k, hd0, om_b0, hd1, om_b0, hd2, om_b0, a1, om_b0]
    dsimp only
    rw [c1', om_b0]
    exact b1
theorem omJs0 : omSj 0 (omS0 18) (omS0 19) (omS0 20) (omS0 21) (omS0 22) (omS0 23) omS0 := by
  refine ⟨⟨by decide, fun j hj => by omega, fun q hq => ?_⟩, ⟨rfl, rfl, rfl, rfl, rfl, rfl, rfl⟩, ⟨rfl, fun j hj => by omega, fun q hq => rfl⟩, fun _ => ⟨rfl, rfl⟩⟩
  show (0 : Int) ≤ 0 ∧ (0 : Int) ≤ 20
  decide
theorem om_steps {L : Nat} (hL : L ≤ 260) : ∃ S : Nat, S ≤ 16 ∧ (if omw 16 < omw ((omw (L : Int)).tdiv (omw 3)) then some (16 : Int) else omg (¬ omw 3 = 0) (some ((omw (L : Int)).tdiv (omw 3)))) = some (S : Int) := by
  rw [om_td (m := 3) (by decide) (show L < 2147483648 by omega), omg_t (by decide)]
  have h3 : L / 3 ≤ 86 := Nat.le_trans (Nat.div_le_div_right hL) (by decide)
  generalize L / 3 = y at h3
  have wy : omw (y : Int) = (y : Int) := om_wn (by omega)
  rw [wy]
  by_cases h : 16 < y
  · refine ⟨16, Nat.le_refl _, ?_⟩
    rw [if_pos (by show (16 : Int) < (y : Int); omega)]
    rfl
  · refine ⟨y, by omega, ?_⟩
    rw [if_neg (by show ¬ (16 : Int) < (y : Int); omega)]
/-- the law, out of its start: it answers 1 -/
theorem om_pure (L : Nat) (xs : Nat → Int) (hL : L ≤ 260) (_ : ∀ j, -2147483648 ≤ xs j ∧ xs j < 2147483648) : ∃ σ', s_L_law L xs omS0 = some (1, σ') := by
  obtain ⟨hok, hc, hT, h0⟩ := omJs0
  obtain ⟨τ, a1, a2⟩ := (om_none hok hc).1
  have hJ : omJs τ := ⟨0, _, _, _, _, _, _, hok, hc.ex a2 (by simp), hT.ex a2 (by simp), fun _ => by rw [a2 24 (by simp)]; exact h0 rfl⟩
  obtain ⟨S, hS, hs⟩ := om_steps hL
  obtain ⟨σ', b1, b2⟩ := l_L_law_63_eq (xs := xs) hL hS S 0 FU τ (by omega) (by rw [FU_eq]; omega) hJ
  have b1' : l_L_law_63 L xs (S : Int) FU 1 0 τ = some (1, σ') := b1
  refine ⟨σ', ?_⟩
  have z17 : omS0 17 0 = 0 := rfl
  have z24 : omS0 24 0 = 0 := rfl
  unfold s_L_law s_X11_jobs
  rw [om_b0, z17, if_pos om_eq00, om_hasPlan0 z24, om_b0, if_pos om_eq00, a1, om_b0]
  dsimp only
  rw [if_pos om_eq00, om_b0, omg_t (by decide), hs, om_b0]
  dsimp only
  rw [b1', om_b0]
