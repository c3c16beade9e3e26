/-! .. a job gone from the table -/
theorem om_ix1 {C j : Nat} (h : C + j + 1 < 55) : omw (((C : Nat) : Int) + (j : Int) + 1) = ((C + j + 1 : Nat) : Int) := by
  rw [show ((C : Nat) : Int) + (j : Int) + 1 = ((C + j + 1 : Nat) : Int) by omega]
  exact om_wn (by omega)
theorem om_row10 {c k : Nat} (hc : c < 5) (hk : k < 9) : 10 * c + k + 1 < 55 := by omega
theorem om_row10' {c k : Nat} (hc : c < 5) (hk : k < 9) : 10 * c + k < 55 := by omega
theorem om_c50 {c : Nat} (hc : c < 5) : omw ((10 * c : Nat) : Int) < omw 50 := by
  rw [om_wn (by omega)]
  show ((10 * c : Nat) : Int) < 50
  omega
theorem om_c50' : ¬ omw ((10 * 5 : Nat) : Int) < omw 50 := by decide
theorem om_c10 {c : Nat} : ((10 * c : Nat) : Int) + 10 = ((10 * (c + 1) : Nat) : Int) := by omega
theorem l_L_step_313_eq {k : Nat} {v5 v6 : Int} (hk : k < 9) : ∀ (m c fuel : Nat) (σ : omH), c + m = 5 → m < fuel → ∃ σ', l_L_step_313 v5 v6 (k : Int) fuel ((10 * c : Nat) : Int) σ = some σ' ∧ omEx [43] σ σ' ∧ (∀ e, c ≤ e → e < 5 → σ' 43 (10 * e + k) = σ 43 (10 * e + k + 1)) ∧ ∀ i, (∀ e, c ≤ e → e < 5 → i ≠ 10 * e + k) → σ' 43 i = σ 43 i := by
  intro m
  induction m with
  | zero =>
    intro c fuel σ hc hf
    obtain ⟨fuel, rfl⟩ : ∃ z, fuel = z + 1 := ⟨fuel - 1, by omega⟩
    have : c = 5 := by omega
    subst this
    refine ⟨σ, ?_, omEx.rfl', fun e h1 h2 => by omega, fun i _ => rfl⟩
    rw [l_L_step_313.eq_2, if_neg om_c50']
  | succ m ih =>
    intro c fuel σ hc hf
    obtain ⟨fuel, rfl⟩ : ∃ z, fuel = z + 1 := ⟨fuel - 1, by omega⟩
    have hc5 : c < 5 := by omega
    obtain ⟨σ', a1, a2, a3, a4⟩ := ih (c + 1) fuel (omsu σ 43 (10 * c + k) (σ 43 (10 * c + k + 1))) (by omega) (by omega)
    refine ⟨σ', ?_, (omEx.su (by simp)).trans a2, fun e h1 h2 => ?_, fun i hi => ?_⟩
    · rw [l_L_step_313.eq_2, if_pos (om_c50 hc5), om_ix1 (om_row10 hc5 hk), omg_t (om_ixg (om_row10 hc5 hk)), om_ix (C := 10 * c) rfl (om_row10' hc5 hk), omg_t (om_ixg (om_row10' hc5 hk)), Int.toNat_natCast, Int.toNat_natCast, om_c10]
      exact a1
    · by_cases he : e = c
      · subst he
        rw [a4 (10 * e + k) (fun e' h3 h4 => by omega), omsu_s]
      · rw [a3 e (by omega) h2, omsu_n (Or.inr (by omega))]
    · rw [a4 i (fun e h1 h2 => hi e (by omega) h2), omsu_n (Or.inr (hi c (Nat.le_refl c) hc5))]
theorem omSh_at {j m i : Nat} {g : Nat → Int} : omSh j m g i = if j ≤ i ∧ i < m then g (i + 1) else g i := rfl
theorem l_L_step_301_eq {j N : Nat} {v5 v6 : Int} {G : Nat → Nat → Int} (hN : N < 10) : ∀ (m k fuel : Nat) (σ : omH), k + m = N → j ≤ k → m < fuel → σ 43 54 = (N : Nat) → (∀ c, c < 5 → ∀ i, i < 10 → σ 43 (10 * c + i) = omSh j k (G c) i) → ∃ σ', l_L_step_301 v5 v6 fuel (k : Int) σ = some σ' ∧ omEx [43] σ σ' ∧ σ' 43 54 = (N : Nat) ∧ (∀ c, c < 5 → ∀ i, i < 10 → σ' 43 (10 * c + i) = omSh j N (G c) i) ∧ ∀ q, q < 4 → σ' 43 (50 + q) = σ 43 (50 + q) := by
  intro m
  induction m with
  | zero =>
    intro k fuel σ hk hj hf h54 hG
    obtain ⟨fuel, rfl⟩ : ∃ z, fuel = z + 1 := ⟨fuel - 1, by omega⟩
    have : k = N := by omega
    subst this
    refine ⟨σ, ?_, omEx.rfl', h54, hG, fun q _ => rfl⟩
    rw [l_L_step_301.eq_2, omg_t om_54, om_54n, h54, if_neg (Int.lt_irrefl _)]
  | succ m ih =>
    intro k fuel σ hk hj hf h54 hG
    obtain ⟨fuel, rfl⟩ : ∃ z, fuel = z + 1 := ⟨fuel - 1, by omega⟩
    have hk9 : k < 9 := by omega
    obtain ⟨τ, b1, b2, b3, b4⟩ := l_L_step_313_eq (v5 := v5) (v6 := v6) hk9 5 0 FU σ (by omega) (by rw [FU_eq]; omega)
    have b1' : l_L_step_313 v5 v6 (k : Int) FU 0 σ = some τ := b1
    obtain ⟨σ', a1, a2, a3, a4, a5⟩ := ih (k + 1) fuel τ (by omega) (by omega) (by omega) (by rw [b4 54 (fun e h1 h2 => by omega)]; exact h54) (fun c hc i hi => by
      by_cases he : i = k
      · subst he
        rw [b3 c (Nat.zero_le c) hc, show 10 * c + i + 1 = 10 * c + (i + 1) by omega, hG c hc (i + 1) (by omega), omSh_at, omSh_at, if_neg (by omega), if_pos (by omega)]
      · rw [b4 (10 * c + i) (fun e h1 h2 => by omega), hG c hc i hi, omSh_at, omSh_at]
        by_cases h1 : j ≤ i ∧ i < k
        · rw [if_pos h1, if_pos (by omega)]
        · rw [if_neg h1, if_neg (by omega)])
    refine ⟨σ', ?_, b2.trans a2, a3, a4, fun q hq => by rw [a5 q hq, b4 (50 + q) (fun e h1 h2 => by omega)]⟩
    have cw : omw (k : Int) < omw (N : Int) := om_lt_w (by omega) (by omega)
    rw [l_L_step_301.eq_2, omg_t om_54, om_54n, h54, if_pos cw, b1', om_b0]
    rw [show ((k + 1 : Nat) : Int) = (k : Int) + 1 by omega] at a1
    exact a1
theorem omTb.gone {n j : Nat} {p d w r f s : Nat → Int} {σ σ' : omH} (h : omTb n p d w r f s σ) (hn : n ≤ 10) (hj : j < n) (h54 : σ' 43 54 = ((n - 1 : Nat) : Int)) (hG : ∀ c, c < 5 → ∀ i, i < 10 → σ' 43 (10 * c + i) = omSh j (n - 1) (fun i => σ 43 (10 * c + i)) i) (hq : ∀ q, q < 4 → σ' 43 (50 + q) = σ 43 (50 + q)) : omTb (n - 1) (omSh j (n - 1) p) (omSh j (n - 1) d) (omSh j (n - 1) w) (omSh j (n - 1) r) (omSh j (n - 1) f) s σ' := by
  refine ⟨h54, fun i hi => ?_, fun q hqq => by rw [hq q hqq]; exact h.2.2 q hqq⟩
  have key : ∀ (c : Nat) (g : Nat → Int), c < 5 → (∀ x, x < n → σ 43 (10 * c + x) = g x) → σ' 43 (10 * c + i) = omSh j (n - 1) g i := fun c g hc hg => by
    rw [hG c hc i (by omega), omSh_at, omSh_at]
    by_cases h1 : j ≤ i ∧ i < n - 1
    · rw [if_pos h1, if_pos h1]
      exact hg (i + 1) (by omega)
    · rw [if_neg h1, if_neg h1]
      exact hg i (by omega)
  have k0 := key 0 p (by decide) (fun x hx => by rw [show 10 * 0 + x = x by omega]; exact (h.2.1 x hx).1)
  rw [show 10 * 0 + i = i by omega] at k0
  exact ⟨k0, key 1 d (by decide) (fun x hx => (h.2.1 x hx).2.1), key 2 w (by decide) (fun x hx => (h.2.1 x hx).2.2.1), key 3 r (by decide) (fun x hx => (h.2.1 x hx).2.2.2.1), key 4 f (by decide) (fun x hx => (h.2.1 x hx).2.2.2.2)⟩
