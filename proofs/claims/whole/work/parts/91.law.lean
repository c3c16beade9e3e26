theorem om_law_loop {L : Nat} {xs : Nat → Int} (hL : L ≤ 3584) (hxs : ∀ j, -2147483648 ≤ xs j ∧ xs j < 2147483648) : ∀ (fuel : Nat) (x : Int) (σ : omH), 0 ≤ x → (L : Int) - x < 7 * fuel → x ≤ L → omInv σ → ∃ σ', l_L_law_23 L xs fuel x σ = some (Sum.inl (1, σ')) := by
  intro fuel
  induction fuel with
  | zero =>
    intro x σ h0 h1 h2 hI
    exact absurd h1 (by omega)
  | succ fuel ih =>
    intro x σ h0 h1 h2 hI
    rw [l_L_law_23.eq_2]
    by_cases hend : omw ((L : Int) - 7) < omw x
    · rw [if_pos hend]
      exact ⟨σ, rfl⟩
    · rw [if_neg hend]
      rw [omw_id (a := (L : Int) - 7) (by omega) (by omega), omw_id (a := x) (by omega) (by omega)] at hend
      have hx : 0 ≤ x ∧ x + 7 ≤ L := ⟨h0, by omega⟩
      have go : ∀ τ, omInv τ → ∃ σ', l_L_law_23 L xs fuel (x + 7) τ = some (Sum.inl (1, σ')) := fun τ hτ => ih (x + 7) τ (by omega) (by omega) (by omega) hτ
      rw [omg_t (show 0 ≤ omw x ∧ omw x < L by rw [omw_id (by omega) (by omega)]; omega)]
      by_cases c0 : omw (omand (xs (omw x).toNat) 63) = 0
      · rw [if_pos c0]
        obtain ⟨τ, e, hτ⟩ := om_op0 (rec := l_L_law_23 L xs fuel) hx hL hxs hI
        rw [e]
        exact go τ hτ
      rw [if_neg c0]
      by_cases c1 : omw (omand (xs (omw x).toNat) 63) = 1
      · rw [if_pos c1]
        obtain ⟨τ, e, hτ⟩ := om_op1 (rec := l_L_law_23 L xs fuel) hx hL hxs hI
        rw [e]
        exact go τ hτ
      rw [if_neg c1]
      by_cases c2 : omw (omand (xs (omw x).toNat) 63) = 2
      · rw [if_pos c2]
        obtain ⟨τ, e, hτ⟩ := om_op2 (rec := l_L_law_23 L xs fuel) hx hL hxs hI
        rw [e]
        exact go τ hτ
      rw [if_neg c2]
      by_cases c3 : omw (omand (xs (omw x).toNat) 63) = 3
      · rw [if_pos c3]
        obtain ⟨τ, e, hτ⟩ := om_op3 (rec := l_L_law_23 L xs fuel) hx hL hxs hI
        rw [e]
        exact go τ hτ
      rw [if_neg c3]
      by_cases c4 : omw (omand (xs (omw x).toNat) 63) = 4
      · rw [if_pos c4]
        obtain ⟨τ, e, hτ⟩ := om_op4 (L := L) (xs := xs) (rec := l_L_law_23 L xs fuel) (x := x) hI
        rw [e]
        exact go τ hτ
      rw [if_neg c4]
      by_cases c5 : omw (omand (xs (omw x).toNat) 63) = 5
      · rw [if_pos c5]
        obtain ⟨τ, e, hτ⟩ := om_op5 (rec := l_L_law_23 L xs fuel) hx hL hxs hI
        rw [e]
        exact go τ hτ
      rw [if_neg c5]
      by_cases c6 : omw (omand (xs (omw x).toNat) 63) = 6
      · rw [if_pos c6]
        obtain ⟨τ, e, hτ⟩ := om_op6 (rec := l_L_law_23 L xs fuel) hx hL hxs hI
        rw [e]
        exact go τ hτ
      rw [if_neg c6]
      by_cases c7 : omw (omand (xs (omw x).toNat) 63) = 7
      · rw [if_pos c7]
        obtain ⟨τ, e, hτ⟩ := om_op7 (rec := l_L_law_23 L xs fuel) hx hL hxs hI
        rw [e]
        exact go τ hτ
      rw [if_neg c7]
      by_cases c8 : omw (omand (xs (omw x).toNat) 63) = 8
      · rw [if_pos c8]
        obtain ⟨τ, e, hτ⟩ := om_op8 (rec := l_L_law_23 L xs fuel) hx hL hxs hI
        rw [e]
        exact go τ hτ
      rw [if_neg c8]
      by_cases c9 : omw (omand (xs (omw x).toNat) 63) = 9
      · rw [if_pos c9]
        obtain ⟨τ, e, hτ⟩ := om_op9 (rec := l_L_law_23 L xs fuel) hx hL hxs hI
        rw [e]
        exact go τ hτ
      rw [if_neg c9]
      by_cases c10 : omw (omand (xs (omw x).toNat) 63) = 10
      · rw [if_pos c10]
        obtain ⟨τ, e, hτ⟩ := om_op10 (rec := l_L_law_23 L xs fuel) hx hL hxs hI
        rw [e]
        exact go τ hτ
      rw [if_neg c10]
      by_cases c11 : omw (omand (xs (omw x).toNat) 63) = 11
      · rw [if_pos c11]
        obtain ⟨τ, e, hτ⟩ := om_op11 (rec := l_L_law_23 L xs fuel) hx hL hxs hI
        rw [e]
        exact go τ hτ
      rw [if_neg c11]
      by_cases c12 : omw (omand (xs (omw x).toNat) 63) = 12
      · rw [if_pos c12]
        obtain ⟨τ, e, hτ⟩ := om_op12 (L := L) (xs := xs) (rec := l_L_law_23 L xs fuel) (x := x) hI
        rw [e]
        exact go τ hτ
      rw [if_neg c12]
      by_cases c13 : omw (omand (xs (omw x).toNat) 63) = 13
      · rw [if_pos c13]
        obtain ⟨τ, e, hτ⟩ := om_op13 (L := L) (xs := xs) (rec := l_L_law_23 L xs fuel) (x := x) hI
        rw [e]
        exact go τ hτ
      rw [if_neg c13]
      by_cases c14 : omw (omand (xs (omw x).toNat) 63) = 14
      · rw [if_pos c14]
        obtain ⟨τ, e, hτ⟩ := om_op14 (rec := l_L_law_23 L xs fuel) hx hL hxs hI
        rw [e]
        exact go τ hτ
      rw [if_neg c14]
      by_cases c15 : omw (omand (xs (omw x).toNat) 63) = 15
      · rw [if_pos c15]
        obtain ⟨τ, e, hτ⟩ := om_op15 (rec := l_L_law_23 L xs fuel) hx hL hxs hI
        rw [e]
        exact go τ hτ
      rw [if_neg c15]
      by_cases c16 : omw (omand (xs (omw x).toNat) 63) = 16
      · rw [if_pos c16]
        obtain ⟨τ, e, hτ⟩ := om_op16 (rec := l_L_law_23 L xs fuel) hx hL hxs hI
        rw [e]
        exact go τ hτ
      rw [if_neg c16]
      by_cases c17 : omw (omand (xs (omw x).toNat) 63) = 17
      · rw [if_pos c17]
        obtain ⟨τ, e, hτ⟩ := om_op17 (rec := l_L_law_23 L xs fuel) hx hL hxs hI
        rw [e]
        exact go τ hτ
      rw [if_neg c17]
      by_cases c18 : omw (omand (xs (omw x).toNat) 63) = 18
      · rw [if_pos c18]
        obtain ⟨τ, e, hτ⟩ := om_op18 (rec := l_L_law_23 L xs fuel) hx hL hxs hI
        rw [e]
        exact go τ hτ
      rw [if_neg c18]
      by_cases c19 : omw (omand (xs (omw x).toNat) 63) = 19
      · rw [if_pos c19]
        obtain ⟨τ, e, hτ⟩ := om_op19 (rec := l_L_law_23 L xs fuel) hx hL hxs hI
        rw [e]
        exact go τ hτ
      rw [if_neg c19]
      by_cases c20 : omw (omand (xs (omw x).toNat) 63) = 20
      · rw [if_pos c20]
        obtain ⟨τ, e, hτ⟩ := om_op20 (rec := l_L_law_23 L xs fuel) hx hL hxs hI
        rw [e]
        exact go τ hτ
      rw [if_neg c20]
      by_cases c21 : omw (omand (xs (omw x).toNat) 63) = 21
      · rw [if_pos c21]
        obtain ⟨τ, e, hτ⟩ := om_op21 (rec := l_L_law_23 L xs fuel) hx hL hxs hI
        rw [e]
        exact go τ hτ
      rw [if_neg c21]
      by_cases c22 : omw (omand (xs (omw x).toNat) 63) = 22
      · rw [if_pos c22]
        obtain ⟨τ, e, hτ⟩ := om_op22 (rec := l_L_law_23 L xs fuel) hx hL hxs hI
        rw [e]
        exact go τ hτ
      rw [if_neg c22]
      by_cases c23 : omw (omand (xs (omw x).toNat) 63) = 23
      · rw [if_pos c23]
        obtain ⟨τ, e, hτ⟩ := om_op23 (rec := l_L_law_23 L xs fuel) hx hL hxs hI
        rw [e]
        exact go τ hτ
      rw [if_neg c23]
      by_cases c24 : omw (omand (xs (omw x).toNat) 63) = 24
      · rw [if_pos c24]
        obtain ⟨τ, e, hτ⟩ := om_op24 (rec := l_L_law_23 L xs fuel) hx hL hxs hI
        rw [e]
        exact go τ hτ
      rw [if_neg c24]
      by_cases c25 : omw (omand (xs (omw x).toNat) 63) = 25
      · rw [if_pos c25]
        obtain ⟨τ, e, hτ⟩ := om_op25 (rec := l_L_law_23 L xs fuel) hx hL hxs hI
        rw [e]
        exact go τ hτ
      rw [if_neg c25]
      by_cases c26 : omw (omand (xs (omw x).toNat) 63) = 26
      · rw [if_pos c26]
        obtain ⟨τ, e, hτ⟩ := om_op26 (rec := l_L_law_23 L xs fuel) hx hL hxs hI
        rw [e]
        exact go τ hτ
      rw [if_neg c26]
      by_cases c27 : omw (omand (xs (omw x).toNat) 63) = 27
      · rw [if_pos c27]
        obtain ⟨τ, e, hτ⟩ := om_op27 (rec := l_L_law_23 L xs fuel) hx hL hxs hI
        rw [e]
        exact go τ hτ
      rw [if_neg c27]
      by_cases c28 : omw (omand (xs (omw x).toNat) 63) = 28
      · rw [if_pos c28]
        obtain ⟨τ, e, hτ⟩ := om_op28 (rec := l_L_law_23 L xs fuel) hx hL hxs hI
        rw [e]
        exact go τ hτ
      rw [if_neg c28]
      by_cases c29 : omw (omand (xs (omw x).toNat) 63) = 29
      · rw [if_pos c29]
        obtain ⟨τ, e, hτ⟩ := om_op29 (rec := l_L_law_23 L xs fuel) hx hL hxs hI
        rw [e]
        exact go τ hτ
      rw [if_neg c29]
      by_cases c30 : omw (omand (xs (omw x).toNat) 63) = 30
      · rw [if_pos c30]
        obtain ⟨τ, e, hτ⟩ := om_op30 (rec := l_L_law_23 L xs fuel) hx hL hxs hI
        rw [e]
        exact go τ hτ
      rw [if_neg c30]
      by_cases c31 : omw (omand (xs (omw x).toNat) 63) = 31
      · rw [if_pos c31]
        obtain ⟨τ, e, hτ⟩ := om_op31 (rec := l_L_law_23 L xs fuel) hx hL hxs hI
        rw [e]
        exact go τ hτ
      rw [if_neg c31]
      by_cases c32 : omw (omand (xs (omw x).toNat) 63) = 32
      · rw [if_pos c32]
        obtain ⟨τ, e, hτ⟩ := om_op32 (L := L) (xs := xs) (rec := l_L_law_23 L xs fuel) (x := x) hI
        rw [e]
        exact go τ hτ
      rw [if_neg c32]
      by_cases c33 : omw (omand (xs (omw x).toNat) 63) = 33
      · rw [if_pos c33]
        obtain ⟨τ, e, hτ⟩ := om_op33 (rec := l_L_law_23 L xs fuel) hx hL hxs hI
        rw [e]
        exact go τ hτ
      rw [if_neg c33]
      by_cases c34 : omw (omand (xs (omw x).toNat) 63) = 34
      · rw [if_pos c34]
        obtain ⟨τ, e, hτ⟩ := om_op34 (rec := l_L_law_23 L xs fuel) hx hL hxs hI
        rw [e]
        exact go τ hτ
      rw [if_neg c34]
      by_cases c35 : omw (omand (xs (omw x).toNat) 63) = 35
      · rw [if_pos c35]
        obtain ⟨τ, e, hτ⟩ := om_op35 (rec := l_L_law_23 L xs fuel) hx hL hxs hI
        rw [e]
        exact go τ hτ
      rw [if_neg c35]
      exact go σ hI
theorem om_inv0 : omInv omS0 := by
  refine ⟨0, omS0 18, omS0 19, omS0 20, omS0 21, omS0 22, omS0 23, ⟨by decide, fun j hj => by omega, fun q _ => ?_⟩, ⟨rfl, rfl, rfl, rfl, rfl, rfl, rfl⟩, ⟨rfl, rfl, rfl, rfl, rfl, rfl, rfl⟩, omPln_drop rfl rfl rfl rfl⟩
  show (0 : Int) ≤ 0 ∧ (0 : Int) ≤ 20
  decide
theorem om_pure : ∀ (L : Nat) (xs : Nat → Int), L ≤ 3584 → (∀ j, -2147483648 ≤ xs j ∧ xs j < 2147483648) → ∃ σ', l_L_law_23 L xs 513 0 omS0 = some (.inl (1, σ')) := fun L xs hL hxs =>
  om_law_loop hL hxs  513 0 omS0 (by decide) (by omega) (by omega) om_inv0
