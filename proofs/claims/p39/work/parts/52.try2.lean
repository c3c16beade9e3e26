/-- what tryAll leaves as it was -/
def omTf (σ0 τ : omH) : Prop := omEx [38] σ0 τ ∧ ∀ k, k ≠ 3 → τ 38 k = σ0 38 k
theorem omTf.su {σ0 τ : omH} {v : Int} (h : omTf σ0 τ) : omTf σ0 (omsu τ 38 3 v) :=
  ⟨h.1.trans (omEx.su (by simp)), fun k hk => by rw [omsu_n (Or.inr hk)]; exact h.2 k hk⟩
theorem omUn_full {n S : Nat} (hS : S < 2 ^ n) (h : omUn n S = 0) : S = 2 ^ n - 1 := by
  have hall : ∀ j, j < n → S.testBit j = true := fun j hj => Classical.byContradiction (fun hb => by
    have := omUn_ins hj hb
    have := omUn_rng (n := n) (S := S ||| 2 ^ j)
    omega)
  exact Nat.eq_of_testBit_eq (fun i => by
    rw [Nat.testBit_two_pow_sub_one]
    by_cases hi : i < n
    · rw [hall i hi]; simp [hi]
    · rw [Nat.testBit_lt_two_pow (Nat.lt_of_lt_of_le hS (Nat.pow_le_pow_right (by decide) (by omega)))]; simp [hi])
theorem omUn_of_full {n : Nat} : omUn n (2 ^ n - 1) = 0 := omSum_zero (fun j hj => by rw [om_full_bit hj]; rfl)
theorem l_X4_tryAll_35_eq {n c S k : Nat} {p d w r f s : Nat → Int} {u t a : Int} {g : Nat → Int} {l0 : Int} {rec : Int → Int → Int → Int → Int → omH → Option omH} {σ0 : omH} (hok : omOk n p d w r f s) (hcc : c < 5) (hc : omCv n p d w r f s σ0) (h2 : σ0 38 2 = c) (hS : S < 2 ^ n) (hl0 : l0 ≤ 1000000) (hstep : ∀ (j : Nat) (ρ : omH), j < n → ¬ S.testBit j = true → omTf σ0 ρ → -1000000 ≤ ρ 38 3 → ρ 38 3 ≤ 1000000 → ∃ r3 r4 ρ2, s_X4_endBehind S u t j ρ = some r3 ∧ s_X1_with c a j r3 ρ = some r4 ∧ rec ((S ||| 2 ^ j : Nat) : Int) (f j) r3 r4 ((k : Int) + 1) ρ = some ρ2 ∧ omTf σ0 ρ2 ∧ ρ2 38 3 = min (ρ 38 3) (g j) ∧ -1000000 ≤ g j) :
    ∀ (l j fu : Nat) (ρ : omH), j + l = n → l < fu → omTf σ0 ρ → -1000000 ≤ ρ 38 3 → ρ 38 3 = min l0 (omMn S g j) → ∃ ρ', l_X4_tryAll_35 rec S u t a k fu j ρ = some ρ' ∧ omTf σ0 ρ' ∧ ρ' 38 3 = min l0 (omMn S g n) := by
  have hn := hok.1
  have hpw := om_pow_le hn
  intro l
  induction l with
  | zero =>
    intro j fu ρ hj hfu hρ hρ1 hmin
    obtain ⟨fu, rfl⟩ : ∃ z, fu = z + 1 := ⟨fu - 1, by omega⟩
    have : j = n := by omega
    subst this
    rw [l_X4_tryAll_35.eq_2, (hc.ex hρ.1 (by simp)).1, if_neg (by omega)]
    exact ⟨ρ, rfl, hρ, hmin⟩
  | succ l ihl =>
    intro j fu ρ hj hfu hρ hρ1 hmin
    obtain ⟨fu, rfl⟩ : ∃ z, fu = z + 1 := ⟨fu - 1, by omega⟩
    have hjn : j < n := by omega
    have hcρ := hc.ex hρ.1 (by simp)
    have e0 : omMn S g (j + 1) = if S.testBit j = true then omMn S g j else min (omMn S g j) (g j) := rfl
    rw [l_X4_tryAll_35.eq_2, hcρ.1, om_wn (show j < 2147483648 by omega), om_wn (show n < 2147483648 by omega), if_pos (by omega), s_X2_isIn_eq (by omega) (by omega), om_b0, show ((j : Int) + 1) = ((j + 1 : Nat) : Int) by omega]
    by_cases hb : S.testBit j = true
    · rw [if_pos hb] at e0
      rw [if_pos hb, if_neg (by decide)]
      exact ihl (j + 1) fu ρ (by omega) (by omega) hρ hρ1 (by rw [e0]; exact hmin)
    · rw [if_neg hb] at e0
      obtain ⟨r3, r4, ρ2, s1, s2, s3, s4, s5, s6⟩ := hstep j ρ hjn hb hρ hρ1 (by omega)
      have hc2 : (ρ 38 2).toNat = c := by rw [hρ.2 2 (by decide), h2, Int.toNat_natCast]
      rw [if_neg hb, if_pos (by decide), s1, om_b0, hc2, omg_t ⟨by omega, hcc⟩, s2, om_b0, omg_t ⟨by omega, by omega⟩, Int.toNat_natCast, om_ins (by omega) (by omega), hcρ.2.2.2.2.2.1, s3, om_b0]
      exact ihl (j + 1) fu ρ2 (by omega) (by omega) s4 (by rw [s5]; omega) (by rw [s5, hmin, e0]; omega)
