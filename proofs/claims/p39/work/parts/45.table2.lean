theorem om_full {n : Nat} (hn : n ≤ 10) : omshl 1 (n : Int) - 1 = ((2 ^ n : Nat) : Int) - 1 := by rw [omshl_one (by omega)]
theorem omEq_of {n v S : Nat} {p d w : Nat → Int} {T T' : Nat → Int} (h : omEq n p d w v T S) (h0 : T' S = T S) (h1 : ∀ j, j < n → ¬ S.testBit j = true → T' (S ||| 2 ^ j) = T (S ||| 2 ^ j)) : omEq n p d w v T' S := by
  unfold omEq at h ⊢
  rw [h0, h]
  exact omFm_congr n (fun j hj hb => by unfold omTg; rw [h1 j hj hb])
/-! .. the class's -/
theorem s_X7_tardinessBy_eq {n S j : Nat} {p d w r f s : Nat → Int} {σ : omH} (hok : omOk n p d w r f s) (hc : omCv n p d w r f s σ) (hS : S < 2 ^ n) (hj : j < n) (ha : -1000000 ≤ σ 34 (S ||| 2 ^ j) ∧ σ 34 (S ||| 2 ^ j) ≤ 1000000) : s_X7_tardinessBy S (omLn n p S) j σ = some (omTg n p d w 2 (σ 34) S j) := by
  have hn := hok.1
  have hpw := om_pow_le hn
  have ho := hok.2.1 j hj
  have hor := om_ins_lt hS hj
  have hL := omLn_rng (S := S) hok (Nat.le_refl n)
  have h1 : s_X1_with 4 (σ 34 (S ||| 2 ^ j)) j (omLn n p S + p j) σ = _ := s_X1_with_eq (C := fun _ => omLn n p S + p j) (c := 4) hok hc (by decide) hj (by show 0 ≤ omLn n p S + p j ∧ omLn n p S + p j ≤ 1000; omega) (by omega)
  unfold s_X7_tardinessBy
  rw [om_ins (by omega) (by omega), om_wn (show S ||| 2 ^ j < 2147483648 by omega), omg_t ⟨by omega, by omega⟩, om_wn (show j < 2147483648 by omega), omg_t ⟨by omega, by omega⟩, Int.toNat_natCast, Int.toNat_natCast, hc.2.1, h1, om_b0]
  rfl
theorem l_X7_fillLeastTardiness_38_eq {n S : Nat} {b : Int} {p d w r f s : Nat → Int} {T : Nat → Int} (hok : omOk n p d w r f s) (hS : S < 2 ^ n) (hb : -1000000 ≤ b ∧ b ≤ 1000000) (hT : ∀ j, j < n → ¬ S.testBit j = true → -1000000 ≤ T (S ||| 2 ^ j) ∧ T (S ||| 2 ^ j) ≤ 1000000) : ∀ (m k fuel : Nat) (σ : omH), k + m = n → m < fuel → omCv n p d w r f s σ → (∀ j, j < n → ¬ S.testBit j = true → σ 34 (S ||| 2 ^ j) = T (S ||| 2 ^ j)) → σ 34 S = omFm b S (omTg n p d w 2 T S) k →
    ∃ σ', l_X7_fillLeastTardiness_38 S (omLn n p S) fuel k σ = some σ' ∧ omEx [34] σ σ' ∧ (∀ i, i ≠ S → σ' 34 i = σ 34 i) ∧ σ' 34 S = omFm b S (omTg n p d w 2 T S) n := by
  have hn := hok.1
  have hpw := om_pow_le hn
  intro m
  induction m with
  | zero =>
    intro k fuel σ hk hf hc hr h0
    obtain ⟨fuel, rfl⟩ : ∃ z, fuel = z + 1 := ⟨fuel - 1, by omega⟩
    have : k = n := by omega
    subst this
    rw [l_X7_fillLeastTardiness_38.eq_2, hc.1, if_neg (by omega)]
    exact ⟨σ, rfl, omEx.rfl', fun _ _ => rfl, h0⟩
  | succ m ih =>
    intro k fuel σ hk hf hc hr h0
    obtain ⟨fuel, rfl⟩ : ∃ z, fuel = z + 1 := ⟨fuel - 1, by omega⟩
    have hkn : k < n := by omega
    have ho := hok.2.1 k hkn
    have hL := omLn_rng (S := S) hok (Nat.le_refl n)
    have e0 : omFm b S (omTg n p d w 2 T S) (k + 1) = if S.testBit k = true then omFm b S (omTg n p d w 2 T S) k else min (omFm b S (omTg n p d w 2 T S) k) (omTg n p d w 2 T S k) := rfl
    rw [l_X7_fillLeastTardiness_38.eq_2, hc.1, om_wn (show k < 2147483648 by omega), om_wn (show n < 2147483648 by omega), if_pos (by omega), s_X2_isIn_eq (by omega) (by omega), om_b0, show ((k : Int) + 1) = ((k + 1 : Nat) : Int) by omega]
    by_cases hbit : S.testBit k = true
    · rw [if_pos hbit] at e0
      rw [if_pos hbit, if_neg (by decide)]
      exact ih (k + 1) fuel σ (by omega) (by omega) hc hr (by rw [e0]; exact h0)
    · rw [if_neg hbit] at e0
      have hor := om_ins_lt hS hkn
      have hTk := hT k hkn hbit
      have hgt := om_or_gt hbit
      have hF := omFm_rng (n := n) (v := 2) (S := S) (g := omTg n p d w 2 T S) hb k (fun j hj hbj => (omJ_rng hok (by omega) (by have := hok.2.1 j (by omega); omega) (hT j (by omega) hbj)).1)
      have hJ := omJ_rng (v := 2) (c := omLn n p S + p k) hok hkn (by omega) hTk
      have ht := s_X7_tardinessBy_eq (σ := σ) hok hc hS hkn (by rw [hr k hkn hbit]; exact hTk)
      have ht2 : omTg n p d w 2 (σ 34) S k = omTg n p d w 2 T S k := by unfold omTg; rw [hr k hkn hbit]
      have hJ' : -1000000 ≤ omTg n p d w 2 T S k ∧ omTg n p d w 2 T S k ≤ 1020000 := hJ
      rw [if_neg hbit, if_pos (by decide), om_wn (show S < 2147483648 by omega), omg_t ⟨by omega, by omega⟩, ht, om_b0, omg_t ⟨by omega, by omega⟩, Int.toNat_natCast, h0, ht2, omw_id (a := omTg n p d w 2 T S k) (by omega) (by omega), omw_id (a := omFm b S (omTg n p d w 2 T S) k) (by omega) (by omega), ← e0]
      have ex1 : omEx [34] σ (omsu σ 34 S (omFm b S (omTg n p d w 2 T S) (k + 1))) := omEx.su (by simp)
      obtain ⟨σ', z1, z2, z3, z4⟩ := ih (k + 1) fuel (omsu σ 34 S (omFm b S (omTg n p d w 2 T S) (k + 1))) (by omega) (by omega) (hc.ex ex1 (by simp)) (fun j hj hbj => by rw [omsu_n (Or.inr (by have := om_or_gt hbj; omega))]; exact hr j hj hbj) omsu_s
      exact ⟨σ', z1, ex1.trans z2, fun i hi => by rw [z3 i hi, omsu_n (Or.inr hi)], z4⟩
