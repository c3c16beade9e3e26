theorem omFm_set {b : Int} {S : Nat} {g : Nat → Int} : ∀ k, (∀ j, j < k → S.testBit j = true) → omFm b S g k = b := by
  intro k
  induction k with
  | zero => intro _; rfl
  | succ k ih =>
    intro h
    show (if S.testBit k = true then omFm b S g k else min (omFm b S g k) (g k)) = b
    rw [if_pos (h k (by omega))]
    exact ih (fun j hj => h j (by omega))
theorem om_full_bit {n j : Nat} (hj : j < n) : (2 ^ n - 1).testBit j = true := by
  rw [Nat.testBit_two_pow_sub_one]
  simp [hj]
theorem l_X7_fillLeastTardiness_17_eq {n : Nat} {p d w r f s : Nat → Int} (hok : omOk n p d w r f s) : ∀ (k fuel : Nat) (σ : omH), k < 2 ^ n → k < fuel → omCv n p d w r f s σ → (∀ S, k ≤ S → S < 2 ^ n → omEq n p d w 2 (σ 34) S ∧ -1000000 ≤ σ 34 S ∧ σ 34 S ≤ 1000000) →
    ∃ σ', l_X7_fillLeastTardiness_17 fuel ((k : Int) - 1) σ = some σ' ∧ omEx [34] σ σ' ∧ ∀ S, S < 2 ^ n → omEq n p d w 2 (σ' 34) S ∧ -1000000 ≤ σ' 34 S ∧ σ' 34 S ≤ 1000000 := by
  have hn := hok.1
  have hpw := om_pow_le hn
  intro k
  induction k with
  | zero =>
    intro fuel σ hk hf hc hr
    obtain ⟨fuel, rfl⟩ : ∃ z, fuel = z + 1 := ⟨fuel - 1, by omega⟩
    rw [l_X7_fillLeastTardiness_17.eq_2, if_pos (by show omw (0 - 1) < 0; decide)]
    exact ⟨σ, rfl, omEx.rfl', fun S hS => hr S (by omega) hS⟩
  | succ k ih =>
    intro fuel σ hk hf hc hr
    obtain ⟨fuel, rfl⟩ : ∃ z, fuel = z + 1 := ⟨fuel - 1, by omega⟩
    have hS : k < 2 ^ n := by omega
    have hL := omLn_rng (S := k) hok (Nat.le_refl n)
    rw [l_X7_fillLeastTardiness_17.eq_2, show (((k + 1 : Nat) : Int) - 1) = (k : Int) by omega, om_wn (show k < 2147483648 by omega), if_neg (by omega), s_X2_lengthOfSet_eq hok hc (by omega), om_b0, omg_t ⟨by omega, by omega⟩, Int.toNat_natCast]
    have hb0 : omB0 n 2 k = 1000000 := by unfold omB0; rw [if_pos (by omega)]
    have hgt : ∀ j, ¬ k.testBit j = true → k + 1 ≤ k ||| 2 ^ j := fun j hb => om_or_gt hb
    have hbb := omB0_rng (n := n) (v := 2) (S := k)
    have ex0 : omEx [34] σ (omsu σ 34 k 1000000) := omEx.su (by simp)
    obtain ⟨τ, x1, x2, x3, x4⟩ := l_X7_fillLeastTardiness_38_eq (b := 1000000) (T := σ 34) hok hS (by decide) (fun j hj hb => (hr _ (hgt j hb) (om_ins_lt hS hj)).2) n 0 FU (omsu σ 34 k 1000000) (by omega) (by rw [FU_eq]; omega) (hc.ex ex0 (by simp)) (fun j hj hb => omsu_n (Or.inr (by have := hgt j hb; omega))) omsu_s
    have x1' : l_X7_fillLeastTardiness_38 k (omLn n p k) FU 0 (omsu σ 34 k 1000000) = some τ := x1
    have hoth : ∀ i, i ≠ k → τ 34 i = σ 34 i := fun i hi => by rw [x3 i hi, omsu_n (Or.inr hi)]
    have hc2 := (hc.ex ex0 (by simp)).ex x2 (by simp)
    rw [x1', om_b0, show ((k : Int) + (-1)) = (k : Int) - 1 by omega]
    obtain ⟨σ', z1, z2, z3⟩ := ih fuel τ (by omega) (by omega) hc2 (fun S hS1 hS2 => by
      by_cases hSk : S = k
      · subst hSk
        refine ⟨?_, ?_⟩
        · unfold omEq
          rw [x4, hb0]
          exact omFm_congr n (fun j hj hb => by unfold omTg; rw [hoth _ (by have := hgt j hb; omega)])
        · rw [x4]
          exact omFm_rng (n := n) (v := 2) (by decide) n (fun j hj hb => (omJ_rng hok hj (by have := hok.2.1 j hj; omega) (hr _ (hgt j hb) (om_ins_lt hS hj)).2).1)
      · have h3 := hr S (by omega) hS2
        rw [hoth S hSk]
        exact ⟨omEq_of h3.1 (hoth S hSk) (fun j hj hb => hoth _ (by have := om_or_gt hb; omega)), h3.2⟩)
    exact ⟨σ', z1, (ex0.trans x2).trans z2, z3⟩
theorem s_X7_fillLeastTardiness_eq {n : Nat} {p d w r f s : Nat → Int} {σ : omH} (hok : omOk n p d w r f s) (hc : omCv n p d w r f s σ) : ∃ σ', s_X7_fillLeastTardiness σ = some σ' ∧ omEx [34] σ σ' ∧ ∀ S, S < 2 ^ n → omEq n p d w 2 (σ' 34) S ∧ -1000000 ≤ σ' 34 S ∧ σ' 34 S ≤ 1000000 := by
  have hn := hok.1
  have hpw := om_pow_le hn
  have hp0 : 0 < 2 ^ n := Nat.two_pow_pos n
  have hcast : ((2 ^ n : Nat) : Int) - 1 = ((2 ^ n - 1 : Nat) : Int) := by omega
  have ex0 : omEx [34] σ (omsu σ 34 (2 ^ n - 1) 0) := omEx.su (by simp)
  have hc1 := hc.ex ex0 (by simp)
  obtain ⟨σ', z1, z2, z3⟩ := l_X7_fillLeastTardiness_17_eq hok (2 ^ n - 1) FU (omsu σ 34 (2 ^ n - 1) 0) (by omega) (by rw [FU_eq]; omega) hc1 (fun S h1 h2 => by
    have hSf : S = 2 ^ n - 1 := by omega
    rw [hSf]
    refine ⟨?_, by rw [omsu_s]; decide⟩
    unfold omEq
    rw [omsu_s, omFm_set n (fun j hj => om_full_bit hj)]
    unfold omB0
    rw [if_neg (by omega), if_neg (by decide)])
  refine ⟨σ', ?_, ex0.trans z2, z3⟩
  unfold s_X7_fillLeastTardiness
  rw [s_X2_all_eq hok hc, om_b0, hcast, om_wn (show 2 ^ n - 1 < 2147483648 by omega), omg_t ⟨by omega, by omega⟩, Int.toNat_natCast, s_X2_all_eq hok hc1, om_b0, hcast, z1, om_b0]
/-! .. a job that attains the least -/
theorem omFm_att {b : Int} {S : Nat} {g : Nat → Int} : ∀ k, omFm b S g k = b ∨ ∃ j, j < k ∧ ¬ S.testBit j = true ∧ omFm b S g k = g j := by
  intro k
  induction k with
  | zero => exact Or.inl rfl
  | succ k ih =>
    have e0 : omFm b S g (k + 1) = if S.testBit k = true then omFm b S g k else min (omFm b S g k) (g k) := rfl
    by_cases hb : S.testBit k = true
    · rw [if_pos hb] at e0
      rw [e0]
      rcases ih with h | ⟨j, hj, h2⟩
      · exact Or.inl h
      · exact Or.inr ⟨j, by omega, h2⟩
    · rw [if_neg hb] at e0
      rw [e0]
      rcases Int.le_total (omFm b S g k) (g k) with h | h
      · rw [Int.min_eq_left h]
        rcases ih with h1 | ⟨j, hj, h2⟩
        · exact Or.inl h1
        · exact Or.inr ⟨j, by omega, h2⟩
      · rw [Int.min_eq_right h]
        exact Or.inr ⟨k, by omega, hb, rfl⟩
theorem omFm_low {b : Int} {S : Nat} {g : Nat → Int} : ∀ k j, j < k → ¬ S.testBit j = true → omFm b S g k ≤ g j := by
  intro k
  induction k with
  | zero => intro j hj; omega
  | succ k ih =>
    intro j hj hb
    show (if S.testBit k = true then omFm b S g k else min (omFm b S g k) (g k)) ≤ g j
    by_cases hjk : j = k
    · subst hjk
      rw [if_neg hb]; omega
    · have := ih j (by omega) hb
      split
      · exact this
      · omega
/-- how many of the jobs are not in a set -/
def omUn (n S : Nat) : Int := omSum n (fun j => if S.testBit j = true then 0 else 1)
theorem omUn_ins {n S j : Nat} (hj : j < n) (hb : ¬ S.testBit j = true) : omUn n (S ||| 2 ^ j) + 1 = omUn n S := by
  have h1 : omUn n S = omSum n (fun i => (if (S ||| 2 ^ j).testBit i = true then (0 : Int) else 1) + (if i = j then 1 else 0)) := omSum_congr (fun i hi => by
    rw [om_ins_bit]
    by_cases hij : i = j
    · subst hij; simp [hb]
    · have : ¬ j = i := fun h => hij h.symm
      simp [hij, this])
  rw [h1, omSum_add, omSum_single (n := n) (j := j) (g := fun i => if i = j then (1 : Int) else 0) hj (fun i _ h => if_neg h), if_pos rfl]
  rfl
theorem omUn_rng {n S : Nat} : 0 ≤ omUn n S ∧ omUn n S ≤ n := by
  have := omSum_rng (n := n) (g := fun j => if S.testBit j = true then (0 : Int) else 1) (B := 1) (fun j _ => by split <;> omega)
  unfold omUn
  omega
theorem omEq_low {n v : Nat} {p d w r f s : Nat → Int} {T : Nat → Int} (hok : omOk n p d w r f s) (hv : v = 1 ∨ v = 2) (h : ∀ S, S < 2 ^ n → omEq n p d w v T S) : ∀ m S, S < 2 ^ n → 2 ^ n - S ≤ m → T S ≤ 6000 * omUn n S := by
  have hn := hok.1
  intro m
  induction m with
  | zero => intro S hS hm; omega
  | succ m ih =>
    intro S hS hm
    rw [h S hS]
    by_cases hx : ∃ j, j < n ∧ ¬ S.testBit j = true
    · obtain ⟨j, hj, hb⟩ := hx
      have h1 := omFm_low (b := omB0 n v S) (g := omTg n p d w v T S) n j hj hb
      have h2 := ih (S ||| 2 ^ j) (om_ins_lt hS hj) (by have := om_or_gt hb; omega)
      have h3 := omUn_ins hj hb
      have hL := omLn_rng (S := S ||| 2 ^ j) hok (Nat.le_refl n)
      have hL0 := omLn_rng (S := S) hok (Nat.le_refl n)
      have ho := hok.2.1 j hj
      have hLj : omLn n p S + p j ≤ 300 := by
        have e : omLn n p (S ||| 2 ^ j) = omSum n (fun i => (if S.testBit i then p i else 0) + (if i = j then p i else 0)) := omSum_congr (fun i hi => by
          rw [om_ins_bit]
          by_cases hij : i = j
          · subst hij; simp [hb]
          · have : ¬ j = i := fun h => hij h.symm
            simp [hij, this])
        rw [omSum_add, omSum_single (n := n) (j := j) (g := fun i => if i = j then p i else 0) hj (fun i _ h => if_neg h), if_pos rfl] at e
        have e2 : omLn n p S = omSum n (fun i => if S.testBit i then p i else 0) := rfl
        omega
      have m1 := om_mul_rng (a := w j) (A := 20) (b := omLn n p S + p j) (B := 300) (by omega) (by omega)
      have m2 := om_mul_rng (a := w j) (A := 20) (b := max 0 (omLn n p S + p j - d j)) (B := 300) (by omega) (by omega)
      have h4 : omTg n p d w v T S j ≤ T (S ||| 2 ^ j) + 6000 := by
        unfold omTg omJ
        rcases hv with rfl | rfl
        · rw [if_neg (by decide), if_pos rfl]; omega
        · rw [if_neg (by decide), if_neg (by decide)]; omega
      omega
    · have hall : ∀ j, j < n → S.testBit j = true := fun j hj => Classical.byContradiction (fun hb => hx ⟨j, hj, hb⟩)
      have hSf : S = 2 ^ n - 1 := Nat.eq_of_testBit_eq (fun i => by
        rw [Nat.testBit_two_pow_sub_one]
        by_cases hi : i < n
        · rw [hall i hi]; simp [hi]
        · rw [Nat.testBit_lt_two_pow (Nat.lt_of_lt_of_le hS (Nat.pow_le_pow_right (by decide) (by omega)))]; simp [hi])
      rw [omFm_set n hall]
      have hu := omUn_rng (n := n) (S := S)
      unfold omB0
      rw [if_neg (by omega)]
      rcases hv with rfl | rfl
      · rw [if_neg (by decide)]; omega
      · rw [if_neg (by decide)]; omega
