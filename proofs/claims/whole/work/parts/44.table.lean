/-! ===== tables over the sets ===== -/
def omJ (v : Nat) (d w : Nat → Int) (j : Nat) (c a : Int) : Int := if v = 0 then max a (c - d j) else if v = 1 then a + w j * c else a + w j * max 0 (c - d j)
/-- the least over the jobs not in a set -/
def omFm (b : Int) (S : Nat) (g : Nat → Int) : Nat → Int
  | 0 => b
  | k + 1 => if S.testBit k = true then omFm b S g k else min (omFm b S g k) (g k)
def omB0 (n v S : Nat) : Int := if S < 2 ^ n - 1 then 1000000 else if v = 0 then -1000000 else 0
def omTg (n : Nat) (p d w : Nat → Int) (v : Nat) (T : Nat → Int) (S j : Nat) : Int := omJ v d w j (omLn n p S + p j) (T (S ||| 2 ^ j))
/-- a table's entry is the least over the first jobs of what is left -/
def omEq (n : Nat) (p d w : Nat → Int) (v : Nat) (T : Nat → Int) (S : Nat) : Prop := T S = omFm (omB0 n v S) S (omTg n p d w v T S) n
theorem omFm_congr {b : Int} {S : Nat} {g g' : Nat → Int} : ∀ k, (∀ j, j < k → ¬ S.testBit j = true → g j = g' j) → omFm b S g k = omFm b S g' k := by
  intro k
  induction k with
  | zero => intro _; rfl
  | succ k ih =>
    intro h
    have h1 := ih (fun j hj => h j (by omega))
    show (if S.testBit k = true then omFm b S g k else min (omFm b S g k) (g k)) = (if S.testBit k = true then omFm b S g' k else min (omFm b S g' k) (g' k))
    by_cases hb : S.testBit k = true
    · rw [if_pos hb, if_pos hb, h1]
    · rw [if_neg hb, if_neg hb, h1, h k (by omega) hb]
theorem om_or_gt {S j : Nat} (h : ¬ S.testBit j = true) : S < S ||| 2 ^ j := by
  have h1 : S ≤ S ||| 2 ^ j := Nat.left_le_or
  have h2 : S ≠ S ||| 2 ^ j := by
    intro he
    have : (S ||| 2 ^ j).testBit j = true := by rw [om_ins_bit]; simp
    rw [← he] at this
    exact h this
  omega
theorem omEq_uniq {n v : Nat} {p d w : Nat → Int} {T T' : Nat → Int} (h : ∀ S, S < 2 ^ n → omEq n p d w v T S) (h' : ∀ S, S < 2 ^ n → omEq n p d w v T' S) : ∀ m S, S < 2 ^ n → 2 ^ n - S ≤ m → T S = T' S := by
  intro m
  induction m with
  | zero => intro S hS hm; omega
  | succ m ih =>
    intro S hS hm
    rw [h S hS, h' S hS]
    refine omFm_congr n (fun j hj hb => ?_)
    unfold omTg
    rw [ih (S ||| 2 ^ j) (om_ins_lt hS hj) (by have := om_or_gt hb; omega)]
theorem omJ_rng {n v j : Nat} {p d w r f s : Nat → Int} {c a : Int} (hok : omOk n p d w r f s) (hj : j < n) (hc : 0 ≤ c ∧ c ≤ 1000) (ha : -1000000 ≤ a ∧ a ≤ 1000000) : -1000000 ≤ omJ v d w j c a ∧ omJ v d w j c a ≤ 1020000 := by
  have ho := hok.2.1 j hj
  have m1 := om_mul_rng (a := w j) (A := 20) (b := c) (B := 1000) (by omega) hc
  have m2 := om_mul_rng (a := w j) (A := 20) (b := max 0 (c - d j)) (B := 1000) (by omega) (by omega)
  unfold omJ
  split
  · omega
  · split <;> omega
theorem omFm_rng {n v S : Nat} {g : Nat → Int} {b : Int} (hb : -1000000 ≤ b ∧ b ≤ 1000000) : ∀ k, (∀ j, j < k → ¬ S.testBit j = true → -1000000 ≤ g j) → -1000000 ≤ omFm b S g k ∧ omFm b S g k ≤ 1000000 := by
  intro k
  induction k with
  | zero => intro _; exact hb
  | succ k ih =>
    intro h
    have h1 := ih (fun j hj => h j (by omega))
    show -1000000 ≤ (if S.testBit k = true then omFm b S g k else min (omFm b S g k) (g k)) ∧ (if S.testBit k = true then omFm b S g k else min (omFm b S g k) (g k)) ≤ 1000000
    by_cases hb : S.testBit k = true
    · rw [if_pos hb]; exact h1
    · rw [if_neg hb]
      have := h k (by omega) hb
      omega
theorem omB0_rng {n v S : Nat} : -1000000 ≤ omB0 n v S ∧ omB0 n v S ≤ 1000000 := by
  unfold omB0
  split
  · omega
  · split <;> omega
/-! .. the reference's -/
theorem s_X12_joined_eq {n v j : Nat} {p d w r f s : Nat → Int} {c a : Int} {σ : omH} (hok : omOk n p d w r f s) (hm : omMv n p d w r f s σ) (hv : v < 3) (hj : j < n) (hc : 0 ≤ c ∧ c ≤ 1000) (ha : -1000000 ≤ a ∧ a ≤ 1000000) : s_X12_joined v j c a σ = some (omJ v d w j c a) := by
  have hn := hok.1
  have ho := hok.2.1 j hj
  unfold s_X12_joined s_X12_tardy
  rw [hm.2.2.1, hm.2.2.2.1, om_wn (show j < 2147483648 by omega), om_wn (show v < 2147483648 by omega), Int.toNat_natCast, omw_id (a := c) (by omega) (by omega), omw_id (a := a) (by omega) (by omega), omw_id (a := d j) (by omega) (by omega), omw_id (a := c - d j) (by omega) (by omega)]
  simp only [omg_t (show (0 : Int) ≤ (j : Int) ∧ (j : Int) < 10 by omega)]
  unfold omJ
  by_cases h0 : v = 0
  · rw [if_pos (by omega), if_pos h0]
    split
    · rw [Int.max_eq_right (by omega)]
    · rw [Int.max_eq_left (by omega)]
  · rw [if_neg (by omega), if_neg h0]
    by_cases h1 : v = 1
    · rw [if_pos (by rw [om_w1]; omega), if_pos h1, om_b0]
    · rw [if_neg (by rw [om_w1]; omega), if_neg h1]
      by_cases hd : d j < c
      · rw [if_pos hd, om_b0, om_b0, Int.max_eq_right (show 0 ≤ c - d j by omega)]
      · rw [if_neg hd, om_b0, om_b0, Int.max_eq_left (show c - d j ≤ 0 by omega), Int.mul_zero]
theorem l_X12_costs_51_eq {n v S : Nat} {u : Int} {b : Int} {p d w r f s : Nat → Int} {T : Nat → Int} (hok : omOk n p d w r f s) (hv : v < 3) (hS : S < 2 ^ n) (hb : -1000000 ≤ b ∧ b ≤ 1000000) (hT : ∀ j, j < n → ¬ S.testBit j = true → -1000000 ≤ T (S ||| 2 ^ j) ∧ T (S ||| 2 ^ j) ≤ 1000000) : ∀ (m k fuel : Nat) (σ : omH), k + m = n → m < fuel → omMv n p d w r f s σ → (∀ j, j < n → ¬ S.testBit j = true → σ 56 (S ||| 2 ^ j) = T (S ||| 2 ^ j)) → σ 56 S = omFm b S (omTg n p d w v T S) k →
    ∃ σ', l_X12_costs_51 v u S (omLn n p S) fuel k σ = some σ' ∧ omEx [56] σ σ' ∧ (∀ i, i ≠ S → σ' 56 i = σ 56 i) ∧ σ' 56 S = omFm b S (omTg n p d w v T S) n := by
  have hn := hok.1
  have hpw := om_pow_le hn
  intro m
  induction m with
  | zero =>
    intro k fuel σ hk hf hm hr h0
    obtain ⟨fuel, rfl⟩ : ∃ z, fuel = z + 1 := ⟨fuel - 1, by omega⟩
    have : k = n := by omega
    subst this
    rw [l_X12_costs_51.eq_2, hm.1, if_neg (by omega)]
    exact ⟨σ, rfl, omEx.rfl', fun _ _ => rfl, h0⟩
  | succ m ih =>
    intro k fuel σ hk hf hm hr h0
    obtain ⟨fuel, rfl⟩ : ∃ z, fuel = z + 1 := ⟨fuel - 1, by omega⟩
    have hkn : k < n := by omega
    have ho := hok.2.1 k hkn
    have hL := omLn_rng (S := S) hok (Nat.le_refl n)
    have e0 : omFm b S (omTg n p d w v T S) (k + 1) = if S.testBit k = true then omFm b S (omTg n p d w v T S) k else min (omFm b S (omTg n p d w v T S) k) (omTg n p d w v T S k) := rfl
    rw [l_X12_costs_51.eq_2, hm.1, om_wn (show k < 2147483648 by omega), om_wn (show n < 2147483648 by omega), if_pos (by omega), om_bit (by omega) (by omega), show ((k : Int) + 1) = ((k + 1 : Nat) : Int) by omega]
    by_cases hbit : S.testBit k = true
    · rw [if_pos hbit] at e0
      rw [if_pos hbit, if_neg (by decide)]
      exact ih (k + 1) fuel σ (by omega) (by omega) hm hr (by rw [e0]; exact h0)
    · rw [if_neg hbit] at e0
      have hor := om_ins_lt hS hkn
      have hTk := hT k hkn hbit
      have hgt := om_or_gt hbit
      have hF := omFm_rng (n := n) (v := v) (S := S) (g := omTg n p d w v T S) hb k (fun j hj hbj => (omJ_rng hok (by omega) (by have := hok.2.1 j (by omega); omega) (hT j (by omega) hbj)).1)
      have hJ := omJ_rng (v := v) (c := omLn n p S + p k) hok hkn (by omega) hTk
      rw [if_neg hbit, if_pos (by decide), omg_t ⟨by omega, by omega⟩, om_ins (by omega) (by omega), om_wn (show S ||| 2 ^ k < 2147483648 by omega), omg_t ⟨by omega, by omega⟩, Int.toNat_natCast, Int.toNat_natCast, hm.2.1, hr k hkn hbit, s_X12_joined_eq hok hm hv hkn (by omega) hTk, om_b0, om_wn (show S < 2147483648 by omega), omg_t ⟨by omega, by omega⟩, omg_t ⟨by omega, by omega⟩, Int.toNat_natCast, h0, omw_id (a := omJ v d w k (omLn n p S + p k) (T (S ||| 2 ^ k))) (by omega) (by omega), omw_id (a := omFm b S (omTg n p d w v T S) k) (by omega) (by omega)]
      have e1 : (if omJ v d w k (omLn n p S + p k) (T (S ||| 2 ^ k)) < omFm b S (omTg n p d w v T S) k then some (omJ v d w k (omLn n p S + p k) (T (S ||| 2 ^ k))) else some (omFm b S (omTg n p d w v T S) k)) = some (omFm b S (omTg n p d w v T S) (k + 1)) := by
        rw [e0]
        show _ = some (min _ (omJ v d w k (omLn n p S + p k) (T (S ||| 2 ^ k))))
        split
        · rw [Int.min_eq_right (by omega)]
        · rw [Int.min_eq_left (by omega)]
      rw [e1, om_b0, omg_t ⟨by omega, by omega⟩]
      have ex1 : omEx [56] σ (omsu σ 56 S (omFm b S (omTg n p d w v T S) (k + 1))) := omEx.su (by simp)
      obtain ⟨σ', z1, z2, z3, z4⟩ := ih (k + 1) fuel (omsu σ 56 S (omFm b S (omTg n p d w v T S) (k + 1))) (by omega) (by omega) (hm.ex ex1 (by simp)) (fun j hj hbj => by rw [omsu_n (Or.inr (by have := om_or_gt hbj; omega))]; exact hr j hj hbj) omsu_s
      exact ⟨σ', z1, ex1.trans z2, fun i hi => by rw [z3 i hi, omsu_n (Or.inr hi)], z4⟩
