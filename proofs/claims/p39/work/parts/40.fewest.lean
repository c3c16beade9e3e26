/-! ===== sets changed ===== -/
def omDel (S j : Nat) : Nat := S ^^^ (S &&& 2 ^ j)
set_option maxRecDepth 100000 in
set_option maxHeartbeats 4000000 in
theorem om_del_all : ∀ S : Nat, S < 1024 → ∀ j : Nat, j < 10 → omand (S : Int) (omxor (omshl 1 (j : Int)) (-1)) = ((omDel S j : Nat) : Int) := by
  decide +kernel
theorem omDel_bit {S j i : Nat} : (omDel S j).testBit i = (S.testBit i && !decide (j = i)) := by
  unfold omDel
  rw [Nat.testBit_xor, Nat.testBit_and, Nat.testBit_two_pow]
  cases S.testBit i <;> cases decide (j = i) <;> rfl
theorem omDel_lt {S j n : Nat} (hS : S < 2 ^ n) : omDel S j < 2 ^ n := Nat.xor_lt_two_pow hS (Nat.lt_of_le_of_lt Nat.and_le_left hS)
/-- the lengths of a set -/
def omLn (n : Nat) (p : Nat → Int) (S : Nat) : Int := omSum n (fun j => if S.testBit j then p j else 0)
theorem omLn_rng {n m S : Nat} {p d w r f s : Nat → Int} (hok : omOk n p d w r f s) (hm : m ≤ n) : 0 ≤ omLn m p S ∧ omLn m p S ≤ m * 30 :=
  omSum_rng (fun j hj => by have := hok.2.1 j (by omega); split <;> omega)
theorem s_X2_lengthOfSet_eq {n S : Nat} {p d w r f s : Nat → Int} {σ : omH} (hok : omOk n p d w r f s) (hc : omCv n p d w r f s σ) (hS : S < 1024) : s_X2_lengthOfSet S σ = some (omLn n p S) := by
  have hn := hok.1
  have h1 := l_X2_lengthOfSet_eq (σ := σ) hS hn hc.1 n 0 FU 0 (by omega) (by rw [FU_eq]; omega)
  have h1' : l_X2_lengthOfSet_4 S σ FU 0 0 = _ := h1
  unfold s_X2_lengthOfSet
  rw [h1', om_b0, hc.2.1]
  have e0 : omSum 0 (fun j => if S.testBit j then p j else 0) = 0 := rfl
  rw [e0]
  unfold omLn
  rw [Int.zero_add, Int.sub_zero]
/-- the longest of a set, the last of several, among the first k; -1: none -/
def omLg (p : Nat → Int) (S : Nat) : Nat → Int
  | 0 => -1
  | k + 1 => if S.testBit k = true then (if omLg p S k = -1 then (k : Int) else if p k < p (omLg p S k).toNat then omLg p S k else k) else omLg p S k
theorem omLg_ok {p : Nat → Int} {S : Nat} : ∀ k, -1 ≤ omLg p S k ∧ omLg p S k < k ∧ (omLg p S k ≠ -1 → S.testBit (omLg p S k).toNat = true) ∧ ((∃ i, i < k ∧ S.testBit i = true) → omLg p S k ≠ -1) := by
  intro k
  induction k with
  | zero => exact ⟨by show (-1 : Int) ≤ -1; decide, by show (-1 : Int) < 0; decide, fun h => absurd rfl h, fun ⟨i, hi, _⟩ => by omega⟩
  | succ k ih =>
    obtain ⟨h1, h2, h3, h4⟩ := ih
    have e0 : omLg p S (k + 1) = if S.testBit k = true then (if omLg p S k = -1 then (k : Int) else if p k < p (omLg p S k).toNat then omLg p S k else k) else omLg p S k := rfl
    by_cases hb : S.testBit k = true
    · rw [if_pos hb] at e0
      have hk : omLg p S (k + 1) = k ∨ (omLg p S (k + 1) = omLg p S k ∧ omLg p S k ≠ -1) := by
        rw [e0]
        split
        · exact Or.inl rfl
        · split
          · rename_i h _; exact Or.inr ⟨rfl, h⟩
          · exact Or.inl rfl
      rcases hk with hk | ⟨hk, hk2⟩
      · rw [hk]
        exact ⟨by omega, by omega, fun _ => by rw [Int.toNat_natCast]; exact hb, fun _ => by omega⟩
      · rw [hk]
        exact ⟨h1, by omega, h3, fun _ => hk2⟩
    · rw [if_neg hb] at e0
      rw [e0]
      refine ⟨h1, by omega, h3, fun ⟨i, hi, hbi⟩ => h4 ⟨i, ?_, hbi⟩⟩
      by_cases hik : i = k
      · subst hik; exact absurd hbi hb
      · omega
theorem l_X7_longestOf_7_eq {n S : Nat} {p d w r f s : Nat → Int} {σ : omH} (hok : omOk n p d w r f s) (hc : omCv n p d w r f s σ) (hS : S < 1024) : ∀ (m k fuel : Nat), k + m = n → m < fuel → l_X7_longestOf_7 S σ fuel (if omLg p S k = -1 then 0 else omLg p S k) (if omLg p S k = -1 then 0 else p (omLg p S k).toNat) k = some (if omLg p S n = -1 then 0 else omLg p S n) := by
  have hn := hok.1
  intro m
  induction m with
  | zero =>
    intro k fuel hk hf
    obtain ⟨fuel, rfl⟩ : ∃ z, fuel = z + 1 := ⟨fuel - 1, by omega⟩
    have : k = n := by omega
    subst this
    rw [l_X7_longestOf_7.eq_2, hc.1, if_neg (by omega)]
  | succ m ih =>
    intro k fuel hk hf
    obtain ⟨fuel, rfl⟩ : ∃ z, fuel = z + 1 := ⟨fuel - 1, by omega⟩
    have ih' := ih (k + 1) fuel (by omega) (by omega)
    have hg := omLg_ok (p := p) (S := S) k
    have ho := hok.2.1 k (by omega)
    have e0 : omLg p S (k + 1) = if S.testBit k = true then (if omLg p S k = -1 then (k : Int) else if p k < p (omLg p S k).toNat then omLg p S k else k) else omLg p S k := rfl
    rw [l_X7_longestOf_7.eq_2, hc.1, hc.2.1, s_X2_isIn_eq (by omega) (by omega), om_b0, om_wn (show k < 2147483648 by omega), om_wn (show n < 2147483648 by omega), if_pos (by omega), omg_t ⟨by omega, by omega⟩, omg_t ⟨by omega, by omega⟩, Int.toNat_natCast, omw_id (a := p k) (by omega) (by omega), show ((k : Int) + 1) = ((k + 1 : Nat) : Int) by omega]
    by_cases hb : S.testBit k = true
    · rw [if_pos hb] at e0
      rw [if_pos hb, if_neg (by decide)]
      by_cases h1 : omLg p S k = -1
      · rw [if_pos h1] at e0
        rw [e0, if_neg (show ¬ (k : Int) = -1 by omega), if_neg (show ¬ (k : Int) = -1 by omega), Int.toNat_natCast] at ih'
        rw [if_pos h1, if_pos h1, if_neg (by rw [show omw 0 = 0 from rfl]; omega)]
        exact ih'
      · rw [if_neg h1] at e0
        have ho2 := hok.2.1 (omLg p S k).toNat (by omega)
        rw [if_neg h1, if_neg h1, omw_id (a := p (omLg p S k).toNat) (by omega) (by omega)]
        by_cases h2 : p k < p (omLg p S k).toNat
        · rw [if_pos h2] at e0
          rw [e0, if_neg h1, if_neg h1] at ih'
          rw [if_pos h2]
          exact ih'
        · rw [if_neg h2] at e0
          rw [e0, if_neg (show ¬ (k : Int) = -1 by omega), if_neg (show ¬ (k : Int) = -1 by omega), Int.toNat_natCast] at ih'
          rw [if_neg h2]
          exact ih'
    · rw [if_neg hb] at e0
      rw [if_neg hb, if_pos (by decide)]
      rw [e0] at ih'
      exact ih'
