/-! ===== tables over the sets ===== -/
def omJ (v : Nat) (d w : Nat → Int) (j : Nat) (c a : Int) : Int := if v = 0 then max a (c - d j) else if v = 1 then a + w j * c else a + w j * max 0 (c - d j)
/-- the least over the jobs not in a set -/
def omFm (b : Int) (S : Nat) (g : Nat → Int) : Nat → Int
  | 0 => b
  | k + 1 => if S.testBit k = true then omFm b S g k else min (omFm b S g k) (g k)
def omB0 (n v S : Nat) : Int := if S < 2 ^ n - 1 then 1000000 else if v = 0 then -1000000 else 0
def omTg (n : Nat) (p d w : Nat → Int) (v : Nat) (T : Nat → Int) (S j : Nat) : Int := omJ v d w j (omLn n p S + p j) (T (S ||| 2 ^ j))
/-- a table's entry is the least over the first jobs of what is left -/
def omEq (n : Nat) (p d w : Nat → Int) (v : Nat) (T : Nat → Int) (S : Nat) : Prop := T S = omFm (omB0 n v S) S (omTg n p d w v T S) n
theorem omFm_congr {b : Int} {S : Nat} {g g' : Nat → Int} : ∀ k, (∀ j, j < k → ¬ S.testBit j = true → g j = g' j) → omFm b S g k = omFm b S g' k := by
  intro k
  induction k with
  | zero => intro _; rfl
  | succ k ih =>
    intro h
    have h1 := ih (fun j hj => h j (by omega))
    show (if S.testBit k = true then omFm b S g k else min (omFm b S g k) (g k)) = (if S.testBit k = true then omFm b S g' k else min (omFm b S g' k) (g' k))
    by_cases hb : S.testBit k = true
    · rw [if_pos hb, if_pos hb, h1]
    · rw [if_neg hb, if_neg hb, h1, h k (by omega) hb]
theorem om_or_gt {S j : Nat} (h : ¬ S.testBit j = true) : S < S ||| 2 ^ j := by
  have h1 : S ≤ S ||| 2 ^ j := Nat.left_le_or
  have h2 : S ≠ S ||| 2 ^ j := by
    intro he
    have : (S ||| 2 ^ j).testBit j = true := by rw [om_ins_bit]; simp
    rw [← he] at this
    exact h this
  omega
theorem omEq_uniq {n v : Nat} {p d w : Nat → Int} {T T' : Nat → Int} (h : ∀ S, S < 2 ^ n → omEq n p d w v T S) (h' : ∀ S, S < 2 ^ n → omEq n p d w v T' S) : ∀ m S, S < 2 ^ n → 2 ^ n - S ≤ m → T S = T' S := by
  intro m
  induction m with
  | zero => intro S hS hm; omega
  | succ m ih =>
    intro S hS hm
    rw [h S hS, h' S hS]
    refine omFm_congr n (fun j hj hb => ?_)
    unfold omTg
    rw [ih (S ||| 2 ^ j) (om_ins_lt hS hj) (by have := om_or_gt hb; omega)]
theorem omJ_rng {n v j : Nat} {p d w r f s : Nat → Int} {c a : Int} (hok : omOk n p d w r f s) (hj : j < n) (hc : 0 ≤ c ∧ c ≤ 1000) (ha : -1000000 ≤ a ∧ a ≤ 1000000) : -1000000 ≤ omJ v d w j c a ∧ omJ v d w j c a ≤ 1020000 := by
  have ho := hok.2.1 j hj
  have m1 := om_mul_rng (a := w j) (A := 20) (b := c) (B := 1000) (by omega) hc
  have m2 := om_mul_rng (a := w j) (A := 20) (b := max 0 (c - d j)) (B := 1000) (by omega) (by omega)
  unfold omJ
  split
  · omega
  · split <;> omega
theorem omFm_rng {n v S : Nat} {g : Nat → Int} {b : Int} (hb : -1000000 ≤ b ∧ b ≤ 1000000) : ∀ k, (∀ j, j < k → ¬ S.testBit j = true → -1000000 ≤ g j) → -1000000 ≤ omFm b S g k ∧ omFm b S g k ≤ 1000000 := by
  intro k
  induction k with
  | zero => intro _; exact hb
  | succ k ih =>
    intro h
    have h1 := ih (fun j hj => h j (by omega))
    show -1000000 ≤ (if S.testBit k = true then omFm b S g k else min (omFm b S g k) (g k)) ∧ (if S.testBit k = true then omFm b S g k else min (omFm b S g k) (g k)) ≤ 1000000
    by_cases hb : S.testBit k = true
    · rw [if_pos hb]; exact h1
    · rw [if_neg hb]
      have := h k (by omega) hb
      omega
theorem omB0_rng {n v S : Nat} : -1000000 ≤ omB0 n v S ∧ omB0 n v S ≤ 1000000 := by
  unfold omB0
  split
  · omega
  · split <;> omega
/-! .. the reference's -/
