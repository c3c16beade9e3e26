/-! ===== all sequences tried ===== -/
def omCj (c : Nat) (d w : Nat → Int) (a : Int) (j : Nat) (t : Int) : Int := if c = 0 then max a (omCs 0 d w (fun _ => t) j) else a + omCs c d w (fun _ => t) j
/-- the least of so many first jobs not in a set -/
def omMn (S : Nat) (g : Nat → Int) : Nat → Int
  | 0 => 1000000
  | k + 1 => if S.testBit k = true then omMn S g k else min (omMn S g k) (g k)
/-- the least cost of working off what is left: E the end of a job behind, m how many are left -/
def omVl (n c : Nat) (d w f : Nat → Int) (E : Nat → Int → Int → Nat → Int) : Nat → Nat → Int → Int → Int → Int
  | 0, _, _, _, a => a
  | m + 1, S, u, t, a => omMn S (fun j => omVl n c d w f E m (S ||| 2 ^ j) (f j) (E S u t j) (omCj c d w a j (E S u t j))) n
theorem omMn_low {S : Nat} {g : Nat → Int} {a : Int} (ha : a ≤ 1000000) : ∀ k, (∀ j, j < k → ¬ S.testBit j = true → a ≤ g j) → a ≤ omMn S g k := by
  intro k
  induction k with
  | zero => intro _; exact ha
  | succ k ih =>
    intro h
    have h1 := ih (fun j hj => h j (by omega))
    show a ≤ (if S.testBit k = true then omMn S g k else min (omMn S g k) (g k))
    by_cases hb : S.testBit k = true
    · rw [if_pos hb]; exact h1
    · rw [if_neg hb]
      have := h k (by omega) hb
      omega
theorem omMn_top {S : Nat} {g : Nat → Int} : ∀ k, omMn S g k ≤ 1000000 := by
  intro k
  induction k with
  | zero => exact Int.le_refl _
  | succ k ih =>
    show (if S.testBit k = true then omMn S g k else min (omMn S g k) (g k)) ≤ _
    split <;> omega
theorem omCj_rng {n c j : Nat} {p d w r f s : Nat → Int} {a t : Int} (hok : omOk n p d w r f s) (hj : j < n) (ht : 0 ≤ t ∧ t ≤ 1000) : a ≤ omCj c d w a j t ∧ (-1000000 ≤ a → omCj c d w a j t ≤ max a 0 + 20000) := by
  have ho := hok.2.1 j hj
  unfold omCj
  by_cases hc : c = 0
  · rw [if_pos hc]
    have e : omCs 0 d w (fun _ => t) j = t - d j := if_pos rfl
    rw [e]
    omega
  · rw [if_neg hc]
    have := omCs_rng (C := fun _ => t) hok hc hj ht
    omega
/-- a cost only grows -/
theorem omVl_low {n c : Nat} {p d w r f s : Nat → Int} {Bd : Nat → Int} {E : Nat → Int → Int → Nat → Int} (hok : omOk n p d w r f s) (hBd : ∀ k, k ≤ 10 → 0 ≤ Bd k ∧ Bd k ≤ 1000) (hE : ∀ (k S : Nat) (u t : Int) (j : Nat), 0 ≤ t → t ≤ Bd k → j < n → 0 ≤ E S u t j ∧ E S u t j ≤ Bd (k + 1)) : ∀ (m k S : Nat) (u t a : Int), m + k ≤ 10 → 0 ≤ t → t ≤ Bd k → -1000000 ≤ a → a ≤ 20000 * (k : Nat) → a ≤ omVl n c d w f E m S u t a := by
  intro m
  induction m with
  | zero => intro k S u t a _ _ _ _ _; exact Int.le_refl _
  | succ m ih =>
    intro k S u t a hm h0 h1 h2 h3
    refine omMn_low (by omega) n (fun j hj hb => ?_)
    have he := hE k S u t j h0 h1 hj
    have hb1 := hBd (k + 1) (by omega)
    have hcc := omCj_rng (c := c) (a := a) (t := E S u t j) hok hj (by omega)
    have := ih (k + 1) (S ||| 2 ^ j) (f j) (E S u t j) (omCj c d w a j (E S u t j)) (by omega) he.1 he.2 (by omega) (by have := hcc.2 h2; omega)
    show a ≤ omVl n c d w f E m (S ||| 2 ^ j) (f j) (E S u t j) (omCj c d w a j (E S u t j))
    omega
