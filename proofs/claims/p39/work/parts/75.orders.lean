/-! .. all sequences by numbers -/
theorem omUn_step {S k : Nat} : omUn (k + 1) S = omUn k S + (if S.testBit k = true then 0 else 1) := rfl
theorem omUn_mono {S : Nat} : ∀ m k, omUn k S ≤ omUn (k + m) S := by
  intro m
  induction m with
  | zero => intro k; exact Int.le_refl _
  | succ m ih =>
    intro k
    have h1 := ih k
    have h2 := omUn_step (S := S) (k := k + m)
    show _ ≤ omUn (k + m + 1) S
    split at h2 <;> omega
theorem omUn_le {S k l : Nat} (h : k ≤ l) : omUn k S ≤ omUn l S := by
  have := omUn_mono (S := S) (l - k) k
  rw [show k + (l - k) = l by omega] at this
  exact this
theorem omUn_lt {S k l : Nat} (h : k < l) (hb : ¬ S.testBit k = true) : omUn k S + 1 ≤ omUn l S := by
  have h1 := omUn_step (S := S) (k := k)
  have h2 := omUn_le (S := S) (show k + 1 ≤ l by omega)
  rw [if_neg hb] at h1
  omega
theorem omUn_inj {S i j : Nat} (hi : ¬ S.testBit i = true) (hj : ¬ S.testBit j = true) (h : omUn i S = omUn j S) : i = j := by
  rcases Nat.lt_trichotomy i j with h1 | h1 | h1
  · have := omUn_lt h1 hi; omega
  · exact h1
  · have := omUn_lt h1 hj; omega
theorem omUn_ex {S : Nat} : ∀ (m z : Nat), (z : Int) < omUn m S → ∃ j, j < m ∧ ¬ S.testBit j = true ∧ omUn j S = z := by
  intro m
  induction m with
  | zero =>
    intro z h
    have : omUn 0 S = 0 := rfl
    omega
  | succ m ih =>
    intro z h
    have h1 := omUn_step (S := S) (k := m)
    by_cases h2 : (z : Int) < omUn m S
    · obtain ⟨j, h3, h4⟩ := ih z h2
      exact ⟨j, by omega, h4⟩
    · by_cases hb : S.testBit m = true
      · rw [if_pos hb] at h1; omega
      · rw [if_neg hb] at h1
        exact ⟨m, by omega, hb, by omega⟩
/-- the digits' rests -/
def omRe (n v : Nat) : Nat → Nat
  | 0 => v
  | i + 1 => omRe n v i / (n - i)
def omDc (n v : Nat) (q : Nat → Nat) (i : Nat) : Prop := q i < n ∧ ¬ (omSs q i).testBit (q i) = true ∧ omUn (q i) (omSs q i) = ((omRe n v i % (n - i) : Nat) : Int)
theorem omRe_le {n v : Nat} : ∀ i, omRe n v i ≤ v := by
  intro i
  induction i with
  | zero => exact Nat.le_refl _
  | succ i ih => exact Nat.le_trans (Nat.div_le_self _ _) ih
def omFac : Nat → Nat
  | 0 => 1
  | k + 1 => (k + 1) * omFac k
theorem omFac_le : ∀ n, n < 8 → omFac n ≤ 5040 := by decide
/-- the number of a sequence -/
def omCo (n : Nat) (q : Nat → Nat) : Nat → Nat
  | 0 => 0
  | m + 1 => (omUn (q (n - (m + 1))) (omSs q (n - (m + 1)))).toNat + (m + 1) * omCo n q m
theorem omCo_dig {n i : Nat} {q : Nat → Nat} (hq : omSq n q) (hi : i < n) : 0 ≤ omUn (q i) (omSs q i) ∧ omUn (q i) (omSs q i) < (n - i : Nat) := by
  have h1 := omUn_rng (n := q i) (S := omSs q i)
  have h2 := omUn_lt (S := omSs q i) (hq i hi).1 (hq i hi).2
  have h3 := omSs_un2 (n := n) (q := q) i (fun x hx => hq x (by omega))
  omega
theorem omCo_lt {n : Nat} {q : Nat → Nat} (hq : omSq n q) : ∀ m, m ≤ n → omCo n q m < omFac m := by
  intro m
  induction m with
  | zero => intro _; show 0 < 1; decide
  | succ m ih =>
    intro hm
    have h1 := ih (by omega)
    have h2 := omCo_dig (i := n - (m + 1)) hq (by omega)
    have h3 : (m + 1) * (omCo n q m + 1) ≤ (m + 1) * omFac m := Nat.mul_le_mul_left _ h1
    rw [Nat.mul_add, Nat.mul_one] at h3
    show (omUn (q (n - (m + 1))) (omSs q (n - (m + 1)))).toNat + (m + 1) * omCo n q m < (m + 1) * omFac m
    generalize (m + 1) * omCo n q m = A at h3 ⊢
    generalize (m + 1) * omFac m = B at h3 ⊢
    omega
theorem omCo_re {n : Nat} {q : Nat → Nat} (hq : omSq n q) : ∀ i, i ≤ n → omRe n (omCo n q n) i = omCo n q (n - i) := by
  intro i
  induction i with
  | zero => intro _; rfl
  | succ i ih =>
    intro hi
    have h1 := ih (by omega)
    have h2 := omCo_dig (i := i) hq (by omega)
    obtain ⟨m, hm⟩ : ∃ m, n - i = m + 1 := ⟨n - i - 1, by omega⟩
    have e : n - (m + 1) = i := by omega
    have e2 : omCo n q (m + 1) = (omUn (q (n - (m + 1))) (omSs q (n - (m + 1)))).toNat + (m + 1) * omCo n q m := rfl
    rw [e] at e2
    show omRe n (omCo n q n) i / (n - i) = _
    rw [h1, hm, e2, Nat.add_mul_div_left _ _ (Nat.succ_pos m), Nat.div_eq_of_lt (by omega), Nat.zero_add]
    congr 1
    omega
theorem omCo_mod {n i : Nat} {q : Nat → Nat} (hq : omSq n q) (hi : i < n) : ((omRe n (omCo n q n) i % (n - i) : Nat) : Int) = omUn (q i) (omSs q i) := by
  have h2 := omCo_dig (i := i) hq hi
  obtain ⟨m, hm⟩ : ∃ m, n - i = m + 1 := ⟨n - i - 1, by omega⟩
  have e : n - (m + 1) = i := by omega
  have e2 : omCo n q (m + 1) = (omUn (q (n - (m + 1))) (omSs q (n - (m + 1)))).toNat + (m + 1) * omCo n q m := rfl
  rw [e] at e2
  rw [omCo_re hq i (by omega), hm, e2, Nat.add_mul_mod_self_left, Nat.mod_eq_of_lt (by omega)]
  omega
theorem omDc_uniq {n : Nat} {q q' : Nat → Nat} (hq : omSq n q) (h : ∀ i, i < n → omDc n (omCo n q n) q' i) : ∀ k, k ≤ n → ∀ i, i < k → q' i = q i := by
  intro k
  induction k with
  | zero => intro _ i hi; omega
  | succ k ih =>
    intro hk i hi
    have h1 := ih (by omega)
    by_cases hik : i = k
    · subst hik
      have hss : omSs q' i = omSs q i := omSs_congr i h1
      obtain ⟨a1, a2, a3⟩ := h i (by omega)
      rw [hss] at a2 a3
      rw [omCo_mod hq (by omega)] at a3
      exact omUn_inj a2 (hq i (by omega)).2 a3
    · exact h1 i (by omega)
theorem omDc_sq {n v : Nat} {q : Nat → Nat} (h : ∀ i, i < n → omDc n v q i) : omSq n q := fun i hi => ⟨(h i hi).1, (h i hi).2.1⟩
