/-! .. the reference's -/
def omKx (n : Nat) (p d : Nat → Int) (q : Nat → Nat) : Nat → Nat
  | 0 => 0
  | x + 1 => if omLe p d q n x < 1000000 then x else omKx n p d q x
theorem omKx_le {n : Nat} {p d : Nat → Int} {q : Nat → Nat} : ∀ x, omKx n p d q x ≤ x := by
  intro x
  induction x with
  | zero => exact Nat.le_refl _
  | succ x ih => unfold omKx; split <;> omega
theorem omKx_max {n : Nat} {p d : Nat → Int} {q : Nat → Nat} : ∀ x k, k < x → omLe p d q n k < 1000000 → k ≤ omKx n p d q x ∧ omLe p d q n (omKx n p d q x) < 1000000 := by
  intro x
  induction x with
  | zero => intro k hk; omega
  | succ x ih =>
    intro k hk h
    show k ≤ (if omLe p d q n x < 1000000 then x else omKx n p d q x) ∧ omLe p d q n (if omLe p d q n x < 1000000 then x else omKx n p d q x) < 1000000
    by_cases h1 : omLe p d q n x < 1000000
    · rw [if_pos h1]; exact ⟨by omega, h1⟩
    · rw [if_neg h1]
      have : k ≠ x := fun he => h1 (he ▸ h)
      exact ih k (by omega) h
/-- the two maxima are the same -/
theorem om_most {n : Nat} {p d w r f s : Nat → Int} {q : Nat → Nat} (hok : omOk n p d w r f s) (hq : omSt (omBk d) n q) : omMo n p d q (2 ^ n) = (omKx n p d q (n + 1) : Nat) := by
  have hn := hok.1
  have hinj : ∀ i k, i < n → k < n → q i = q k → i = k := fun i k hi hk he => hq.inj (omBk_so n d) hi hk he
  obtain ⟨m1, m2, m3⟩ := omMo_char (n := n) (p := p) (d := d) (q := q) (2 ^ n)
  obtain ⟨S, s1, s2, s3⟩ := m2 (Nat.two_pow_pos n)
  have hl := omLe_low (p := p) (d := d) (q := q) (S := S) n s2
  have hT := omTq_rng (S := S) hok hq.1 (Nat.le_refl n)
  have hct : ∀ m, omCt q S m ≤ m := by
    intro m
    induction m with
    | zero => exact Nat.le_refl _
    | succ m ih => show omCt q S m + (if _ then 1 else 0) ≤ m + 1; split <;> omega
  have hle : omCt q S n ≤ omKx n p d q (n + 1) ∧ omLe p d q n (omKx n p d q (n + 1)) < 1000000 := omKx_max (n + 1) _ (by have := hct n; omega) (by omega)
  obtain ⟨S', t1, t2, t3, t4⟩ := omLe_ex hok hq.1 hinj n _ (Nat.le_refl n) hle.2
  have hS' : S' < 2 ^ n := Nat.lt_pow_two_of_testBit S' (fun i hi => by
    cases hb : S'.testBit i with
    | false => rfl
    | true =>
      obtain ⟨k, hk, hkq⟩ := t1 i hb
      have := hq.1 k hk
      omega)
  have h2 := m1 S' hS' t2
  rw [omPop_ct hn hS' hq.1 hinj hq.2.1, t3] at h2
  rw [omPop_ct hn s1 hq.1 hinj hq.2.1] at s3
  omega
