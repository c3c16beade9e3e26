/-! ===== tables over the sets and the family ahead ===== -/
/-- of its family the next by due dates, as far as the first n jobs say -/
def omNx (n : Nat) (d f : Nat → Int) (S j : Nat) : Prop := ¬ S.testBit j = true ∧ ∀ i, i < n → i ≠ j → f i = f j → ¬ S.testBit i = true → ¬ omBk d i j
def omAw (v n : Nat) (d f : Nat → Int) (S j : Nat) : Prop := ¬ S.testBit j = true ∧ (v = 0 ∨ omNx n d f S j)
/-- the least over the numbers of a kind -/
noncomputable def omFq (b : Int) (P : Nat → Prop) (g : Nat → Int) : Nat → Int
  | 0 => b
  | k + 1 => @ite Int (P k) (Classical.propDecidable _) (min (omFq b P g k) (g k)) (omFq b P g k)
theorem omFq_t {b : Int} {P : Nat → Prop} {g : Nat → Int} {k : Nat} (h : P k) : omFq b P g (k + 1) = min (omFq b P g k) (g k) := if_pos h
theorem omFq_f {b : Int} {P : Nat → Prop} {g : Nat → Int} {k : Nat} (h : ¬ P k) : omFq b P g (k + 1) = omFq b P g k := if_neg h
theorem omFq_congr {b : Int} {P P' : Nat → Prop} {g g' : Nat → Int} : ∀ k, (∀ j, j < k → (P j ↔ P' j)) → (∀ j, j < k → P j → g j = g' j) → omFq b P g k = omFq b P' g' k := by
  intro k
  induction k with
  | zero => intro _ _; rfl
  | succ k ih =>
    intro h1 h2
    have h3 := ih (fun j hj => h1 j (by omega)) (fun j hj => h2 j (by omega))
    by_cases hP : P k
    · rw [omFq_t hP, omFq_t ((h1 k (by omega)).mp hP), h3, h2 k (by omega) hP]
    · rw [omFq_f hP, omFq_f (fun hp => hP ((h1 k (by omega)).mpr hp)), h3]
theorem omFq_att {b : Int} {P : Nat → Prop} {g : Nat → Int} : ∀ k, omFq b P g k = b ∨ ∃ j, j < k ∧ P j ∧ omFq b P g k = g j := by
  intro k
  induction k with
  | zero => exact Or.inl rfl
  | succ k ih =>
    by_cases hP : P k
    · rw [omFq_t hP]
      rcases Int.le_total (omFq b P g k) (g k) with h | h
      · rw [Int.min_eq_left h]
        rcases ih with h1 | ⟨j, hj, h2⟩
        · exact Or.inl h1
        · exact Or.inr ⟨j, by omega, h2⟩
      · rw [Int.min_eq_right h]
        exact Or.inr ⟨k, by omega, hP, rfl⟩
    · rw [omFq_f hP]
      rcases ih with h | ⟨j, hj, h2⟩
      · exact Or.inl h
      · exact Or.inr ⟨j, by omega, h2⟩
theorem omFq_low {b : Int} {P : Nat → Prop} {g : Nat → Int} : ∀ k j, j < k → P j → omFq b P g k ≤ g j := by
  intro k
  induction k with
  | zero => intro j hj; omega
  | succ k ih =>
    intro j hj hb
    by_cases hP : P k
    · rw [omFq_t hP]
      by_cases hjk : j = k
      · subst hjk; omega
      · have := ih j (by omega) hb; omega
    · rw [omFq_f hP]
      exact ih j (by
        by_cases hjk : j = k
        · subst hjk; exact absurd hb hP
        · omega) hb
theorem omFq_rng {b : Int} {P : Nat → Prop} {g : Nat → Int} (hb : -1000000 ≤ b ∧ b ≤ 1000000) : ∀ k, (∀ j, j < k → P j → -1000000 ≤ g j) → -1000000 ≤ omFq b P g k ∧ omFq b P g k ≤ 1000000 := by
  intro k
  induction k with
  | zero => intro _; exact hb
  | succ k ih =>
    intro h
    have h1 := ih (fun j hj => h j (by omega))
    by_cases hP : P k
    · rw [omFq_t hP]
      have := h k (by omega) hP
      omega
    · rw [omFq_f hP]
      exact h1
/-- the time that a job takes behind a family -/
def omTk (p f s : Nat → Int) (u : Int) (j : Nat) : Int := p j + omSu f s u j
def omUg (p d f s : Nat → Int) (U : Nat → Int) (S : Nat) (u : Int) (j : Nat) : Int := omTk p f s u j + max (-(d j)) (U (5 * (S ||| 2 ^ j) + (f j).toNat))
def omUb (n S : Nat) : Int := if S < 2 ^ n - 1 then 1000000 else -1000000
def omUe (v n : Nat) (p d f s : Nat → Int) (U : Nat → Int) (S u : Nat) : Prop := U (5 * S + u) = omFq (omUb n S) (omAw v n d f S) (omUg p d f s U S (u : Nat)) n
theorem omUb_rng {n S : Nat} : -1000000 ≤ omUb n S ∧ omUb n S ≤ 1000000 := by
  unfold omUb
  split <;> omega
theorem omTk_rng {n j : Nat} {p d w r f s : Nat → Int} (hok : omOk n p d w r f s) (hj : j < n) (u : Int) : 1 ≤ omTk p f s u j ∧ omTk p f s u j ≤ 50 := by
  have h1 := hok.2.1 j hj
  have h2 := omSu_rng hok hj u
  unfold omTk
  omega
theorem omUg_rng {n S j : Nat} {u : Int} {p d w r f s : Nat → Int} {U : Nat → Int} (hok : omOk n p d w r f s) (hj : j < n) (hU : -1000000 ≤ U (5 * (S ||| 2 ^ j) + (f j).toNat) ∧ U (5 * (S ||| 2 ^ j) + (f j).toNat) ≤ 1000000) : -300 ≤ omUg p d f s U S u j ∧ omUg p d f s U S u j ≤ 1000050 := by
  have h1 := hok.2.1 j hj
  have h2 := omTk_rng hok hj u
  unfold omUg
  omega
theorem omUe_of {v n S u : Nat} {p d f s : Nat → Int} {U U' : Nat → Int} (h : omUe v n p d f s U S u) (h0 : U' (5 * S + u) = U (5 * S + u)) (h1 : ∀ j, j < n → ¬ S.testBit j = true → U' (5 * (S ||| 2 ^ j) + (f j).toNat) = U (5 * (S ||| 2 ^ j) + (f j).toNat)) : omUe v n p d f s U' S u := by
  unfold omUe at h ⊢
  rw [h0, h]
  refine omFq_congr n (fun j hj => Iff.rfl) (fun j hj hP => ?_)
  unfold omUg
  rw [h1 j hj hP.1]
/-! .. the reference's -/
theorem omIf_bit {P : Prop} : omIf P = 0 ∨ omIf P = 1 := by
  by_cases h : P
  · exact Or.inr (omIf_t h)
  · exact Or.inl (omIf_f h)
def omAh (d f : Nat → Int) (S j k : Nat) : Prop := k ≠ j ∧ f k = f j ∧ ¬ S.testBit k = true ∧ omBk d k j
theorem omNx_succ {k S j : Nat} {d f : Nat → Int} : omNx (k + 1) d f S j ↔ omNx k d f S j ∧ ¬ omAh d f S j k := by
  unfold omNx omAh
  refine ⟨fun h => ⟨⟨h.1, fun i hi => h.2 i (by omega)⟩, fun h2 => h.2 k (by omega) h2.1 h2.2.1 h2.2.2.1 h2.2.2.2⟩, fun h => ⟨h.1.1, fun i hi h1 h2 h3 h4 => ?_⟩⟩
  by_cases hik : i = k
  · subst hik; exact h.2 ⟨h1, h2, h3, h4⟩
  · exact h.1.2 i (by omega) h1 h2 h3 h4
theorem om_tmod5 {S u : Nat} (h : 5 * S + u < 2147483648) (hu : u < 5) : (omw ((5 * S + u : Nat) : Int)).tmod (omw 5) = (u : Int) := by
  rw [om_wn h, show omw 5 = ((5 : Nat) : Int) from rfl, om_tmod]
  congr 1
  omega
theorem om_tdiv5 {S u : Nat} (h : 5 * S + u < 2147483648) (hu : u < 5) : (omw ((5 * S + u : Nat) : Int)).tdiv (omw 5) = (S : Int) := by
  rw [om_wn h, show omw 5 = ((5 : Nat) : Int) from rfl, om_tdiv]
  congr 1
  omega
theorem om_idx {X : Nat} {v : Int} (h : 0 ≤ v) : 5 * (X : Int) + v = ((5 * X + v.toNat : Nat) : Int) := by
  rw [Int.natCast_add, Int.natCast_mul]
  omega
theorem om_idx_lt {X : Nat} {v : Int} (hX : X < 1024) (h : v ≤ 3) : 5 * X + v.toNat < 5120 := by omega
