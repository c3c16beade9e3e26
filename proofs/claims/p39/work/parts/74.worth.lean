/-! .. the reference's busy times -/
def omBz (n : Nat) (p r : Nat → Int) (S : Nat) (σ : omH) : Prop := ∀ t : Nat, t < 512 → σ 59 t = if 0 < omWb n p r S t then 1 else 0
theorem omWb_none {n : Nat} {p r : Nat → Int} : ∀ t, omWb n p r 0 t = 0 := by
  have hA : ∀ t, omAr n p r 0 t = 0 := fun t => omSum_zero (fun i _ => by rw [Nat.zero_testBit]; rfl)
  intro t
  induction t with
  | zero => exact hA 0
  | succ t ih =>
    show max 0 (omWb n p r 0 t - 1) + omAr n p r 0 (t + 1) = 0
    rw [ih, hA]; rfl
/-- what the first places of a sequence cost, as priorities -/
def omWo (n c : Nat) (p d w r : Nat → Int) (q : Nat → Nat) : Nat → Int
  | 0 => omA0 c
  | k + 1 => omCj c d w (omWo n c p d w r q k) (q k) ((omTe n p r (omSs q k) (q k) : Nat) : Int)
theorem omWo_congr {n c : Nat} {p d w r : Nat → Int} {q q' : Nat → Nat} : ∀ k, (∀ i, i < k → q i = q' i) → omWo n c p d w r q k = omWo n c p d w r q' k := by
  intro k
  induction k with
  | zero => intro _; rfl
  | succ k ih =>
    intro h
    show omCj c d w (omWo n c p d w r q k) (q k) _ = omCj c d w (omWo n c p d w r q' k) (q' k) _
    rw [ih (fun i hi => h i (by omega)), h k (by omega), omSs_congr k (fun i hi => h i (by omega))]
theorem omWo_rng {n c : Nat} {p d w r f s : Nat → Int} {q : Nat → Nat} (hok : omOk n p d w r f s) (hc : c = 0 ∨ c = 2) (hq : ∀ i, i < n → q i < n) : ∀ k, k ≤ n → -1000000 ≤ omWo n c p d w r q k ∧ omWo n c p d w r q k ≤ 1000 * (k : Nat) := by
  intro k
  induction k with
  | zero => intro _; show -1000000 ≤ omA0 c ∧ omA0 c ≤ _; unfold omA0; split <;> omega
  | succ k ih =>
    intro hk
    have h1 := ih (by omega)
    have hqk := hq k (by omega)
    have ho := hok.2.1 (q k) hqk
    obtain ⟨hT1, hT2, hT3, hT4⟩ := omTe_ok (S := omSs q k) hok hqk
    have h2 : omCj c d w (omWo n c p d w r q k) (q k) ((omTe n p r (omSs q k) (q k) : Nat) : Int) = if c = 0 then max (omWo n c p d w r q k) ((omTe n p r (omSs q k) (q k) : Nat) - d (q k)) else omWo n c p d w r q k + (omTe n p r (omSs q k) (q k) : Nat) := by
      rcases hc with rfl | rfl <;> rfl
    show -1000000 ≤ omCj c d w (omWo n c p d w r q k) (q k) ((omTe n p r (omSs q k) (q k) : Nat) : Int) ∧ omCj c d w (omWo n c p d w r q k) (q k) ((omTe n p r (omSs q k) (q k) : Nat) : Int) ≤ _
    rw [h2]
    split <;> omega
/-- a sequence of different jobs -/
def omSq (n : Nat) (q : Nat → Nat) : Prop := ∀ i, i < n → q i < n ∧ ¬ (omSs q i).testBit (q i) = true
