/-! ===== the reference's orders ===== -/
noncomputable def omIf (P : Prop) : Int := @ite Int P (Classical.propDecidable P) 1 0
theorem omIf_t {P : Prop} (h : P) : omIf P = 1 := if_pos h
theorem omIf_f {P : Prop} (h : ¬ P) : omIf P = 0 := if_neg h
/-- how many below n -/
noncomputable def omCnt (n : Nat) (P : Nat → Prop) : Int := omSum n (fun i => omIf (P i))
theorem omCnt_succ {n : Nat} {P : Nat → Prop} : omCnt (n + 1) P = omCnt n P + omIf (P n) := rfl
theorem omCnt_le {n : Nat} {P Q : Nat → Prop} (h : ∀ i, i < n → P i → Q i) : omCnt n P ≤ omCnt n Q := by
  induction n with
  | zero => exact Int.le_refl _
  | succ n ih =>
    have h1 := ih (fun i hi => h i (by omega))
    rw [omCnt_succ, omCnt_succ]
    by_cases hp : P n
    · rw [omIf_t hp, omIf_t (h n (by omega) hp)]; omega
    · rw [omIf_f hp]
      by_cases hq : Q n
      · rw [omIf_t hq]; omega
      · rw [omIf_f hq]; omega
theorem omCnt_lt {n x : Nat} {P Q : Nat → Prop} (h : ∀ i, i < n → P i → Q i) (hx : x < n) (h1 : ¬ P x) (h2 : Q x) : omCnt n P < omCnt n Q := by
  induction n with
  | zero => omega
  | succ n ih =>
    rw [omCnt_succ, omCnt_succ]
    by_cases hxn : x = n
    · subst hxn
      have := omCnt_le (n := x) (fun i hi => h i (by omega))
      rw [omIf_f h1, omIf_t h2]; omega
    · have h3 := ih (fun i hi => h i (by omega)) (by omega)
      by_cases hp : P n
      · rw [omIf_t hp, omIf_t (h n (by omega) hp)]; omega
      · rw [omIf_f hp]
        by_cases hq : Q n
        · rw [omIf_t hq]; omega
        · rw [omIf_f hq]; omega
theorem omCnt_all {n : Nat} : omCnt n (fun _ => True) = n := by
  induction n with
  | zero => rfl
  | succ n ih => rw [omCnt_succ, ih, omIf_t trivial]; omega
theorem omCnt_0 {n : Nat} {P : Nat → Prop} : 0 ≤ omCnt n P := by
  induction n with
  | zero => exact Int.le_refl _
  | succ n ih =>
    rw [omCnt_succ]
    by_cases hp : P n
    · rw [omIf_t hp]; omega
    · rw [omIf_f hp]; omega
theorem omCnt_congr {n : Nat} {P Q : Nat → Prop} (h : ∀ i, i < n → (P i ↔ Q i)) : omCnt n P = omCnt n Q :=
  Int.le_antisymm (omCnt_le fun i hi => (h i hi).1) (omCnt_le fun i hi => (h i hi).2)
/-- a job's rank in an order -/
noncomputable def omRk (n : Nat) (b : Nat → Nat → Prop) (j : Nat) : Int := omCnt n (fun i => b i j)
theorem omRk_lt {n i j : Nat} {b : Nat → Nat → Prop} (hb : omSO n b) (hi : i < n) (hj : j < n) (h : b i j) : omRk n b i < omRk n b j :=
  omCnt_lt (fun x hx hxi => hb.2.1 x i j hx hi hj hxi h) hi (hb.1 i hi) h
theorem omRk_n {n j : Nat} {b : Nat → Nat → Prop} (hb : omSO n b) (hj : j < n) : 0 ≤ omRk n b j ∧ omRk n b j < n := by
  refine ⟨omCnt_0, ?_⟩
  have := omCnt_lt (n := n) (P := fun i => b i j) (Q := fun _ => True) (fun _ _ _ => trivial) hj (hb.1 j hj) trivial
  rw [omCnt_all] at this
  exact this
theorem omRk_ne {n i j : Nat} {b : Nat → Nat → Prop} (hb : omSO n b) (hi : i < n) (hj : j < n) (h : i ≠ j) : omRk n b i ≠ omRk n b j := by
  rcases hb.2.2 i j hi hj h with h | h
  · have := omRk_lt hb hi hj h; omega
  · have := omRk_lt hb hj hi h; omega
theorem omRk_q {n k : Nat} {b : Nat → Nat → Prop} {q : Nat → Nat} (hb : omSO n b) (hq : omSt b n q) (hk : k < n) : omRk n b (q k) = k := by
  have h1 : ∀ m k, k + m < n → omRk n b (q k) + m ≤ omRk n b (q (k + m)) := by
    intro m
    induction m with
    | zero => intro k _; simp
    | succ m ih =>
      intro k hk
      have h2 := ih k (by omega)
      have h3 := omRk_lt hb (hq.1 (k + m) (by omega)) (hq.1 (k + (m + 1)) hk) (hq.2.2 (k + m) (k + (m + 1)) (by omega) hk)
      omega
  have a1 := h1 k 0 (by omega)
  rw [Nat.zero_add] at a1
  have a2 := (omRk_n hb (hq.1 0 (by omega))).1
  have a3 := h1 (n - 1 - k) k (by omega)
  have a4 := (omRk_n hb (hq.1 (k + (n - 1 - k)) (by omega))).2
  omega
/-- the key of the reference's flag -/
def omKf (v : Nat) : Nat := if v = 0 then 7 else 5
