theorem om_inj_onto {n : Nat} {q : Nat → Nat} (hq : ∀ i, i < n → q i < n) (hinj : ∀ i k, i < n → k < n → q i = q k → i = k) : ∀ j, j < n → ∃ i, i < n ∧ q i = j := by
  intro j hj
  apply Classical.byContradiction
  intro hno
  have hc : ∀ j, j < n → 0 ≤ 1 - omSum n (fun x => if q x = j then (1 : Int) else 0) := by
    intro j hj
    by_cases hx : ∃ i, i < n ∧ q i = j
    · obtain ⟨i, hi, hij⟩ := hx
      rw [omSum_single (j := i) hi (fun k hk hki => if_neg (fun h => hki (hinj k i hk hi (h.trans hij.symm)))), if_pos hij]; decide
    · rw [omSum_zero (fun i hi => if_neg (fun h => hx ⟨i, hi, h⟩))]; decide
  have hsum : omSum n (fun j => 1 - omSum n (fun x => if q x = j then (1 : Int) else 0)) = 0 := by
    have h1 : omSum n (fun j => omSum n (fun x => if q x = j then (1 : Int) else 0)) = omSum n (fun _ => 1) := by
      rw [omSum_swap]
      exact omSum_congr (fun x hx => by
        rw [omSum_single (j := q x) (hq x hx) (fun j _ hj => if_neg (fun h => hj h.symm)), if_pos rfl])
    have h2 : omSum n (fun j => (1 - omSum n (fun x => if q x = j then (1 : Int) else 0)) + omSum n (fun x => if q x = j then (1 : Int) else 0)) = omSum n (fun _ => 1) := omSum_congr (fun j _ => by omega)
    rw [omSum_add, h1] at h2
    omega
  have h3 := omSum_one (n := n) (k := j) (g := fun j => 1 - omSum n (fun x => if q x = j then (1 : Int) else 0)) hc hj
  rw [hsum, omSum_zero (fun i hi => if_neg (fun h => hno ⟨i, hi, h⟩))] at h3
  omega
/-- the sets along a sequence -/
def omSs (q : Nat → Nat) : Nat → Nat
  | 0 => 0
  | k + 1 => omSs q k ||| 2 ^ (q k)
theorem omSs_congr {q q' : Nat → Nat} : ∀ k, (∀ i, i < k → q i = q' i) → omSs q k = omSs q' k := by
  intro k
  induction k with
  | zero => intro _; rfl
  | succ k ih =>
    intro h
    show omSs q k ||| 2 ^ (q k) = omSs q' k ||| 2 ^ (q' k)
    rw [ih (fun i hi => h i (by omega)), h k (by omega)]
/-- the first job that attains the least -/
def omHt (n : Nat) (p d w : Nat → Int) (T : Nat → Int) (S j : Nat) : Prop := j < n ∧ ¬ S.testBit j = true ∧ omTg n p d w 2 T S j = T S ∧ ∀ i, i < j → ¬ S.testBit i = true → omTg n p d w 2 T S i ≠ T S
theorem omHt_uniq {n : Nat} {p d w : Nat → Int} {T T' : Nat → Int} {S j j' : Nat} (hT : ∀ S, S < 2 ^ n → T S = T' S) (hS : S < 2 ^ n) (h : omHt n p d w T S j) (h' : omHt n p d w T' S j') : j = j' := by
  have e : ∀ i, i < n → omTg n p d w 2 T S i = omTg n p d w 2 T' S i := fun i hi => by unfold omTg; rw [hT _ (om_ins_lt hS hi)]
  obtain ⟨a1, a2, a3, a4⟩ := h
  obtain ⟨b1, b2, b3, b4⟩ := h'
  rcases Nat.lt_trichotomy j j' with h | h | h
  · exact absurd (by rw [← e j a1, a3, hT S hS]) (b4 j h a2)
  · exact h
  · exact absurd (by rw [e j' b1, b3, hT S hS]) (a4 j' h b2)
theorem omSs_lt {n : Nat} {q : Nat → Nat} : ∀ k, (∀ i, i < k → q i < n) → omSs q k < 2 ^ n := by
  intro k
  induction k with
  | zero => exact fun _ => Nat.two_pow_pos n
  | succ k ih => exact fun h => om_ins_lt (ih (fun i hi => h i (by omega))) (h k (by omega))
theorem omSs_un {n : Nat} {p d w : Nat → Int} {T : Nat → Int} {q : Nat → Nat} : ∀ k, (∀ i, i < k → omHt n p d w T (omSs q i) (q i)) → omUn n (omSs q k) + k = n := by
  intro k
  induction k with
  | zero =>
    intro _
    have : omUn n (omSs q 0) = omSum n (fun _ => 1) := omSum_congr (fun j _ => by
      show (if (0 : Nat).testBit j = true then (0 : Int) else 1) = 1
      rw [Nat.zero_testBit]; rfl)
    rw [this]
    have h2 : ∀ m, omSum m (fun _ => (1 : Int)) = m := by
      intro m
      induction m with
      | zero => rfl
      | succ m ih => show omSum m (fun _ => (1 : Int)) + 1 = _; rw [ih]; omega
    rw [h2]; omega
  | succ k ih =>
    intro h
    have h1 := ih (fun i hi => h i (by omega))
    have h2 := h k (by omega)
    have h3 := omUn_ins h2.1 h2.2.1
    show omUn n (omSs q k ||| 2 ^ (q k)) + _ = _
    omega
theorem omSs_bit {q : Nat → Nat} : ∀ k i, i < k → (omSs q k).testBit (q i) = true := by
  intro k
  induction k with
  | zero => intro i hi; omega
  | succ k ih =>
    intro i hi
    show (omSs q k ||| 2 ^ (q k)).testBit (q i) = true
    rw [om_ins_bit]
    by_cases hik : i = k
    · subst hik; simp
    · rw [ih i (by omega)]; rfl
theorem omHt_seq {n : Nat} {p d w : Nat → Int} {T : Nat → Int} {q : Nat → Nat} (h : ∀ i, i < n → omHt n p d w T (omSs q i) (q i)) : (∀ i, i < n → q i < n) ∧ (∀ i k, i < n → k < n → q i = q k → i = k) ∧ ∀ j, j < n → ∃ i, i < n ∧ q i = j := by
  have h1 : ∀ i, i < n → q i < n := fun i hi => (h i hi).1
  have hne : ∀ i k, i < k → k < n → q i ≠ q k := fun i k hik hk he => by
    have := omSs_bit (q := q) k i hik
    rw [he] at this
    exact (h k hk).2.1 this
  have h2 : ∀ i k, i < n → k < n → q i = q k → i = k := by
    intro i k hi hk he
    rcases Nat.lt_trichotomy i k with hh | hh | hh
    · exact absurd he (hne i k hh hk)
    · exact hh
    · exact absurd he.symm (hne k i hh hi)
  exact ⟨h1, h2, om_inj_onto h1 h2⟩
/-- where a job is left the least is attained -/
theorem omEq_att {n S : Nat} {p d w r f s : Nat → Int} {T : Nat → Int} (hok : omOk n p d w r f s) (h : ∀ S, S < 2 ^ n → omEq n p d w 2 T S) (hS : S < 2 ^ n) (hu : 0 < omUn n S) : ∃ j, j < n ∧ ¬ S.testBit j = true ∧ omTg n p d w 2 T S j = T S := by
  have hn := hok.1
  have hlow := omEq_low hok (Or.inr rfl) h (2 ^ n) S hS (by omega)
  have hr := omUn_rng (n := n) (S := S)
  rcases omFm_att (b := omB0 n 2 S) (S := S) (g := omTg n p d w 2 T S) n with h1 | ⟨j, hj, hb, h1⟩
  · exfalso
    have hne : S < 2 ^ n - 1 := by
      apply Classical.byContradiction
      intro hnot
      have hSf : S = 2 ^ n - 1 := by omega
      have : omUn n S = 0 := omSum_zero (fun j hj => by rw [hSf, om_full_bit hj]; rfl)
      omega
    have h2 := h S hS
    unfold omEq at h2
    rw [h1] at h2
    unfold omB0 at h2
    rw [if_pos hne] at h2
    omega
  · refine ⟨j, hj, hb, ?_⟩
    have h2 := h S hS
    unfold omEq at h2
    rw [h2, h1]
