/-! ===== with preemption: events ===== -/
abbrev omE3 : Type := List omPc × (Nat → Int) × (Nat → Int)
/-- one step to the next event -/
noncomputable def omEv (v n : Nat) (d r : Nat → Int) (X : omE3) : omE3 :=
  if omWk v d r X.2.1 (omNow X.1) n = -1 then (if omNr r (omNow X.1) n < 1000000 then (omAdd X.1 (2, -1, omNr r (omNow X.1) n - omNow X.1), X.2.1, X.2.2) else X)
  else (omAdd X.1 (0, omWk v d r X.2.1 (omNow X.1) n, min (omNr r (omNow X.1) n - omNow X.1) (X.2.1 (omWk v d r X.2.1 (omNow X.1) n).toNat)), omUp X.2.1 (omWk v d r X.2.1 (omNow X.1) n).toNat (X.2.1 (omWk v d r X.2.1 (omNow X.1) n).toNat - min (omNr r (omNow X.1) n - omNow X.1) (X.2.1 (omWk v d r X.2.1 (omNow X.1) n).toNat)), omUp X.2.2 (omWk v d r X.2.1 (omNow X.1) n).toNat (omNow X.1 + min (omNr r (omNow X.1) n - omNow X.1) (X.2.1 (omWk v d r X.2.1 (omNow X.1) n).toNat)))
noncomputable def omEs (v n : Nat) (p d r : Nat → Int) : Nat → omE3
  | 0 => ([], p, fun _ => 0)
  | k + 1 => omEv v n d r (omEs v n p d r k)
/-- how long the next step takes, if a job is worked on -/
def omDt (n j : Nat) (r : Nat → Int) (X : omE3) : Int := min (omNr r (omNow X.1) n - omNow X.1) (X.2.1 j)
theorem omEv_job {v n j : Nat} {d r : Nat → Int} {X : omE3} (h : omCh n (omGk v d X.2.1) r X.2.1 (omNow X.1) j) : omEv v n d r X = (omAdd X.1 (0, (j : Int), omDt n j r X), omUp X.2.1 j (X.2.1 j - omDt n j r X), omUp X.2.2 j (omNow X.1 + omDt n j r X)) := by
  have hw := omWk_of h
  unfold omEv
  rw [hw, if_neg (by omega), Int.toNat_natCast]
  rfl
theorem omEv_idle {v n : Nat} {d r : Nat → Int} {X : omE3} (h : ∀ i, i < n → ¬ omOn r X.2.1 (omNow X.1) i) (hN : omNr r (omNow X.1) n < 1000000) : omEv v n d r X = (omAdd X.1 (2, -1, omNr r (omNow X.1) n - omNow X.1), X.2.1, X.2.2) := by
  unfold omEv
  rw [omWk_no h, if_pos rfl, if_pos hN]
theorem omEv_end {v n : Nat} {d r : Nat → Int} {X : omE3} (h : ∀ i, i < n → ¬ omOn r X.2.1 (omNow X.1) i) (hN : ¬ omNr r (omNow X.1) n < 1000000) : omEv v n d r X = X := by
  unfold omEv
  rw [omWk_no h, if_pos rfl, if_neg hN]
theorem omEs_stop {v n k : Nat} {p d r : Nat → Int} (h : omEv v n d r (omEs v n p d r k) = omEs v n p d r k) : ∀ m, omEs v n p d r (k + m) = omEs v n p d r k := by
  intro m
  induction m with
  | zero => rfl
  | succ m ih =>
    show omEv v n d r (omEs v n p d r (k + m)) = _
    rw [ih, h]
theorem om_dec {n : Nat} {r R : Nat → Int} {t : Int} : (∃ j, j < n ∧ omOn r R t j) ∨ ∀ i, i < n → ¬ omOn r R t i := by
  by_cases h : ∃ j, j < n ∧ omOn r R t j
  · exact Or.inl h
  · exact Or.inr (fun i hi hon => h ⟨i, hi, hon⟩)
theorem omCh_ex {v n : Nat} {d r R : Nat → Int} {t : Int} (h : ∃ j, j < n ∧ omOn r R t j) : ∃ j, omCh n (omGk v d R) r R t j := by
  rcases omWk_spec (v := v) (d := d) (r := r) (R := R) (t := t) n with ⟨g1, g2⟩ | ⟨i, g1, g2⟩
  · obtain ⟨j, hj, hon⟩ := h
    exact absurd hon (g2 j hj)
  · exact ⟨i, g2⟩
theorem omSum_up {n j : Nat} {g : Nat → Int} {v : Int} (hj : j < n) : omSum n (omUp g j v) = omSum n g - g j + v := by
  have h1 : omSum n (omUp g j v) = omSum n (fun i => g i + (if i = j then v - g j else 0)) := omSum_congr (fun i hi => by
    unfold omUp
    by_cases hij : i = j
    · subst hij; rw [if_pos rfl, if_pos rfl]; omega
    · rw [if_neg hij, if_neg hij]; omega)
  rw [h1, omSum_add, omSum_single (n := n) (j := j) (g := fun i => if i = j then v - g j else 0) hj (fun i _ h => if_neg h), if_pos rfl]
  omega
theorem omUp_s {C : Nat → Int} {j : Nat} {v : Int} : omUp C j v j = v := if_pos rfl
theorem omUp_n {C : Nat → Int} {j i : Nat} {v : Int} (h : i ≠ j) : omUp C j v i = C i := if_neg h
theorem omPok.add2 {B : Int} {P : List omPc} {e : omPc} (h : omPok B P) (h1 : 0 ≤ e.1 ∧ e.1 ≤ 2) (h2 : -1 ≤ e.2.1 ∧ e.2.1 ≤ 9) (h3 : 0 ≤ e.2.2) (h4 : omNow P + e.2.2 ≤ B) : omPok B (omAdd P e) := by
  unfold omAdd
  split
  · have h4' : (0 : Int) + e.2.2 ≤ B := h4
    split
    · intro x hx; rw [List.mem_singleton.mp hx]; omega
    · intro x hx; cases hx
  · rename_i x T
    have hx0 := h x List.mem_cons_self
    have h4' : x.2.2 + e.2.2 ≤ B := h4
    split
    · intro y hy
      rcases List.mem_cons.mp hy with rfl | hy
      · show 0 ≤ x.1 ∧ x.1 ≤ 2 ∧ -1 ≤ x.2.1 ∧ x.2.1 ≤ 9 ∧ 0 ≤ x.2.2 + e.2.2 ∧ x.2.2 + e.2.2 ≤ B
        omega
      · exact h y (List.mem_cons_of_mem _ hy)
    · split
      · intro y hy
        rcases List.mem_cons.mp hy with rfl | hy
        · show 0 ≤ e.1 ∧ e.1 ≤ 2 ∧ -1 ≤ e.2.1 ∧ e.2.1 ≤ 9 ∧ 0 ≤ x.2.2 + e.2.2 ∧ x.2.2 + e.2.2 ≤ B
          omega
        · exact h y hy
      · exact h
/-- how many events are to come -/
noncomputable def omMe (n : Nat) (r R : Nat → Int) (t : Int) : Int := omCnt n (fun j => 0 < R j) + omCnt n (fun j => t < r j)
theorem omMe_0 {n : Nat} {r R : Nat → Int} {t : Int} (h : omMe n r R t = 0) : (∀ j, j < n → ¬ 0 < R j) ∧ ∀ j, j < n → ¬ t < r j := by
  have h1 := omCnt_0 (n := n) (P := fun j => 0 < R j)
  have h2 := omCnt_0 (n := n) (P := fun j => t < r j)
  unfold omMe at h
  refine ⟨fun j hj hp => ?_, fun j hj hp => ?_⟩
  · have := omCnt_lt (n := n) (P := fun _ => False) (Q := fun j => 0 < R j) (fun i _ hi => hi.elim) hj (fun hi => hi) hp
    have := omCnt_0 (n := n) (P := fun _ => False)
    omega
  · have := omCnt_lt (n := n) (P := fun _ => False) (Q := fun j => t < r j) (fun i _ hi => hi.elim) hj (fun hi => hi) hp
    have := omCnt_0 (n := n) (P := fun _ => False)
    omega
theorem omCnt_top {n : Nat} {P : Nat → Prop} : omCnt n P ≤ n := by
  rw [← omCnt_all (n := n)]
  exact omCnt_le (fun i _ _ => trivial)
/-- what holds after k steps -/
def omEk (n : Nat) (p r : Nat → Int) (k : Nat) (X : omE3) : Prop := omPok 1000 X.1 ∧ X.1.length ≤ k ∧ omRr n p X.2.1 ∧ (0 ≤ omNow X.1 ∧ omNow X.1 + omSum n X.2.1 ≤ 100 + omSum n p) ∧ (∀ j, j < n → X.2.1 j < p j → 0 ≤ X.2.2 j ∧ X.2.2 j ≤ 1000) ∧ (omMe n r X.2.1 (omNow X.1) = 0 ∨ omMe n r X.2.1 (omNow X.1) + k ≤ 2 * n)
theorem omRr_sum {n : Nat} {p d w r f s R : Nat → Int} (hok : omOk n p d w r f s) (h : omRr n p R) : 0 ≤ omSum n R ∧ omSum n p ≤ 300 := by
  have hn := hok.1
  have h1 := omSum_rng (n := n) (g := R) (B := 30) (fun j hj => by have := h j hj; have := hok.2.1 j hj; omega)
  have h2 := omSum_rng (n := n) (g := p) (B := 30) (fun j hj => by have := hok.2.1 j hj; omega)
  omega
theorem omEk_now {n k : Nat} {p d w r f s : Nat → Int} {X : omE3} (hok : omOk n p d w r f s) (h : omEk n p r k X) : 0 ≤ omNow X.1 ∧ omNow X.1 ≤ 400 := by
  have := omRr_sum hok h.2.2.1
  have := h.2.2.2.1
  omega
/-- the next release is ahead -/
theorem omNr_gt {n : Nat} {p d w r f s : Nat → Int} {t : Int} (hok : omOk n p d w r f s) (ht : t ≤ 1000) : t < omNr r t n ∧ (omNr r t n < 1000000 → omNr r t n ≤ 100 ∧ ∃ i, i < n ∧ t < r i ∧ omNr r t n = r i) ∧ omNr r t n ≤ 1000000 := by
  rcases omNr_att (r := r) (t := t) n with h | ⟨i, hi, h1, h2⟩
  · exact ⟨by omega, fun h3 => by omega, by omega⟩
  · have := hok.2.1 i hi
    exact ⟨by omega, fun _ => ⟨by omega, i, hi, h1, h2⟩, by omega⟩
theorem omDt_rng {n j k : Nat} {p d w r f s : Nat → Int} {X : omE3} {g : Nat → Int} (hok : omOk n p d w r f s) (h : omEk n p r k X) (hch : omCh n g r X.2.1 (omNow X.1) j) : 1 ≤ omDt n j r X ∧ omDt n j r X ≤ X.2.1 j ∧ omNow X.1 + omDt n j r X ≤ omNr r (omNow X.1) n := by
  have h1 := omEk_now hok h
  have h2 := omNr_gt (t := omNow X.1) hok (by omega)
  have h3 := hch.2.1.1
  unfold omDt
  omega
theorem omEk_step {v n k : Nat} {p d w r f s : Nat → Int} {X : omE3} (hok : omOk n p d w r f s) (h : omEk n p r k X) : omEk n p r (k + 1) (omEv v n d r X) := by
  have hn := hok.1
  have hnow := omEk_now hok h
  have hNr := omNr_gt (t := omNow X.1) hok (by omega)
  have hsum := omRr_sum hok h.2.2.1
  obtain ⟨h1, h2, h3, h4, h5, h6⟩ := h
  rcases om_dec (n := n) (r := r) (R := X.2.1) (t := omNow X.1) with hon | hno
  · obtain ⟨j, hch⟩ := omCh_ex (v := v) (d := d) hon
    have hD := omDt_rng hok ⟨h1, h2, h3, h4, h5, h6⟩ hch
    have hj := hch.1
    have hRj := h3 j hj
    have hoj := hok.2.1 j hj
    rw [omEv_job hch]
    have hnow2 : omNow (omAdd X.1 (0, (j : Int), omDt n j r X)) = omNow X.1 + omDt n j r X := omAdd_now (by show 0 ≤ omDt n j r X; omega)
    have hs2 : omSum n (omUp X.2.1 j (X.2.1 j - omDt n j r X)) = omSum n X.2.1 - omDt n j r X := by rw [omSum_up hj]; omega
    have hRr2 : omRr n p (omUp X.2.1 j (X.2.1 j - omDt n j r X)) := fun i hi => by
      by_cases hij : i = j
      · subst hij; rw [omUp_s]; omega
      · rw [omUp_n hij]; exact h3 i hi
    have hs3 := omRr_sum hok hRr2
    refine ⟨h1.add2 ⟨by show (0 : Int) ≤ 0; decide, by show (0 : Int) ≤ 2; decide⟩ ⟨by show -1 ≤ (j : Int); omega, by show (j : Int) ≤ 9; omega⟩ (by show 0 ≤ omDt n j r X; omega) (by show omNow X.1 + omDt n j r X ≤ 1000; omega), ?_, hRr2, ?_, ?_, ?_⟩
    · have := omAdd_len (P := X.1) (e := (0, (j : Int), omDt n j r X))
      show (omAdd X.1 (0, (j : Int), omDt n j r X)).length ≤ k + 1
      omega
    · show 0 ≤ omNow (omAdd X.1 (0, (j : Int), omDt n j r X)) ∧ omNow (omAdd X.1 (0, (j : Int), omDt n j r X)) + omSum n (omUp X.2.1 j (X.2.1 j - omDt n j r X)) ≤ 100 + omSum n p
      rw [hnow2, hs2]
      omega
    · intro i hi hlt
      show 0 ≤ omUp X.2.2 j (omNow X.1 + omDt n j r X) i ∧ omUp X.2.2 j (omNow X.1 + omDt n j r X) i ≤ 1000
      by_cases hij : i = j
      · subst hij; rw [omUp_s]; omega
      · rw [omUp_n hij]
        have hlt' : omUp X.2.1 j (X.2.1 j - omDt n j r X) i < p i := hlt
        rw [omUp_n hij] at hlt'
        exact h5 i hi hlt'
    · show omMe n r (omUp X.2.1 j (X.2.1 j - omDt n j r X)) (omNow (omAdd X.1 (0, (j : Int), omDt n j r X))) = 0 ∨ omMe n r (omUp X.2.1 j (X.2.1 j - omDt n j r X)) (omNow (omAdd X.1 (0, (j : Int), omDt n j r X))) + ((k + 1 : Nat) : Int) ≤ 2 * n
      rw [hnow2]
      have c1 : omCnt n (fun i => 0 < omUp X.2.1 j (X.2.1 j - omDt n j r X) i) ≤ omCnt n (fun i => 0 < X.2.1 i) := omCnt_le (fun i hi hp => by
        by_cases hij : i = j
        · subst hij; exact hch.2.1.1
        · rw [omUp_n hij] at hp; exact hp)
      have c2 : omCnt n (fun i => omNow X.1 + omDt n j r X < r i) ≤ omCnt n (fun i => omNow X.1 < r i) := omCnt_le (fun i hi hp => by omega)
      have hdec : omMe n r (omUp X.2.1 j (X.2.1 j - omDt n j r X)) (omNow X.1 + omDt n j r X) < omMe n r X.2.1 (omNow X.1) := by
        unfold omMe
        by_cases hfull : omDt n j r X = X.2.1 j
        · have c3 : omCnt n (fun i => 0 < omUp X.2.1 j (X.2.1 j - omDt n j r X) i) < omCnt n (fun i => 0 < X.2.1 i) := omCnt_lt (x := j) (fun i hi hp => by
            by_cases hij : i = j
            · subst hij; exact hch.2.1.1
            · rw [omUp_n hij] at hp; exact hp) hj (by rw [omUp_s]; omega) hch.2.1.1
          omega
        · have hNt : omNow X.1 + omDt n j r X = omNr r (omNow X.1) n := by unfold omDt at hfull ⊢; omega
          obtain ⟨i, hi, g1, g2⟩ := (hNr.2.1 (by omega)).2
          have c3 : omCnt n (fun i => omNow X.1 + omDt n j r X < r i) < omCnt n (fun i => omNow X.1 < r i) := omCnt_lt (x := i) (fun i hi hp => by omega) hi (by omega) g1
          omega
      rcases h6 with h6 | h6
      · have m1 := omCnt_0 (n := n) (P := fun i => 0 < omUp X.2.1 j (X.2.1 j - omDt n j r X) i)
        have m2 := omCnt_0 (n := n) (P := fun i => omNow X.1 + omDt n j r X < r i)
        unfold omMe at hdec h6
        omega
      · exact Or.inr (by omega)
  · by_cases hN : omNr r (omNow X.1) n < 1000000
    · rw [omEv_idle hno hN]
      obtain ⟨hN1, i, hi, g1, g2⟩ := hNr.2.1 hN
      have hnow2 : omNow (omAdd X.1 (2, -1, omNr r (omNow X.1) n - omNow X.1)) = omNr r (omNow X.1) n := by
        rw [omAdd_now (by show 0 ≤ omNr r (omNow X.1) n - omNow X.1; omega)]
        show omNow X.1 + (omNr r (omNow X.1) n - omNow X.1) = _
        omega
      have hle : omSum n X.2.1 ≤ omSum n p := by
        have h7 := omSum_rng (n := n) (g := fun j => p j - X.2.1 j) (B := 30) (fun j hj => by have := h3 j hj; have := hok.2.1 j hj; omega)
        have h8 : omSum n (fun j => X.2.1 j + (p j - X.2.1 j)) = omSum n p := omSum_congr (fun j hj => by omega)
        rw [omSum_add] at h8
        omega
      refine ⟨h1.add2 ⟨by show (0 : Int) ≤ 2; decide, by show (2 : Int) ≤ 2; decide⟩ ⟨by show (-1 : Int) ≤ -1; decide, by show (-1 : Int) ≤ 9; decide⟩ (by show 0 ≤ omNr r (omNow X.1) n - omNow X.1; omega) (by show omNow X.1 + (omNr r (omNow X.1) n - omNow X.1) ≤ 1000; omega), ?_, h3, ?_, h5, ?_⟩
      · have := omAdd_len (P := X.1) (e := (2, -1, omNr r (omNow X.1) n - omNow X.1))
        show (omAdd X.1 (2, -1, omNr r (omNow X.1) n - omNow X.1)).length ≤ k + 1
        omega
      · show 0 ≤ omNow (omAdd X.1 (2, -1, omNr r (omNow X.1) n - omNow X.1)) ∧ omNow (omAdd X.1 (2, -1, omNr r (omNow X.1) n - omNow X.1)) + omSum n X.2.1 ≤ 100 + omSum n p
        rw [hnow2]
        omega
      · show omMe n r X.2.1 (omNow (omAdd X.1 (2, -1, omNr r (omNow X.1) n - omNow X.1))) = 0 ∨ omMe n r X.2.1 (omNow (omAdd X.1 (2, -1, omNr r (omNow X.1) n - omNow X.1))) + ((k + 1 : Nat) : Int) ≤ 2 * n
        rw [hnow2]
        have hdec : omMe n r X.2.1 (omNr r (omNow X.1) n) < omMe n r X.2.1 (omNow X.1) := by
          unfold omMe
          have c3 : omCnt n (fun i => omNr r (omNow X.1) n < r i) < omCnt n (fun i => omNow X.1 < r i) := omCnt_lt (x := i) (fun i hi hp => by omega) hi (by omega) g1
          omega
        rcases h6 with h6 | h6
        · have m1 := omCnt_0 (n := n) (P := fun i => 0 < X.2.1 i)
          have m2 := omCnt_0 (n := n) (P := fun i => omNr r (omNow X.1) n < r i)
          unfold omMe at hdec h6
          omega
        · exact Or.inr (by omega)
    · rw [omEv_end hno hN]
      refine ⟨h1, by omega, h3, h4, h5, Or.inl ?_⟩
      have z1 : omCnt n (fun i => omNow X.1 < r i) = 0 := omSum_zero (fun i hi => omIf_f (fun hp => by have := omNr_low n i hi hp; have := hok.2.1 i hi; omega))
      have z2 : omCnt n (fun i => 0 < X.2.1 i) = 0 := omSum_zero (fun i hi => omIf_f (fun hp => hno i hi ⟨hp, Int.not_lt.mp (fun hlt => by have := omNr_low n i hi hlt; have := hok.2.1 i hi; omega)⟩))
      unfold omMe
      omega
theorem omEs_ok {v n : Nat} {p d w r f s : Nat → Int} (hok : omOk n p d w r f s) : ∀ k, omEk n p r k (omEs v n p d r k) := by
  intro k
  induction k with
  | zero =>
    refine ⟨fun x hx => (by cases hx), Nat.le_refl _, fun j hj => ?_, ⟨Int.le_refl _, ?_⟩, fun j hj h => ?_, Or.inr ?_⟩
    · have := hok.2.1 j hj
      show 0 ≤ p j ∧ p j ≤ p j
      omega
    · show (0 : Int) + omSum n p ≤ 100 + omSum n p
      omega
    · exact absurd h (Int.lt_irrefl _)
    · have m1 := omCnt_top (n := n) (P := fun i => 0 < p i)
      have m2 := omCnt_top (n := n) (P := fun i => (0 : Int) < r i)
      show omCnt n (fun i => 0 < p i) + omCnt n (fun i => (0 : Int) < r i) + ((0 : Nat) : Int) ≤ 2 * n
      omega
  | succ k ih => exact omEk_step hok ih
/-- after twenty steps nothing is left -/
theorem omEs_done {v n : Nat} {p d w r f s : Nat → Int} (hok : omOk n p d w r f s) : ∀ j, j < n → (omEs v n p d r 20).2.1 j = 0 := by
  intro j hj
  have hn := hok.1
  obtain ⟨h1, h2, h3, h4, h5, h6⟩ := omEs_ok (v := v) (d := d) hok 20
  have h7 : omMe n r (omEs v n p d r 20).2.1 (omNow (omEs v n p d r 20).1) = 0 := by
    rcases h6 with h6 | h6
    · exact h6
    · have m1 := omCnt_0 (n := n) (P := fun i => 0 < (omEs v n p d r 20).2.1 i)
      have m2 := omCnt_0 (n := n) (P := fun i => omNow (omEs v n p d r 20).1 < r i)
      unfold omMe at h6 ⊢
      omega
  have h8 := (omMe_0 h7).1 j hj
  have h9 := h3 j hj
  omega
