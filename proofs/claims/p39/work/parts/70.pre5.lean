/-! .. units put together to events -/
theorem omAdd_tnow {P : List omPc} {k y : Int} {a : Nat} : omNow (omAdd P (k, y, (a : Int))) = omNow P + a := omAdd_now (by show 0 ≤ (a : Int); omega)
/-- who has been worked on is released -/
theorem omEs_rel {v n : Nat} {p d w r f s : Nat → Int} (hok : omOk n p d w r f s) : ∀ k j, j < n → (omEs v n p d r k).2.1 j < p j → r j ≤ omNow (omEs v n p d r k).1 := by
  intro k
  induction k with
  | zero => intro j hj hlt; exact absurd hlt (Int.lt_irrefl _)
  | succ k ih =>
    intro j hj hlt
    have hE := omEs_ok (v := v) (d := d) hok k
    have hS : omEs v n p d r (k + 1) = omEv v n d r (omEs v n p d r k) := rfl
    rw [hS] at hlt ⊢
    generalize omEs v n p d r k = X at hE ih hlt ⊢
    have hnow := omEk_now hok hE
    have hNr := omNr_gt (t := omNow X.1) hok (by omega)
    rcases om_dec (n := n) (r := r) (R := X.2.1) (t := omNow X.1) with hon | hno
    · obtain ⟨i, hch⟩ := omCh_ex (v := v) (d := d) hon
      have hD := omDt_rng hok hE hch
      rw [omEv_job hch] at hlt ⊢
      have hnow2 : omNow (omAdd X.1 (0, (i : Int), omDt n i r X)) = omNow X.1 + omDt n i r X := omAdd_now (by show 0 ≤ omDt n i r X; omega)
      show r j ≤ omNow (omAdd X.1 (0, (i : Int), omDt n i r X))
      rw [hnow2]
      by_cases hji : j = i
      · subst hji
        have := hch.2.1.2
        omega
      · have hlt' : omUp X.2.1 i (X.2.1 i - omDt n i r X) j < p j := hlt
        rw [omUp_n hji] at hlt'
        have := ih j hj hlt'
        omega
    · by_cases hN : omNr r (omNow X.1) n < 1000000
      · rw [omEv_idle hno hN] at hlt ⊢
        have hnow2 : omNow (omAdd X.1 (2, -1, omNr r (omNow X.1) n - omNow X.1)) = omNow X.1 + (omNr r (omNow X.1) n - omNow X.1) := omAdd_now (by show 0 ≤ omNr r (omNow X.1) n - omNow X.1; omega)
        show r j ≤ omNow (omAdd X.1 (2, -1, omNr r (omNow X.1) n - omNow X.1))
        rw [hnow2]
        have := ih j hj hlt
        omega
      · rw [omEv_end hno hN] at hlt ⊢
        exact ih j hj hlt
