/-! ===== p39: the table's order costs what the table says, and that is the least ===== -/
theorem omSs_ln {n : Nat} {p : Nat → Int} {q : Nat → Nat} (hq : omSq n q) : ∀ k, k ≤ n → omLn n p (omSs q k) = omPs p q k := by
  intro k
  induction k with
  | zero => intro _; exact omLn_0
  | succ k ih =>
    intro hk
    obtain ⟨h1, h2⟩ := hq k (by omega)
    show omLn n p (omSs q k ||| 2 ^ (q k)) = omPs p q k + p (q k)
    rw [omLn_ins h1 h2, ih (by omega)]
theorem omSs_full {n : Nat} {q : Nat → Nat} (hq : omSq n q) : omSs q n = 2 ^ n - 1 := by
  have h1 := omSs_un2 (n := n) (q := q) n hq
  exact omUn_full (omSs_lt n (fun i hi => (hq i hi).1)) (by omega)
theorem om_tardy_cost {n : Nat} {p d w C : Nat → Int} {T : Nat → Int} {q : Nat → Nat} (hT : ∀ S, S < 2 ^ n → omEq n p d w 2 T S) (hq : ∀ i, i < n → omHt n p d w T (omSs q i) (q i)) (hC : ∀ i, i < n → C (q i) = omPs p q (i + 1)) : omTot n 4 d w C = T 0 := by
  have hsq : omSq n q := fun i hi => ⟨(hq i hi).1, (hq i hi).2.1⟩
  obtain ⟨h1, h2, h3⟩ := omSs_perm hsq
  have e1 : omTot n 4 d w C = omSum n (omCs 4 d w C) := if_neg (by decide)
  rw [e1, ← omSum_perm (g := omCs 4 d w C) h1 h2 h3]
  have hend : T (omSs q n) = 0 := by
    rw [omSs_full hsq, hT (2 ^ n - 1) (by have := Nat.two_pow_pos n; omega), omFm_set n (fun j hj => om_full_bit hj)]
    unfold omB0
    rw [if_neg (by omega), if_neg (by decide)]
  have hk : ∀ k, k ≤ n → T 0 = omSum k (fun i => omCs 4 d w C (q i)) + T (omSs q k) := by
    intro k
    induction k with
    | zero => intro _; show T 0 = 0 + T 0; omega
    | succ k ih =>
      intro hk
      have h4 := ih (by omega)
      have h5 := (hq k (by omega)).2.2.1
      have h6 : omTg n p d w 2 T (omSs q k) (q k) = T (omSs q (k + 1)) + w (q k) * max 0 (omPs p q k + p (q k) - d (q k)) := by
        show omJ 2 d w (q k) (omLn n p (omSs q k) + p (q k)) (T (omSs q k ||| 2 ^ (q k))) = _
        rw [omSs_ln hsq k (by omega)]
        unfold omJ
        rw [if_neg (by decide), if_neg (by decide)]
        rfl
      have h7 : omCs 4 d w C (q k) = w (q k) * max 0 (omPs p q k + p (q k) - d (q k)) := by
        have e : omCs 4 d w C (q k) = omTd d w C (q k) := by
          show (if (4 : Nat) = 0 then _ else if (4 : Nat) = 1 then _ else if (4 : Nat) = 2 then _ else if (4 : Nat) = 3 then _ else omTd d w C (q k)) = _
          rw [if_neg (by decide), if_neg (by decide), if_neg (by decide), if_neg (by decide)]
        rw [e]
        unfold omTd
        rw [hC k (by omega)]
        rfl
      show T 0 = omSum k (fun i => omCs 4 d w C (q i)) + omCs 4 d w C (q k) + T (omSs q (k + 1))
      omega
  have := hk n (Nat.le_refl n)
  rw [hend] at this
  omega
theorem om_tardy_least {n : Nat} {p d w r f s : Nat → Int} {T : Nat → Int} (hok : omOk n p d w r f s) (hT : ∀ S, S < 2 ^ n → omEq n p d w 2 T S) : min 1000000 (omVl n 4 d w f (fun _ _ t j => t + p j) n 0 4 0 (omA0 4)) = T 0 := by
  have hz := Nat.two_pow_pos n
  have h1 := omVl_row hok (Or.inr (Or.inr ⟨rfl, rfl⟩)) hT n 0 4 (omA0 4) hz omUn_0 (by decide) (fun _ => by decide) (by rw [show omA0 4 = 0 from rfl]; omega)
  rw [omLn_0] at h1
  have h2 : omCx 4 (omA0 4) (T 0) = 0 + T 0 := rfl
  have h3 := omEq_top hok (v := 2) (by decide) hT hz
  omega
