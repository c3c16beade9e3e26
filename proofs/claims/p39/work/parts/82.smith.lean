/-! ===== p39: by ratios is the least sum of weighted completions ===== -/
def omPw (p w : Nat → Int) (a b : Nat) : Int := if a = b then 2 * (w a * p a) else min (w a * p b) (w b * p a)
def omLr (p w : Nat → Int) (q : Nat → Nat) (i k : Nat) : Int := if k ≤ i then w (q i) * p (q k) else 0
theorem omLr_row {n i : Nat} {p w : Nat → Int} {q : Nat → Nat} (hi : i < n) : omSum n (omLr p w q i) = w (q i) * omPs p q (i + 1) := by
  have e1 : omSum n (omLr p w q i) = omSum (i + 1) (omLr p w q i) := omSum_tail (by omega) (fun k hk _ => if_neg (by omega))
  rw [e1]
  unfold omPs
  rw [← omSum_mul]
  exact omSum_congr (fun k hk => if_pos (by omega))
theorem om_wc {n : Nat} {p d w C : Nat → Int} {q : Nat → Nat} (hq : omSq n q) (hC : ∀ i, i < n → C (q i) = omPs p q (i + 1)) : omTot n 3 d w C = omSum n (fun i => omSum n (omLr p w q i)) := by
  obtain ⟨h1, h2, h3⟩ := omSs_perm hq
  have e1 : omTot n 3 d w C = omSum n (omCs 3 d w C) := if_neg (by decide)
  rw [e1, ← omSum_perm (g := omCs 3 d w C) h1 h2 h3]
  refine omSum_congr (fun i hi => ?_)
  rw [omLr_row hi, ← hC i hi]
  show (if (3 : Nat) = 0 then _ else if (3 : Nat) = 1 then _ else if (3 : Nat) = 2 then _ else if (3 : Nat) = 3 then w (q i) * C (q i) else _) = _
  rw [if_neg (by decide), if_neg (by decide), if_neg (by decide), if_pos rfl]
theorem om_wc2 {n : Nat} {p d w C : Nat → Int} {q : Nat → Nat} (hq : omSq n q) (hC : ∀ i, i < n → C (q i) = omPs p q (i + 1)) : omTot n 3 d w C + omTot n 3 d w C = omSum n (fun i => omSum n (fun k => omLr p w q i k + omLr p w q k i)) := by
  have e1 := om_wc (d := d) (w := w) hq hC
  have e2 : omSum n (fun i => omSum n (omLr p w q i)) = omSum n (fun i => omSum n (fun k => omLr p w q k i)) := omSum_swap (F := fun i k => omLr p w q i k)
  have e3 : omSum n (fun i => omSum n (fun k => omLr p w q i k + omLr p w q k i)) = omSum n (fun i => omSum n (omLr p w q i) + omSum n (fun k => omLr p w q k i)) := omSum_congr (fun i _ => omSum_add)
  rw [e3, omSum_add, ← e2, ← e1]
theorem om_pw_perm {n : Nat} {p w : Nat → Int} {q : Nat → Nat} (hq : omSq n q) : omSum n (fun i => omSum n (fun k => omPw p w (q i) (q k))) = omSum n (fun a => omSum n (omPw p w a)) := by
  obtain ⟨h1, h2, h3⟩ := omSs_perm hq
  have e1 : omSum n (fun i => omSum n (fun k => omPw p w (q i) (q k))) = omSum n (fun i => omSum n (omPw p w (q i))) := omSum_congr (fun i _ => omSum_perm (g := omPw p w (q i)) h1 h2 h3)
  rw [e1]
  exact omSum_perm (g := fun a => omSum n (omPw p w a)) h1 h2 h3
theorem om_smith_low {n : Nat} {p d w C : Nat → Int} {q : Nat → Nat} (hq : omSq n q) (hC : ∀ i, i < n → C (q i) = omPs p q (i + 1)) : omSum n (fun a => omSum n (omPw p w a)) ≤ omTot n 3 d w C + omTot n 3 d w C := by
  obtain ⟨h1, h2, h3⟩ := omSs_perm hq
  rw [om_wc2 hq hC, ← om_pw_perm hq]
  refine omSum_le (fun i hi => omSum_le (fun k hk => ?_))
  unfold omPw omLr
  by_cases he : i = k
  · subst he
    rw [if_pos rfl, if_pos (Nat.le_refl _)]
    omega
  · rw [if_neg (fun h => he (h2 i k hi hk h))]
    by_cases hl : k ≤ i
    · rw [if_pos hl, if_neg (by omega : ¬ i ≤ k)]
      have := Int.min_le_left (w (q i) * p (q k)) (w (q k) * p (q i))
      omega
    · rw [if_neg hl, if_pos (by omega : i ≤ k)]
      have := Int.min_le_right (w (q i) * p (q k)) (w (q k) * p (q i))
      omega
theorem om_smith {n : Nat} {p d w r f s C : Nat → Int} {q : Nat → Nat} (hok : omOk n p d w r f s) (hq : omSt (omBr w p) n q) (hC : ∀ i, i < n → C (q i) = omPs p q (i + 1)) : omTot n 3 d w C + omTot n 3 d w C ≤ omSum n (fun a => omSum n (omPw p w a)) := by
  have hso : omSO n (omBr w p) := omBr_so (fun j hj => by have := hok.2.1 j hj; omega)
  have h2 := fun i k (hi : i < n) (hk : k < n) => omSt.inj hso hq hi hk
  have hsq : omSq n q := omSq_of hq.1 h2
  rw [om_wc2 hsq hC, ← om_pw_perm hsq]
  refine omSum_le (fun i hi => omSum_le (fun k hk => ?_))
  unfold omPw omLr
  by_cases he : i = k
  · subst he
    rw [if_pos rfl, if_pos (Nat.le_refl _)]
    omega
  · rw [if_neg (fun h => he (h2 i k hi hk h))]
    by_cases hl : k ≤ i
    · rw [if_pos hl, if_neg (by omega : ¬ i ≤ k)]
      have hb := hq.2.2 k i (by omega) hi
      unfold omBr at hb
      have : w (q i) * p (q k) ≤ w (q k) * p (q i) := by omega
      rw [Int.min_eq_left this]
      omega
    · rw [if_neg hl, if_pos (by omega : i ≤ k)]
      have hb := hq.2.2 i k (by omega) hk
      unfold omBr at hb
      have : w (q k) * p (q i) ≤ w (q i) * p (q k) := by omega
      rw [Int.min_eq_right this]
      omega
theorem om_ratio_least {n : Nat} {p d w r f s C : Nat → Int} {q : Nat → Nat} (hok : omOk n p d w r f s) (hq : omSt (omBr w p) n q) (hC : ∀ i, i < n → C (q i) = omPs p q (i + 1)) (hB : omTot n 3 d w C ≤ 1000000) : min 1000000 (omVl n 3 d w f (fun _ _ t j => t + p j) n 0 4 0 (omA0 3)) = omTot n 3 d w C := by
  have hso : omSO n (omBr w p) := omBr_so (fun j hj => by have := hok.2.1 j hj; omega)
  have h2 := fun i k (hi : i < n) (hk : k < n) => omSt.inj hso hq hi hk
  have h3 := om_smith (d := d) hok hq hC
  refine om_least hB (fun Q C' hQ hC' => ?_) ⟨q, C, omSq_of hq.1 h2, fun i hi => by rw [omTi_row]; exact hC i hi, Int.le_refl _⟩
  have := om_smith_low (d := d) (p := p) (w := w) (C := C') hQ (fun i hi => by rw [hC' i hi, omTi_row])
  omega
