/-! ===== plans by an order ===== -/
theorem s_X11_needSomeJob_eq {n : Nat} {p d w r f s : Nat → Int} {σ : omH} (hok : omOk n p d w r f s) (hc : omCv n p d w r f s σ) : (n = 0 → s_X11_needSomeJob σ = some (Sum.inl 2)) ∧ (0 < n → s_X11_needSomeJob σ = some (Sum.inr ())) := by
  have hn := hok.1
  unfold s_X11_needSomeJob
  rw [hc.1, om_wn (by omega)]
  exact ⟨fun h => if_pos (by omega), fun h => if_neg (by omega)⟩
/-- the totals over completions that agree -/
theorem omTot_q {n c : Nat} {d w C C' E : Nat → Int} {q : Nat → Nat} (hs : ∀ j, j < n → ∃ i, i < n ∧ q i = j) (h1 : ∀ i, i < n → C (q i) = E i) (h2 : ∀ i, i < n → C' (q i) = E i) : omTot n c d w C = omTot n c d w C' :=
  omTot_congr (fun j hj => by obtain ⟨i, hi, rfl⟩ := hs j hj; rw [h1 i hi, h2 i hi])
theorem omCr_q {n : Nat} {C E : Nat → Int} {q : Nat → Nat} (hs : ∀ j, j < n → ∃ i, i < n ∧ q i = j) (h1 : ∀ i, i < n → C (q i) = E i) (h2 : ∀ i, i < n → 0 ≤ E i ∧ E i ≤ 1000) : omCr n C := fun j hj => by
  obtain ⟨i, hi, rfl⟩ := hs j hj
  rw [h1 i hi]
  exact h2 i hi
/-- the class's half: an order laid, followed and totalled -/
theorem om_followed {n v c : Nat} {p d w r f s : Nat → Int} {q : Nat → Nat} {σ : omH} (hok : omOk n p d w r f s) (hvv : v < 2) (hcc : c < 5) (hq : ∀ i, i < n → q i < n) (hinj : ∀ i k, i < n → k < n → q i = q k → i = k) (hs : ∀ j, j < n → ∃ i, i < n ∧ q i = j) (hv : omCv n p d w r f s σ) (hr : ∀ i, i < n → σ 30 i = q i) :
    ∃ σ', s_X5_follow v σ = some σ' ∧ s_X5_total c σ' = some (omTot n c d w (σ' 28)) ∧ omCv n p d w r f s σ' ∧ omPC (omPl v p f s q n).1 σ' ∧ omEx [24, 25, 26, 27, 28] σ σ' ∧ σ' 24 0 = 1 ∧ ∀ i, i < n → σ' 28 (q i) = omEd v p f s q i := by
  obtain ⟨σ', z1, z2, z3, z4, z5⟩ := s_X5_follow_eq hok hvv hq hinj hv hr
  have hv' := hv.ex z3 (by simp)
  exact ⟨σ', z1, s_X5_total_eq hok hv' hcc (omCr_q hs z5 (fun i hi => by have := omEd_rng (v := v) hok hq hi; omega)), hv', z2, z3, z4, z5⟩
