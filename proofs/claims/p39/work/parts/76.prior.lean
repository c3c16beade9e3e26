/-! .. the class's least of priorities -/
theorem omVl_prior_low {n c : Nat} {p d w r f : Nat → Int} {q : Nat → Nat} (hq : omSq n q) : ∀ (m k : Nat) (u t : Int), k + m = n → omVl n c d w f (fun S _ _ j => ((omTe n p r S j : Nat) : Int)) m (omSs q k) u t (omWo n c p d w r q k) ≤ omWo n c p d w r q n := by
  intro m
  induction m with
  | zero =>
    intro k u t hk
    have : k = n := by omega
    subst this
    exact Int.le_refl _
  | succ m ih =>
    intro k u t hk
    obtain ⟨h1, h2⟩ := hq k (by omega)
    have h3 := ih (k + 1) (f (q k)) ((omTe n p r (omSs q k) (q k) : Nat) : Int) (by omega)
    show omMn (omSs q k) (fun j => omVl n c d w f (fun S _ _ j => ((omTe n p r S j : Nat) : Int)) m (omSs q k ||| 2 ^ j) (f j) ((omTe n p r (omSs q k) j : Nat) : Int) (omCj c d w (omWo n c p d w r q k) j ((omTe n p r (omSs q k) j : Nat) : Int))) n ≤ _
    rw [omMn_fm]
    exact Int.le_trans (omFm_low n (q k) h1 h2) h3
theorem omVl_prior_att {n c : Nat} {p d w r f : Nat → Int} : ∀ (m k : Nat) (u t : Int) (q : Nat → Nat), k + m = n → (∀ i, i < k → q i < n ∧ ¬ (omSs q i).testBit (q i) = true) → omVl n c d w f (fun S _ _ j => ((omTe n p r S j : Nat) : Int)) m (omSs q k) u t (omWo n c p d w r q k) = 1000000 ∨ ∃ q', omSq n q' ∧ omVl n c d w f (fun S _ _ j => ((omTe n p r S j : Nat) : Int)) m (omSs q k) u t (omWo n c p d w r q k) = omWo n c p d w r q' n := by
  intro m
  induction m with
  | zero =>
    intro k u t q hk hq
    have : k = n := by omega
    subst this
    exact Or.inr ⟨q, hq, rfl⟩
  | succ m ih =>
    intro k u t q hk hq
    have e0 : omVl n c d w f (fun S _ _ j => ((omTe n p r S j : Nat) : Int)) (m + 1) (omSs q k) u t (omWo n c p d w r q k) = omFm 1000000 (omSs q k) (fun j => omVl n c d w f (fun S _ _ j => ((omTe n p r S j : Nat) : Int)) m (omSs q k ||| 2 ^ j) (f j) ((omTe n p r (omSs q k) j : Nat) : Int) (omCj c d w (omWo n c p d w r q k) j ((omTe n p r (omSs q k) j : Nat) : Int))) n := omMn_fm n
    rw [e0]
    rcases omFm_att (b := 1000000) (S := omSs q k) (g := fun j => omVl n c d w f (fun S _ _ j => ((omTe n p r S j : Nat) : Int)) m (omSs q k ||| 2 ^ j) (f j) ((omTe n p r (omSs q k) j : Nat) : Int) (omCj c d w (omWo n c p d w r q k) j ((omTe n p r (omSs q k) j : Nat) : Int))) n with h | ⟨j, hj, hb, h⟩
    · exact Or.inl h
    · rw [h]
      obtain ⟨Q, hag, hqk⟩ : ∃ Q : Nat → Nat, (∀ i, i < k → Q i = q i) ∧ Q k = j := ⟨fun i => if i = k then j else q i, fun i hi => if_neg (by omega), if_pos rfl⟩
      have hss : ∀ i, i ≤ k → omSs Q i = omSs q i := fun i hi => omSs_congr i (fun x hx => hag x (by omega))
      have hk1 : omSs Q (k + 1) = omSs q k ||| 2 ^ j := by
        show omSs Q k ||| 2 ^ (Q k) = _
        rw [hss k (Nat.le_refl _), hqk]
      have hk2 : omWo n c p d w r Q (k + 1) = omCj c d w (omWo n c p d w r q k) j ((omTe n p r (omSs q k) j : Nat) : Int) := by
        show omCj c d w (omWo n c p d w r Q k) (Q k) ((omTe n p r (omSs Q k) (Q k) : Nat) : Int) = _
        rw [hss k (Nat.le_refl _), hqk, omWo_congr k hag]
      have := ih (k + 1) (f j) ((omTe n p r (omSs q k) j : Nat) : Int) Q (by omega) (fun i hi => by
        by_cases hik : i = k
        · subst hik
          rw [hss i (Nat.le_refl _), hqk]
          exact ⟨hj, hb⟩
        · rw [hss i (by omega), hag i (by omega)]
          exact hq i (by omega))
      rw [hk1, hk2] at this
      exact this
theorem om_prior {n c : Nat} {p d w r f : Nat → Int} {g : Int} (h1 : g ≤ 1000000) (h2 : ∀ q, omSq n q → g ≤ omWo n c p d w r q n) (h3 : g = 1000000 ∨ ∃ q, omSq n q ∧ g = omWo n c p d w r q n) : min 1000000 (omVl n c d w f (fun S _ _ j => ((omTe n p r S j : Nat) : Int)) n 0 4 0 (omA0 c)) = g := by
  have ha : ∀ q, omSq n q → omVl n c d w f (fun S _ _ j => ((omTe n p r S j : Nat) : Int)) n 0 4 0 (omA0 c) ≤ omWo n c p d w r q n := fun q hq => omVl_prior_low hq n 0 4 0 (by omega)
  have hb := omVl_prior_att (n := n) (c := c) (p := p) (d := d) (w := w) (r := r) (f := f) n 0 4 0 (fun _ => 0) (by omega) (fun i hi => by omega)
  have hb' : omVl n c d w f (fun S _ _ j => ((omTe n p r S j : Nat) : Int)) n 0 4 0 (omA0 c) = 1000000 ∨ ∃ q', omSq n q' ∧ omVl n c d w f (fun S _ _ j => ((omTe n p r S j : Nat) : Int)) n 0 4 0 (omA0 c) = omWo n c p d w r q' n := hb
  generalize omVl n c d w f (fun S _ _ j => ((omTe n p r S j : Nat) : Int)) n 0 4 0 (omA0 c) = V at ha hb'
  have hle : g ≤ V := by
    rcases hb' with h | ⟨q, hq, h⟩
    · omega
    · rw [h]; exact h2 q hq
  have hge : g = 1000000 ∨ V ≤ g := by
    rcases h3 with h | ⟨q, hq, h⟩
    · exact Or.inl h
    · exact Or.inr (by rw [h]; exact ha q hq)
  omega
