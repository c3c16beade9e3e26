theorem l_X12_planLeastTardiness_36_eq {n S : Nat} {u : Int} {p d w r f s : Nat → Int} {σ : omH} (hok : omOk n p d w r f s) (hm : omMv n p d w r f s σ) (hS : S < 2 ^ n) (hT : ∀ S, S < 2 ^ n → omEq n p d w 2 (σ 56) S ∧ -1000000 ≤ σ 56 S ∧ σ 56 S ≤ 1000000) (hex : ∃ j, j < n ∧ ¬ S.testBit j = true ∧ omTg n p d w 2 (σ 56) S j = σ 56 S) : ∀ (k fuel : Nat) (v : Int), k ≤ n → k < fuel → ((v = -1 ∧ ∀ j, k ≤ j → j < n → ¬ S.testBit j = true → omTg n p d w 2 (σ 56) S j ≠ σ 56 S) ∨ ∃ j : Nat, v = j ∧ k ≤ j ∧ j < n ∧ ¬ S.testBit j = true ∧ omTg n p d w 2 (σ 56) S j = σ 56 S ∧ ∀ i, k ≤ i → i < j → ¬ S.testBit i = true → omTg n p d w 2 (σ 56) S i ≠ σ 56 S) →
    ∃ j : Nat, omHt n p d w (σ 56) S j ∧ l_X12_planLeastTardiness_36 S u σ fuel v ((k : Int) - 1) = some (j : Int) := by
  have hn := hok.1
  have hpw := om_pow_le hn
  intro k
  induction k with
  | zero =>
    intro fuel v hk hf hv
    obtain ⟨fuel, rfl⟩ : ∃ z, fuel = z + 1 := ⟨fuel - 1, by omega⟩
    rw [l_X12_planLeastTardiness_36.eq_2, if_pos (by show omw (0 - 1) < 0; decide)]
    rcases hv with ⟨h1, h2⟩ | ⟨j, h1, h2, h3, h4, h5, h6⟩
    · obtain ⟨j, hj, hb, he⟩ := hex
      exact absurd he (h2 j (by omega) hj hb)
    · subst h1
      exact ⟨j, ⟨h3, h4, h5, fun i hi => h6 i (by omega) hi⟩, rfl⟩
  | succ k ih =>
    intro fuel v hk hf hv
    obtain ⟨fuel, rfl⟩ : ∃ z, fuel = z + 1 := ⟨fuel - 1, by omega⟩
    have hkn : k < n := by omega
    have hTS := (hT S hS).2
    have ho := hok.2.1 k hkn
    have hL := omLn_rng (S := S) hok (Nat.le_refl n)
    rw [l_X12_planLeastTardiness_36.eq_2, show (((k + 1 : Nat) : Int) - 1) = (k : Int) by omega, om_wn (show k < 2147483648 by omega), if_neg (by omega), om_bit (by omega) (by omega), s_X12_lengthOf_eq hok hm (by omega), om_b0, omg_t ⟨by omega, by omega⟩, om_ins (by omega) (by omega), show ((k : Int) + (-1)) = (k : Int) - 1 by omega]
    have hor := om_ins_lt hS hkn
    have hTk := (hT _ hor).2
    have hJ : -1000000 ≤ omTg n p d w 2 (σ 56) S k ∧ omTg n p d w 2 (σ 56) S k ≤ 1020000 := omJ_rng (v := 2) (c := omLn n p S + p k) hok hkn (by omega) hTk
    have hj : s_X12_joined 2 k (omLn n p S + p k) (σ 56 (S ||| 2 ^ k)) σ = some (omTg n p d w 2 (σ 56) S k) := s_X12_joined_eq (v := 2) hok hm (by decide) hkn (by omega) hTk
    rw [om_wn (show S ||| 2 ^ k < 2147483648 by omega), omg_t ⟨by omega, by omega⟩, Int.toNat_natCast, Int.toNat_natCast, hm.2.1, hj, om_b0, om_wn (show S < 2147483648 by omega), omg_t ⟨by omega, by omega⟩, Int.toNat_natCast, omw_id (a := omTg n p d w 2 (σ 56) S k) (by omega) (by omega), omw_id (a := σ 56 S) (by omega) (by omega)]
    by_cases hbit : S.testBit k = true
    · rw [if_pos hbit, if_neg (by decide), om_b0, if_pos (by decide), om_b0]
      refine ih fuel v (by omega) (by omega) ?_
      rcases hv with ⟨h1, h2⟩ | ⟨j, h1, h2, h3, h4, h5, h6⟩
      · exact Or.inl ⟨h1, fun j h3 h4 hb => by
          by_cases hjk : j = k
          · subst hjk; exact absurd hbit hb
          · exact h2 j (by omega) h4 hb⟩
      · exact Or.inr ⟨j, h1, by omega, h3, h4, h5, fun i h7 h8 hb => by
          by_cases hik : i = k
          · subst hik; exact absurd hbit hb
          · exact h6 i (by omega) h8 hb⟩
    · rw [if_neg hbit, if_pos (by decide)]
      by_cases he : omTg n p d w 2 (σ 56) S k = σ 56 S
      · rw [if_pos he, om_b0, if_neg (by decide), om_b0]
        exact ih fuel k (by omega) (by omega) (Or.inr ⟨k, rfl, Nat.le_refl _, hkn, hbit, he, fun i h1 h2 => by omega⟩)
      · rw [if_neg he, om_b0, if_pos (by decide), om_b0]
        refine ih fuel v (by omega) (by omega) ?_
        rcases hv with ⟨h1, h2⟩ | ⟨j, h1, h2, h3, h4, h5, h6⟩
        · exact Or.inl ⟨h1, fun j h3 h4 hb => by
            by_cases hjk : j = k
            · subst hjk; exact he
            · exact h2 j (by omega) h4 hb⟩
        · exact Or.inr ⟨j, h1, by omega, h3, h4, h5, fun i h7 h8 hb => by
            by_cases hik : i = k
            · subst hik; exact he
            · exact h6 i (by omega) h8 hb⟩
/-- the reference lays the same sequence -/
theorem l_X12_planLeastTardiness_18_eq {n : Nat} {p d w r f s : Nat → Int} {T T' : Nat → Int} {q : Nat → Nat} (hok : omOk n p d w r f s) (hT : ∀ S, S < 2 ^ n → omEq n p d w 2 T S ∧ -1000000 ≤ T S ∧ T S ≤ 1000000) (hTT : ∀ S, S < 2 ^ n → T' S = T S) (hq : ∀ i, i < n → omHt n p d w T' (omSs q i) (q i)) : ∀ (m k fuel : Nat) (σ : omH), k + m = n → m < fuel → omMv n p d w r f s σ → σ 56 = T → (∀ i, i < k → σ 54 i = q i) →
    ∃ σ', l_X12_planLeastTardiness_18 fuel (omSs q k : Nat) k σ = some σ' ∧ omEx [54] σ σ' ∧ ∀ i, i < n → σ' 54 i = q i := by
  have hn := hok.1
  have hpw := om_pow_le hn
  intro m
  induction m with
  | zero =>
    intro k fuel σ hk hf hm h56 hr
    obtain ⟨fuel, rfl⟩ : ∃ z, fuel = z + 1 := ⟨fuel - 1, by omega⟩
    have : k = n := by omega
    subst this
    rw [l_X12_planLeastTardiness_18.eq_2, hm.1, if_neg (by omega)]
    exact ⟨σ, rfl, omEx.rfl', hr⟩
  | succ m ih =>
    intro k fuel σ hk hf hm h56 hr
    obtain ⟨fuel, rfl⟩ : ∃ z, fuel = z + 1 := ⟨fuel - 1, by omega⟩
    have hkn : k < n := by omega
    have hqk := (hq k hkn).1
    have hS : omSs q k < 2 ^ n := omSs_lt k (fun i hi => (hq i (by omega)).1)
    have hun := omSs_un k (fun i hi => hq i (by omega))
    have hatt := omEq_att hok (fun S hS => (hT S hS).1) hS (by omega)
    rw [l_X12_planLeastTardiness_18.eq_2, hm.1, om_wn (show k < 2147483648 by omega), om_wn (show n < 2147483648 by omega), if_pos (by omega)]
    obtain ⟨j, hj, hl⟩ := l_X12_planLeastTardiness_36_eq (u := (k : Int)) hok hm hS (by rw [h56]; exact hT) (by rw [h56]; exact hatt) n FU (-1) (Nat.le_refl _) (by rw [FU_eq]; omega) (Or.inl ⟨rfl, fun j h1 h2 => by omega⟩)
    rw [h56] at hj
    have hjq : j = q k := omHt_uniq (fun S hS => (hTT S hS).symm) hS hj (hq k hkn)
    rw [hl, om_b0, omg_t ⟨by omega, by omega⟩, Int.toNat_natCast, om_ins (by omega) (by omega), hjq, show ((k : Int) + 1) = ((k + 1 : Nat) : Int) by omega]
    have ex1 : omEx [54] σ (omsu σ 54 k (q k : Nat)) := omEx.su (by simp)
    obtain ⟨σ', z1, z2, z3⟩ := ih (k + 1) fuel (omsu σ 54 k (q k : Nat)) (by omega) (by omega) (hm.ex ex1 (by simp)) (by rw [ex1 56 (by simp)]; exact h56) (fun i hi => by
      by_cases hik : i = k
      · subst hik; rw [omsu_s]
      · rw [omsu_n (Or.inr hik)]; exact hr i (by omega))
    exact ⟨σ', z1, ex1.trans z2, z3⟩
