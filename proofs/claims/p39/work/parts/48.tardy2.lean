theorem l_X7_orderByTardiness_27_eq {n S pl : Nat} {p d w r f s : Nat → Int} {σ : omH} (hok : omOk n p d w r f s) (hc : omCv n p d w r f s σ) (hS : S < 2 ^ n) (hpl : pl < 10) (hT : ∀ S, S < 2 ^ n → omEq n p d w 2 (σ 34) S ∧ -1000000 ≤ σ 34 S ∧ σ 34 S ≤ 1000000) (hex : ∃ j, j < n ∧ ¬ S.testBit j = true ∧ omTg n p d w 2 (σ 34) S j = σ 34 S) : ∀ (m k fuel : Nat), k + m = n → m < fuel → (∀ i, i < k → ¬ S.testBit i = true → omTg n p d w 2 (σ 34) S i ≠ σ 34 S) →
    ∃ j, omHt n p d w (σ 34) S j ∧ l_X7_orderByTardiness_27 pl (omLn n p S) fuel S k σ = some (((S ||| 2 ^ j : Nat) : Int), omsu σ 30 pl (j : Nat)) := by
  have hn := hok.1
  have hpw := om_pow_le hn
  intro m
  induction m with
  | zero =>
    intro k fuel hk hf hno
    obtain ⟨j, hj, hb, he⟩ := hex
    exact absurd he (hno j (by omega) hb)
  | succ m ih =>
    intro k fuel hk hf hno
    obtain ⟨fuel, rfl⟩ : ∃ z, fuel = z + 1 := ⟨fuel - 1, by omega⟩
    have hkn : k < n := by omega
    rw [l_X7_orderByTardiness_27.eq_2, hc.1, om_wn (show k < 2147483648 by omega), om_wn (show n < 2147483648 by omega), if_pos (by omega), s_X2_isIn_eq (by omega) (by omega), om_b0]
    by_cases hbit : S.testBit k = true
    · rw [if_pos hbit, if_neg (by decide), show ((k : Int) + 1) = ((k + 1 : Nat) : Int) by omega]
      exact ih (k + 1) fuel (by omega) (by omega) (fun i hi hb => by
        by_cases hik : i = k
        · subst hik; exact absurd hbit hb
        · exact hno i (by omega) hb)
    · have hor := om_ins_lt hS hkn
      have ho := hok.2.1 k hkn
      have hL := omLn_rng (S := S) hok (Nat.le_refl n)
      have hJ : -1000000 ≤ omTg n p d w 2 (σ 34) S k ∧ omTg n p d w 2 (σ 34) S k ≤ 1020000 := omJ_rng (v := 2) (c := omLn n p S + p k) hok hkn (by omega) (hT _ hor).2
      have hTS := (hT S hS).2
      rw [if_neg hbit, if_pos (by decide), s_X7_tardinessBy_eq hok hc hS hkn (hT _ hor).2, om_b0, om_wn (show S < 2147483648 by omega), omg_t ⟨by omega, by omega⟩, Int.toNat_natCast, omw_id (a := omTg n p d w 2 (σ 34) S k) (by omega) (by omega), omw_id (a := σ 34 S) (by omega) (by omega), om_wn (show pl < 2147483648 by omega), omg_t ⟨by omega, by omega⟩, Int.toNat_natCast, om_ins (by omega) (by omega)]
      by_cases he : omTg n p d w 2 (σ 34) S k = σ 34 S
      · rw [if_pos he]
        exact ⟨k, ⟨hkn, hbit, he, hno⟩, rfl⟩
      · rw [if_neg he, show ((k : Int) + 1) = ((k + 1 : Nat) : Int) by omega]
        exact ih (k + 1) fuel (by omega) (by omega) (fun i hi hb => by
          by_cases hik : i = k
          · subst hik; exact he
          · exact hno i (by omega) hb)
theorem l_X7_orderByTardiness_9_eq {n : Nat} {p d w r f s : Nat → Int} {T : Nat → Int} (hok : omOk n p d w r f s) (hT : ∀ S, S < 2 ^ n → omEq n p d w 2 T S ∧ -1000000 ≤ T S ∧ T S ≤ 1000000) : ∀ (m k fuel : Nat) (σ : omH) (q : Nat → Nat), k + m = n → m < fuel → omCv n p d w r f s σ → σ 34 = T → (∀ i, i < k → omHt n p d w T (omSs q i) (q i) ∧ σ 30 i = q i) →
    ∃ σ' q', l_X7_orderByTardiness_9 fuel (omSs q k : Nat) k σ = some σ' ∧ omEx [30] σ σ' ∧ ∀ i, i < n → omHt n p d w T (omSs q' i) (q' i) ∧ σ' 30 i = q' i := by
  have hn := hok.1
  have hpw := om_pow_le hn
  intro m
  induction m with
  | zero =>
    intro k fuel σ q hk hf hc h34 hr
    obtain ⟨fuel, rfl⟩ : ∃ z, fuel = z + 1 := ⟨fuel - 1, by omega⟩
    have : k = n := by omega
    subst this
    rw [l_X7_orderByTardiness_9.eq_2, hc.1, if_neg (by omega)]
    exact ⟨σ, q, rfl, omEx.rfl', hr⟩
  | succ m ih =>
    intro k fuel σ q hk hf hc h34 hr
    obtain ⟨fuel, rfl⟩ : ∃ z, fuel = z + 1 := ⟨fuel - 1, by omega⟩
    have hS : omSs q k < 2 ^ n := omSs_lt k (fun i hi => (hr i hi).1.1)
    have hun := omSs_un k (fun i hi => (hr i hi).1)
    have hatt := omEq_att hok (fun S hS => (hT S hS).1) hS (by omega)
    rw [l_X7_orderByTardiness_9.eq_2, hc.1, om_wn (show k < 2147483648 by omega), om_wn (show n < 2147483648 by omega), if_pos (by omega), s_X2_lengthOfSet_eq hok hc (by omega), om_b0]
    obtain ⟨j, hj, hl⟩ := l_X7_orderByTardiness_27_eq (pl := k) hok hc hS (by omega) (by rw [h34]; exact hT) (by rw [h34]; exact hatt) n 0 FU (by omega) (by rw [FU_eq]; omega) (fun i hi => by omega)
    have hl' : l_X7_orderByTardiness_27 k (omLn n p (omSs q k)) FU (omSs q k : Nat) 0 σ = _ := hl
    rw [h34] at hj
    rw [hl', om_b0, show ((k : Int) + 1) = ((k + 1 : Nat) : Int) by omega]
    have hag : ∀ i, i < k → (fun i => if i = k then j else q i) i = q i := fun i hi => if_neg (by omega)
    have hss : ∀ i, i ≤ k → omSs (fun i => if i = k then j else q i) i = omSs q i := fun i hi => omSs_congr i (fun x hx => hag x (by omega))
    have hk1 : omSs (fun i => if i = k then j else q i) (k + 1) = omSs q k ||| 2 ^ j := by
      show omSs (fun i => if i = k then j else q i) k ||| 2 ^ (if k = k then j else q k) = _
      rw [hss k (Nat.le_refl _), if_pos rfl]
    have ex1 : omEx [30] σ (omsu σ 30 k (j : Nat)) := omEx.su (by simp)
    obtain ⟨σ', q', z1, z2, z3⟩ := ih (k + 1) fuel (omsu σ 30 k (j : Nat)) (fun i => if i = k then j else q i) (by omega) (by omega) (hc.ex ex1 (by simp)) (by rw [ex1 34 (by simp)]; exact h34) (fun i hi => by
      by_cases hik : i = k
      · subst hik
        rw [hss i (Nat.le_refl _), omsu_s]
        show omHt n p d w T (omSs q i) (if i = i then j else q i) ∧ (j : Int) = ((if i = i then j else q i : Nat) : Int)
        rw [if_pos rfl]
        exact ⟨hj, rfl⟩
      · rw [hss i (by omega), omsu_n (Or.inr hik)]
        show omHt n p d w T (omSs q i) (if i = k then j else q i) ∧ σ 30 i = ((if i = k then j else q i : Nat) : Int)
        rw [if_neg hik]
        exact hr i (by omega))
    rw [hk1] at z1
    exact ⟨σ', q', z1, ex1.trans z2, z3⟩
theorem s_X7_orderByTardiness_eq {n : Nat} {p d w r f s : Nat → Int} {σ : omH} (hok : omOk n p d w r f s) (hc : omCv n p d w r f s σ) : ∃ (σ' : omH) (q : Nat → Nat) (T : Nat → Int), s_X7_orderByTardiness σ = some σ' ∧ omEx [30, 34] σ σ' ∧ (∀ S, S < 2 ^ n → omEq n p d w 2 T S) ∧ ∀ i, i < n → omHt n p d w T (omSs q i) (q i) ∧ σ' 30 i = q i := by
  have hn := hok.1
  obtain ⟨τ, x1, x2, x3⟩ := s_X7_fillLeastTardiness_eq hok hc
  obtain ⟨σ', q, z1, z2, z3⟩ := l_X7_orderByTardiness_9_eq hok x3 n 0 FU τ (fun _ => 0) (by omega) (by rw [FU_eq]; omega) (hc.ex x2 (by simp)) rfl (fun i hi => by omega)
  have z1' : l_X7_orderByTardiness_9 FU 0 0 τ = some σ' := z1
  refine ⟨σ', q, τ 34, ?_, (x2.mono (by simp)).trans (z2.mono (by simp)), fun S hS => (x3 S hS).1, z3⟩
  unfold s_X7_orderByTardiness
  rw [x1, om_b0, z1', om_b0]
