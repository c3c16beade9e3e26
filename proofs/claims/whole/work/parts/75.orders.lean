/-! .. all sequences by numbers -/
theorem omUn_step {S k : Nat} : omUn (k + 1) S = omUn k S + (if S.testBit k = true then 0 else 1) := rfl
theorem omUn_mono {S : Nat} : ∀ m k, omUn k S ≤ omUn (k + m) S := by
  intro m
  induction m with
  | zero => intro k; exact Int.le_refl _
  | succ m ih =>
    intro k
    have h1 := ih k
    have h2 := omUn_step (S := S) (k := k + m)
    show _ ≤ omUn (k + m + 1) S
    split at h2 <;> omega
theorem omUn_le {S k l : Nat} (h : k ≤ l) : omUn k S ≤ omUn l S := by
  have := omUn_mono (S := S) (l - k) k
  rw [show k + (l - k) = l by omega] at this
  exact this
theorem omUn_lt {S k l : Nat} (h : k < l) (hb : ¬ S.testBit k = true) : omUn k S + 1 ≤ omUn l S := by
  have h1 := omUn_step (S := S) (k := k)
  have h2 := omUn_le (S := S) (show k + 1 ≤ l by omega)
  rw [if_neg hb] at h1
  omega
theorem omUn_inj {S i j : Nat} (hi : ¬ S.testBit i = true) (hj : ¬ S.testBit j = true) (h : omUn i S = omUn j S) : i = j := by
  rcases Nat.lt_trichotomy i j with h1 | h1 | h1
  · have := omUn_lt h1 hi; omega
  · exact h1
  · have := omUn_lt h1 hj; omega
theorem omUn_ex {S : Nat} : ∀ (m z : Nat), (z : Int) < omUn m S → ∃ j, j < m ∧ ¬ S.testBit j = true ∧ omUn j S = z := by
  intro m
  induction m with
  | zero =>
    intro z h
    have : omUn 0 S = 0 := rfl
    omega
  | succ m ih =>
    intro z h
    have h1 := omUn_step (S := S) (k := m)
    by_cases h2 : (z : Int) < omUn m S
    · obtain ⟨j, h3, h4⟩ := ih z h2
      exact ⟨j, by omega, h4⟩
    · by_cases hb : S.testBit m = true
      · rw [if_pos hb] at h1; omega
      · rw [if_neg hb] at h1
        exact ⟨m, by omega, hb, by omega⟩
theorem l_X12_leastOfPriorities_80_eq {n S j : Nat} {v1 v2 v3 v4 v5 v7 : Int} {σ : omH} (hn : n ≤ 10) (hS : S < 1024) (hj : j < n) (hb : ¬ S.testBit j = true) : ∀ (m i fuel : Nat), i + m = j → m < fuel → l_X12_leastOfPriorities_80 v1 v2 v3 v4 v5 S v7 σ fuel (omUn j S - omUn i S) i = some (j : Int) := by
  have hu := omUn_rng (n := j) (S := S)
  intro m
  induction m with
  | zero =>
    intro i fuel hi hf
    obtain ⟨fuel, rfl⟩ : ∃ z, fuel = z + 1 := ⟨fuel - 1, by omega⟩
    have : i = j := by omega
    subst this
    rw [l_X12_leastOfPriorities_80.eq_2, om_bit (by omega) (by omega), if_neg hb, if_neg (by decide), Int.sub_self, if_neg (by decide)]
  | succ m ih =>
    intro i fuel hi hf
    obtain ⟨fuel, rfl⟩ : ∃ z, fuel = z + 1 := ⟨fuel - 1, by omega⟩
    have h1 := omUn_step (S := S) (k := i)
    have h2 := omUn_rng (n := i) (S := S)
    have ih' := ih (i + 1) fuel (by omega) (by omega)
    rw [l_X12_leastOfPriorities_80.eq_2, om_bit (by omega) (by omega), show ((i : Int) + 1) = ((i + 1 : Nat) : Int) by omega]
    by_cases hbi : S.testBit i = true
    · rw [if_pos hbi] at h1
      rw [if_pos hbi, if_pos (by decide), if_pos (by decide), om_b0, show omUn j S - omUn i S - 0 = omUn j S - omUn (i + 1) S by omega]
      exact ih'
    · rw [if_neg hbi] at h1
      have h3 := omUn_lt (show i < j by omega) hbi
      rw [if_neg hbi, if_neg (by decide), omw_id (a := omUn j S - omUn i S) (by omega) (by omega), if_pos (by omega), if_neg (by decide), om_b0, show omUn j S - omUn i S - 1 = omUn j S - omUn (i + 1) S by omega]
      exact ih'
/-- the digits' rests -/
def omRe (n v : Nat) : Nat → Nat
  | 0 => v
  | i + 1 => omRe n v i / (n - i)
def omDc (n v : Nat) (q : Nat → Nat) (i : Nat) : Prop := q i < n ∧ ¬ (omSs q i).testBit (q i) = true ∧ omUn (q i) (omSs q i) = ((omRe n v i % (n - i) : Nat) : Int)
theorem omRe_le {n v : Nat} : ∀ i, omRe n v i ≤ v := by
  intro i
  induction i with
  | zero => exact Nat.le_refl _
  | succ i ih => exact Nat.le_trans (Nat.div_le_self _ _) ih
theorem l_X12_leastOfPriorities_44_eq {n v : Nat} {v1 v2 v3 v4 : Int} {p d w r f s : Nat → Int} (hok : omOk n p d w r f s) (hv : v < 10000) : ∀ (m k fuel : Nat) (σ : omH) (q : Nat → Nat), k + m = n → m < fuel → omMv n p d w r f s σ → (∀ i, i < k → omDc n v q i ∧ σ 54 i = q i) →
    ∃ σ' q', l_X12_leastOfPriorities_44 v1 v2 v3 v4 fuel (omRe n v k : Nat) (omSs q k : Nat) k σ = some σ' ∧ omEx [54] σ σ' ∧ ∀ i, i < n → omDc n v q' i ∧ σ' 54 i = q' i := by
  have hn := hok.1
  have hpw := om_pow_le hn
  intro m
  induction m with
  | zero =>
    intro k fuel σ q hk hf hm hr
    obtain ⟨fuel, rfl⟩ : ∃ z, fuel = z + 1 := ⟨fuel - 1, by omega⟩
    have : k = n := by omega
    subst this
    rw [l_X12_leastOfPriorities_44.eq_2, hm.1, if_neg (Int.lt_irrefl _)]
    exact ⟨σ, q, rfl, omEx.rfl', hr⟩
  | succ m ih =>
    intro k fuel σ q hk hf hm hr
    obtain ⟨fuel, rfl⟩ : ∃ z, fuel = z + 1 := ⟨fuel - 1, by omega⟩
    have hkn : k < n := by omega
    have hS : omSs q k < 2 ^ n := omSs_lt k (fun i hi => (hr i hi).1.1)
    have hun := omSs_un2 (n := n) (q := q) k (fun i hi => ⟨(hr i hi).1.1, (hr i hi).1.2.1⟩)
    have hre := omRe_le (n := n) (v := v) k
    have hmod : omRe n v k % (n - k) < n - k := Nat.mod_lt _ (by omega)
    obtain ⟨j, hj, hb, hz⟩ := omUn_ex (S := omSs q k) n (omRe n v k % (n - k)) (by omega)
    have e1 : (n : Int) - (k : Int) = ((n - k : Nat) : Int) := by omega
    have h80 := l_X12_leastOfPriorities_80_eq (v1 := v1) (v2 := v2) (v3 := v3) (v4 := v4) (v5 := ((omRe n v k / (n - k) : Nat) : Int)) (v7 := (k : Int)) (σ := σ) hn (by omega) hj hb j 0 FU (by omega) (by rw [FU_eq]; omega)
    have h80' : l_X12_leastOfPriorities_80 v1 v2 v3 v4 ((omRe n v k / (n - k) : Nat) : Int) (omSs q k : Nat) k σ FU ((omRe n v k % (n - k) : Nat) : Int) 0 = some (j : Int) := by
      rw [← hz]
      have e : omUn j (omSs q k) - omUn 0 (omSs q k) = omUn j (omSs q k) := Int.sub_zero _
      rw [e] at h80
      exact h80
    rw [l_X12_leastOfPriorities_44.eq_2, hm.1, om_wn (show k < 2147483648 by omega), om_wn (show n < 2147483648 by omega), if_pos (by omega), e1, om_wn (show n - k < 2147483648 by omega), om_wn (show omRe n v k < 2147483648 by omega), omg_t (by omega), omg_t (by omega), om_tdiv, om_tmod, h80', om_b0, omg_t ⟨by omega, by omega⟩, Int.toNat_natCast, om_ins (by omega) (by omega), show ((k : Int) + 1) = ((k + 1 : Nat) : Int) by omega]
    obtain ⟨Q, hag, hqk⟩ : ∃ Q : Nat → Nat, (∀ i, i < k → Q i = q i) ∧ Q k = j := ⟨fun i => if i = k then j else q i, fun i hi => if_neg (by omega), if_pos rfl⟩
    have hss : ∀ i, i ≤ k → omSs Q i = omSs q i := fun i hi => omSs_congr i (fun x hx => hag x (by omega))
    have hk1 : omSs Q (k + 1) = omSs q k ||| 2 ^ j := by
      show omSs Q k ||| 2 ^ (Q k) = _
      rw [hss k (Nat.le_refl _), hqk]
    have ex1 : omEx [54] σ (omsu σ 54 k (j : Nat)) := omEx.su (by simp)
    obtain ⟨σ', q', z1, z2, z3⟩ := ih (k + 1) fuel (omsu σ 54 k (j : Nat)) Q (by omega) (by omega) (hm.ex ex1 (by simp)) (fun i hi => by
      unfold omDc
      by_cases hik : i = k
      · subst hik
        rw [hss i (Nat.le_refl _), omsu_s, hqk]
        exact ⟨⟨hj, hb, hz⟩, rfl⟩
      · rw [hss i (by omega), omsu_n (Or.inr hik), hag i (by omega)]
        exact hr i (by omega))
    rw [hk1] at z1
    exact ⟨σ', q', z1, ex1.trans z2, z3⟩
def omFac : Nat → Nat
  | 0 => 1
  | k + 1 => (k + 1) * omFac k
theorem omFac_le : ∀ n, n < 8 → omFac n ≤ 5040 := by decide
theorem l_X12_leastOfPriorities_4_eq {n : Nat} {v1 : Int} {σ : omH} (hn : n ≤ 7) (h1 : σ 43 1 = n) : ∀ (m k fuel : Nat), k + m = n → m < fuel → 1 ≤ k → l_X12_leastOfPriorities_4 v1 σ fuel (omFac k : Nat) ((k : Int) + 1) = some ((omFac n : Nat) : Int) := by
  intro m
  induction m with
  | zero =>
    intro k fuel hk hf h0
    obtain ⟨fuel, rfl⟩ : ∃ z, fuel = z + 1 := ⟨fuel - 1, by omega⟩
    have : k = n := by omega
    subst this
    rw [l_X12_leastOfPriorities_4.eq_2, h1, omw_id (a := (k : Int)) (by omega) (by omega), omw_id (a := (k : Int) + 1) (by omega) (by omega), if_pos (by omega)]
  | succ m ih =>
    intro k fuel hk hf h0
    obtain ⟨fuel, rfl⟩ : ∃ z, fuel = z + 1 := ⟨fuel - 1, by omega⟩
    have e : ((omFac k : Nat) : Int) * ((k : Int) + 1) = ((omFac (k + 1) : Nat) : Int) := by
      show _ = (((k + 1) * omFac k : Nat) : Int)
      rw [Int.natCast_mul, Int.mul_comm, Int.natCast_add]
      rfl
    rw [l_X12_leastOfPriorities_4.eq_2, h1, omw_id (a := (n : Int)) (by omega) (by omega), omw_id (a := (k : Int) + 1) (by omega) (by omega), if_neg (by omega), e]
    have := ih (k + 1) fuel (by omega) (by omega) (by omega)
    rw [show ((k + 1 : Nat) : Int) + 1 = (k : Int) + 1 + 1 by omega] at this
    exact this
/-- the number of a sequence -/
def omCo (n : Nat) (q : Nat → Nat) : Nat → Nat
  | 0 => 0
  | m + 1 => (omUn (q (n - (m + 1))) (omSs q (n - (m + 1)))).toNat + (m + 1) * omCo n q m
theorem omCo_dig {n i : Nat} {q : Nat → Nat} (hq : omSq n q) (hi : i < n) : 0 ≤ omUn (q i) (omSs q i) ∧ omUn (q i) (omSs q i) < (n - i : Nat) := by
  have h1 := omUn_rng (n := q i) (S := omSs q i)
  have h2 := omUn_lt (S := omSs q i) (hq i hi).1 (hq i hi).2
  have h3 := omSs_un2 (n := n) (q := q) i (fun x hx => hq x (by omega))
  omega
theorem omCo_lt {n : Nat} {q : Nat → Nat} (hq : omSq n q) : ∀ m, m ≤ n → omCo n q m < omFac m := by
  intro m
  induction m with
  | zero => intro _; show 0 < 1; decide
  | succ m ih =>
    intro hm
    have h1 := ih (by omega)
    have h2 := omCo_dig (i := n - (m + 1)) hq (by omega)
    have h3 : (m + 1) * (omCo n q m + 1) ≤ (m + 1) * omFac m := Nat.mul_le_mul_left _ h1
    rw [Nat.mul_add, Nat.mul_one] at h3
    show (omUn (q (n - (m + 1))) (omSs q (n - (m + 1)))).toNat + (m + 1) * omCo n q m < (m + 1) * omFac m
    generalize (m + 1) * omCo n q m = A at h3 ⊢
    generalize (m + 1) * omFac m = B at h3 ⊢
    omega
theorem omCo_re {n : Nat} {q : Nat → Nat} (hq : omSq n q) : ∀ i, i ≤ n → omRe n (omCo n q n) i = omCo n q (n - i) := by
  intro i
  induction i with
  | zero => intro _; rfl
  | succ i ih =>
    intro hi
    have h1 := ih (by omega)
    have h2 := omCo_dig (i := i) hq (by omega)
    obtain ⟨m, hm⟩ : ∃ m, n - i = m + 1 := ⟨n - i - 1, by omega⟩
    have e : n - (m + 1) = i := by omega
    have e2 : omCo n q (m + 1) = (omUn (q (n - (m + 1))) (omSs q (n - (m + 1)))).toNat + (m + 1) * omCo n q m := rfl
    rw [e] at e2
    show omRe n (omCo n q n) i / (n - i) = _
    rw [h1, hm, e2, Nat.add_mul_div_left _ _ (Nat.succ_pos m), Nat.div_eq_of_lt (by omega), Nat.zero_add]
    congr 1
    omega
theorem omCo_mod {n i : Nat} {q : Nat → Nat} (hq : omSq n q) (hi : i < n) : ((omRe n (omCo n q n) i % (n - i) : Nat) : Int) = omUn (q i) (omSs q i) := by
  have h2 := omCo_dig (i := i) hq hi
  obtain ⟨m, hm⟩ : ∃ m, n - i = m + 1 := ⟨n - i - 1, by omega⟩
  have e : n - (m + 1) = i := by omega
  have e2 : omCo n q (m + 1) = (omUn (q (n - (m + 1))) (omSs q (n - (m + 1)))).toNat + (m + 1) * omCo n q m := rfl
  rw [e] at e2
  rw [omCo_re hq i (by omega), hm, e2, Nat.add_mul_mod_self_left, Nat.mod_eq_of_lt (by omega)]
  omega
theorem omDc_uniq {n : Nat} {q q' : Nat → Nat} (hq : omSq n q) (h : ∀ i, i < n → omDc n (omCo n q n) q' i) : ∀ k, k ≤ n → ∀ i, i < k → q' i = q i := by
  intro k
  induction k with
  | zero => intro _ i hi; omega
  | succ k ih =>
    intro hk i hi
    have h1 := ih (by omega)
    by_cases hik : i = k
    · subst hik
      have hss : omSs q' i = omSs q i := omSs_congr i h1
      obtain ⟨a1, a2, a3⟩ := h i (by omega)
      rw [hss] at a2 a3
      rw [omCo_mod hq (by omega)] at a3
      exact omUn_inj a2 (hq i (by omega)).2 a3
    · exact h1 i (by omega)
theorem omDc_sq {n v : Nat} {q : Nat → Nat} (h : ∀ i, i < n → omDc n v q i) : omSq n q := fun i hi => ⟨(h i hi).1, (h i hi).2.1⟩
theorem l_X12_leastOfPriorities_28_eq {n v M : Nat} {p d w r f s : Nat → Int} (hok : omOk n p d w r f s) (hv : v < 2) (hM : M ≤ 5040) : ∀ (m x fuel : Nat) (σ : omH) (g : Int), x + m = M → m < fuel → omMv n p d w r f s σ → -1000000 ≤ g → g ≤ 1000000 → (∀ y, y < x → ∃ q, (∀ i, i < n → omDc n y q i) ∧ g ≤ omWo n (2 * v) p d w r q n) → (g = 1000000 ∨ ∃ q, omSq n q ∧ g = omWo n (2 * v) p d w r q n) →
    ∃ σ' g', l_X12_leastOfPriorities_28 v M fuel g x σ = some (g', σ') ∧ omEx [54, 59] σ σ' ∧ g' ≤ 1000000 ∧ (∀ y, y < M → ∃ q, (∀ i, i < n → omDc n y q i) ∧ g' ≤ omWo n (2 * v) p d w r q n) ∧ (g' = 1000000 ∨ ∃ q, omSq n q ∧ g' = omWo n (2 * v) p d w r q n) := by
  have hn := hok.1
  intro m
  induction m with
  | zero =>
    intro x fuel σ g hx hf hm h1 h2 hA hB
    obtain ⟨fuel, rfl⟩ : ∃ z, fuel = z + 1 := ⟨fuel - 1, by omega⟩
    have : x = M := by omega
    subst this
    rw [l_X12_leastOfPriorities_28.eq_2, if_neg (Int.lt_irrefl _)]
    exact ⟨σ, g, rfl, omEx.rfl', h2, hA, hB⟩
  | succ m ih =>
    intro x fuel σ g hx hf hm h1 h2 hA hB
    obtain ⟨fuel, rfl⟩ : ∃ z, fuel = z + 1 := ⟨fuel - 1, by omega⟩
    obtain ⟨τ, q, a1, a2, a3⟩ := l_X12_leastOfPriorities_44_eq (v1 := (v : Int)) (v2 := (M : Int)) (v3 := g) (v4 := (x : Int)) hok (show x < 10000 by omega) n 0 FU σ (fun _ => 0) (by omega) (by rw [FU_eq]; omega) hm (fun i hi => by omega)
    have a1' : l_X12_leastOfPriorities_44 v M g x FU x 0 0 σ = some τ := a1
    have hsq := omDc_sq (fun i hi => (a3 i hi).1)
    obtain ⟨τ2, b1, b2⟩ := s_X12_worth_eq hok hv hsq (hm.ex a2 (by simp)) (fun i hi => (a3 i hi).2)
    have hw := omWo_rng (c := 2 * v) (q := q) hok (by omega) (fun i hi => (hsq i hi).1) n (Nat.le_refl n)
    rw [l_X12_leastOfPriorities_28.eq_2, om_wn (show x < 2147483648 by omega), om_wn (show M < 2147483648 by omega), if_pos (by omega), a1', om_b0, b1, om_b0, show ((x : Int) + 1) = ((x + 1 : Nat) : Int) by omega]
    have e1 : (if omw (omWo n (2 * v) p d w r q n) < omw g then some (omWo n (2 * v) p d w r q n) else some g) = some (min g (omWo n (2 * v) p d w r q n)) := by
      rw [omw_id (a := omWo n (2 * v) p d w r q n) (by omega) (by omega), omw_id (a := g) (by omega) (by omega)]
      split
      · exact congrArg some (by omega)
      · exact congrArg some (by omega)
    show ∃ σ' g', Option.bind (if omw (omWo n (2 * v) p d w r q n) < omw g then some (omWo n (2 * v) p d w r q n) else some g) (fun t10 => l_X12_leastOfPriorities_28 v M fuel t10 ((x + 1 : Nat) : Int) τ2) = some (g', σ') ∧ _
    rw [e1, om_b0]
    have ex2 : omEx [54, 59] σ τ2 := (a2.mono (by simp)).trans (b2.mono (by simp))
    obtain ⟨σ', g', z1, z2, z3, z4, z5⟩ := ih (x + 1) fuel τ2 (min g (omWo n (2 * v) p d w r q n)) (by omega) (by omega) (hm.ex ex2 (by simp)) (by omega) (by omega) (fun y hy => by
      by_cases hyx : y = x
      · subst hyx
        exact ⟨q, fun i hi => (a3 i hi).1, by omega⟩
      · obtain ⟨q2, k1, k2⟩ := hA y (by omega)
        exact ⟨q2, k1, by omega⟩) (by
      rcases Int.le_total g (omWo n (2 * v) p d w r q n) with h | h
      · rw [Int.min_eq_left h]; exact hB
      · rw [Int.min_eq_right h]; exact Or.inr ⟨q, hsq, rfl⟩)
    exact ⟨σ', g', z1, ex2.trans z2, z3, z4, z5⟩
theorem s_X12_leastOfPriorities_eq {n v : Nat} {p d w r f s : Nat → Int} {σ : omH} (hok : omOk n p d w r f s) (hv : v < 2) (hn1 : 1 ≤ n) (hn7 : n ≤ 7) (hm : omMv n p d w r f s σ) : ∃ σ' g, s_X12_leastOfPriorities v σ = some (g, σ') ∧ omEx [54, 59] σ σ' ∧ g ≤ 1000000 ∧ (∀ q, omSq n q → g ≤ omWo n (2 * v) p d w r q n) ∧ (g = 1000000 ∨ ∃ q, omSq n q ∧ g = omWo n (2 * v) p d w r q n) := by
  have h4 := l_X12_leastOfPriorities_4_eq (v1 := (v : Int)) hn7 hm.1 (n - 1) 1 FU (by omega) (by rw [FU_eq]; omega) (by omega)
  have h4' : l_X12_leastOfPriorities_4 v σ FU 1 2 = some ((omFac n : Nat) : Int) := h4
  have hF := omFac_le n (by omega)
  obtain ⟨σ', g, z1, z2, z3, z4, z5⟩ := l_X12_leastOfPriorities_28_eq hok hv hF (omFac n) 0 FU σ 1000000 (by omega) (by rw [FU_eq]; omega) hm (by decide) (by decide) (fun y hy => by omega) (Or.inl rfl)
  have z1' : l_X12_leastOfPriorities_28 v (omFac n : Nat) FU 1000000 0 σ = some (g, σ') := z1
  refine ⟨σ', g, ?_, z2, z3, fun q hq => ?_, z5⟩
  · unfold s_X12_leastOfPriorities
    rw [h4', om_b0, z1', om_b0]
  · obtain ⟨q2, k1, k2⟩ := z4 (omCo n q n) (omCo_lt hq n (Nat.le_refl n))
    rw [omWo_congr n (fun i hi => omDc_uniq hq k1 n (Nat.le_refl n) i hi)] at k2
    exact k2
