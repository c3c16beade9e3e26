theorem omWs.ex {v n x : Nat} {p d r : Nat → Int} {W : List Nat} {σ σ' : omH} (h : omWs v n p d r x σ) (he : omEx W σ σ') (hW : 42 ∉ W) : omWs v n p d r x σ' := by
  unfold omWs at h ⊢
  rw [he 42 hW]
  exact h
theorem l_X10_findGreatest_19_eq {n v i : Nat} {p d w r f s : Nat → Int} (hok : omOk n p d w r f s) (hvv : v < 2) (hi : i < n) : ∀ (m j fuel : Nat) (σ : omH), j + m = n → m < fuel → omCv n p d w r f s σ → omWs v n p d r (i * n + j) σ → ∃ σ', l_X10_findGreatest_19 v i fuel j σ = some σ' ∧ omEx [42] σ σ' ∧ omWs v n p d r (i * n + n) σ' := by
  have hn := hok.1
  intro m
  induction m with
  | zero =>
    intro j fuel σ hk hf hc hw
    obtain ⟨fuel, rfl⟩ : ∃ z, fuel = z + 1 := ⟨fuel - 1, by omega⟩
    have : j = n := by omega
    subst this
    rw [l_X10_findGreatest_19.eq_2, hc.1, if_neg (by omega)]
    exact ⟨σ, rfl, omEx.rfl', hw⟩
  | succ m ih =>
    intro j fuel σ hk hf hc hw
    obtain ⟨fuel, rfl⟩ : ∃ z, fuel = z + 1 := ⟨fuel - 1, by omega⟩
    rw [l_X10_findGreatest_19.eq_2, hc.1, om_wn (show j < 2147483648 by omega), om_wn (show n < 2147483648 by omega), om_wn (show v < 2147483648 by omega), om_wn (show i < 2147483648 by omega), if_pos (by omega), omg_t ⟨by omega, by omega⟩, Int.toNat_natCast, Int.toNat_natCast, hc.2.2.2.2.1, hc.2.2.1]
    have e1 : (if (v : Int) = 0 then some (0 : Int) else some (r i)) = some (omRl v r i) := by
      unfold omRl
      by_cases h0 : v = 0
      · rw [if_pos (by omega), if_pos h0]
      · rw [if_neg (by omega), if_neg h0]
    rw [e1, om_b0, omg_t ⟨by omega, by omega⟩]
    obtain ⟨τ, x1, x2, x3⟩ := s_X10_tryWindow_eq (j := j) hok hc hvv hi (by omega) hw
    rw [x1, om_b0, show ((j : Int) + 1) = ((j + 1 : Nat) : Int) by omega]
    obtain ⟨σ', z1, z2, z3⟩ := ih (j + 1) fuel τ (by omega) (by omega) (hc.ex x2 (by simp)) x3
    exact ⟨σ', z1, x2.trans z2, z3⟩
theorem l_X10_findGreatest_8_eq {n v : Nat} {p d w r f s : Nat → Int} (hok : omOk n p d w r f s) (hvv : v < 2) : ∀ (m i fuel : Nat) (σ : omH), i + m = n → m < fuel → omCv n p d w r f s σ → omWs v n p d r (i * n) σ → ∃ σ', l_X10_findGreatest_8 v fuel i σ = some σ' ∧ omEx [42] σ σ' ∧ omWs v n p d r (n * n) σ' := by
  have hn := hok.1
  intro m
  induction m with
  | zero =>
    intro i fuel σ hk hf hc hw
    obtain ⟨fuel, rfl⟩ : ∃ z, fuel = z + 1 := ⟨fuel - 1, by omega⟩
    have : i = n := by omega
    subst this
    rw [l_X10_findGreatest_8.eq_2, hc.1, if_neg (by omega)]
    exact ⟨σ, rfl, omEx.rfl', hw⟩
  | succ m ih =>
    intro i fuel σ hk hf hc hw
    obtain ⟨fuel, rfl⟩ : ∃ z, fuel = z + 1 := ⟨fuel - 1, by omega⟩
    rw [l_X10_findGreatest_8.eq_2, hc.1, om_wn (show i < 2147483648 by omega), om_wn (show n < 2147483648 by omega), if_pos (by omega)]
    obtain ⟨τ, x1, x2, x3⟩ := l_X10_findGreatest_19_eq hok hvv (show i < n by omega) n 0 FU σ (by omega) (by rw [FU_eq]; omega) hc hw
    have x1' : l_X10_findGreatest_19 v i FU 0 σ = some τ := x1
    rw [x1', om_b0, show ((i : Int) + 1) = ((i + 1 : Nat) : Int) by omega]
    obtain ⟨σ', z1, z2, z3⟩ := ih (i + 1) fuel τ (by omega) (by omega) (hc.ex x2 (by simp)) (by rw [Nat.succ_mul]; exact x3)
    exact ⟨σ', z1, x2.trans z2, z3⟩
theorem s_X10_findGreatest_eq {n v : Nat} {p d w r f s : Nat → Int} {σ : omH} (hok : omOk n p d w r f s) (hvv : v < 2) (hn0 : 0 < n) (hc : omCv n p d w r f s σ) : ∃ σ', s_X10_findGreatest v σ = some σ' ∧ omEx [42] σ σ' ∧ σ' 42 0 = omBw v n p d r (omBe v n p d r (n * n) / n) (omBe v n p d r (n * n) % n) ∧ σ' 42 1 = d (omBe v n p d r (n * n) % n) ∧ σ' 42 2 = omRl v r (omBe v n p d r (n * n) / n) := by
  have hn := hok.1
  obtain ⟨σ', z1, z2, z3⟩ := l_X10_findGreatest_8_eq hok hvv n 0 FU (omsu σ 42 0 (-1000000)) (by omega) (by rw [FU_eq]; omega) (hc.ex (W := [42]) (omEx.su (by simp)) (by simp)) (by unfold omWs; rw [if_pos (by omega), omsu_s])
  have z1' : l_X10_findGreatest_8 v FU 0 (omsu σ 42 0 (-1000000)) = some σ' := z1
  have : 0 < n * n := Nat.mul_pos hn0 hn0
  unfold omWs at z3
  rw [if_neg (by omega)] at z3
  refine ⟨σ', ?_, (omEx.su (by simp)).trans z2, z3⟩
  unfold s_X10_findGreatest
  rw [z1', om_b0]
/-! .. the reference's -/
theorem om_tdiv {a b : Nat} : ((a : Int)).tdiv (b : Int) = ((a / b : Nat) : Int) := rfl
theorem om_tmod {a b : Nat} : ((a : Int)).tmod (b : Int) = ((a % b : Nat) : Int) := rfl
theorem om_nn {n : Nat} (hn : n ≤ 10) : n * n ≤ 100 := Nat.mul_le_mul hn hn
/-- the best bound of the first x pairs -/
def omWg (v n : Nat) (p d r : Nat → Int) : Nat → Int
  | 0 => -1000000
  | x + 1 => if omWg v n p d r x < omBw v n p d r (x / n) (x % n) then omBw v n p d r (x / n) (x % n) else omWg v n p d r x
theorem omWg_eq {n v : Nat} {p d w r f s : Nat → Int} (hok : omOk n p d w r f s) (hn : 0 < n) : ∀ x, x < n * n → omWg v n p d r (x + 1) = omBw v n p d r (omBe v n p d r (x + 1) / n) (omBe v n p d r (x + 1) % n) := by
  intro x
  induction x with
  | zero =>
    intro _
    have h1 := (omBw_rng (v := v) hok hn hn).2 (by have := omWl_own (v := v) hok hn; omega)
    have hnb : ¬ omBt v n p d r 0 (omBe v n p d r 0) := by
      unfold omBt
      have e0 : omBe v n p d r 0 = 0 := rfl
      rw [e0]
      omega
    rw [omBe_f hnb]
    show (if -1000000 < omBw v n p d r (0 / n) (0 % n) then _ else _) = omBw v n p d r (0 / n) (0 % n)
    rw [Nat.zero_div, Nat.zero_mod, if_pos (by omega)]
  | succ x ih =>
    intro hx
    have h1 := ih (by omega)
    show (if omWg v n p d r (x + 1) < _ then _ else _) = _
    rw [h1]
    by_cases hb : omBt v n p d r (x + 1) (omBe v n p d r (x + 1))
    · rw [omBe_t hb]
      unfold omBt at hb
      split
      · rfl
      · omega
    · rw [omBe_f hb]
      unfold omBt at hb
      rw [if_neg (by omega)]
