/-! ===== windows ===== -/
def omRl (v : Nat) (r : Nat → Int) (i : Nat) : Int := if v = 0 then 0 else r i
/-- the lengths between a pair's release and due date -/
def omWlT (v : Nat) (p d r : Nat → Int) (i j k : Nat) : Int := if omRl v r k < omRl v r i then 0 else if d j < d k then 0 else p k
def omWl (v n : Nat) (p d r : Nat → Int) (i j : Nat) : Int := omSum n (omWlT v p d r i j)
def omBw (v n : Nat) (p d r : Nat → Int) (i j : Nat) : Int := if omWl v n p d r i j = 0 then -1000000 else omRl v r i + omWl v n p d r i j - d j
/-- the pair x is better than the pair y -/
def omBt (v n : Nat) (p d r : Nat → Int) (x y : Nat) : Prop := omBw v n p d r (y / n) (y % n) < omBw v n p d r (x / n) (x % n) ∨ (omBw v n p d r (y / n) (y % n) = omBw v n p d r (x / n) (x % n) ∧ (d (x % n) < d (y % n) ∨ (d (x % n) = d (y % n) ∧ omRl v r (x / n) < omRl v r (y / n))))
noncomputable def omBe (v n : Nat) (p d r : Nat → Int) : Nat → Nat
  | 0 => 0
  | x + 1 => @ite Nat (omBt v n p d r x (omBe v n p d r x)) (Classical.propDecidable _) x (omBe v n p d r x)
theorem omBe_t {v n x : Nat} {p d r : Nat → Int} (h : omBt v n p d r x (omBe v n p d r x)) : omBe v n p d r (x + 1) = x := if_pos h
theorem omBe_f {v n x : Nat} {p d r : Nat → Int} (h : ¬ omBt v n p d r x (omBe v n p d r x)) : omBe v n p d r (x + 1) = omBe v n p d r x := if_neg h
theorem omRl_rng {n v i : Nat} {p d w r f s : Nat → Int} (hok : omOk n p d w r f s) (hi : i < n) : 0 ≤ omRl v r i ∧ omRl v r i ≤ 100 := by
  have := hok.2.1 i hi
  unfold omRl
  split <;> omega
theorem omWlT_rng {n v i j k : Nat} {p d w r f s : Nat → Int} (hok : omOk n p d w r f s) (hk : k < n) : 0 ≤ omWlT v p d r i j k ∧ omWlT v p d r i j k ≤ 30 := by
  have := hok.2.1 k hk
  unfold omWlT
  split
  · omega
  · split <;> omega
theorem omWl_rng {n v i j m : Nat} {p d w r f s : Nat → Int} (hok : omOk n p d w r f s) (hm : m ≤ n) : 0 ≤ omWl v m p d r i j ∧ omWl v m p d r i j ≤ m * 30 :=
  omSum_rng (fun k hk => omWlT_rng hok (by omega))
theorem omSum_0 {n : Nat} {g : Nat → Int} (h : ∀ i, i < n → 0 ≤ g i) : 0 ≤ omSum n g := by
  induction n with
  | zero => exact Int.le_refl _
  | succ n ih =>
    show 0 ≤ omSum n g + g n
    have h0 := h n (by omega)
    have := ih (fun i hi => h i (by omega))
    omega
theorem omSum_one {n k : Nat} {g : Nat → Int} (h : ∀ i, i < n → 0 ≤ g i) (hk : k < n) : g k ≤ omSum n g := by
  induction n with
  | zero => omega
  | succ n ih =>
    show g k ≤ omSum n g + g n
    have h0 := h n (by omega)
    have h1 := omSum_0 (n := n) (g := g) (fun i hi => h i (by omega))
    by_cases hkn : k = n
    · subst hkn; omega
    · have := ih (fun i hi => h i (by omega)) (by omega)
      omega
theorem omWl_own {n v i : Nat} {p d w r f s : Nat → Int} (hok : omOk n p d w r f s) (hi : i < n) : 0 < omWl v n p d r i i := by
  have h1 := omSum_one (n := n) (g := omWlT v p d r i i) (fun k hk => (omWlT_rng hok hk).1) hi
  have h2 : omWlT v p d r i i i = p i := by
    unfold omWlT
    rw [if_neg (by omega), if_neg (by omega)]
  have h3 := hok.2.1 i hi
  unfold omWl
  omega
theorem omBw_rng {n v i j : Nat} {p d w r f s : Nat → Int} (hok : omOk n p d w r f s) (hi : i < n) (hj : j < n) : (omWl v n p d r i j = 0 → omBw v n p d r i j = -1000000) ∧ (omWl v n p d r i j ≠ 0 → omBw v n p d r i j = omRl v r i + omWl v n p d r i j - d j ∧ -300 ≤ omBw v n p d r i j ∧ omBw v n p d r i j ≤ 400) := by
  have h1 := omRl_rng (v := v) hok hi
  have h2 := omWl_rng (v := v) (i := i) (j := j) hok (Nat.le_refl n)
  have h3 := hok.2.1 j hj
  have hn := hok.1
  unfold omBw
  exact ⟨fun h => if_pos h, fun h => by rw [if_neg h]; omega⟩
theorem om_pair {n i j : Nat} (hj : j < n) : (i * n + j) / n = i ∧ (i * n + j) % n = j := by
  rw [Nat.mul_comm]
  exact ⟨by rw [Nat.mul_add_div (by omega), Nat.div_eq_of_lt hj]; omega, by rw [Nat.mul_add_mod, Nat.mod_eq_of_lt hj]⟩
theorem om_pair_lt {n i j : Nat} (hi : i < n) (hj : j < n) : i * n + j < n * n := by
  have : (i + 1) * n ≤ n * n := Nat.mul_le_mul_right n (by omega)
  rw [Nat.succ_mul] at this
  omega
theorem om_dm {n x : Nat} (hn : 0 < n) (hx : x < n * n) : x / n < n ∧ x % n < n :=
  ⟨(Nat.div_lt_iff_lt_mul hn).mpr hx, Nat.mod_lt _ hn⟩
theorem omBe_ok {n v : Nat} {p d w r f s : Nat → Int} (hok : omOk n p d w r f s) (hn : 0 < n) : ∀ x, x ≤ n * n → omBe v n p d r x < n * n ∧ omWl v n p d r (omBe v n p d r x / n) (omBe v n p d r x % n) ≠ 0 := by
  intro x
  induction x with
  | zero =>
    intro _
    refine ⟨Nat.mul_pos hn hn, ?_⟩
    show omWl v n p d r (0 / n) (0 % n) ≠ 0
    rw [Nat.zero_div, Nat.zero_mod]
    have := omWl_own (v := v) hok hn
    omega
  | succ x ih =>
    intro hx
    obtain ⟨h1, h2⟩ := ih (by omega)
    by_cases hb : omBt v n p d r x (omBe v n p d r x)
    · rw [omBe_t hb]
      refine ⟨by omega, fun h0 => ?_⟩
      have e1 := om_dm hn (show x < n * n by omega)
      have e2 := om_dm hn h1
      have e3 := (omBw_rng (v := v) hok e1.1 e1.2).1 h0
      have e4 := (omBw_rng (v := v) hok e2.1 e2.2).2 h2
      unfold omBt at hb
      omega
    · rw [omBe_f hb]
      exact ⟨h1, h2⟩
/-! .. the class's -/
theorem l_X10_lengthsWithin_6_eq {n v i j : Nat} {p d w r f s : Nat → Int} {σ : omH} (hok : omOk n p d w r f s) (hc : omCv n p d w r f s σ) (hvv : v < 2) (hi : i < n) (hj : j < n) : ∀ (m k fuel : Nat), k + m = n → m < fuel → l_X10_lengthsWithin_6 v (omRl v r i) (d j) σ fuel (omWl v k p d r i j) k = some (omWl v n p d r i j) := by
  have hn := hok.1
  obtain ⟨c1, c2, c3, c4, c5, c6, c7⟩ := id hc
  intro m
  induction m with
  | zero =>
    intro k fuel hk hf
    obtain ⟨fuel, rfl⟩ : ∃ z, fuel = z + 1 := ⟨fuel - 1, by omega⟩
    have : k = n := by omega
    subst this
    rw [l_X10_lengthsWithin_6.eq_2, c1, if_neg (by omega)]
  | succ m ih =>
    intro k fuel hk hf
    obtain ⟨fuel, rfl⟩ : ∃ z, fuel = z + 1 := ⟨fuel - 1, by omega⟩
    have hkk := hok.2.1 k (by omega)
    have hjj := hok.2.1 j hj
    have hR := omRl_rng (v := v) hok hi
    rw [l_X10_lengthsWithin_6.eq_2, c1, c2, c3, c5, om_wn (show k < 2147483648 by omega), om_wn (show n < 2147483648 by omega), om_wn (show v < 2147483648 by omega), if_pos (by omega), omg_t ⟨by omega, by omega⟩, omg_t ⟨by omega, by omega⟩, omg_t ⟨by omega, by omega⟩, Int.toNat_natCast, omw_id (a := r k) (by omega) (by omega), omw_id (a := d k) (by omega) (by omega), omw_id (a := d j) (by omega) (by omega), omw_id (a := omRl v r i) (by omega) (by omega)]
    have ih' := ih (k + 1) fuel (by omega) (by omega)
    have e0 : omWl v (k + 1) p d r i j = omWl v k p d r i j + omWlT v p d r i j k := rfl
    rw [e0] at ih'
    have e1 : (if (v : Int) = 0 then some (1 : Int) else if r k < omRl v r i then some 0 else some 1) = some (if omRl v r k < omRl v r i then 0 else 1) := by
      unfold omRl at hR ⊢
      by_cases h0 : v = 0
      · subst h0
        simp
      · rw [if_neg (by omega), if_neg h0, if_neg h0]
        split <;> rfl
    rw [e1, om_b0, show ((k : Int) + 1) = ((k + 1 : Nat) : Int) by omega]
    unfold omWlT at ih'
    by_cases h1 : omRl v r k < omRl v r i
    · rw [if_pos h1] at ih' ⊢
      rw [if_pos (by decide)]
      rw [Int.add_zero] at ih'
      exact ih'
    · rw [if_neg h1] at ih' ⊢
      rw [if_neg (by decide)]
      by_cases h2 : d j < d k
      · rw [if_pos h2] at ih' ⊢
        rw [Int.add_zero] at ih'
        exact ih'
      · rw [if_neg h2] at ih' ⊢
        exact ih'
/-- the best pair of the first x is held -/
def omWs (v n : Nat) (p d r : Nat → Int) (x : Nat) (σ : omH) : Prop := if x = 0 then σ 42 0 = -1000000 else σ 42 0 = omBw v n p d r (omBe v n p d r x / n) (omBe v n p d r x % n) ∧ σ 42 1 = d (omBe v n p d r x % n) ∧ σ 42 2 = omRl v r (omBe v n p d r x / n)
theorem s_X10_tryWindow_eq {n v i j : Nat} {p d w r f s : Nat → Int} {σ : omH} (hok : omOk n p d w r f s) (hc : omCv n p d w r f s σ) (hvv : v < 2) (hi : i < n) (hj : j < n) (hw : omWs v n p d r (i * n + j) σ) : ∃ σ', s_X10_tryWindow v (omRl v r i) (d j) σ = some σ' ∧ omEx [42] σ σ' ∧ omWs v n p d r (i * n + j + 1) σ' := by
  have hn := hok.1
  have h1 := l_X10_lengthsWithin_6_eq hok hc hvv hi hj n 0 FU (by omega) (by rw [FU_eq]; omega)
  have h1' : l_X10_lengthsWithin_6 v (omRl v r i) (d j) σ FU 0 0 = some (omWl v n p d r i j) := h1
  obtain ⟨b1, b2⟩ := omBe_ok (v := v) hok (show 0 < n by omega) (i * n + j) (Nat.le_of_lt (om_pair_lt hi hj))
  have hx := om_dm (show 0 < n by omega) b1
  have hS := omWl_rng (v := v) (i := i) (j := j) hok (Nat.le_refl n)
  have hB := omBw_rng (v := v) hok hi hj
  have hBb := (omBw_rng (v := v) hok hx.1 hx.2).2 b2
  have hR := omRl_rng (v := v) hok hi
  have hRb := omRl_rng (v := v) hok hx.1
  have hd := hok.2.1 j hj
  have hdb := hok.2.1 _ hx.2
  have hp := om_pair (i := i) hj
  unfold s_X10_tryWindow s_X10_lengthsWithin
  rw [h1', om_b0, om_b0, omw_id (a := omWl v n p d r i j) (by omega) (by omega)]
  by_cases hz : omWl v n p d r i j = 0
  · rw [if_neg (by omega)]
    refine ⟨σ, rfl, omEx.rfl', ?_⟩
    have hx0 : i * n + j ≠ 0 := by
      intro h0
      have hj0 : j = 0 := by omega
      have hi0 : i = 0 := by
        have h5 : i * n = 0 := by omega
        rcases Nat.mul_eq_zero.mp h5 with h6 | h6
        · exact h6
        · omega
      subst hi0 hj0
      have := omWl_own (v := v) hok hi
      omega
    have hnb : ¬ omBt v n p d r (i * n + j) (omBe v n p d r (i * n + j)) := by
      unfold omBt
      rw [hp.1, hp.2, hB.1 hz]
      omega
    unfold omWs at hw ⊢
    rw [if_neg hx0] at hw
    rw [if_neg (by omega), omBe_f hnb]
    exact hw
  · rw [if_pos (by omega)]
    have hB2 := hB.2 hz
    unfold s_X10_isBetter
    rw [← hB2.1, omw_id (a := omBw v n p d r i j) (by omega) (by omega), omw_id (a := d j) (by omega) (by omega), omw_id (a := omRl v r i) (by omega) (by omega)]
    by_cases hx0 : i * n + j = 0
    · have hj0 : j = 0 := by omega
      have hi0 : i = 0 := by
        have h5 : i * n = 0 := by omega
        rcases Nat.mul_eq_zero.mp h5 with h6 | h6
        · exact h6
        · omega
      have hw0 : σ 42 0 = -1000000 := by unfold omWs at hw; rw [if_pos hx0] at hw; exact hw
      rw [hw0, show omw (-1000000) = -1000000 from rfl, if_neg (by omega), if_pos (by omega), om_b0, if_neg (by decide)]
      refine ⟨_, rfl, ((omEx.su (by simp)).trans (omEx.su (by simp))).trans (omEx.su (by simp)), ?_⟩
      unfold omWs
      have hbe : omBe v n p d r (i * n + j + 1) = 0 := by
        rw [hx0]
        have hnb : ¬ omBt v n p d r 0 (omBe v n p d r 0) := by
          unfold omBt
          show ¬ (_ < _ ∨ (_ ∧ (_ < _ ∨ (_ ∧ _ < _))))
          have e0 : omBe v n p d r 0 = 0 := rfl
          rw [e0]
          omega
        rw [omBe_f hnb]
        rfl
      rw [if_neg (by omega), hbe, Nat.zero_div, Nat.zero_mod]
      subst hi0 hj0
      exact ⟨by rw [omsu_n (Or.inr (by decide)), omsu_n (Or.inr (by decide)), omsu_s], by rw [omsu_n (Or.inr (by decide)), omsu_s], omsu_s⟩
    · unfold omWs at hw
      rw [if_neg hx0] at hw
      obtain ⟨w1, w2, w3⟩ := hw
      rw [w1, w2, w3, omw_id (a := omBw v n p d r _ _) (by omega) (by omega), omw_id (a := d (omBe v n p d r (i * n + j) % n)) (by omega) (by omega), omw_id (a := omRl v r (omBe v n p d r (i * n + j) / n)) (by omega) (by omega)]
      by_cases hb : omBt v n p d r (i * n + j) (omBe v n p d r (i * n + j))
      · have hbt := hb
        unfold omBt at hbt
        rw [hp.1, hp.2] at hbt
        have e2 : (if omBw v n p d r i j = omBw v n p d r (omBe v n p d r (i * n + j) / n) (omBe v n p d r (i * n + j) % n) then (if d j = d (omBe v n p d r (i * n + j) % n) then (if omRl v r i < omRl v r (omBe v n p d r (i * n + j) / n) then some (1 : Int) else some 0) else (if d j < d (omBe v n p d r (i * n + j) % n) then some 1 else some 0)) else (if omBw v n p d r (omBe v n p d r (i * n + j) / n) (omBe v n p d r (i * n + j) % n) < omBw v n p d r i j then some 1 else some 0)) = some 1 := by
          split
          · split
            · rw [if_pos (by omega)]
            · rw [if_pos (by omega)]
          · rw [if_pos (by omega)]
        rw [e2, om_b0, if_neg (by decide)]
        refine ⟨_, rfl, ((omEx.su (by simp)).trans (omEx.su (by simp))).trans (omEx.su (by simp)), ?_⟩
        unfold omWs
        rw [if_neg (by omega), omBe_t hb, hp.1, hp.2]
        exact ⟨by rw [omsu_n (Or.inr (by decide)), omsu_n (Or.inr (by decide)), omsu_s], by rw [omsu_n (Or.inr (by decide)), omsu_s], omsu_s⟩
      · have hbt := hb
        unfold omBt at hbt
        rw [hp.1, hp.2] at hbt
        have e2 : (if omBw v n p d r i j = omBw v n p d r (omBe v n p d r (i * n + j) / n) (omBe v n p d r (i * n + j) % n) then (if d j = d (omBe v n p d r (i * n + j) % n) then (if omRl v r i < omRl v r (omBe v n p d r (i * n + j) / n) then some (1 : Int) else some 0) else (if d j < d (omBe v n p d r (i * n + j) % n) then some 1 else some 0)) else (if omBw v n p d r (omBe v n p d r (i * n + j) / n) (omBe v n p d r (i * n + j) % n) < omBw v n p d r i j then some 1 else some 0)) = some 0 := by
          split
          · split
            · rw [if_neg (by omega)]
            · rw [if_neg (by omega)]
          · rw [if_neg (by omega)]
        rw [e2, om_b0, if_pos (by decide)]
        refine ⟨σ, rfl, omEx.rfl', ?_⟩
        unfold omWs
        rw [if_neg (by omega), omBe_f hb]
        exact ⟨w1, w2, w3⟩
