/-! ===== the most on time, by sets and by counts ===== -/
/-- how many of the first m places are in a set -/
def omCt (q : Nat → Nat) (S m : Nat) : Nat := match m with
  | 0 => 0
  | m + 1 => omCt q S m + (if S.testBit (q m) = true then 1 else 0)
theorem omPop_ct {n S : Nat} {q : Nat → Nat} (hn : n ≤ 10) (hS : S < 2 ^ n) (hq : ∀ i, i < n → q i < n) (hinj : ∀ i k, i < n → k < n → q i = q k → i = k) (hs : ∀ j, j < n → ∃ i, i < n ∧ q i = j) : omPop S = (omCt q S n : Nat) := by
  have h1 : omPop S = omSum n (fun j => if S.testBit j = true then 1 else 0) := omSum_tail hn (fun i h1 h2 => by
    have : S.testBit i = false := Nat.testBit_lt_two_pow (Nat.lt_of_lt_of_le hS (Nat.pow_le_pow_right (by decide) h1))
    rw [this]; rfl)
  rw [h1, ← omSum_perm (g := fun j => if S.testBit j = true then 1 else 0) hq hinj hs]
  have h2 : ∀ m, omSum m (fun i => if S.testBit (q i) = true then (1 : Int) else 0) = (omCt q S m : Nat) := by
    intro m
    induction m with
    | zero => rfl
    | succ m ih =>
      show omSum m _ + (if S.testBit (q m) = true then (1 : Int) else 0) = ((omCt q S m + (if S.testBit (q m) = true then 1 else 0) : Nat) : Int)
      rw [ih]
      split <;> omega
  exact h2 n
/-- the least length of so many on time of the first m places -/
def omLe (p d : Nat → Int) (q : Nat → Nat) : Nat → Nat → Int
  | 0, k => if k = 0 then 0 else 1000000
  | m + 1, k => if k = 0 then omLe p d q m 0 else if d (q m) < omLe p d q m (k - 1) + p (q m) then omLe p d q m k else if omLe p d q m (k - 1) + p (q m) < omLe p d q m k then omLe p d q m (k - 1) + p (q m) else omLe p d q m k
theorem omLe_rng {n : Nat} {p d w r f s : Nat → Int} {q : Nat → Nat} (hok : omOk n p d w r f s) (hq : ∀ i, i < n → q i < n) : ∀ m k, m ≤ n → 0 ≤ omLe p d q m k ∧ omLe p d q m k ≤ 1000000 := by
  intro m
  induction m with
  | zero => intro k _; unfold omLe; split <;> omega
  | succ m ih =>
    intro k hm
    have h1 := ih k (by omega)
    have h2 := ih (k - 1) (by omega)
    have h3 := ih 0 (by omega)
    have h4 := hok.2.1 (q m) (hq m (by omega))
    unfold omLe
    split
    · omega
    · split
      · omega
      · split <;> omega
theorem omLe_mono {p d : Nat → Int} {q : Nat → Nat} {m k : Nat} : omLe p d q (m + 1) k ≤ omLe p d q m k := by
  show (if k = 0 then omLe p d q m 0 else if d (q m) < omLe p d q m (k - 1) + p (q m) then omLe p d q m k else if omLe p d q m (k - 1) + p (q m) < omLe p d q m k then omLe p d q m (k - 1) + p (q m) else omLe p d q m k) ≤ _
  split
  · rename_i h; rw [h]; omega
  · split
    · omega
    · split <;> omega
theorem omLe_take {p d : Nat → Int} {q : Nat → Nat} {m c : Nat} (h : omLe p d q m c + p (q m) ≤ d (q m)) : omLe p d q (m + 1) (c + 1) ≤ omLe p d q m c + p (q m) := by
  show (if c + 1 = 0 then omLe p d q m 0 else if d (q m) < omLe p d q m (c + 1 - 1) + p (q m) then omLe p d q m (c + 1) else if omLe p d q m (c + 1 - 1) + p (q m) < omLe p d q m (c + 1) then omLe p d q m (c + 1 - 1) + p (q m) else omLe p d q m (c + 1)) ≤ _
  rw [show c + 1 - 1 = c by omega, if_neg (by omega), if_neg (by omega)]
  split <;> omega
/-- a set on time at the first m places -/
def omOm (p d : Nat → Int) (q : Nat → Nat) (S m : Nat) : Prop := ∀ k, k < m → S.testBit (q k) = true → omTq p q S (k + 1) ≤ d (q k)
theorem omLe_low {p d : Nat → Int} {q : Nat → Nat} {S : Nat} : ∀ m, omOm p d q S m → omLe p d q m (omCt q S m) ≤ omTq p q S m := by
  intro m
  induction m with
  | zero => intro _; show (if (0 : Nat) = 0 then (0 : Int) else 1000000) ≤ 0; decide
  | succ m ih =>
    intro h
    have h1 := ih (fun k hk => h k (by omega))
    have e0 : omTq p q S (m + 1) = omTq p q S m + (if S.testBit (q m) = true then p (q m) else 0) := rfl
    have e1 : omCt q S (m + 1) = omCt q S m + (if S.testBit (q m) = true then 1 else 0) := rfl
    by_cases hb : S.testBit (q m) = true
    · have h2 := h m (by omega) hb
      rw [if_pos hb] at e0 e1
      rw [e1, e0]
      have := omLe_take (p := p) (d := d) (q := q) (m := m) (c := omCt q S m) (by omega)
      omega
    · rw [if_neg hb] at e0 e1
      rw [e1, e0]
      have := omLe_mono (p := p) (d := d) (q := q) (m := m) (k := omCt q S m)
      show omLe p d q (m + 1) (omCt q S m) ≤ _
      omega
theorem omTq_congr {p : Nat → Int} {q : Nat → Nat} {S S' m : Nat} (h : ∀ i, i < m → S'.testBit (q i) = S.testBit (q i)) : omTq p q S' m = omTq p q S m :=
  omSum_congr (fun i hi => by rw [h i hi])
theorem omCt_congr {q : Nat → Nat} {S S' : Nat} : ∀ m, (∀ i, i < m → S'.testBit (q i) = S.testBit (q i)) → omCt q S' m = omCt q S m := by
  intro m
  induction m with
  | zero => intro _; rfl
  | succ m ih =>
    intro h
    show omCt q S' m + _ = omCt q S m + _
    rw [ih (fun i hi => h i (by omega)), h m (by omega)]
theorem omLe_ex {n : Nat} {p d w r f s : Nat → Int} {q : Nat → Nat} (hok : omOk n p d w r f s) (hq : ∀ i, i < n → q i < n) (hinj : ∀ i k, i < n → k < n → q i = q k → i = k) : ∀ m k, m ≤ n → omLe p d q m k < 1000000 → ∃ S, (∀ b, S.testBit b = true → ∃ i, i < m ∧ q i = b) ∧ omOm p d q S m ∧ omCt q S m = k ∧ omTq p q S m = omLe p d q m k := by
  intro m
  induction m with
  | zero =>
    intro k _ h
    have hk : k = 0 := by
      unfold omLe at h
      by_cases hk : k = 0
      · exact hk
      · rw [if_neg hk] at h; omega
    subst hk
    exact ⟨0, fun b hb => absurd hb (by rw [Nat.zero_testBit]; decide), fun k hk => absurd hk (by omega), rfl, rfl⟩
  | succ m ih =>
    intro k hm h
    have keep : omLe p d q (m + 1) k = omLe p d q m k → ∃ S, (∀ b, S.testBit b = true → ∃ i, i < m + 1 ∧ q i = b) ∧ omOm p d q S (m + 1) ∧ omCt q S (m + 1) = k ∧ omTq p q S (m + 1) = omLe p d q (m + 1) k := by
      intro he
      obtain ⟨S, s1, s2, s3, s4⟩ := ih k (by omega) (by omega)
      have hnb : S.testBit (q m) = false := by
        cases hb : S.testBit (q m) with
        | false => rfl
        | true =>
          obtain ⟨i, hi, hiq⟩ := s1 _ hb
          have := hinj i m (by omega) (by omega) hiq
          omega
      refine ⟨S, fun b hb => ?_, fun k' hk' hb => ?_, ?_, ?_⟩
      · obtain ⟨i, hi, hiq⟩ := s1 b hb
        exact ⟨i, by omega, hiq⟩
      · by_cases hkm : k' = m
        · subst hkm; rw [hnb] at hb; cases hb
        · exact s2 k' (by omega) hb
      · show omCt q S m + (if S.testBit (q m) = true then 1 else 0) = k
        rw [hnb, s3]; rfl
      · show omTq p q S m + (if S.testBit (q m) = true then p (q m) else 0) = _
        rw [hnb, s4, he]
        show omLe p d q m k + 0 = _
        omega
    have hstep : omLe p d q (m + 1) k = (if k = 0 then omLe p d q m 0 else if d (q m) < omLe p d q m (k - 1) + p (q m) then omLe p d q m k else if omLe p d q m (k - 1) + p (q m) < omLe p d q m k then omLe p d q m (k - 1) + p (q m) else omLe p d q m k) := rfl
    by_cases hk : k = 0
    · subst hk
      exact keep (by rw [hstep, if_pos rfl])
    · rw [if_neg hk] at hstep
      by_cases h1 : d (q m) < omLe p d q m (k - 1) + p (q m)
      · rw [if_pos h1] at hstep
        exact keep hstep
      · rw [if_neg h1] at hstep
        by_cases h2 : omLe p d q m (k - 1) + p (q m) < omLe p d q m k
        · rw [if_pos h2] at hstep
          have hr := omLe_rng hok hq m k (by omega)
          have hpm := hok.2.1 (q m) (hq m (by omega))
          obtain ⟨S, s1, s2, s3, s4⟩ := ih (k - 1) (by omega) (by omega)
          have hnew : ∀ i, i < m → (S ||| 2 ^ (q m)).testBit (q i) = S.testBit (q i) := by
            intro i hi
            rw [om_ins_bit]
            have : q m ≠ q i := fun he => by have := hinj m i (by omega) (by omega) he; omega
            simp [this]
          have hown : (S ||| 2 ^ (q m)).testBit (q m) = true := by rw [om_ins_bit]; simp
          have hT : omTq p q (S ||| 2 ^ (q m)) (m + 1) = omTq p q S m + p (q m) := by
            show omTq p q (S ||| 2 ^ (q m)) m + (if (S ||| 2 ^ (q m)).testBit (q m) = true then p (q m) else 0) = _
            rw [hown, omTq_congr hnew]; rfl
          refine ⟨S ||| 2 ^ (q m), fun b hb => ?_, fun k' hk' hb => ?_, ?_, ?_⟩
          · rw [om_ins_bit] at hb
            by_cases hqb : q m = b
            · exact ⟨m, by omega, hqb⟩
            · have hb' : S.testBit b = true := by simpa [hqb] using hb
              obtain ⟨i, hi, hiq⟩ := s1 b hb'
              exact ⟨i, by omega, hiq⟩
          · by_cases hkm : k' = m
            · subst hkm
              rw [hT, s4]; omega
            · rw [hnew k' (by omega)] at hb
              rw [omTq_congr (fun i hi => hnew i (by omega))]
              exact s2 k' (by omega) hb
          · show omCt q (S ||| 2 ^ (q m)) m + (if (S ||| 2 ^ (q m)).testBit (q m) = true then 1 else 0) = k
            rw [omCt_congr m hnew, s3, hown]
            show k - 1 + 1 = k
            omega
          · rw [hT, s4, hstep]
        · rw [if_neg h2] at hstep
          exact keep hstep
/-! .. the class's -/
noncomputable def omMo (n : Nat) (p d : Nat → Int) (q : Nat → Nat) : Nat → Int
  | 0 => 0
  | x + 1 => @ite Int (omMo n p d q x < omPop x ∧ omOq n p d q x) (Classical.propDecidable _) (omPop x) (omMo n p d q x)
theorem omMo_t {n x : Nat} {p d : Nat → Int} {q : Nat → Nat} (h : omMo n p d q x < omPop x ∧ omOq n p d q x) : omMo n p d q (x + 1) = omPop x := if_pos h
theorem omMo_f {n x : Nat} {p d : Nat → Int} {q : Nat → Nat} (h : ¬ (omMo n p d q x < omPop x ∧ omOq n p d q x)) : omMo n p d q (x + 1) = omMo n p d q x := if_neg h
theorem omPop_rng {S : Nat} : 0 ≤ omPop S ∧ omPop S ≤ 10 := by
  have := omSum_rng (n := 10) (g := fun j => if S.testBit j then (1 : Int) else 0) (B := 1) (fun j _ => by split <;> omega)
  unfold omPop
  omega
theorem omMo_char {n : Nat} {p d : Nat → Int} {q : Nat → Nat} : ∀ x, (∀ S, S < x → omOq n p d q S → omPop S ≤ omMo n p d q x) ∧ (0 < x → ∃ S, S < x ∧ omOq n p d q S ∧ omPop S = omMo n p d q x) ∧ 0 ≤ omMo n p d q x ∧ omMo n p d q x ≤ 10 := by
  intro x
  induction x with
  | zero => exact ⟨fun S hS => by omega, fun h => by omega, by show (0 : Int) ≤ 0 ∧ (0 : Int) ≤ 10; decide⟩
  | succ x ih =>
    obtain ⟨h1, h2, h3⟩ := ih
    have hp := omPop_rng (S := x)
    by_cases h : omMo n p d q x < omPop x ∧ omOq n p d q x
    · rw [omMo_t h]
      refine ⟨fun S hS ho => ?_, fun _ => ⟨x, by omega, h.2, rfl⟩, hp⟩
      by_cases hSx : S = x
      · subst hSx; omega
      · have := h1 S (by omega) ho; omega
    · rw [omMo_f h]
      refine ⟨fun S hS ho => ?_, fun _ => ?_, h3⟩
      · by_cases hSx : S = x
        · subst hSx
          have : ¬ omMo n p d q S < omPop S := fun hh => h ⟨hh, ho⟩
          omega
        · exact h1 S (by omega) ho
      · by_cases hx : x = 0
        · subst hx
          refine ⟨0, by omega, fun k hk hb => ?_, rfl⟩
          rw [Nat.zero_testBit] at hb; cases hb
        · obtain ⟨S, s1, s2⟩ := h2 (by omega)
          exact ⟨S, by omega, s2⟩
theorem l_X8_mostOnTime_15_eq {n : Nat} {p d w r f s : Nat → Int} {q : Nat → Nat} {σ : omH} (hok : omOk n p d w r f s) (hc : omCv n p d w r f s σ) (hq : ∀ i, i < n → q i < n) (hr : ∀ i, i < n → σ 41 i = q i) : ∀ (m x fuel : Nat), x + m = 2 ^ n → m < fuel → l_X8_mostOnTime_15 σ fuel (omMo n p d q x) x = some (omMo n p d q (2 ^ n)) := by
  have hn := hok.1
  have hpw := om_pow_le hn
  intro m
  induction m with
  | zero =>
    intro x fuel hx hf
    obtain ⟨fuel, rfl⟩ : ∃ z, fuel = z + 1 := ⟨fuel - 1, by omega⟩
    have : x = 2 ^ n := by omega
    rw [l_X8_mostOnTime_15.eq_2, s_X2_all_eq hok hc, om_b0, om_wn (show x < 2147483648 by omega), omw_id (a := ((2 ^ n : Nat) : Int) - 1) (by omega) (by omega), if_pos (by omega), this]
  | succ m ih =>
    intro x fuel hx hf
    obtain ⟨fuel, rfl⟩ : ∃ z, fuel = z + 1 := ⟨fuel - 1, by omega⟩
    have hM := (omMo_char (n := n) (p := p) (d := d) (q := q) x).2.2
    have hp := omPop_rng (S := x)
    rw [l_X8_mostOnTime_15.eq_2, s_X2_all_eq hok hc, om_b0, om_wn (show x < 2147483648 by omega), omw_id (a := ((2 ^ n : Nat) : Int) - 1) (by omega) (by omega), if_neg (by omega), s_J6_bitCount_eq (by omega), om_b0, om_b0, omw_id (a := omMo n p d q x) (by omega) (by omega), omw_id (a := omPop x) (by omega) (by omega), s_X8_isOnTimeByDue_eq hok hc (by omega) hq hr, om_b0, show ((x : Int) + 1) = ((x + 1 : Nat) : Int) by omega]
    have hnext := ih (x + 1) fuel (by omega) (by omega)
    by_cases h1 : omMo n p d q x < omPop x
    · rw [if_pos h1]
      by_cases h2 : omOq n p d q x
      · rw [om_if0 h2, ← omMo_t ⟨h1, h2⟩]
        exact hnext
      · rw [om_if1 h2]
        rw [omMo_f (fun h => h2 h.2)] at hnext
        exact hnext
    · rw [if_neg h1]
      rw [omMo_f (fun h => h1 h.1)] at hnext
      exact hnext
