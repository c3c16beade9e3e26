/-- the taken in their order -/
def omKp (q : Nat → Nat) (S : Nat) : Nat → Nat → Nat
  | 0 => fun _ => 0
  | m + 1 => fun i => if S.testBit (q m) = true ∧ i = omCt q S m then q m else omKp q S m i
theorem omKp_at {q : Nat → Nat} {S : Nat} : ∀ M m, m < M → S.testBit (q m) = true → omKp q S M (omCt q S m) = q m := by
  intro M
  induction M with
  | zero => intro m h; omega
  | succ M ih =>
    intro m hm hb
    show (if S.testBit (q M) = true ∧ omCt q S m = omCt q S M then q M else omKp q S M (omCt q S m)) = q m
    by_cases hmM : m = M
    · subst hmM; rw [if_pos ⟨hb, rfl⟩]
    · have h1 : omCt q S (m + 1) = omCt q S m + (if S.testBit (q m) = true then 1 else 0) := rfl
      rw [if_pos hb] at h1
      have h2 := omCt_mono (q := q) (S := S) (show m + 1 ≤ M by omega)
      rw [if_neg (fun h => by have := h.2; omega)]
      exact ih m (by omega) hb
theorem omCt_ex {q : Nat → Nat} {S : Nat} : ∀ M i, i < omCt q S M → ∃ m, m < M ∧ S.testBit (q m) = true ∧ omCt q S m = i := by
  intro M
  induction M with
  | zero => intro i h; exact absurd h (by show ¬ i < 0; omega)
  | succ M ih =>
    intro i hi
    have h1 : omCt q S (M + 1) = omCt q S M + (if S.testBit (q M) = true then 1 else 0) := rfl
    by_cases hb : S.testBit (q M) = true
    · rw [if_pos hb] at h1
      by_cases him : i = omCt q S M
      · exact ⟨M, by omega, hb, him.symm⟩
      · obtain ⟨m, m1, m2⟩ := ih i (by omega)
        exact ⟨m, by omega, m2⟩
    · rw [if_neg hb] at h1
      obtain ⟨m, m1, m2⟩ := ih i (by omega)
      exact ⟨m, by omega, m2⟩
/-- the taken, and the dropped behind them -/
def omQf (n : Nat) (q : Nat → Nat) (S : Nat) (D : Nat → Nat) (i : Nat) : Nat := if i < omCt q S n then omKp q S n i else D (i - omCt q S n)
theorem omQf_ok {n c S : Nat} {q D : Nat → Nat} (hq : ∀ i, i < n → q i < n) (hs : ∀ j, j < n → ∃ i, i < n ∧ q i = j) (h2 : ∀ i, i < n → S.testBit (q i) = true ∨ ∃ x, x < c ∧ D x = q i) (h3 : omCt q S n + c = n) (h5 : ∀ x, x < c → D x < n) : (∀ i, i < n → omQf n q S D i < n) ∧ (∀ j, j < n → ∃ i, i < n ∧ omQf n q S D i = j) ∧ (∀ m, m < n → S.testBit (q m) = true → omQf n q S D (omCt q S m) = q m) ∧ ∀ i, i < c → omQf n q S D (omCt q S n + i) = D i := by
  have hk : ∀ m, m < n → S.testBit (q m) = true → omCt q S m < omCt q S n := by
    intro m hm hb
    have h1 : omCt q S (m + 1) = omCt q S m + (if S.testBit (q m) = true then 1 else 0) := rfl
    rw [if_pos hb] at h1
    have := omCt_mono (q := q) (S := S) (show m + 1 ≤ n by omega)
    omega
  have ha : ∀ m, m < n → S.testBit (q m) = true → omQf n q S D (omCt q S m) = q m := by
    intro m hm hb
    unfold omQf
    rw [if_pos (hk m hm hb)]
    exact omKp_at n m hm hb
  have hb : ∀ i, i < c → omQf n q S D (omCt q S n + i) = D i := by
    intro i hi
    unfold omQf
    rw [if_neg (by omega), show omCt q S n + i - omCt q S n = i by omega]
  refine ⟨fun i hi => ?_, fun j hj => ?_, ha, hb⟩
  · by_cases hik : i < omCt q S n
    · obtain ⟨m, m1, m2, rfl⟩ := omCt_ex n i hik
      rw [ha m m1 m2]; exact hq m m1
    · rw [show i = omCt q S n + (i - omCt q S n) by omega, hb _ (by omega)]
      exact h5 _ (by omega)
  · obtain ⟨m, hm, rfl⟩ := hs j hj
    rcases h2 m hm with h | ⟨x, hx, hxq⟩
    · exact ⟨omCt q S m, by have := hk m hm h; omega, ha m hm h⟩
    · exact ⟨omCt q S n + x, by omega, by rw [hb x hx]; exact hxq⟩
/-! .. the class's -/
theorem l_X7_orderWithFewestLate_18_eq {n : Nat} {p d w r f s : Nat → Int} {q : Nat → Nat} (hok : omOk n p d w r f s) (hq : ∀ i, i < n → q i < n) (hinj : ∀ i k, i < n → k < n → q i = q k → i = k) : ∀ (k m fuel : Nat) (σ : omH), m + k = n → k < fuel → omCv n p d w r f s σ → (∀ i, i < n → σ 31 i = q i) → (∀ i, i < (omFw n p d q m).2.1 → σ 32 i = ((omFw n p d q m).2.2 i : Nat)) →
    ∃ σ', l_X7_orderWithFewestLate_18 fuel ((omFw n p d q m).1 : Nat) ((omFw n p d q m).2.1 : Nat) m σ = some ((((omFw n p d q n).1 : Nat) : Int), (((omFw n p d q n).2.1 : Nat) : Int), σ') ∧ omEx [32] σ σ' ∧ ∀ i, i < (omFw n p d q n).2.1 → σ' 32 i = ((omFw n p d q n).2.2 i : Nat) := by
  have hn := hok.1
  have hpw := om_pow_le hn
  intro k
  induction k with
  | zero =>
    intro m fuel σ hk hf hc hr hD
    obtain ⟨fuel, rfl⟩ : ∃ z, fuel = z + 1 := ⟨fuel - 1, by omega⟩
    have : m = n := by omega
    subst this
    rw [l_X7_orderWithFewestLate_18.eq_2, hc.1, if_neg (by omega)]
    exact ⟨σ, rfl, omEx.rfl', hD⟩
  | succ k ih =>
    intro m fuel σ hk hf hc hr hD
    obtain ⟨fuel, rfl⟩ : ∃ z, fuel = z + 1 := ⟨fuel - 1, by omega⟩
    have hmn : m < n := by omega
    have hqm := hq m hmn
    have ho := hok.2.1 (q m) hqm
    obtain ⟨f1, f2, f3, f4, f5⟩ := omFw_ok hok hq hinj m (by omega)
    have glt : (omFw n p d q m).1 ||| 2 ^ (q m) < 2 ^ n := om_ins_lt f4 hqm
    have hL := omLn_rng (S := (omFw n p d q m).1 ||| 2 ^ (q m)) hok (Nat.le_refl n)
    rw [l_X7_orderWithFewestLate_18.eq_2, hc.1, om_wn (show m < 2147483648 by omega), om_wn (show n < 2147483648 by omega), if_pos (by omega), omg_t ⟨by omega, by omega⟩, Int.toNat_natCast, hr m hmn, om_ins (by omega) (by omega), s_X2_lengthOfSet_eq hok hc (by omega), om_b0, om_wn (show q m < 2147483648 by omega), omg_t ⟨by omega, by omega⟩, Int.toNat_natCast, hc.2.2.1, omw_id (a := d (q m)) (by omega) (by omega), omw_id (a := omLn n p ((omFw n p d q m).1 ||| 2 ^ (q m))) (by omega) (by omega), show ((m : Int) + 1) = ((m + 1 : Nat) : Int) by omega]
    by_cases hcd : d (q m) < omLn n p ((omFw n p d q m).1 ||| 2 ^ (q m))
    · have hl := omLg_ok (p := p) (S := (omFw n p d q m).1 ||| 2 ^ (q m)) n
      have hl4 := hl.2.2.2 ⟨q m, hqm, by rw [om_ins_bit]; simp⟩
      have h7 := l_X7_longestOf_7_eq (S := (omFw n p d q m).1 ||| 2 ^ (q m)) hok hc (by omega) n 0 FU (by omega) (by rw [FU_eq]; omega)
      have h7' : l_X7_longestOf_7 (((omFw n p d q m).1 ||| 2 ^ (q m) : Nat) : Int) σ FU 0 0 0 = some (if omLg p ((omFw n p d q m).1 ||| 2 ^ (q m)) n = -1 then 0 else omLg p ((omFw n p d q m).1 ||| 2 ^ (q m)) n) := h7
      rw [if_neg hl4] at h7'
      have hcast : omLg p ((omFw n p d q m).1 ||| 2 ^ (q m)) n = (((omLg p ((omFw n p d q m).1 ||| 2 ^ (q m)) n).toNat : Nat) : Int) := by omega
      rw [if_pos hcd]
      unfold s_X7_longestOf
      rw [h7', om_b0, om_b0, om_wn (show (omFw n p d q m).2.1 < 2147483648 by omega), omg_t ⟨by omega, by omega⟩, Int.toNat_natCast, hcast, om_del_all _ (by omega) _ (by omega)]
      have e := omFw_t hcd
      have ex1 : omEx [32] σ (omsu σ 32 (omFw n p d q m).2.1 ((omLg p ((omFw n p d q m).1 ||| 2 ^ (q m)) n).toNat : Nat)) := omEx.su (by simp)
      obtain ⟨σ', z1, z2, z3⟩ := ih (m + 1) fuel (omsu σ 32 (omFw n p d q m).2.1 ((omLg p ((omFw n p d q m).1 ||| 2 ^ (q m)) n).toNat : Nat)) (by omega) (by omega) (hc.ex ex1 (by simp)) (fun i hi => by rw [ex1 31 (by simp)]; exact hr i hi) (fun i hi => by
        rw [e] at hi ⊢
        have hi' : i < (omFw n p d q m).2.1 + 1 := hi
        show _ = (((if i = (omFw n p d q m).2.1 then (omLg p ((omFw n p d q m).1 ||| 2 ^ (q m)) n).toNat else (omFw n p d q m).2.2 i : Nat)) : Int)
        by_cases hic : i = (omFw n p d q m).2.1
        · rw [if_pos hic, hic, omsu_s]
        · rw [if_neg hic, omsu_n (Or.inr hic)]
          exact hD i (by omega))
      rw [e] at z1
      exact ⟨σ', z1, ex1.trans z2, z3⟩
    · rw [if_neg hcd]
      have e := omFw_f hcd
      obtain ⟨σ', z1, z2, z3⟩ := ih (m + 1) fuel σ (by omega) (by omega) hc hr (fun i hi => by
        rw [e] at hi ⊢
        exact hD i hi)
      rw [e] at z1
      exact ⟨σ', z1, z2, z3⟩
theorem l_X7_putDroppedBehind_6_eq {n S : Nat} {u : Int} {p d w r f s : Nat → Int} {q Q : Nat → Nat} (hok : omOk n p d w r f s) (hq : ∀ i, i < n → q i < n) (hS : S < 1024) (hQ : ∀ m, m < n → S.testBit (q m) = true → Q (omCt q S m) = q m) : ∀ (k m fuel : Nat) (σ : omH), m + k = n → k < fuel → omCv n p d w r f s σ → (∀ i, i < n → σ 31 i = q i) → (∀ i, i < omCt q S m → σ 30 i = Q i) →
    ∃ σ', l_X7_putDroppedBehind_6 S u fuel (omCt q S m : Nat) m σ = some (((omCt q S n : Nat) : Int), σ') ∧ omEx [30] σ σ' ∧ ∀ i, i < omCt q S n → σ' 30 i = Q i := by
  have hn := hok.1
  intro k
  induction k with
  | zero =>
    intro m fuel σ hk hf hc hr hD
    obtain ⟨fuel, rfl⟩ : ∃ z, fuel = z + 1 := ⟨fuel - 1, by omega⟩
    have : m = n := by omega
    subst this
    rw [l_X7_putDroppedBehind_6.eq_2, hc.1, if_neg (by omega)]
    exact ⟨σ, rfl, omEx.rfl', hD⟩
  | succ k ih =>
    intro m fuel σ hk hf hc hr hD
    obtain ⟨fuel, rfl⟩ : ∃ z, fuel = z + 1 := ⟨fuel - 1, by omega⟩
    have hmn : m < n := by omega
    have hqm := hq m hmn
    have hle := omCt_le (q := q) (S := S) m
    have e0 : omCt q S (m + 1) = omCt q S m + (if S.testBit (q m) = true then 1 else 0) := rfl
    rw [l_X7_putDroppedBehind_6.eq_2, hc.1, om_wn (show m < 2147483648 by omega), om_wn (show n < 2147483648 by omega), if_pos (by omega), omg_t ⟨by omega, by omega⟩, Int.toNat_natCast, hr m hmn, s_X2_isIn_eq (by omega) (by omega), om_b0, show ((m : Int) + 1) = ((m + 1 : Nat) : Int) by omega]
    by_cases hb : S.testBit (q m) = true
    · rw [if_pos hb] at e0
      rw [if_pos hb, if_neg (by decide), omg_t ⟨by omega, by omega⟩, om_wn (show omCt q S m < 2147483648 by omega), omg_t ⟨by omega, by omega⟩, Int.toNat_natCast, show (((omCt q S m : Nat) : Int) + 1) = ((omCt q S (m + 1) : Nat) : Int) by omega]
      have ex1 : omEx [30] σ (omsu σ 30 (omCt q S m) (q m : Nat)) := omEx.su (by simp)
      obtain ⟨σ', z1, z2, z3⟩ := ih (m + 1) fuel (omsu σ 30 (omCt q S m) (q m : Nat)) (by omega) (by omega) (hc.ex ex1 (by simp)) (fun i hi => by rw [ex1 31 (by simp)]; exact hr i hi) (fun i hi => by
        by_cases hic : i = omCt q S m
        · rw [hic, omsu_s, hQ m hmn hb]
        · rw [omsu_n (Or.inr hic)]
          exact hD i (by omega))
      exact ⟨σ', z1, ex1.trans z2, z3⟩
    · rw [if_neg hb] at e0
      rw [if_neg hb, if_pos (by decide)]
      obtain ⟨σ', z1, z2, z3⟩ := ih (m + 1) fuel σ (by omega) (by omega) hc hr (fun i hi => hD i (by omega))
      rw [show omCt q S (m + 1) = omCt q S m from e0] at z1
      exact ⟨σ', z1, z2, z3⟩
theorem l_X7_putDroppedBehind_56_eq {n c t : Nat} {D Q : Nat → Nat} (hn : n ≤ 10) (htc : t + c = n) (hQ : ∀ i, i < c → Q (t + i) = D i) : ∀ (k m fuel : Nat) (σ : omH), m + k = c → k < fuel → (∀ i, i < c → σ 32 i = D i) → (∀ i, i < t + m → σ 30 i = Q i) →
    ∃ σ', l_X7_putDroppedBehind_56 c fuel ((t + m : Nat) : Int) m σ = some σ' ∧ omEx [30] σ σ' ∧ ∀ i, i < n → σ' 30 i = Q i := by
  intro k
  induction k with
  | zero =>
    intro m fuel σ hk hf hr hD
    obtain ⟨fuel, rfl⟩ : ∃ z, fuel = z + 1 := ⟨fuel - 1, by omega⟩
    rw [l_X7_putDroppedBehind_56.eq_2, om_wn (show m < 2147483648 by omega), om_wn (show c < 2147483648 by omega), if_neg (by omega)]
    exact ⟨σ, rfl, omEx.rfl', fun i hi => hD i (by omega)⟩
  | succ k ih =>
    intro m fuel σ hk hf hr hD
    obtain ⟨fuel, rfl⟩ : ∃ z, fuel = z + 1 := ⟨fuel - 1, by omega⟩
    rw [l_X7_putDroppedBehind_56.eq_2, om_wn (show m < 2147483648 by omega), om_wn (show c < 2147483648 by omega), om_wn (show t + m < 2147483648 by omega), if_pos (by omega), omg_t ⟨by omega, by omega⟩, omg_t ⟨by omega, by omega⟩, Int.toNat_natCast, Int.toNat_natCast, hr m (by omega), show ((m : Int) + 1) = ((m + 1 : Nat) : Int) by omega, show (((t + m : Nat) : Int) + 1) = ((t + (m + 1) : Nat) : Int) by omega]
    have ex1 : omEx [30] σ (omsu σ 30 (t + m) (D m : Nat)) := omEx.su (by simp)
    obtain ⟨σ', z1, z2, z3⟩ := ih (m + 1) fuel (omsu σ 30 (t + m) (D m : Nat)) (by omega) (by omega) (fun i hi => by rw [ex1 32 (by simp)]; exact hr i hi) (fun i hi => by
      by_cases hic : i = t + m
      · rw [hic, omsu_s, hQ m (by omega)]
      · rw [omsu_n (Or.inr hic)]
        exact hD i (by omega))
    exact ⟨σ', z1, ex1.trans z2, z3⟩
