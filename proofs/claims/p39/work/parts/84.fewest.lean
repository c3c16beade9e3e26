/-! ===== p39: the number of late jobs in Moore and Hodgson's plan is the fewest by sets ===== -/
theorem om_mask (n : Nat) (P : Nat → Prop) : ∃ S, S < 2 ^ n ∧ ∀ b, S.testBit b = true ↔ b < n ∧ P b := by
  induction n with
  | zero => exact ⟨0, by decide, fun b => by rw [Nat.zero_testBit]; exact ⟨fun h => (by cases h), fun h => by omega⟩⟩
  | succ n ih =>
    obtain ⟨S, h1, h2⟩ := ih
    have h3 : S < 2 ^ (n + 1) := Nat.lt_trans h1 (Nat.pow_lt_pow_right (by decide) (by omega))
    by_cases hP : P n
    · refine ⟨S ||| 2 ^ n, om_ins_lt h3 (by omega), fun b => ?_⟩
      rw [om_ins_bit, Bool.or_eq_true, h2, decide_eq_true_eq]
      constructor
      · rintro (⟨a, b⟩ | rfl)
        · exact ⟨by omega, b⟩
        · exact ⟨by omega, hP⟩
      · rintro ⟨a, c⟩
        by_cases hb : n = b
        · exact Or.inr hb
        · exact Or.inl ⟨by omega, c⟩
    · refine ⟨S, h3, fun b => ?_⟩
      rw [h2]
      constructor
      · rintro ⟨a, b⟩; exact ⟨by omega, b⟩
      · rintro ⟨a, c⟩
        refine ⟨?_, c⟩
        by_cases hb : b = n
        · subst hb; exact absurd c hP
        · omega
theorem omPop_ln {n S : Nat} (hn : n ≤ 10) (hS : S < 2 ^ n) : omPop S = omLn n (fun _ => 1) S := omSum_tail hn (fun i h1 h2 => by
  have : S.testBit i = false := Nat.testBit_lt_two_pow (Nat.lt_of_lt_of_le hS (Nat.pow_le_pow_right (by decide) h1))
  rw [this]; rfl)
/-- what is done behind the kept ones of so many first places -/
theorem omPs_kept {n S : Nat} {p : Nat → Int} {q Q : Nat → Nat} (hQ : ∀ m, m < n → S.testBit (q m) = true → Q (omCt q S m) = q m) : ∀ m, m ≤ n → omPs p Q (omCt q S m) = omTq p q S m := by
  intro m
  induction m with
  | zero => intro _; rfl
  | succ m ih =>
    intro hm
    have h1 := ih (by omega)
    have e1 : omCt q S (m + 1) = omCt q S m + (if S.testBit (q m) = true then 1 else 0) := rfl
    have e2 : omTq p q S (m + 1) = omTq p q S m + (if S.testBit (q m) then p (q m) else 0) := rfl
    by_cases hb : S.testBit (q m) = true
    · rw [if_pos hb] at e1
      rw [if_pos hb] at e2
      rw [e1, e2, ← h1]
      show omPs p Q (omCt q S m) + p (Q (omCt q S m)) = _
      rw [hQ m (by omega) hb]
    · rw [if_neg hb] at e1
      rw [if_neg hb] at e2
      rw [e1, e2, Nat.add_zero, h1]
      omega
/-- the jobs that a plan in a row has on time can be on time by due dates -/
theorem om_ontime_set {n : Nat} {p d w r f s C : Nat → Int} {q Q : Nat → Nat} (hok : omOk n p d w r f s) (hq : omSt (omBk d) n q) (hQ : omSq n Q) (hC : ∀ i, i < n → C (Q i) = omPs p Q (i + 1)) {S : Nat} (hS : ∀ b, S.testBit b = true → b < n ∧ C b ≤ d b) : omOq n p d q S := by
  have hinj := fun i k (hi : i < n) (hk : k < n) => omSt.inj (omBk_so n d) hq hi hk
  obtain ⟨g1, g2, g3⟩ := omSs_perm hQ
  intro k hk hb
  -- the set of the first k + 1 places
  obtain ⟨A, hA, hAb⟩ := om_mask n (fun b => S.testBit b = true ∧ ∃ i, i < k + 1 ∧ q i = b)
  have hqk := hq.1 k hk
  have hkA : A.testBit (q k) = true := (hAb _).mpr ⟨hqk, hb, k, by omega, rfl⟩
  have e1 : omTq p q S (k + 1) = omTq p q A (k + 1) := omTq_congr (fun i hi => by
    cases hx : A.testBit (q i) with
    | true => exact ((hAb _).mp hx).2.1
    | false =>
      cases hy : S.testBit (q i) with
      | false => rfl
      | true =>
        have : A.testBit (q i) = true := (hAb _).mpr ⟨hq.1 i (by omega), hy, i, hi, rfl⟩
        rw [hx] at this
        cases this)
  rw [e1, om_tq_ln hq.1 hinj (by omega) (fun b hb0 => ((hAb b).mp hb0).2.2)]
  obtain ⟨a, ha, haj⟩ := g3 (q k) hqk
  obtain ⟨x, hx, hxA, hl⟩ := om_last (n := n) (P := fun i => A.testBit (Q i) = true) ⟨a, ha, by rw [haj]; exact hkA⟩
  have hxS := (hAb _).mp hxA
  obtain ⟨-, hxS1, y, hy, hyq⟩ := hxS
  have hCd := (hS _ hxS1).2
  have hdd : d (Q x) ≤ d (q k) := by
    rw [← hyq]
    by_cases he : y = k
    · rw [he]; exact Int.le_refl _
    · have := hq.2.2 y k (by omega) hk
      unfold omBk at this
      omega
  have e2 : omLn n p A = omSum n (fun i => if A.testBit (Q i) then p (Q i) else 0) := (omSum_perm (g := fun j => if A.testBit j then p j else 0) g1 g2 g3).symm
  have e3 : omSum n (fun i => if A.testBit (Q i) then p (Q i) else 0) = omSum (x + 1) (fun i => if A.testBit (Q i) then p (Q i) else 0) := omSum_tail (by omega) (fun i hi hin => if_neg (hl i hin (by omega)))
  have e4 : omSum (x + 1) (fun i => if A.testBit (Q i) then p (Q i) else 0) ≤ omPs p Q (x + 1) := omSum_le (fun i hi => by
    have := hok.2.1 (Q i) (g1 i (by omega))
    show (if A.testBit (Q i) then p (Q i) else 0) ≤ p (Q i)
    split <;> omega)
  have := hC x hx
  omega
theorem om_late_sum {n S : Nat} {d w C : Nat → Int} (hS : ∀ b, b < n → (S.testBit b = true ↔ C b ≤ d b)) : omTot n 1 d w C = n - omLn n (fun _ => 1) S := by
  have e1 : omTot n 1 d w C = omSum n (omCs 1 d w C) := if_neg (by decide)
  have e2 : omSum n (fun j => omCs 1 d w C j + (if S.testBit j then (1 : Int) else 0)) = omSum n (fun _ => (1 : Int)) := omSum_congr (fun j hj => by
    have e : omCs 1 d w C j = if 0 < C j - d j then 1 else 0 := by
      show (if (1 : Nat) = 0 then _ else if (1 : Nat) = 1 then (if 0 < C j - d j then (1 : Int) else 0) else _) = _
      rw [if_neg (by decide), if_pos rfl]
    rw [e]
    by_cases h : C j ≤ d j
    · rw [if_neg (by omega), if_pos ((hS j hj).mpr h)]; rfl
    · rw [if_pos (by omega), if_neg (fun hb => h ((hS j hj).mp hb))]; rfl)
  have e3 : ∀ k : Nat, omSum k (fun _ => (1 : Int)) = k := by
    intro k
    induction k with
    | zero => rfl
    | succ k ih =>
      show omSum k (fun _ => (1 : Int)) + 1 = _
      rw [ih]; omega
  rw [omSum_add, e3] at e2
  rw [e1]
  show omSum n (omCs 1 d w C) = n - omSum n (fun j => if S.testBit j then (1 : Int) else 0)
  omega
theorem om_fewest {n : Nat} {p d w r f s C : Nat → Int} {q : Nat → Nat} (hok : omOk n p d w r f s) (hq : omSt (omBk d) n q) (hQ : omSq n (omQf n q (omFw n p d q n).1 (omFw n p d q n).2.2)) (hC : ∀ i, i < n → C (omQf n q (omFw n p d q n).1 (omFw n p d q n).2.2 i) = omPs p (omQf n q (omFw n p d q n).1 (omFw n p d q n).2.2) (i + 1)) :
    omTot n 1 d w C = (omFw n p d q n).2.1 ∧ ((omFw n p d q n).2.1 : Int) = n - omMo n p d q (2 ^ n) := by
  have hn := hok.1
  have hinj := fun i k (hi : i < n) (hk : k < n) => omSt.inj (omBk_so n d) hq hi hk
  obtain ⟨f1, f2, f3, f4, f5⟩ := omFw_ok hok hq.1 hinj n (Nat.le_refl n)
  obtain ⟨g1, g2, g3, g4⟩ := omQf_ok hq.1 hq.2.1 f2 f3 f5
  obtain ⟨k1, k2⟩ := om_kept hok hq n (Nat.le_refl n)
  have hct := omPop_ct hn f4 hq.1 hinj hq.2.1
  have hpl := omPop_ln hn f4
  obtain ⟨m1, m2, m3, m4⟩ := omMo_char (n := n) (p := p) (d := d) (q := q) (2 ^ n)
  obtain ⟨B, b1, b2, b3⟩ := m2 (Nat.two_pow_pos n)
  have hBl := omPop_ln hn b1
  have hBs : omFs q n B := fun b hb => by
    have hbn : b < n := Classical.byContradiction (fun hge => by
      have : B.testBit b = false := Nat.testBit_lt_two_pow (Nat.lt_of_lt_of_le b1 (Nat.pow_le_pow_right (by decide) (by omega)))
      rw [this] at hb; cases hb)
    exact hq.2.1 b hbn
  obtain ⟨T, t1, t2, t3⟩ := om_moore hok hq.1 hinj n (Nat.le_refl n) B hBs b2
  have hTK := omLn_sub (n := n) (g := fun _ => (1 : Int)) (fun i _ => by decide) (fun i _ hb => t1 i hb)
  have hKm := m1 _ f4 k1
  have hm : omPop (omFw n p d q n).1 = omMo n p d q (2 ^ n) := by omega
  obtain ⟨S, s1, s2⟩ := om_mask n (fun b => C b ≤ d b)
  have hSl := omPop_ln hn s1
  have hSo := om_ontime_set hok hq hQ hC (S := S) (fun b hb => (s2 b).mp hb)
  have hSm := m1 S s1 hSo
  have hKS : omLn n (fun _ => (1 : Int)) (omFw n p d q n).1 ≤ omLn n (fun _ => (1 : Int)) S := omLn_sub (fun i _ => by decide) (fun i hi hb => by
    obtain ⟨m, hm1, rfl⟩ := f1 i hb
    refine (s2 _).mpr ⟨hi, ?_⟩
    have h1 := k1 m hm1 hb
    have h2 := g3 m hm1 hb
    have h3 : omCt q (omFw n p d q n).1 (m + 1) = omCt q (omFw n p d q n).1 m + (if (omFw n p d q n).1.testBit (q m) = true then 1 else 0) := rfl
    rw [if_pos hb] at h3
    have h4 := omPs_kept (p := p) g3 (m + 1) (by omega)
    have h5 := omCt_mono (q := q) (S := (omFw n p d q n).1) (show m + 1 ≤ n by omega)
    have h6 := hC (omCt q (omFw n p d q n).1 m) (by omega)
    rw [h2] at h6
    rw [h3] at h4
    omega)
  have hl := om_late_sum (w := w) (S := S) (C := C) (d := d) (n := n) (fun b hb => ⟨fun h => ((s2 b).mp h).2, fun h => (s2 b).mpr ⟨hb, h⟩⟩)
  constructor
  · rw [hl]; omega
  · omega
