/-! .. the reference's -/
/-- one more job of a sequence worked off -/
theorem s_X12_works_step {n k : Nat} {p d w r f s : Nat → Int} {q : Nat → Nat} {σ : omH} (hok : omOk n p d w r f s) (hq : ∀ i, i < n → q i < n) (hinj : ∀ i k, i < n → k < n → q i = q k → i = k) (hkn : k < n) (hP : omPM (omPl 0 p f s q k).1 σ) (hE : ∀ i, i < k → σ 53 (q i) = omEd 0 p f s q i) :
    ∃ σ2, s_X12_works 0 (q k : Int) (p (q k)) σ = some σ2 ∧ omPM (omPl 0 p f s q (k + 1)).1 σ2 ∧ omEx [43, 50, 51, 52, 53] σ σ2 ∧ (∀ i, i ≠ 9 → σ2 43 i = σ 43 i) ∧ ∀ i, i < k + 1 → σ2 53 (q i) = omEd 0 p f s q i := by
  have hn := hok.1
  have hj := hq k hkn
  have ho := hok.2.1 (q k) hj
  obtain ⟨o1, o2, o3⟩ := omPl_ok (v := 0) hok k (fun i hi => hq i (by omega))
  obtain ⟨σ2, c1, c2, c3, c4, c5, -⟩ := s_X12_works_eq (e := (0, (q k : Int), p (q k))) hP (by omega) (show (0 : Int) ≤ 50 * k ∧ (50 * k : Int) ≤ 100000 by omega) o1 ⟨Int.le_refl 0, by show (0 : Int) ≤ 2; decide⟩ ⟨by show -1 ≤ ((q k : Nat) : Int); omega, by show ((q k : Nat) : Int) ≤ 9; omega⟩ (fun _ => by show 0 ≤ ((q k : Nat) : Int); omega) ⟨by show 0 ≤ p (q k); omega, by show p (q k) ≤ 100000; omega⟩
  have c5' := c5 rfl
  refine ⟨σ2, c1, c2, c3, c4, fun i hi => ?_⟩
  rw [c5', Int.toNat_natCast]
  show (if q i = q k then _ else σ 53 (q i)) = _
  by_cases hik : i = k
  · subst hik
    rw [if_pos rfl]
    unfold omEd
    show _ = omNow (omAdd _ _)
    rw [omAdd_now (by show 0 ≤ p (q i); omega)]
    rfl
  · rw [if_neg (fun he => hik (hinj i k (by omega) hkn he))]
    exact hE i (by omega)
theorem l_X12_planFewestLate_24_eq {n : Nat} {p d w r f s : Nat → Int} {q : Nat → Nat} (hok : omOk n p d w r f s) (hq : ∀ i, i < n → q i < n) (hinj : ∀ i k, i < n → k < n → q i = q k → i = k) : ∀ (k m fuel : Nat) (σ : omH), m + k = n → k < fuel → omMv n p d w r f s σ → (∀ i, i < n → σ 54 i = q i) → (∀ i, i < (omFw n p d q m).2.1 → σ 55 i = ((omFw n p d q m).2.2 i : Nat)) →
    ∃ σ', l_X12_planFewestLate_24 fuel ((omFw n p d q m).1 : Nat) ((omFw n p d q m).2.1 : Nat) m σ = some ((((omFw n p d q n).1 : Nat) : Int), (((omFw n p d q n).2.1 : Nat) : Int), σ') ∧ omEx [55] σ σ' ∧ ∀ i, i < (omFw n p d q n).2.1 → σ' 55 i = ((omFw n p d q n).2.2 i : Nat) := by
  have hn := hok.1
  have hpw := om_pow_le hn
  intro k
  induction k with
  | zero =>
    intro m fuel σ hk hf hc hr hD
    obtain ⟨fuel, rfl⟩ : ∃ z, fuel = z + 1 := ⟨fuel - 1, by omega⟩
    have : m = n := by omega
    subst this
    rw [l_X12_planFewestLate_24.eq_2, hc.1, if_neg (by omega)]
    exact ⟨σ, rfl, omEx.rfl', hD⟩
  | succ k ih =>
    intro m fuel σ hk hf hc hr hD
    obtain ⟨fuel, rfl⟩ : ∃ z, fuel = z + 1 := ⟨fuel - 1, by omega⟩
    have hmn : m < n := by omega
    have hqm := hq m hmn
    have ho := hok.2.1 (q m) hqm
    obtain ⟨f1, f2, f3, f4, f5⟩ := omFw_ok hok hq hinj m (by omega)
    have glt : (omFw n p d q m).1 ||| 2 ^ (q m) < 2 ^ n := om_ins_lt f4 hqm
    have hL := omLn_rng (S := (omFw n p d q m).1 ||| 2 ^ (q m)) hok (Nat.le_refl n)
    rw [l_X12_planFewestLate_24.eq_2, hc.1, om_wn (show m < 2147483648 by omega), om_wn (show n < 2147483648 by omega), if_pos (by omega), omg_t ⟨by omega, by omega⟩, Int.toNat_natCast, hr m hmn, om_ins (by omega) (by omega), s_X12_lengthOf_eq hok hc (by omega), om_b0, om_wn (show q m < 2147483648 by omega), omg_t ⟨by omega, by omega⟩, Int.toNat_natCast, hc.2.2.1, omw_id (a := d (q m)) (by omega) (by omega), omw_id (a := omLn n p ((omFw n p d q m).1 ||| 2 ^ (q m))) (by omega) (by omega), show ((m : Int) + 1) = ((m + 1 : Nat) : Int) by omega]
    by_cases hcd : d (q m) < omLn n p ((omFw n p d q m).1 ||| 2 ^ (q m))
    · have hl := omLg_ok (p := p) (S := (omFw n p d q m).1 ||| 2 ^ (q m)) n
      have hl4 := hl.2.2.2 ⟨q m, hqm, by rw [om_ins_bit]; simp⟩
      have h7 := l_X12_planFewestLate_68_eq (S := (omFw n p d q m).1 ||| 2 ^ (q m)) (u1 := (((omFw n p d q m).2.1 : Nat) : Int)) (u2 := (m : Int)) hok hc (by omega) n 0 FU (by omega) (by rw [FU_eq]; omega)
      have h7' : l_X12_planFewestLate_68 (((omFw n p d q m).1 ||| 2 ^ (q m) : Nat) : Int) (((omFw n p d q m).2.1 : Nat) : Int) (m : Int) σ FU (-1) 0 = some (omLg p ((omFw n p d q m).1 ||| 2 ^ (q m)) n) := h7
      have hcast : omLg p ((omFw n p d q m).1 ||| 2 ^ (q m)) n = (((omLg p ((omFw n p d q m).1 ||| 2 ^ (q m)) n).toNat : Nat) : Int) := by omega
      rw [if_pos hcd]
      rw [h7', om_b0, om_wn (show (omFw n p d q m).2.1 < 2147483648 by omega), omg_t ⟨by omega, by omega⟩, Int.toNat_natCast, hcast, om_del_all _ (by omega) _ (by omega)]
      have e := omFw_t hcd
      have ex1 : omEx [55] σ (omsu σ 55 (omFw n p d q m).2.1 ((omLg p ((omFw n p d q m).1 ||| 2 ^ (q m)) n).toNat : Nat)) := omEx.su (by simp)
      obtain ⟨σ', z1, z2, z3⟩ := ih (m + 1) fuel (omsu σ 55 (omFw n p d q m).2.1 ((omLg p ((omFw n p d q m).1 ||| 2 ^ (q m)) n).toNat : Nat)) (by omega) (by omega) (hc.ex ex1 (by simp)) (fun i hi => by rw [ex1 54 (by simp)]; exact hr i hi) (fun i hi => by
        rw [e] at hi ⊢
        have hi' : i < (omFw n p d q m).2.1 + 1 := hi
        show _ = (((if i = (omFw n p d q m).2.1 then (omLg p ((omFw n p d q m).1 ||| 2 ^ (q m)) n).toNat else (omFw n p d q m).2.2 i : Nat)) : Int)
        by_cases hic : i = (omFw n p d q m).2.1
        · rw [if_pos hic, hic, omsu_s]
        · rw [if_neg hic, omsu_n (Or.inr hic)]
          exact hD i (by omega))
      rw [e] at z1
      exact ⟨σ', z1, ex1.trans z2, z3⟩
    · rw [if_neg hcd]
      have e := omFw_f hcd
      obtain ⟨σ', z1, z2, z3⟩ := ih (m + 1) fuel σ (by omega) (by omega) hc hr (fun i hi => by
        rw [e] at hi ⊢
        exact hD i hi)
      rw [e] at z1
      exact ⟨σ', z1, z2, z3⟩
theorem l_X12_planFewestLate_153_eq {n S : Nat} {u : Int} {p d w r f s : Nat → Int} {q Q : Nat → Nat} (hok : omOk n p d w r f s) (hq : ∀ i, i < n → q i < n) (hS : S < 1024) (hQ0 : ∀ i, i < n → Q i < n) (hQi : ∀ i k, i < n → k < n → Q i = Q k → i = k) (hQ : ∀ m, m < n → S.testBit (q m) = true → Q (omCt q S m) = q m) : ∀ (k m fuel : Nat) (σ : omH), m + k = n → k < fuel → omMv n p d w r f s σ → (∀ i, i < n → σ 54 i = q i) → omPM (omPl 0 p f s Q (omCt q S m)).1 σ → (∀ i, i < omCt q S m → σ 53 (Q i) = omEd 0 p f s Q i) →
    ∃ σ', l_X12_planFewestLate_153 S u fuel m σ = some σ' ∧ omPM (omPl 0 p f s Q (omCt q S n)).1 σ' ∧ omEx [43, 50, 51, 52, 53] σ σ' ∧ (∀ i, i ≠ 9 → σ' 43 i = σ 43 i) ∧ ∀ i, i < omCt q S n → σ' 53 (Q i) = omEd 0 p f s Q i := by
  have hn := hok.1
  intro k
  induction k with
  | zero =>
    intro m fuel σ hk hf hc hr hP hE
    obtain ⟨fuel, rfl⟩ : ∃ z, fuel = z + 1 := ⟨fuel - 1, by omega⟩
    have : m = n := by omega
    subst this
    rw [l_X12_planFewestLate_153.eq_2, hc.1, if_neg (by omega)]
    exact ⟨σ, rfl, hP, omEx.rfl', fun _ _ => rfl, hE⟩
  | succ k ih =>
    intro m fuel σ hk hf hc hr hP hE
    obtain ⟨fuel, rfl⟩ : ∃ z, fuel = z + 1 := ⟨fuel - 1, by omega⟩
    have hmn : m < n := by omega
    have hqm := hq m hmn
    have hle := omCt_le (q := q) (S := S) m
    have e0 : omCt q S (m + 1) = omCt q S m + (if S.testBit (q m) = true then 1 else 0) := rfl
    rw [l_X12_planFewestLate_153.eq_2, hc.1, om_wn (show m < 2147483648 by omega), om_wn (show n < 2147483648 by omega), if_pos (by omega), omg_t ⟨by omega, by omega⟩, Int.toNat_natCast, hr m hmn, om_bit (by omega) (by omega), show ((m : Int) + 1) = ((m + 1 : Nat) : Int) by omega]
    by_cases hb : S.testBit (q m) = true
    · rw [if_pos hb] at e0
      rw [if_pos hb, if_pos rfl, om_wn (show q m < 2147483648 by omega)]
      simp only [omg_t (show (0 : Int) ≤ (m : Int) ∧ (m : Int) < 10 by omega)]
      rw [omg_t ⟨by omega, by omega⟩, Int.toNat_natCast, hc.2.1]
      obtain ⟨τ, x1, x2, x3, x4, x5⟩ := s_X12_works_step hok hQ0 hQi (show omCt q S m < n by omega) hP hE
      rw [hQ m hmn hb] at x1
      rw [x1, om_b0]
      obtain ⟨σ', z1, z2, z3, z4, z5⟩ := ih (m + 1) fuel τ (by omega) (by omega) (hc.ex2 x3 (x4 1 (by decide)) (by simp)) (fun i hi => by rw [x3 54 (by simp)]; exact hr i hi) (by rw [e0]; exact x2) (by rw [e0]; exact x5)
      exact ⟨σ', z1, z2, x3.trans z3, fun i hi => by rw [z4 i hi, x4 i hi], z5⟩
    · rw [if_neg hb] at e0
      rw [if_neg hb, if_neg (by decide)]
      obtain ⟨σ', z1, z2, z3, z4, z5⟩ := ih (m + 1) fuel σ (by omega) (by omega) hc hr (by rw [e0]; exact hP) (by rw [e0]; exact hE)
      exact ⟨σ', z1, z2, z3, z4, z5⟩
theorem l_X12_planFewestLate_205_eq {n c t : Nat} {p d w r f s : Nat → Int} {D Q : Nat → Nat} (hok : omOk n p d w r f s) (htc : t + c = n) (hQ0 : ∀ i, i < n → Q i < n) (hQi : ∀ i k, i < n → k < n → Q i = Q k → i = k) (hQ : ∀ i, i < c → Q (t + i) = D i) : ∀ (k m fuel : Nat) (σ : omH), m + k = c → k < fuel → omMv n p d w r f s σ → (∀ i, i < c → σ 55 i = D i) → omPM (omPl 0 p f s Q (t + m)).1 σ → (∀ i, i < t + m → σ 53 (Q i) = omEd 0 p f s Q i) →
    ∃ σ', l_X12_planFewestLate_205 c fuel m σ = some σ' ∧ omPM (omPl 0 p f s Q n).1 σ' ∧ omEx [43, 50, 51, 52, 53] σ σ' ∧ (∀ i, i ≠ 9 → σ' 43 i = σ 43 i) ∧ ∀ i, i < n → σ' 53 (Q i) = omEd 0 p f s Q i := by
  have hn := hok.1
  intro k
  induction k with
  | zero =>
    intro m fuel σ hk hf hc hr hP hE
    obtain ⟨fuel, rfl⟩ : ∃ z, fuel = z + 1 := ⟨fuel - 1, by omega⟩
    rw [l_X12_planFewestLate_205.eq_2, om_wn (show m < 2147483648 by omega), om_wn (show c < 2147483648 by omega), if_neg (by omega)]
    have : t + m = n := by omega
    rw [this] at hP hE
    exact ⟨σ, rfl, hP, omEx.rfl', fun _ _ => rfl, hE⟩
  | succ k ih =>
    intro m fuel σ hk hf hc hr hP hE
    obtain ⟨fuel, rfl⟩ : ∃ z, fuel = z + 1 := ⟨fuel - 1, by omega⟩
    have hDn : D m < n := by rw [← hQ m (by omega)]; exact hQ0 _ (by omega)
    rw [l_X12_planFewestLate_205.eq_2, om_wn (show m < 2147483648 by omega), om_wn (show c < 2147483648 by omega), if_pos (by omega)]
    simp only [omg_t (show (0 : Int) ≤ (m : Int) ∧ (m : Int) < 10 by omega)]
    rw [Int.toNat_natCast, hr m (by omega), om_wn (show D m < 2147483648 by omega), omg_t ⟨by omega, by omega⟩, Int.toNat_natCast, hc.2.1]
    obtain ⟨τ, x1, x2, x3, x4, x5⟩ := s_X12_works_step hok hQ0 hQi (show t + m < n by omega) hP hE
    rw [hQ m (by omega)] at x1
    rw [x1, om_b0, show ((m : Int) + 1) = ((m + 1 : Nat) : Int) by omega]
    obtain ⟨σ', z1, z2, z3, z4, z5⟩ := ih (m + 1) fuel τ (by omega) (by omega) (hc.ex2 x3 (x4 1 (by decide)) (by simp)) (fun i hi => by rw [x3 55 (by simp)]; exact hr i hi) x2 x5
    exact ⟨σ', z1, z2, x3.trans z3, fun i hi => by rw [z4 i hi, x4 i hi], z5⟩
theorem om_planFewestLate {σ : omH} (hI : omInv σ) : omGood (s_L_planFewestLate σ) s_X12_planFewestLate := by
  obtain ⟨n, p, d, w, r, f, s, h1, h2, h3, h45, h6⟩ := id hI
  have hn := h1.1
  have hpw := om_pow_le hn
  by_cases hz : n = 0
  · refine omGood.th (k := 1) (v := 0) hI (Or.inl rfl) ?_ ?_
    · unfold s_L_planFewestLate s_X11_planFewestLate
      rw [(s_X11_needSomeJob_eq h1 h2).1 hz]
      rfl
    · unfold s_X12_planFewestLate
      rw [(s_X12_hasJobs_eq h1 h3).1 hz, om_b0, if_pos (by show omw 0 = 0; decide)]
  · obtain ⟨τ0, q, a1, a2, a3, a4⟩ := s_X2_fillInOrder_eq (c := 5) (a := 31) h1 h2 (by decide) (by decide)
    have hinj : ∀ i k, i < n → k < n → q i = q k → i = k := fun i k hi hk he => a3.inj (omKb_so h1) hi hk he
    have hc0 := h2.ex a2 (by simp)
    obtain ⟨f1, f2, f3, f4, f5⟩ := omFw_ok h1 a3.1 hinj n (Nat.le_refl n)
    obtain ⟨g1, g2, g3, g4⟩ := omQf_ok a3.1 a3.2.1 f2 f3 f5
    have hQi := om_onto g1 g2
    obtain ⟨τ1, b1, b2, b3⟩ := l_X7_orderWithFewestLate_18_eq h1 a3.1 hinj n 0 FU τ0 (by omega) (by rw [FU_eq]; omega) hc0 a4 (fun i hi => absurd hi (by show ¬ i < 0; omega))
    have b1' : l_X7_orderWithFewestLate_18 FU 0 0 0 τ0 = _ := b1
    have hc1 := hc0.ex b2 (by simp)
    obtain ⟨τ2, c1, c2, c3⟩ := l_X7_putDroppedBehind_6_eq (S := (omFw n p d q n).1) (u := (((omFw n p d q n).2.1 : Nat) : Int)) h1 a3.1 (by omega) g3 n 0 FU τ1 (by omega) (by rw [FU_eq]; omega) hc1 (fun i hi => by rw [b2 31 (by simp)]; exact a4 i hi) (fun i hi => absurd hi (by show ¬ i < 0; omega))
    have c1' : l_X7_putDroppedBehind_6 (((omFw n p d q n).1 : Nat) : Int) (((omFw n p d q n).2.1 : Nat) : Int) FU 0 0 τ1 = _ := c1
    have hc2 := hc1.ex c2 (by simp)
    obtain ⟨τ3, e1, e2, e3⟩ := l_X7_putDroppedBehind_56_eq (t := omCt q (omFw n p d q n).1 n) (c := (omFw n p d q n).2.1) hn f3 g4 (omFw n p d q n).2.1 0 FU τ2 (by omega) (by rw [FU_eq]; omega) (fun i hi => by rw [c2 32 (by simp)]; exact b3 i hi) (fun i hi => c3 i (by omega))
    have e1' : l_X7_putDroppedBehind_56 (((omFw n p d q n).2.1 : Nat) : Int) FU ((omCt q (omFw n p d q n).1 n : Nat) : Int) 0 τ2 = some τ3 := e1
    have hc3 := hc2.ex e2 (by simp)
    obtain ⟨τ4, k1, k2, k3, k4, k5, k6, k7⟩ := om_followed (v := 0) (c := 0) h1 (by decide) (by decide) g1 hQi g2 hc3 e3
    have hex1 : omEx [24, 25, 26, 27, 28, 30, 31, 32] σ τ4 := ((((a2.mono (by simp)).trans (b2.mono (by simp))).trans (c2.mono (by simp))).trans (e2.mono (by simp))).trans (k5.mono (by simp))
    have hm0 : omMv n p d w r f s (omsu τ4 60 0 (omw (((omFw n p d q n).2.1 : Nat) : Int))) := (h3.ex hex1 (by simp)).ex (W := [60]) (omEx.su (by simp)) (by simp)
    have hm1 : omMv n p d w r f s (omsu (omsu τ4 60 0 (omw (((omFw n p d q n).2.1 : Nat) : Int))) 43 0 0) := hm0.ex2 (W := [43]) (omEx.su (by simp)) (by rw [omsu_n (Or.inr (by decide))]) (by simp)
    obtain ⟨ρ1, m1, m2, m3⟩ := s_X12_laysOrder_eq (v := 1) h1 (by decide) hm1 a3
    have m1' : s_X12_laysOrder 1 (omsu (omsu τ4 60 0 (omw (((omFw n p d q n).2.1 : Nat) : Int))) 43 0 0) = some ρ1 := m1
    have hm2 := hm1.ex m2 (by simp)
    have exb : omEx [43, 50, 51, 52, 53] ρ1 (omsu (omsu ρ1 43 8 1) 43 9 0) := (omEx.su (by simp)).trans (omEx.su (by simp))
    have hm3 := hm2.ex2 exb (by rw [omsu_n (Or.inr (by decide)), omsu_n (Or.inr (by decide))]) (by simp)
    obtain ⟨ρ2, n1, n2, n3⟩ := l_X12_planFewestLate_24_eq h1 a3.1 hinj n 0 FU (omsu (omsu ρ1 43 8 1) 43 9 0) (by omega) (by rw [FU_eq]; omega) hm3 (fun i hi => by rw [exb 54 (by simp)]; exact m3 i hi) (fun i hi => absurd hi (by show ¬ i < 0; omega))
    have n1' : l_X12_planFewestLate_24 FU 0 0 0 (omsu (omsu ρ1 43 8 1) 43 9 0) = _ := n1
    have hm4 := hm3.ex n2 (by simp)
    obtain ⟨ρ3, o1, o2, o3, o4, o5⟩ := l_X12_planFewestLate_153_eq (S := (omFw n p d q n).1) (u := (((omFw n p d q n).2.1 : Nat) : Int)) h1 a3.1 (by omega) g1 hQi g3 n 0 FU ρ2 (by omega) (by rw [FU_eq]; omega) hm4 (fun i hi => by rw [n2 54 (by simp), exb 54 (by simp)]; exact m3 i hi) ⟨by rw [n2 43 (by simp), omsu_s]; rfl, by show 0 ≤ 20; decide, fun i x hx => by simp [omCt, omPl] at hx⟩ (fun i hi => absurd hi (by show ¬ i < 0; omega))
    have o1' : l_X12_planFewestLate_153 (((omFw n p d q n).1 : Nat) : Int) (((omFw n p d q n).2.1 : Nat) : Int) FU 0 ρ2 = some ρ3 := o1
    have hm5 := hm4.ex2 o3 (o4 1 (by decide)) (by simp)
    obtain ⟨ρ4, r1, r2, r3, r4, r5⟩ := l_X12_planFewestLate_205_eq (t := omCt q (omFw n p d q n).1 n) (c := (omFw n p d q n).2.1) h1 f3 g1 hQi g4 (omFw n p d q n).2.1 0 FU ρ3 (by omega) (by rw [FU_eq]; omega) hm5 (fun i hi => by rw [o3 55 (by simp)]; exact n3 i hi) o2 o5
    have r1' : l_X12_planFewestLate_205 (((omFw n p d q n).2.1 : Nat) : Int) FU 0 ρ3 = some ρ4 := r1
    have hm6 := hm5.ex2 r3 (r4 1 (by decide)) (by simp)
    have hEr : ∀ i, i < n → 0 ≤ omEd 0 p f s (omQf n q (omFw n p d q n).1 (omFw n p d q n).2.2) i ∧ omEd 0 p f s (omQf n q (omFw n p d q n).1 (omFw n p d q n).2.2) i ≤ 1000 := fun i hi => by have := omEd_rng (v := 0) h1 g1 hi; omega
    refine om_planGood (σ1 := τ4) (σ2 := ρ4) (val := (((omFw n p d q n).2.1 : Nat) : Int)) (W := [43, 50, 51, 52, 53, 54, 55]) h1 k3 ?_ k4 k6 k7 ?_ ?_ (by simp) hm6 r2 ?_ ?_ r5 hEr g2
    · unfold s_L_planFewestLate s_X11_planFewestLate s_X7_orderWithFewestLate s_X7_putDroppedBehind
      rw [(s_X11_needSomeJob_eq h1 h2).2 (by omega), om_b0]
      simp only [Sum.elim_inr]
      have k1' : s_X5_follow 0 τ3 = some τ4 := k1
      rw [a1, om_b0, b1', om_b0]
      simp only []
      rw [c1', om_b0]
      simp only []
      rw [e1', om_b0, om_b0, om_b0]
      simp only []
      rw [k1', om_b0, om_b0]
      simp only [Sum.elim_inr]
      rw [omg_t (by decide)]
      rfl
    · unfold s_X12_planFewestLate s_X12_begins
      rw [(s_X12_hasJobs_eq h1 hm0).2 (by omega), om_b0, if_neg (by show ¬ omw 1 = 0; decide)]
      simp only []
      rw [m1', om_b0, om_b0, n1', om_b0]
      simp only []
      rw [o1', om_b0, r1', om_b0]
    · exact (((((omEx.su (by simp)).trans (m2.mono (by simp))).trans (exb.mono (by simp))).trans (n2.mono (by simp))).trans (o3.mono (by simp))).trans (r3.mono (by simp))
    · rw [r4 8 (by decide), o4 8 (by decide), n2 43 (by simp), omsu_n (Or.inr (by decide)), omsu_s]
    · rw [r4 0 (by decide), o4 0 (by decide), n2 43 (by simp), omsu_n (Or.inr (by decide)), omsu_n (Or.inr (by decide)), m2 43 (by simp), omsu_s]
