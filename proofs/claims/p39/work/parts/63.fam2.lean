theorem om_idx2 {X : Nat} {v : Int} (h : 0 ≤ v) : (X : Int) * 5 + v = ((5 * X + v.toNat : Nat) : Int) := by
  rw [Int.natCast_add, Int.natCast_mul]
  omega
theorem om_idx_g {X : Nat} {v : Int} (hX : X < 1024) (h : v ≤ 3) : 0 ≤ ((5 * X + v.toNat : Nat) : Int) ∧ ((5 * X + v.toNat : Nat) : Int) < 5120 := by omega
theorem om_idx_w {X : Nat} {v : Int} (hX : X < 1024) (h : v ≤ 3) : omw ((5 * X + v.toNat : Nat) : Int) = ((5 * X + v.toNat : Nat) : Int) := om_wn (by omega)
theorem om_idx_u {S u : Nat} (hX : S < 1024) (h : u < 5) : 0 ≤ ((5 * S + u : Nat) : Int) ∧ ((5 * S + u : Nat) : Int) < 5120 := by omega
theorem om_idx_s {S u : Nat} : (S : Int) * 5 + (u : Int) = ((5 * S + u : Nat) : Int) := by omega
theorem s_X7_isNext_eq {n S j : Nat} {p d w r f s : Nat → Int} {σ : omH} (hok : omOk n p d w r f s) (hM : omMd n d f σ) (hS : S < 2 ^ n) (hj : j < n) : s_X7_isNext S j σ = some (omIf (omNx n d f S j)) := by
  have hn := hok.1
  have hpw := om_pow_le hn
  obtain ⟨a, a1, a2, a3⟩ := hM j hj
  unfold s_X7_isNext
  rw [s_X2_isIn_eq (by omega) (by omega), om_b0, om_wn (show j < 2147483648 by omega), Int.toNat_natCast, a1, omg_t ⟨by omega, by omega⟩]
  by_cases hb : S.testBit j = true
  · rw [if_pos hb, if_neg (by decide), omIf_f (fun h => h.1 hb)]
  · rw [if_neg hb, if_pos (by decide)]
    by_cases hs : omSb a S
    · rw [(om_without_if (by omega) (by omega)).1 hs, omIf_t ((omNx_iff a3).mpr ⟨hb, hs⟩)]
    · rw [(om_without_if (by omega) (by omega)).2 hs, omIf_f (fun h => hs ((omNx_iff a3).mp h).2)]
theorem l_X7_keepsFamilyOrders_2_eq {n S : Nat} {p d w r f s : Nat → Int} {σ : omH} (hok : omOk n p d w r f s) (hc : omCv n p d w r f s σ) (hM : omMd n d f σ) (hS : S < 2 ^ n) : ∀ (m k fuel : Nat), k + m = n → m < fuel → l_X7_keepsFamilyOrders_2 S σ fuel k = some (Sum.inl (omIf (∀ j, k ≤ j → j < n → S.testBit j = true → ∀ i, i < n → f i = f j → omBk d i j → S.testBit i = true))) := by
  have hn := hok.1
  have hpw := om_pow_le hn
  intro m
  induction m with
  | zero =>
    intro k fuel hk hf
    obtain ⟨fuel, rfl⟩ : ∃ z, fuel = z + 1 := ⟨fuel - 1, by omega⟩
    rw [l_X7_keepsFamilyOrders_2.eq_2, hc.1, om_wn (show k < 2147483648 by omega), om_wn (show n < 2147483648 by omega), if_neg (by omega), omIf_t (fun j h1 h2 => by omega)]
  | succ m ih =>
    intro k fuel hk hf
    obtain ⟨fuel, rfl⟩ : ∃ z, fuel = z + 1 := ⟨fuel - 1, by omega⟩
    have hkn : k < n := by omega
    obtain ⟨a, a1, a2, a3⟩ := hM k hkn
    rw [l_X7_keepsFamilyOrders_2.eq_2, hc.1, om_wn (show k < 2147483648 by omega), om_wn (show n < 2147483648 by omega), if_pos (by omega), s_X2_isIn_eq (by omega) (by omega), om_b0, Int.toNat_natCast, a1, omg_t ⟨by omega, by omega⟩, show ((k : Int) + 1) = ((k + 1 : Nat) : Int) by omega, ih (k + 1) fuel (by omega) (by omega)]
    have hcons : ((S.testBit k = true → ∀ i, i < n → f i = f k → omBk d i k → S.testBit i = true) ∧ ∀ j, k + 1 ≤ j → j < n → S.testBit j = true → ∀ i, i < n → f i = f j → omBk d i j → S.testBit i = true) ↔ (∀ j, k ≤ j → j < n → S.testBit j = true → ∀ i, i < n → f i = f j → omBk d i j → S.testBit i = true) := by
      refine ⟨fun h j h1 h2 => ?_, fun h => ⟨h k (Nat.le_refl _) hkn, fun j h1 => h j (by omega)⟩⟩
      by_cases hjk : j = k
      · subst hjk; exact h.1
      · exact h.2 j (by omega) h2
    by_cases hb : S.testBit k = true
    · rw [if_pos hb, if_neg (by decide)]
      by_cases hs : omSb a S
      · rw [(om_without_if (by omega) (by omega)).1 hs, ← propext hcons]
        have : (S.testBit k = true → ∀ i, i < n → f i = f k → omBk d i k → S.testBit i = true) := fun _ i h1 h2 h3 => hs i ((a3 i).mpr ⟨h1, h2, h3⟩)
        rw [propext (and_iff_right this)]
      · rw [(om_without_if (by omega) (by omega)).2 hs, omIf_f (fun h => hs (fun i hi => by
          obtain ⟨h1, h2, h3⟩ := (a3 i).mp hi
          exact h k (Nat.le_refl _) hkn hb i h1 h2 h3))]
    · rw [if_neg hb, if_pos (by decide), ← propext hcons]
      have : (S.testBit k = true → ∀ i, i < n → f i = f k → omBk d i k → S.testBit i = true) := fun h => absurd h hb
      rw [propext (and_iff_right this)]
theorem s_X7_keepsFamilyOrders_eq {n S : Nat} {p d w r f s : Nat → Int} {σ : omH} (hok : omOk n p d w r f s) (hc : omCv n p d w r f s σ) (hM : omMd n d f σ) (hS : S < 2 ^ n) : s_X7_keepsFamilyOrders S σ = some (omIf (omKs n d f S)) := by
  have hn := hok.1
  have h1 := l_X7_keepsFamilyOrders_2_eq hok hc hM hS n 0 FU (by omega) (by rw [FU_eq]; omega)
  have h1' : l_X7_keepsFamilyOrders_2 S σ FU 0 = _ := h1
  have hiff : (∀ j, 0 ≤ j → j < n → S.testBit j = true → ∀ i, i < n → f i = f j → omBk d i j → S.testBit i = true) ↔ omKs n d f S := ⟨fun h j hj => h j (by omega) hj, fun h j _ hj => h j hj⟩
  unfold s_X7_keepsFamilyOrders
  rw [h1', om_b0, propext hiff]
  rfl
theorem s_X7_latenessBy_eq {n S j : Nat} {u : Int} {p d w r f s : Nat → Int} {σ : omH} (hok : omOk n p d w r f s) (hc : omCv n p d w r f s σ) (hS : S < 2 ^ n) (hj : j < n) (hu : -1 ≤ u ∧ u ≤ 4) (h1 : -1000000 ≤ σ 34 (5 * (S ||| 2 ^ j) + (f j).toNat) ∧ σ 34 (5 * (S ||| 2 ^ j) + (f j).toNat) ≤ 1000000) : s_X7_latenessBy S u j σ = some (omUg p d f s (σ 34) S u j) := by
  have hn := hok.1
  have hpw := om_pow_le hn
  have ho := hok.2.1 j hj
  have hor := om_ins_lt hS hj
  have hor2 : S ||| 2 ^ j < 1024 := by omega
  unfold s_X7_latenessBy s_X7_state
  rw [s_X2_setupBehind_eq hok hc hj hu, om_b0, om_b0, hc.2.1, hc.2.2.1, hc.2.2.2.2.2.1, om_wn (show j < 2147483648 by omega), Int.toNat_natCast, om_ins (by omega) (by omega), om_idx2 (by omega), om_idx_w hor2 (by omega), Int.toNat_natCast, omg_t ⟨by omega, by omega⟩, omg_t ⟨by omega, by omega⟩, omg_t ⟨by omega, by omega⟩, omg_t (om_idx_g hor2 (by omega)), omw_id (a := -d j) (by omega) (by omega), omw_id (a := σ 34 (5 * (S ||| 2 ^ j) + (f j).toNat)) (by omega) (by omega)]
  unfold omUg omTk
  congr 1
  omega
theorem l_X7_leastLatenessFrom_7_eq {n S : Nat} {u : Int} {p d w r f s : Nat → Int} {σ : omH} (hok : omOk n p d w r f s) (hc : omCv n p d w r f s σ) (hM : omMd n d f σ) (hS : S < 2 ^ n) (hu : -1 ≤ u ∧ u ≤ 4) (hR : ∀ j, j < n → omNx n d f S j → -1000000 ≤ σ 34 (5 * (S ||| 2 ^ j) + (f j).toNat) ∧ σ 34 (5 * (S ||| 2 ^ j) + (f j).toNat) ≤ 1000000) : ∀ (m k fuel : Nat), k + m = n → m < fuel → l_X7_leastLatenessFrom_7 S u σ fuel (omFq 1000000 (omNx n d f S) (omUg p d f s (σ 34) S u) k) k = some (omFq 1000000 (omNx n d f S) (omUg p d f s (σ 34) S u) n) := by
  have hn := hok.1
  have hpw := om_pow_le hn
  intro m
  induction m with
  | zero =>
    intro k fuel hk hf
    obtain ⟨fuel, rfl⟩ : ∃ z, fuel = z + 1 := ⟨fuel - 1, by omega⟩
    have : k = n := by omega
    subst this
    rw [l_X7_leastLatenessFrom_7.eq_2, hc.1, if_neg (by omega)]
  | succ m ih =>
    intro k fuel hk hf
    obtain ⟨fuel, rfl⟩ : ∃ z, fuel = z + 1 := ⟨fuel - 1, by omega⟩
    have hkn : k < n := by omega
    have hF := omFq_rng (b := 1000000) (P := omNx n d f S) (g := omUg p d f s (σ 34) S u) (by decide) k (fun j hj hP => by
      have := omUg_rng (u := u) hok (show j < n by omega) (hR j (by omega) hP)
      omega)
    have ih' := ih (k + 1) fuel (by omega) (by omega)
    rw [l_X7_leastLatenessFrom_7.eq_2, hc.1, om_wn (show k < 2147483648 by omega), om_wn (show n < 2147483648 by omega), if_pos (by omega), s_X7_isNext_eq hok hM hS hkn, om_b0, show ((k : Int) + 1) = ((k + 1 : Nat) : Int) by omega]
    by_cases hnx : omNx n d f S k
    · have hg := omUg_rng (u := u) hok hkn (hR k hkn hnx)
      rw [om_if0 hnx, s_X7_latenessBy_eq hok hc hS hkn hu (hR k hkn hnx), om_b0, omw_id (a := omUg p d f s (σ 34) S u k) (by omega) (by omega), omw_id (a := omFq 1000000 (omNx n d f S) (omUg p d f s (σ 34) S u) k) (by omega) (by omega), ← omFq_t (b := 1000000) (g := omUg p d f s (σ 34) S u) hnx]
      exact ih'
    · rw [om_if1 hnx]
      rw [omFq_f hnx] at ih'
      exact ih'
theorem s_X7_leastLatenessFrom_eq {n S : Nat} {u : Int} {p d w r f s : Nat → Int} {σ : omH} (hok : omOk n p d w r f s) (hc : omCv n p d w r f s σ) (hM : omMd n d f σ) (hS : S < 2 ^ n) (hu : -1 ≤ u ∧ u ≤ 4) (hR : ∀ j, j < n → omNx n d f S j → -1000000 ≤ σ 34 (5 * (S ||| 2 ^ j) + (f j).toNat) ∧ σ 34 (5 * (S ||| 2 ^ j) + (f j).toNat) ≤ 1000000) : s_X7_leastLatenessFrom S u σ = some (omFq 1000000 (omNx n d f S) (omUg p d f s (σ 34) S u) n) := by
  have hn := hok.1
  have h1 := l_X7_leastLatenessFrom_7_eq hok hc hM hS hu hR n 0 FU (by omega) (by rw [FU_eq]; omega)
  have h1' : l_X7_leastLatenessFrom_7 S u σ FU 1000000 0 = _ := h1
  unfold s_X7_leastLatenessFrom
  rw [h1', om_b0]
/-- the class's table: right at the sets that keep the orders -/
def omKe (n : Nat) (p d f s : Nat → Int) (R : Nat → Int) (S u : Nat) : Prop := (R (5 * S + u) = omFq (omUb n S) (omNx n d f S) (omUg p d f s R S (u : Nat)) n) ∧ -1000000 ≤ R (5 * S + u) ∧ R (5 * S + u) ≤ 1000000
theorem omKe_of {n S u : Nat} {p d f s : Nat → Int} {R R' : Nat → Int} (h : omKe n p d f s R S u) (h0 : R' (5 * S + u) = R (5 * S + u)) (h1 : ∀ j, j < n → ¬ S.testBit j = true → R' (5 * (S ||| 2 ^ j) + (f j).toNat) = R (5 * (S ||| 2 ^ j) + (f j).toNat)) : omKe n p d f s R' S u := by
  unfold omKe at h ⊢
  rw [h0]
  refine ⟨?_, h.2⟩
  rw [h.1]
  refine omFq_congr n (fun j hj => Iff.rfl) (fun j hj hP => ?_)
  unfold omUg
  rw [h1 j hj hP.1]
theorem l_X7_fillLeastLateness_50_eq {n S : Nat} {p d w r f s : Nat → Int} {R : Nat → Int} (hok : omOk n p d w r f s) (hS : S < 2 ^ n - 1) (hR : ∀ j, j < n → omNx n d f S j → -1000000 ≤ R (5 * (S ||| 2 ^ j) + (f j).toNat) ∧ R (5 * (S ||| 2 ^ j) + (f j).toNat) ≤ 1000000) : ∀ (l u fuel : Nat) (σ : omH), u + l = 5 → l < fuel → omCv n p d w r f s σ → omMd n d f σ → (∀ i, 5 * S + 5 ≤ i → σ 34 i = R i) → (∀ i, i < u → σ 34 (5 * S + i) = omFq 1000000 (omNx n d f S) (omUg p d f s R S (i : Nat)) n) →
    ∃ σ', l_X7_fillLeastLateness_50 S fuel u σ = some σ' ∧ omEx [34] σ σ' ∧ (∀ i, 5 * S + 5 ≤ i → σ' 34 i = σ 34 i) ∧ ∀ i, i < 5 → σ' 34 (5 * S + i) = omFq 1000000 (omNx n d f S) (omUg p d f s R S (i : Nat)) n := by
  have hn := hok.1
  have hpw := om_pow_le hn
  intro l
  induction l with
  | zero =>
    intro u fuel σ hu hf hc hM hr h0
    obtain ⟨fuel, rfl⟩ : ∃ z, fuel = z + 1 := ⟨fuel - 1, by omega⟩
    have : u = 5 := by omega
    subst this
    rw [l_X7_fillLeastLateness_50.eq_2, if_pos (by decide)]
    exact ⟨σ, rfl, omEx.rfl', fun _ _ => rfl, h0⟩
  | succ l ih =>
    intro u fuel σ hu hf hc hM hr h0
    obtain ⟨fuel, rfl⟩ : ∃ z, fuel = z + 1 := ⟨fuel - 1, by omega⟩
    have hgt : ∀ j, j < n → ¬ S.testBit j = true → 5 * S + 5 ≤ 5 * (S ||| 2 ^ j) + (f j).toNat := fun j hj hb => by have := om_or_gt hb; omega
    have heq : omFq 1000000 (omNx n d f S) (omUg p d f s (σ 34) S (u : Nat)) n = omFq 1000000 (omNx n d f S) (omUg p d f s R S (u : Nat)) n := omFq_congr n (fun j hj => Iff.rfl) (fun j hj hP => by
      unfold omUg
      rw [hr _ (hgt j hj hP.1)])
    have hst : s_X7_state S u σ = some ((5 * S + u : Nat) : Int) := by
      unfold s_X7_state
      congr 1
      omega
    rw [l_X7_fillLeastLateness_50.eq_2, om_wn (show u < 2147483648 by omega), if_neg (by show ¬ (4 : Int) < (u : Int); omega), hst, om_b0, s_X7_leastLatenessFrom_eq hok hc hM (by omega) (by omega) (fun j hj hP => by rw [hr _ (hgt j hj hP.1)]; exact hR j hj hP), om_b0, heq, om_wn (show 5 * S + u < 2147483648 by omega), omg_t (om_idx_u (by omega) (by omega)), Int.toNat_natCast, show ((u : Int) + 1) = ((u + 1 : Nat) : Int) by omega]
    have ex1 : omEx [34] σ (omsu σ 34 (5 * S + u) (omFq 1000000 (omNx n d f S) (omUg p d f s R S (u : Nat)) n)) := omEx.su (by simp)
    obtain ⟨σ', z1, z2, z3, z4⟩ := ih (u + 1) fuel _ (by omega) (by omega) (hc.ex ex1 (by simp)) (hM.ex ex1 (by simp)) (fun i hi => by rw [omsu_n (Or.inr (by omega))]; exact hr i hi) (fun i hi => by
      by_cases hiu : i = u
      · subst hiu; exact omsu_s
      · rw [omsu_n (Or.inr (by omega))]
        exact h0 i (by omega))
    exact ⟨σ', z1, ex1.trans z2, fun i hi => by rw [z3 i hi, omsu_n (Or.inr (by omega))], z4⟩
theorem l_X7_fillLeastLateness_35_eq {n : Nat} {p d w r f s : Nat → Int} (hok : omOk n p d w r f s) : ∀ (k fuel : Nat) (σ : omH), k < 2 ^ n → k < fuel → omCv n p d w r f s σ → omMd n d f σ → (∀ S u, u < 5 → k ≤ S → S < 2 ^ n → omKs n d f S → omKe n p d f s (σ 34) S u) →
    ∃ σ', l_X7_fillLeastLateness_35 fuel ((k : Int) - 1) σ = some σ' ∧ omEx [34] σ σ' ∧ ∀ S u, u < 5 → S < 2 ^ n → omKs n d f S → omKe n p d f s (σ' 34) S u := by
  have hn := hok.1
  have hpw := om_pow_le hn
  intro k
  induction k with
  | zero =>
    intro fuel σ hk hf hc hM hr
    obtain ⟨fuel, rfl⟩ : ∃ z, fuel = z + 1 := ⟨fuel - 1, by omega⟩
    rw [l_X7_fillLeastLateness_35.eq_2, if_pos (by show omw (0 - 1) < 0; decide)]
    exact ⟨σ, rfl, omEx.rfl', fun S u hu hS hK => hr S u hu (by omega) hS hK⟩
  | succ k ih =>
    intro fuel σ hk hf hc hM hr
    obtain ⟨fuel, rfl⟩ : ∃ z, fuel = z + 1 := ⟨fuel - 1, by omega⟩
    have hS : k < 2 ^ n := by omega
    rw [l_X7_fillLeastLateness_35.eq_2, show (((k + 1 : Nat) : Int) - 1) = (k : Int) by omega, om_wn (show k < 2147483648 by omega), if_neg (by omega), s_X7_keepsFamilyOrders_eq hok hc hM hS, om_b0, show ((k : Int) + (-1)) = (k : Int) - 1 by omega]
    by_cases hK : omKs n d f k
    · rw [om_if0 hK]
      have hgt : ∀ j, ¬ k.testBit j = true → k + 1 ≤ k ||| 2 ^ j := fun j hb => om_or_gt hb
      have hf5 : ∀ j, j < n → (f j).toNat < 5 := fun j hj => by have := hok.2.1 j hj; omega
      have hrg : ∀ j, j < n → omNx n d f k j → -1000000 ≤ σ 34 (5 * (k ||| 2 ^ j) + (f j).toNat) ∧ σ 34 (5 * (k ||| 2 ^ j) + (f j).toNat) ≤ 1000000 := fun j hj hP => (hr _ _ (hf5 j hj) (hgt j hP.1) (om_ins_lt hS hj) (omKs_ins hK hP)).2
      obtain ⟨τ, x1, x2, x3, x4⟩ := l_X7_fillLeastLateness_50_eq (R := σ 34) hok (by omega) hrg 5 0 FU σ (by omega) (by rw [FU_eq]; omega) hc hM (fun i _ => rfl) (fun i hi => by omega)
      have x1' : l_X7_fillLeastLateness_50 k FU 0 σ = some τ := x1
      rw [x1', om_b0]
      obtain ⟨σ', z1, z2, z3⟩ := ih fuel τ (by omega) (by omega) (hc.ex x2 (by simp)) (hM.ex x2 (by simp)) (fun S u hu hS1 hS2 hKS => by
        by_cases hSk : S = k
        · subst hSk
          have hub : omUb n S = 1000000 := by unfold omUb; rw [if_pos (by omega)]
          have hfe : omFq 1000000 (omNx n d f S) (omUg p d f s (σ 34) S (u : Nat)) n = omFq 1000000 (omNx n d f S) (omUg p d f s (τ 34) S (u : Nat)) n := omFq_congr n (fun j hj => Iff.rfl) (fun j hj hP => by
            unfold omUg
            rw [x3 _ (by have := hgt j hP.1; omega)])
          refine ⟨?_, ?_⟩
          · rw [x4 u hu, hub, hfe]
          · rw [x4 u hu]
            exact omFq_rng (by decide) n (fun j hj hP => by
              have := omUg_rng (u := (u : Nat)) (U := σ 34) hok hj (hrg j hj hP)
              omega)
        · exact omKe_of (hr S u hu (by omega) hS2 hKS) (x3 _ (by omega)) (fun j hj hb => x3 _ (by have := om_or_gt hb; omega)))
      exact ⟨σ', z1, x2.trans z2, z3⟩
    · rw [om_if1 hK]
      obtain ⟨σ', z1, z2, z3⟩ := ih fuel σ (by omega) (by omega) hc hM (fun S u hu hS1 hS2 hKS => hr S u hu (by
        by_cases hSk : S = k
        · subst hSk; exact absurd hKS hK
        · omega) hS2 hKS)
      exact ⟨σ', z1, z2, z3⟩
theorem l_X7_fillLeastLateness_2_eq {n : Nat} {p d w r f s : Nat → Int} (hok : omOk n p d w r f s) : ∀ (l u fuel : Nat) (σ : omH), u + l = 5 → l < fuel → omCv n p d w r f s σ → (∀ i, i < u → σ 34 (5 * (2 ^ n - 1) + i) = -1000000) →
    ∃ σ', l_X7_fillLeastLateness_2 fuel u σ = some σ' ∧ omEx [34] σ σ' ∧ ∀ i, i < 5 → σ' 34 (5 * (2 ^ n - 1) + i) = -1000000 := by
  have hn := hok.1
  have hpw := om_pow_le hn
  have hp0 : 0 < 2 ^ n := Nat.two_pow_pos n
  intro l
  induction l with
  | zero =>
    intro u fuel σ hu hf hc h0
    obtain ⟨fuel, rfl⟩ : ∃ z, fuel = z + 1 := ⟨fuel - 1, by omega⟩
    have : u = 5 := by omega
    subst this
    rw [l_X7_fillLeastLateness_2.eq_2, if_pos (by decide)]
    exact ⟨σ, rfl, omEx.rfl', h0⟩
  | succ l ih =>
    intro u fuel σ hu hf hc h0
    obtain ⟨fuel, rfl⟩ : ∃ z, fuel = z + 1 := ⟨fuel - 1, by omega⟩
    have hst : s_X7_state (((2 ^ n : Nat) : Int) - 1) u σ = some ((5 * (2 ^ n - 1) + u : Nat) : Int) := by
      unfold s_X7_state
      congr 1
      omega
    rw [l_X7_fillLeastLateness_2.eq_2, om_wn (show u < 2147483648 by omega), if_neg (by show ¬ (4 : Int) < (u : Int); omega), s_X2_all_eq hok hc, om_b0, hst, om_b0, om_wn (show 5 * (2 ^ n - 1) + u < 2147483648 by omega), omg_t (om_idx_u (by omega) (by omega)), Int.toNat_natCast, show ((u : Int) + 1) = ((u + 1 : Nat) : Int) by omega]
    have ex1 : omEx [34] σ (omsu σ 34 (5 * (2 ^ n - 1) + u) (-1000000)) := omEx.su (by simp)
    obtain ⟨σ', z1, z2, z3⟩ := ih (u + 1) fuel _ (by omega) (by omega) (hc.ex ex1 (by simp)) (fun i hi => by
      by_cases hiu : i = u
      · subst hiu; exact omsu_s
      · rw [omsu_n (Or.inr (by omega))]
        exact h0 i (by omega))
    exact ⟨σ', z1, ex1.trans z2, z3⟩
theorem omNx_full {n j : Nat} {d f : Nat → Int} (hj : j < n) : ¬ omNx n d f (2 ^ n - 1) j := fun h => h.1 (om_full_bit hj)
theorem omFq_none {b : Int} {P : Nat → Prop} {g : Nat → Int} : ∀ k, (∀ j, j < k → ¬ P j) → omFq b P g k = b := by
  intro k
  induction k with
  | zero => intro _; rfl
  | succ k ih =>
    intro h
    rw [omFq_f (h k (by omega))]
    exact ih (fun j hj => h j (by omega))
theorem s_X7_fillLeastLateness_eq {n : Nat} {p d w r f s : Nat → Int} {σ : omH} (hok : omOk n p d w r f s) (hc : omCv n p d w r f s σ) (hM : omMd n d f σ) : ∃ σ', s_X7_fillLeastLateness σ = some σ' ∧ omEx [34] σ σ' ∧ ∀ S u, u < 5 → S < 2 ^ n → omKs n d f S → omKe n p d f s (σ' 34) S u := by
  have hn := hok.1
  have hpw := om_pow_le hn
  have hp0 : 0 < 2 ^ n := Nat.two_pow_pos n
  obtain ⟨τ, x1, x2, x3⟩ := l_X7_fillLeastLateness_2_eq hok 5 0 FU σ (by omega) (by rw [FU_eq]; omega) hc (fun i hi => by omega)
  have x1' : l_X7_fillLeastLateness_2 FU 0 σ = some τ := x1
  have hc1 := hc.ex x2 (by simp)
  obtain ⟨σ', z1, z2, z3⟩ := l_X7_fillLeastLateness_35_eq hok (2 ^ n - 1) FU τ (by omega) (by rw [FU_eq]; omega) hc1 (hM.ex x2 (by simp)) (fun S u hu h1 h2 hK => by
    have hSf : S = 2 ^ n - 1 := by omega
    rw [hSf]
    refine ⟨?_, by rw [x3 u hu]; decide⟩
    rw [x3 u hu, omFq_none n (fun j hj => omNx_full hj)]
    unfold omUb
    rw [if_neg (by omega)])
  refine ⟨σ', ?_, x2.trans z2, z3⟩
  unfold s_X7_fillLeastLateness
  rw [x1', om_b0, s_X2_all_eq hok hc1, om_b0, show ((2 ^ n : Nat) : Int) - 1 - 1 = ((2 ^ n - 1 : Nat) : Int) - 1 by omega, z1, om_b0]
