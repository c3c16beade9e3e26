theorem l_X12_costsBehind_46_eq {v n S u : Nat} {b z : Int} {p d w r f s : Nat → Int} {U : Nat → Int} (hok : omOk n p d w r f s) (hv : v < 2) (hS : S < 2 ^ n) (hu : u < 5) (hb : -1000000 ≤ b ∧ b ≤ 1000000) (hU : ∀ j, j < n → ¬ S.testBit j = true → -1000000 ≤ U (5 * (S ||| 2 ^ j) + (f j).toNat) ∧ U (5 * (S ||| 2 ^ j) + (f j).toNat) ≤ 1000000) : ∀ (m k fuel : Nat) (σ : omH), k + m = n → m < fuel → omMv n p d w r f s σ → (∀ j, j < n → ¬ S.testBit j = true → σ 57 (5 * (S ||| 2 ^ j) + (f j).toNat) = U (5 * (S ||| 2 ^ j) + (f j).toNat)) → σ 57 (5 * S + u) = omFq b (omAw v n d f S) (omUg p d f s U S (u : Nat)) k →
    ∃ σ', l_X12_costsBehind_46 v z ((5 * S + u : Nat) : Int) S fuel k σ = some σ' ∧ omEx [57] σ σ' ∧ (∀ i, i ≠ 5 * S + u → σ' 57 i = σ 57 i) ∧ σ' 57 (5 * S + u) = omFq b (omAw v n d f S) (omUg p d f s U S (u : Nat)) n := by
  have hn := hok.1
  have hpw := om_pow_le hn
  intro m
  induction m with
  | zero =>
    intro k fuel σ hk hf hm hr h0
    obtain ⟨fuel, rfl⟩ : ∃ z, fuel = z + 1 := ⟨fuel - 1, by omega⟩
    have : k = n := by omega
    subst this
    rw [l_X12_costsBehind_46.eq_2, hm.1, if_neg (by omega)]
    exact ⟨σ, rfl, omEx.rfl', fun _ _ => rfl, h0⟩
  | succ m ih =>
    intro k fuel σ hk hf hm hr h0
    obtain ⟨fuel, rfl⟩ : ∃ z, fuel = z + 1 := ⟨fuel - 1, by omega⟩
    have hkn : k < n := by omega
    have ho := hok.2.1 k hkn
    have hF := omFq_rng (P := omAw v n d f S) (g := omUg p d f s U S (u : Nat)) hb k (fun j hj hP => by
      have := omUg_rng (u := (u : Nat)) hok (show j < n by omega) (hU j (by omega) hP.1)
      omega)
    have hlt : omw (k : Int) < omw (σ 43 1) := by rw [hm.1, om_wn (by omega), om_wn (by omega)]; omega
    have hnext : ((k : Int) + 1) = ((k + 1 : Nat) : Int) := by omega
    rw [l_X12_costsBehind_46.eq_2, if_pos hlt, om_bit (by omega) (by omega), hnext]
    by_cases hbit : S.testBit k = true
    · rw [if_pos hbit, if_neg (by decide)]
      exact ih (k + 1) fuel σ (by omega) (by omega) hm hr (by rw [omFq_f (fun h => h.1 hbit)]; exact h0)
    · rw [if_neg hbit, if_pos (by decide), s_X12_isNext_eq hok hm (by omega) hkn, om_b0]
      have hgt := om_or_gt hbit
      have hor := om_ins_lt hS hkn
      have hA := om_behindA (x := 5 * S + u) (V := 5 * (omor S (omshl 1 k)) + (σ 48 (omw (k : Int)).toNat)) (rec := fun τ => l_X12_costsBehind_46 v z ((5 * S + u : Nat) : Int) S fuel ((k + 1 : Nat) : Int) τ) hok hm (by omega) (om_idx_lt (X := S ||| 2 ^ k) (v := f k) (by omega) (by omega)) (show -1 ≤ (u : Int) ∧ (u : Int) ≤ 4 by omega) hkn (by rw [hr k hkn hbit]; exact hU k hkn hbit) (by rw [h0]; exact hF) (by rw [om_wn (by omega), Int.toNat_natCast, hm.2.2.2.2.2.1, om_ins (by omega) (by omega), om_idx (by omega)])
      have hA' : ∀ y, y = l_X12_costsBehind_46 v z ((5 * S + u : Nat) : Int) S fuel ((k + 1 : Nat) : Int) (omsu σ 57 (5 * S + u) (min (σ 57 (5 * S + u)) (omUg p d f s (σ 57) S (u : Nat) k))) → y = _ := fun y hy => hy.trans hA.symm
      have hUk : omUg p d f s (σ 57) S (u : Nat) k = omUg p d f s U S (u : Nat) k := by
        unfold omUg
        rw [hr k hkn hbit]
      have hgo : omAw v n d f S k → ∃ σ', l_X12_costsBehind_46 v z ((5 * S + u : Nat) : Int) S fuel ((k + 1 : Nat) : Int) (omsu σ 57 (5 * S + u) (min (σ 57 (5 * S + u)) (omUg p d f s (σ 57) S (u : Nat) k))) = some σ' ∧ omEx [57] σ σ' ∧ (∀ i, i ≠ 5 * S + u → σ' 57 i = σ 57 i) ∧ σ' 57 (5 * S + u) = omFq b (omAw v n d f S) (omUg p d f s U S (u : Nat)) n := by
        intro hP
        have ex1 : omEx [57] σ (omsu σ 57 (5 * S + u) (min (σ 57 (5 * S + u)) (omUg p d f s (σ 57) S (u : Nat) k))) := omEx.su (by simp)
        obtain ⟨σ', z1, z2, z3, z4⟩ := ih (k + 1) fuel _ (by omega) (by omega) (hm.ex ex1 (by simp)) (fun j hj hbj => by
          have hoj := hok.2.1 j hj
          rw [omsu_n (Or.inr (by have := om_or_gt hbj; omega))]
          exact hr j hj hbj) (by rw [omsu_s, omFq_t hP, h0, hUk])
        exact ⟨σ', z1, ex1.trans z2, fun i hi => by rw [z3 i hi, omsu_n (Or.inr hi)], z4⟩
      by_cases hv0 : v = 0
      · rw [if_pos (by rw [hv0]; decide), omg_t (by decide), om_tmod5 (by omega) hu, ← hA' _ rfl]
        exact hgo ⟨hbit, Or.inl hv0⟩
      · rw [if_neg (by rw [om_wn (by omega)]; omega)]
        by_cases hnx : omNx n d f S k
        · rw [om_if0 hnx, omg_t (by decide), om_tmod5 (by omega) hu, ← hA' _ rfl]
          exact hgo ⟨hbit, Or.inr hnx⟩
        · rw [om_if1 hnx]
          exact ih (k + 1) fuel σ (by omega) (by omega) hm hr (by rw [omFq_f (fun h => h.2.elim hv0 hnx)]; exact h0)
theorem l_X12_costsBehind_15_eq {v n : Nat} {p d w r f s : Nat → Int} (hok : omOk n p d w r f s) (hv : v < 2) : ∀ (x fuel : Nat) (σ : omH), x ≤ 5 * 2 ^ n → x < fuel → omMv n p d w r f s σ → (∀ S u, u < 5 → x ≤ 5 * S + u → S < 2 ^ n → omUe v n p d f s (σ 57) S u ∧ -1000000 ≤ σ 57 (5 * S + u) ∧ σ 57 (5 * S + u) ≤ 1000000) →
    ∃ σ', l_X12_costsBehind_15 v (((2 ^ n : Nat) : Int) - 1) fuel ((x : Int) - 1) σ = some σ' ∧ omEx [57] σ σ' ∧ ∀ S u, u < 5 → S < 2 ^ n → omUe v n p d f s (σ' 57) S u ∧ -1000000 ≤ σ' 57 (5 * S + u) ∧ σ' 57 (5 * S + u) ≤ 1000000 := by
  have hn := hok.1
  have hpw := om_pow_le hn
  have hp0 : 0 < 2 ^ n := Nat.two_pow_pos n
  intro x
  induction x with
  | zero =>
    intro fuel σ hk hf hm hr
    obtain ⟨fuel, rfl⟩ : ∃ z, fuel = z + 1 := ⟨fuel - 1, by omega⟩
    rw [l_X12_costsBehind_15.eq_2, if_pos (by show omw (0 - 1) < 0; decide)]
    exact ⟨σ, rfl, omEx.rfl', fun S u hu hS => hr S u hu (by omega) hS⟩
  | succ x ih =>
    intro fuel σ hk hf hm hr
    obtain ⟨fuel, rfl⟩ : ∃ z, fuel = z + 1 := ⟨fuel - 1, by omega⟩
    obtain ⟨S, u, hu, hx⟩ : ∃ S u, u < 5 ∧ x = 5 * S + u := ⟨x / 5, x % 5, Nat.mod_lt _ (by decide), by omega⟩
    subst hx
    have hS : S < 2 ^ n := by omega
    rw [l_X12_costsBehind_15.eq_2, show (((5 * S + u + 1 : Nat) : Int) - 1) = ((5 * S + u : Nat) : Int) by omega, om_tdiv5 (by omega) hu, om_wn (show 5 * S + u < 2147483648 by omega), if_neg (by omega), omg_t (by decide), om_wn (show S < 2147483648 by omega), omw_id (a := ((2 ^ n : Nat) : Int) - 1) (by omega) (by omega)]
    have e1 : (if (S : Int) < ((2 ^ n : Nat) : Int) - 1 then some (1000000 : Int) else some (-1000000)) = some (omUb n S) := by
      unfold omUb
      by_cases h1 : S < 2 ^ n - 1
      · rw [if_pos (by omega), if_pos h1]
      · rw [if_neg (by omega), if_neg h1]
    have hgt : ∀ j, j < n → ¬ S.testBit j = true → 5 * S + u + 1 ≤ 5 * (S ||| 2 ^ j) + (f j).toNat := fun j hj hb => by have := om_or_gt hb; omega
    have hf5 : ∀ j, j < n → (f j).toNat < 5 := fun j hj => by have := hok.2.1 j hj; omega
    have hbb := omUb_rng (n := n) (S := S)
    have ex0 : omEx [57] σ (omsu σ 57 (5 * S + u) (omUb n S)) := omEx.su (by simp)
    rw [e1, om_b0, omg_t ⟨by omega, by omega⟩, Int.toNat_natCast]
    obtain ⟨τ, x1, x2, x3, x4⟩ := l_X12_costsBehind_46_eq (z := ((2 ^ n : Nat) : Int) - 1) (U := σ 57) hok hv hS hu hbb (fun j hj hb => (hr _ _ (hf5 j hj) (hgt j hj hb) (om_ins_lt hS hj)).2) n 0 FU (omsu σ 57 (5 * S + u) (omUb n S)) (by omega) (by rw [FU_eq]; omega) (hm.ex ex0 (by simp)) (fun j hj hb => omsu_n (Or.inr (by have := hgt j hj hb; omega))) omsu_s
    have x1' : l_X12_costsBehind_46 v (((2 ^ n : Nat) : Int) - 1) ((5 * S + u : Nat) : Int) S FU 0 (omsu σ 57 (5 * S + u) (omUb n S)) = some τ := x1
    have hoth : ∀ i, i ≠ 5 * S + u → τ 57 i = σ 57 i := fun i hi => by rw [x3 i hi, omsu_n (Or.inr hi)]
    have hm2 := (hm.ex ex0 (by simp)).ex x2 (by simp)
    rw [x1', om_b0, show (((5 * S + u : Nat) : Int) + (-1)) = ((5 * S + u : Nat) : Int) - 1 by omega]
    obtain ⟨σ', z1, z2, z3⟩ := ih fuel τ (by omega) (by omega) hm2 (fun S' u' hu' hx' hS' => by
      by_cases hSk : 5 * S' + u' = 5 * S + u
      · have hSS : S' = S := by omega
        have huu : u' = u := by omega
        subst hSS huu
        refine ⟨?_, ?_⟩
        · unfold omUe
          rw [x4]
          refine omFq_congr n (fun j hj => Iff.rfl) (fun j hj hP => ?_)
          unfold omUg
          rw [hoth _ (by have := hgt j hj hP.1; omega)]
        · rw [x4]
          exact omFq_rng hbb n (fun j hj hP => by
            have := omUg_rng (u := (u' : Nat)) (U := σ 57) hok hj (hr _ _ (hf5 j hj) (hgt j hj hP.1) (om_ins_lt hS hj)).2
            omega)
      · have h3 := hr S' u' hu' (by omega) hS'
        rw [hoth _ hSk]
        exact ⟨omUe_of h3.1 (hoth _ hSk) (fun j hj hb => hoth _ (by have := om_or_gt hb; have := hf5 j hj; omega)), h3.2⟩)
    exact ⟨σ', z1, (ex0.trans x2).trans z2, z3⟩
theorem s_X12_costsBehind_eq {v n : Nat} {p d w r f s : Nat → Int} {σ : omH} (hok : omOk n p d w r f s) (hv : v < 2) (hm : omMv n p d w r f s σ) : ∃ σ', s_X12_costsBehind v σ = some σ' ∧ omEx [57] σ σ' ∧ ∀ S u, u < 5 → S < 2 ^ n → omUe v n p d f s (σ' 57) S u ∧ -1000000 ≤ σ' 57 (5 * S + u) ∧ σ' 57 (5 * S + u) ≤ 1000000 := by
  have hn := hok.1
  have hpw := om_pow_le hn
  have hp0 : 0 < 2 ^ n := Nat.two_pow_pos n
  obtain ⟨σ', z1, z2, z3⟩ := l_X12_costsBehind_15_eq hok hv (5 * 2 ^ n) FU σ (Nat.le_refl _) (by rw [FU_eq]; omega) hm (fun S u hu h1 h2 => by omega)
  refine ⟨σ', ?_, z2, z3⟩
  unfold s_X12_costsBehind
  rw [hm.1, om_full hn, show 5 * (((2 ^ n : Nat) : Int) - 1) + 4 = ((5 * 2 ^ n : Nat) : Int) - 1 by omega, z1, om_b0]
/-! .. without an order in the families -/
theorem omFq_fm {n S : Nat} {b : Int} {d f g : Nat → Int} : ∀ k, omFq b (omAw 0 n d f S) g k = omFm b S g k := by
  intro k
  induction k with
  | zero => rfl
  | succ k ih =>
    show _ = if S.testBit k = true then omFm b S g k else min (omFm b S g k) (g k)
    by_cases hb : S.testBit k = true
    · rw [if_pos hb, omFq_f (fun h => h.1 hb), ih]
    · rw [if_neg hb, omFq_t ⟨hb, Or.inl rfl⟩, ih]
theorem omUe_top {n : Nat} {p d w r f s : Nat → Int} {U : Nat → Int} (hok : omOk n p d w r f s) (h : ∀ S u, u < 5 → S < 2 ^ n → omUe 0 n p d f s U S u) : ∀ m S u, u < 5 → S < 2 ^ n → 2 ^ n - S ≤ m → U (5 * S + u) ≤ 50 * omUn n S := by
  have hn := hok.1
  intro m
  induction m with
  | zero => intro S u hu hS hm; omega
  | succ m ih =>
    intro S u hu hS hm
    rw [h S u hu hS, omFq_fm]
    by_cases hx : ∃ j, j < n ∧ ¬ S.testBit j = true
    · obtain ⟨j, hj, hb⟩ := hx
      have ho := hok.2.1 j hj
      have h1 := omFm_low (b := omUb n S) (g := omUg p d f s U S (u : Nat)) n j hj hb
      have h2 := ih (S ||| 2 ^ j) (f j).toNat (by omega) (om_ins_lt hS hj) (by have := om_or_gt hb; omega)
      have h3 := omUn_ins hj hb
      have h4 := omTk_rng hok hj (u : Nat)
      have h5 := omUn_rng (n := n) (S := S ||| 2 ^ j)
      have h6 : omUg p d f s U S (u : Nat) j = omTk p f s (u : Nat) j + max (-(d j)) (U (5 * (S ||| 2 ^ j) + (f j).toNat)) := rfl
      omega
    · have hall : ∀ j, j < n → S.testBit j = true := fun j hj => Classical.byContradiction (fun hb => hx ⟨j, hj, hb⟩)
      rw [omFm_set n hall]
      have hun : omUn n S = 0 := omSum_zero (fun j hj => by rw [hall j hj]; rfl)
      have hSf := omUn_full hS hun
      have : omUb n S = -1000000 := by
        unfold omUb
        rw [if_neg (by omega)]
      omega
theorem omVl_setup {n : Nat} {p d w r f s : Nat → Int} {U : Nat → Int} (hok : omOk n p d w r f s) (hU : ∀ S u, u < 5 → S < 2 ^ n → omUe 0 n p d f s U S u) : ∀ (m S u : Nat) (t a : Int), S < 2 ^ n → u < 5 → omUn n S = m → t - 1000000 ≤ a → -1000000 ≤ a → a ≤ 10000 → 0 ≤ t → t ≤ 50 * (n - m) → omVl n 0 d w f (fun _ u t j => t + omSu f s u j + p j) m S (u : Nat) t a = max a (t + U (5 * S + u)) := by
  have hn := hok.1
  intro m
  induction m with
  | zero =>
    intro S u t a hS hu hun h1 h2 h3 h4 h5
    have hSf := omUn_full hS (by omega)
    have hTS : U (5 * S + u) = -1000000 := by
      rw [hU S u hu hS, omFq_fm, hSf, omFm_set n (fun j hj => om_full_bit hj)]
      unfold omUb
      rw [if_neg (by omega)]
    show a = max a (t + U (5 * S + u))
    rw [hTS]
    omega
  | succ m ih =>
    intro S u t a hS hu hun h1 h2 h3 h4 h5
    have hne : S ≠ 2 ^ n - 1 := fun he => by
      have := omUn_of_full (n := n)
      rw [← he] at this
      omega
    have hb0 : omUb n S = 1000000 := by unfold omUb; rw [if_pos (by omega)]
    have hTS : U (5 * S + u) = omFm 1000000 S (omUg p d f s U S (u : Nat)) n := by rw [← hb0, ← omFq_fm (n := n) (d := d) (f := f)]; exact hU S u hu hS
    have htop := omUe_top hok hU (2 ^ n) S u hu hS (by omega)
    have hur := omUn_rng (n := n) (S := S)
    show omMn S (fun j => omVl n 0 d w f (fun _ u t j => t + omSu f s u j + p j) m (S ||| 2 ^ j) (f j) (t + omSu f s (u : Nat) j + p j) (omCj 0 d w a j (t + omSu f s (u : Nat) j + p j))) n = _
    rw [omMn_fm]
    have key := omFm_cx (S := S) (n := n) (g := omUg p d f s U S (u : Nat)) (g' := fun j => omVl n 0 d w f (fun _ u t j => t + omSu f s u j + p j) m (S ||| 2 ^ j) (f j) (t + omSu f s (u : Nat) j + p j) (omCj 0 d w a j (t + omSu f s (u : Nat) j + p j))) (F := fun x => max a (t + x)) (fun x y hxy => by show max a (t + x) ≤ max a (t + y); omega) (fun j hj hb => by
      have ho := hok.2.1 j hj
      have hs := omSu_rng hok hj (u : Nat)
      have hun2 := omUn_ins hj hb
      have e : omCj 0 d w a j (t + omSu f s (u : Nat) j + p j) = max a (t + omSu f s (u : Nat) j + p j - d j) := rfl
      have efj : f j = (((f j).toNat : Nat) : Int) := by omega
      have := ih (S ||| 2 ^ j) (f j).toNat (t + omSu f s (u : Nat) j + p j) (omCj 0 d w a j (t + omSu f s (u : Nat) j + p j)) (om_ins_lt hS hj) (by omega) (by omega) (by rw [e]; omega) (by rw [e]; omega) (by rw [e]; omega) (by omega) (by omega)
      rw [← efj] at this
      show omVl n 0 d w f (fun _ u t j => t + omSu f s u j + p j) m (S ||| 2 ^ j) (f j) (t + omSu f s (u : Nat) j + p j) (omCj 0 d w a j (t + omSu f s (u : Nat) j + p j)) = max a (t + omUg p d f s U S (u : Nat) j)
      rw [this, e]
      unfold omUg omTk
      omega) (by omega) (by
        rw [← hTS]
        show max a (t + U (5 * S + u)) ≤ 1000000
        omega)
    rw [key, ← hTS]
theorem om_setups {n : Nat} {p d w r f s : Nat → Int} {U : Nat → Int} (hok : omOk n p d w r f s) (hU : ∀ S u, u < 5 → S < 2 ^ n → omUe 0 n p d f s U S u ∧ -1000000 ≤ U (5 * S + u) ∧ U (5 * S + u) ≤ 1000000) : min 1000000 (omVl n 0 d w f (fun _ u t j => t + omSu f s u j + p j) n 0 4 0 (omA0 0)) = U 4 := by
  have hp0 : 0 < 2 ^ n := Nat.two_pow_pos n
  have hA : omA0 0 = -1000000 := if_pos rfl
  have h := omVl_setup hok (fun S u hu hS => (hU S u hu hS).1) n 0 4 0 (omA0 0) hp0 (by decide) omUn_0 (by omega) (by omega) (by omega) (by omega) (by omega)
  have h0 := (hU 0 4 (by decide) hp0).2
  have h' : omVl n 0 d w f (fun _ u t j => t + omSu f s u j + p j) n 0 4 0 (omA0 0) = max (omA0 0) (0 + U 4) := h
  have h0' : -1000000 ≤ U 4 ∧ U 4 ≤ 1000000 := h0
  rw [h']
  omega
theorem om_leastWithSetups {σ : omH} (hI : omInv σ) : omGood (s_L_leastWithSetups σ) s_X12_leastWithSetups := by
  obtain ⟨n, p, d, w, r, f, s, h1, h2, h3, h45, h6⟩ := id hI
  have hn := h1.1
  by_cases hf : 1 ≤ n ∧ n ≤ 7
  · obtain ⟨σ1, a1, a2⟩ := s_X4_least_eq (c := 0) (c2 := 9) (E := fun _ u t j => t + omSu f s u j + p j) (Bd := fun k => 100 + 50 * (k : Int)) h1 hf.2 (by decide) (by decide) h2 (fun k hk => by show 0 ≤ 100 + 50 * (k : Int) ∧ 100 + 50 * (k : Int) ≤ 1000; omega) (fun k S u t j ht1 ht2 hj => by
      have ht2' : t ≤ 100 + 50 * (k : Int) := ht2
      have h7 := h1.2.1 j hj
      have h8 := omSu_rng h1 hj u
      show 0 ≤ t + omSu f s u j + p j ∧ t + omSu f s u j + p j ≤ 100 + 50 * ((k + 1 : Nat) : Int)
      omega) (fun τ q S u t j g1 g2 g3 g4 g5 g6 g7 g8 g9 g10 g11 => s_X4_endBehind_9 h1 g1 g2 g6 ⟨g8, g9⟩)
    have hm0 : omMv n p d w r f s (omsu σ1 60 0 (omw (min 1000000 (omVl n 0 d w f (fun _ u t j => t + omSu f s u j + p j) n 0 4 0 (omA0 0))))) := (h3.ex a2 (by simp)).ex (W := [60]) (omEx.su (by simp)) (by simp)
    have hm1 : omMv n p d w r f s (omsu (omsu σ1 60 0 (omw (min 1000000 (omVl n 0 d w f (fun _ u t j => t + omSu f s u j + p j) n 0 4 0 (omA0 0))))) 43 0 0) := hm0.ex2 (W := [43]) (omEx.su (by simp)) (by rw [omsu_n (Or.inr (by decide))]) (by simp)
    obtain ⟨σ2, c1, c2, c3⟩ := s_X12_costsBehind_eq (v := 0) h1 (by decide) hm1
    have hval := om_setups (w := w) h1 c3
    refine omGood.rd3 (σ1 := σ1) (σ2 := σ2) (v := min 1000000 (omVl n 0 d w f (fun _ u t j => t + omSu f s u j + p j) n 0 4 0 (omA0 0))) (W2 := [57]) hI a2 (by simp) ?_ ?_ c2 (by simp)
    · unfold s_L_leastWithSetups s_X11_leastWithSetups
      rw [(s_X11_needFewJobs_eq h1 h2).2 hf, om_b0]
      simp only [Sum.elim_inr]
      rw [(show s_X4_least 9 0 σ = some (min 1000000 (omVl n 0 d w f (fun _ u t j => t + omSu f s u j + p j) n 0 4 0 (omA0 0)), σ1) from a1), om_b0, om_b0]
      simp only [Sum.elim_inr]
      rw [omg_t (by decide)]
      rfl
    · unfold s_X12_leastWithSetups
      rw [(s_X12_areFew_eq h1 hm0).2 hf, om_b0, if_neg (by show ¬ omw 1 = 0; decide)]
      have c1' : s_X12_costsBehind 0 (omsu (omsu σ1 60 0 (omw (min 1000000 (omVl n 0 d w f (fun _ u t j => t + omSu f s u j + p j) n 0 4 0 (omA0 0))))) 43 0 0) = some σ2 := c1
      show Option.bind (s_X12_costsBehind 0 (omsu (omsu σ1 60 0 (omw (min 1000000 (omVl n 0 d w f (fun _ u t j => t + omSu f s u j + p j) n 0 4 0 (omA0 0))))) 43 0 0)) _ = _
      rw [c1', om_b0, omg_t (by decide), hval]
      rfl
  · refine omGood.th (k := 1) (v := 0) hI (Or.inl rfl) ?_ ?_
    · unfold s_L_leastWithSetups s_X11_leastWithSetups
      rw [(s_X11_needFewJobs_eq h1 h2).1 hf]
      rfl
    · unfold s_X12_leastWithSetups
      rw [(s_X12_areFew_eq h1 h3).1 hf, om_b0, if_pos (by show omw 0 = 0; decide)]
