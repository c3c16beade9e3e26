theorem s_X4_tryAll_eq {n c : Nat} {p d w r f s : Nat → Int} {Bd : Nat → Int} {E : Nat → Int → Int → Nat → Int} {σ0 : omH} (hok : omOk n p d w r f s) (hn7 : n ≤ 7) (hcc : c < 5) (hc : omCv n p d w r f s σ0) (h2 : σ0 38 2 = c) (hBd : ∀ k, k ≤ 10 → 0 ≤ Bd k ∧ Bd k ≤ 1000) (hE : ∀ (k S : Nat) (u t : Int) (j : Nat), 0 ≤ t → t ≤ Bd k → j < n → 0 ≤ E S u t j ∧ E S u t j ≤ Bd (k + 1)) (hEq : ∀ (τ : omH) (S : Nat) (u t : Int) (j : Nat), omTf σ0 τ → S < 2 ^ n → j < n → ¬ S.testBit j = true → -1 ≤ u → u ≤ 4 → 0 ≤ t → t ≤ 1000 → s_X4_endBehind S u t j τ = some (E S u t j)) :
    ∀ (m k fuel S : Nat) (u t a : Int) (τ : omH), k + m = n → m < fuel → S < 2 ^ n → omUn n S = m → omTf σ0 τ → -1 ≤ u → u ≤ 4 → 0 ≤ t → t ≤ Bd k → -1000000 ≤ a → a ≤ 20000 * (k : Nat) → -1000000 ≤ τ 38 3 → τ 38 3 ≤ 1000000 →
    ∃ τ', s_X4_tryAll fuel S u t a k τ = some τ' ∧ omTf σ0 τ' ∧ τ' 38 3 = min (τ 38 3) (omVl n c d w f E m S u t a) := by
  have hn := hok.1
  have hpw := om_pow_le hn
  have hp0 : 0 < 2 ^ n := Nat.two_pow_pos n
  intro m
  induction m with
  | zero =>
    intro k fuel S u t a τ hk hf hS hun htf hu1 hu2 ht1 ht2 ha1 ha2 hl1 hl2
    obtain ⟨fuel, rfl⟩ : ∃ z, fuel = z + 1 := ⟨fuel - 1, by omega⟩
    have hSf := omUn_full hS (by omega)
    have hv : omVl n c d w f E 0 S u t a = a := rfl
    rw [s_X4_tryAll.eq_2, omw_id (a := a) (by omega) (by omega), omw_id (a := τ 38 3) (by omega) (by omega), hv]
    by_cases hlt : a < τ 38 3
    · rw [if_pos hlt, if_neg (by rw [show omw 7 = 7 from rfl, om_wn (by omega)]; omega), s_X2_all_eq hok (hc.ex htf.1 (by simp)), om_b0, om_wn (show S < 2147483648 by omega), omw_id (a := ((2 ^ n : Nat) : Int) - 1) (by omega) (by omega), if_pos (by omega)]
      exact ⟨_, rfl, htf.su, by rw [omsu_s, Int.min_eq_right (by omega)]⟩
    · rw [if_neg hlt]
      exact ⟨τ, rfl, htf, by rw [Int.min_eq_left (by omega)]⟩
  | succ m ih =>
    intro k fuel S u t a τ hk hf hS hun htf hu1 hu2 ht1 ht2 ha1 ha2 hl1 hl2
    obtain ⟨fuel, rfl⟩ : ∃ z, fuel = z + 1 := ⟨fuel - 1, by omega⟩
    have hlow := omVl_low (c := c) hok hBd hE (m + 1) k S u t a (by omega) ht1 ht2 ha1 ha2
    rw [s_X4_tryAll.eq_2, omw_id (a := a) (by omega) (by omega), omw_id (a := τ 38 3) (by omega) (by omega)]
    by_cases hlt : a < τ 38 3
    · have hne : S ≠ 2 ^ n - 1 := fun he => by
        have := omUn_of_full (n := n)
        rw [← he] at this
        omega
      rw [if_pos hlt, if_neg (by rw [show omw 7 = 7 from rfl, om_wn (by omega)]; omega), s_X2_all_eq hok (hc.ex htf.1 (by simp)), om_b0, om_wn (show S < 2147483648 by omega), omw_id (a := ((2 ^ n : Nat) : Int) - 1) (by omega) (by omega), if_neg (by omega)]
      obtain ⟨ρ', x1, x2, x3⟩ := l_X4_tryAll_35_eq (k := k) (u := u) (t := t) (a := a) (g := fun j => omVl n c d w f E m (S ||| 2 ^ j) (f j) (E S u t j) (omCj c d w a j (E S u t j))) (l0 := τ 38 3) (rec := s_X4_tryAll fuel) hok hcc hc h2 hS hl2 (fun j ρ hjn hb hρ hρ1 hρ2 => by
        have hcρ := hc.ex hρ.1 (by simp)
        have ho := hok.2.1 j hjn
        have hend := hE k S u t j ht1 ht2 hjn
        have hb0 := hBd k (by omega)
        have hb1 := hBd (k + 1) (by omega)
        have hcost := omCj_rng (c := c) (a := a) (t := E S u t j) hok hjn (by omega)
        have hcost2 := hcost.2 ha1
        have hw : s_X1_with c a j (E S u t j) ρ = some (omCj c d w a j (E S u t j)) := s_X1_with_eq (C := fun _ => E S u t j) hok hcρ hcc hjn (by show 0 ≤ E S u t j ∧ E S u t j ≤ 1000; omega) (by omega)
        have hun2 := omUn_ins hjn hb
        obtain ⟨ρ2, y1, y2, y3⟩ := ih (k + 1) fuel (S ||| 2 ^ j) (f j) (E S u t j) (omCj c d w a j (E S u t j)) ρ (by omega) (by omega) (om_ins_lt hS hjn) (by omega) hρ (by omega) (by omega) hend.1 hend.2 (by omega) (by omega) hρ1 hρ2
        have hv2 := omVl_low (c := c) hok hBd hE m (k + 1) (S ||| 2 ^ j) (f j) (E S u t j) (omCj c d w a j (E S u t j)) (by omega) hend.1 hend.2 (by omega) (by omega)
        exact ⟨E S u t j, omCj c d w a j (E S u t j), ρ2, hEq ρ S u t j hρ hS hjn hb hu1 hu2 ht1 (by omega), hw, y1, y2, y3, Int.le_trans (Int.le_trans ha1 hcost.1) hv2⟩) n 0 FU τ (by omega) (by rw [FU_eq]; omega) htf hl1 (by show τ 38 3 = min (τ 38 3) 1000000; omega)
      have x1' : l_X4_tryAll_35 (s_X4_tryAll fuel) S u t a k FU 0 τ = some ρ' := x1
      rw [x1', om_b0]
      exact ⟨ρ', rfl, x2, x3⟩
    · rw [if_neg hlt]
      exact ⟨τ, rfl, htf, by rw [Int.min_eq_left (by omega)]⟩
