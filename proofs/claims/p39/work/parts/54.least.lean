def omA0 (c : Nat) : Int := if c = 0 then -1000000 else 0
theorem s_X4_least_eq {n c c2 : Nat} {p d w r f s : Nat → Int} {Bd : Nat → Int} {E : Nat → Int → Int → Nat → Int} {σ : omH} (hok : omOk n p d w r f s) (hn7 : n ≤ 7) (hcc : c < 5) (hc2 : 8 ≤ c2 ∧ c2 < 11) (hc : omCv n p d w r f s σ) (hBd : ∀ k, k ≤ 10 → 0 ≤ Bd k ∧ Bd k ≤ 1000) (hE : ∀ (k S : Nat) (u t : Int) (j : Nat), 0 ≤ t → t ≤ Bd k → j < n → 0 ≤ E S u t j ∧ E S u t j ≤ Bd (k + 1)) (hEq : ∀ (τ : omH) (q : Nat → Nat) (S : Nat) (u t : Int) (j : Nat), omCv n p d w r f s τ → τ 38 1 = c2 → omSt (omKb 6 p d w r) n q → (∀ k, k < n → τ 39 k = q k) → S < 2 ^ n → j < n → ¬ S.testBit j = true → -1 ≤ u → u ≤ 4 → 0 ≤ t → t ≤ 1000 → s_X4_endBehind S u t j τ = some (E S u t j)) :
    ∃ σ', s_X4_least c2 c σ = some (min 1000000 (omVl n c d w f E n 0 4 0 (omA0 c)), σ') ∧ omEx [38, 39] σ σ' := by
  have ex0 : omEx [38, 39] σ (omsu (omsu (omsu σ 38 1 (c2 : Nat)) 38 2 (c : Nat)) 38 3 1000000) := ((omEx.su (by simp)).trans (omEx.su (by simp))).trans (omEx.su (by simp))
  obtain ⟨τ0, q, a1, a2, a3, a4⟩ := s_X2_fillInOrder_eq (c := 6) (a := 39) hok (hc.ex ex0 (by simp)) (by decide) (by decide)
  have hc0 := (hc.ex ex0 (by simp)).ex a2 (by simp)
  have e1 : τ0 38 1 = c2 := by rw [a2 38 (by simp), omsu_n (Or.inr (by decide)), omsu_n (Or.inr (by decide)), omsu_s]
  have e2 : τ0 38 2 = c := by rw [a2 38 (by simp), omsu_n (Or.inr (by decide)), omsu_s]
  have e3 : τ0 38 3 = 1000000 := by rw [a2 38 (by simp), omsu_s]
  have hun : omUn n 0 = n := by
    have h1 : omUn n 0 + (0 : Nat) = n := omSs_un (n := n) (p := p) (d := d) (w := w) (T := fun _ => 0) (q := fun _ => 0) 0 (fun i hi => by omega)
    omega
  have hb0 := hBd 0 (by omega)
  have hA : -1000000 ≤ omA0 c ∧ omA0 c ≤ 0 := by unfold omA0; split <;> omega
  obtain ⟨τ1, b1, b2, b3⟩ := s_X4_tryAll_eq hok hn7 hcc hc0 e2 hBd hE (fun τ S u t j h1 h2 h3 h4 h5 h6 h7 h8 => hEq τ q S u t j (hc0.ex h1.1 (by simp)) (by rw [h1.2 1 (by decide)]; exact e1) a3 (fun k hk => by rw [h1.1 39 (by simp)]; exact a4 k hk) h2 h3 h4 h5 h6 h7 h8) n 0 10 0 4 0 (omA0 c) τ0 (by omega) (by omega) (Nat.two_pow_pos n) hun ⟨omEx.rfl', fun _ _ => rfl⟩ (by decide) (by decide) (by decide) hb0.1 hA.1 (by omega) (by omega) (by omega)
  have b1' : s_X4_tryAll 10 0 4 0 (omA0 c) 0 τ0 = some τ1 := b1
  refine ⟨τ1, ?_, (ex0.trans (a2.mono (by simp))).trans (b2.1.mono (by simp))⟩
  unfold s_X4_least s_X1_ofNoJob
  rw [omg_t ⟨hc2.1, hc2.2, by omega, hcc⟩, a1, om_b0, omg_t ⟨by omega, hcc⟩, omg_t ⟨by omega, hcc⟩]
  have e4 : (if c = 0 then some (-1000000 : Int) else some 0) = some (omA0 c) := by unfold omA0; split <;> rfl
  rw [e4, om_b0, b1', om_b0, b3, e3]
