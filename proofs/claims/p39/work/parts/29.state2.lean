/-- the jobs behind one moved down, up to a place -/
def omSh (j m : Nat) (g : Nat → Int) : Nat → Int := fun i => if j ≤ i ∧ i < m then g (i + 1) else g i
theorem omSh_0 {j : Nat} {g : Nat → Int} : omSh j j g = g := by
  funext i
  unfold omSh
  rw [if_neg (by omega)]
theorem omSh_r {j m : Nat} {g : Nat → Int} : omSh j m g (m + 1) = g (m + 1) := by
  unfold omSh
  rw [if_neg (by omega)]
theorem omSh_s {j m : Nat} {g : Nat → Int} (h : j ≤ m) : omUp (omSh j m g) m (g (m + 1)) = omSh j (m + 1) g := by
  funext i
  unfold omUp omSh
  by_cases him : i = m
  · subst him
    rw [if_pos rfl, if_pos (by omega)]
  · rw [if_neg him]
    by_cases hi : j ≤ i ∧ i < m
    · rw [if_pos hi, if_pos (by omega)]
    · rw [if_neg hi, if_neg (by omega)]
theorem l_X2_remove_4_eq {n j : Nat} {p d w r f s : Nat → Int} (hn : n ≤ 10) : ∀ (k m fuel : Nat) (σ : omH), m + 1 + k = n → j ≤ m → k < fuel → omCv n (omSh j m p) (omSh j m d) (omSh j m w) (omSh j m r) (omSh j m f) s σ →
    ∃ σ', l_X2_remove_4 fuel ((m : Int) + 1) σ = some σ' ∧ omCv n (omSh j (n - 1) p) (omSh j (n - 1) d) (omSh j (n - 1) w) (omSh j (n - 1) r) (omSh j (n - 1) f) s σ' ∧ omEx [18, 19, 20, 21, 22] σ σ' := by
  intro k
  induction k with
  | zero =>
    intro m fuel σ hm hj hf hc
    obtain ⟨fuel, rfl⟩ : ∃ z, fuel = z + 1 := ⟨fuel - 1, by omega⟩
    rw [l_X2_remove_4.eq_2, hc.1, show ((m : Int) + 1) = ((m + 1 : Nat) : Int) by omega, om_wn (show m + 1 < 2147483648 by omega), om_wn (show n < 2147483648 by omega), if_neg (by omega)]
    have : n - 1 = m := by omega
    rw [this]
    exact ⟨σ, rfl, hc, omEx.rfl'⟩
  | succ k ih =>
    intro m fuel σ hm hj hf hc
    obtain ⟨fuel, rfl⟩ : ∃ z, fuel = z + 1 := ⟨fuel - 1, by omega⟩
    rw [l_X2_remove_4.eq_2, hc.1, show ((m : Int) + 1) = ((m + 1 : Nat) : Int) by omega, om_wn (show m + 1 < 2147483648 by omega), om_wn (show n < 2147483648 by omega), if_pos (by omega), omg_t ⟨by omega, by omega⟩, omg_t ⟨by omega, by omega⟩, omg_t ⟨by omega, by omega⟩, omg_t ⟨by omega, by omega⟩, omg_t ⟨by omega, by omega⟩, Int.toNat_natCast, show (((m + 1 : Nat) : Int) - 1) = (m : Int) by omega, hc.2.1, hc.2.2.1, hc.2.2.2.1, hc.2.2.2.2.1, hc.2.2.2.2.2.1]
    simp only [omSh_r]
    obtain ⟨τ, x1, x2, x3⟩ := s_X2_put_eq (j := m) (a := p (m + 1)) (b := d (m + 1)) (c := w (m + 1)) (e := r (m + 1)) (g := f (m + 1)) hc (by omega)
    rw [x1, om_b0]
    simp only [omSh_s hj] at x2
    obtain ⟨σ', z1, z2, z3⟩ := ih (m + 1) fuel τ (by omega) (by omega) (by omega) x2
    exact ⟨σ', z1, z2, x3.trans z3⟩
theorem omSh_ok {n j : Nat} {p d w r f s : Nat → Int} (hok : omOk n p d w r f s) (hj : j < n) : omOk (n - 1) (omSh j (n - 1) p) (omSh j (n - 1) d) (omSh j (n - 1) w) (omSh j (n - 1) r) (omSh j (n - 1) f) s := by
  have hn := hok.1
  refine ⟨by omega, fun i hi => ?_, hok.2.2⟩
  unfold omSh
  by_cases h : j ≤ i ∧ i < n - 1
  · simp only [h, and_self, if_true]
    exact hok.2.1 (i + 1) (by omega)
  · simp only [h, if_false]
    exact hok.2.1 i (by omega)
