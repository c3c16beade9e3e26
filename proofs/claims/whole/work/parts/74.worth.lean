/-! .. the reference's busy times -/
def omBz (n : Nat) (p r : Nat → Int) (S : Nat) (σ : omH) : Prop := ∀ t : Nat, t < 512 → σ 59 t = if 0 < omWb n p r S t then 1 else 0
theorem l_X12_takes_14_eq {n S j : Nat} {p d w r f s : Nat → Int} (hok : omOk n p d w r f s) (hj : j < n) : ∀ (m x fuel : Nat) (σ : omH), x + m = omTe n p r S j → m < fuel → r j ≤ (x : Int) → (∀ t : Nat, t < 512 → σ 59 t = if r j ≤ (t : Int) ∧ t < x then 1 else if 0 < omWb n p r S t then 1 else 0) →
    ∃ σ', l_X12_takes_14 fuel x (p j - omFi n p r S (r j) x) σ = some (((omTe n p r S j : Nat) : Int), σ') ∧ omEx [59] σ σ' ∧ ∀ t : Nat, t < 512 → σ' 59 t = if r j ≤ (t : Int) ∧ t < omTe n p r S j then 1 else if 0 < omWb n p r S t then 1 else 0 := by
  have hn := hok.1
  have hoj := hok.2.1 j hj
  obtain ⟨hT1, hT2, hT3, hT4⟩ := omTe_ok (S := S) hok hj
  intro m
  induction m with
  | zero =>
    intro x fuel σ hx hf hr h0
    obtain ⟨fuel, rfl⟩ : ∃ z, fuel = z + 1 := ⟨fuel - 1, by omega⟩
    have : x = omTe n p r S j := by omega
    subst this
    rw [l_X12_takes_14.eq_2, hT2, if_neg (by rw [Int.sub_self]; decide)]
    exact ⟨σ, rfl, omEx.rfl', h0⟩
  | succ m ih =>
    intro x fuel σ hx hf hr h0
    obtain ⟨fuel, rfl⟩ : ∃ z, fuel = z + 1 := ⟨fuel - 1, by omega⟩
    have hlt := hT3 x (by omega)
    have hge := omFi_le (n := n) (p := p) (r := r) (S := S) (a := r j) (show 0 ≤ x by omega)
    have h00 : omFi n p r S (r j) 0 = 0 := rfl
    have hW := omWb_0 (S := S) (t := x) hok
    have e3 : omFi n p r S (r j) (x + 1) = omFi n p r S (r j) x + (if r j ≤ (x : Int) then (if omWb n p r S x = 0 then 1 else 0) else 0) := rfl
    rw [if_pos hr] at e3
    have hσ : σ 59 x = if 0 < omWb n p r S x then 1 else 0 := by
      rw [h0 x (by omega), if_neg (by omega)]
    rw [l_X12_takes_14.eq_2, omw_id (a := p j - omFi n p r S (r j) x) (by omega) (by omega), if_pos (by omega), om_wn (show x < 2147483648 by omega), Int.toNat_natCast, omg_t ⟨by omega, by omega⟩, hσ]
    have e1 : (if omw (if 0 < omWb n p r S x then (1 : Int) else 0) = 0 then some (1 : Int) else some 0) = some (if omWb n p r S x = 0 then 1 else 0) := by
      by_cases h : omWb n p r S x = 0
      · rw [if_neg (show ¬ 0 < omWb n p r S x by omega), if_pos (by decide), if_pos h]
      · rw [if_pos (show 0 < omWb n p r S x by omega), if_neg (by decide), if_neg h]
    rw [e1, om_b0, omg_t ⟨by omega, by omega⟩, show p j - omFi n p r S (r j) x - (if omWb n p r S x = 0 then (1 : Int) else 0) = p j - omFi n p r S (r j) (x + 1) by rw [e3]; omega, show ((x : Int) + 1) = ((x + 1 : Nat) : Int) by omega]
    have ex1 : omEx [59] σ (omsu σ 59 x 1) := omEx.su (by simp)
    obtain ⟨σ', z1, z2, z3⟩ := ih (x + 1) fuel (omsu σ 59 x 1) (by omega) (by omega) (by omega) (fun t ht => by
      by_cases htx : t = x
      · subst htx
        rw [omsu_s, if_pos ⟨hr, by omega⟩]
      · rw [omsu_n (Or.inr htx), h0 t ht]
        by_cases h2 : r j ≤ (t : Int) ∧ t < x
        · rw [if_pos h2, if_pos ⟨h2.1, by omega⟩]
        · rw [if_neg h2, if_neg (show ¬ (r j ≤ (t : Int) ∧ t < x + 1) from fun h => h2 ⟨h.1, by omega⟩)])
    exact ⟨σ', z1, ex1.trans z2, z3⟩
theorem s_X12_takes_eq {n S j : Nat} {p d w r f s : Nat → Int} {σ : omH} (hok : omOk n p d w r f s) (hm : omMv n p d w r f s σ) (hj : j < n) (hb : ¬ S.testBit j = true) (hB : omBz n p r S σ) : ∃ σ', s_X12_takes j σ = some (((omTe n p r S j : Nat) : Int), σ') ∧ omEx [59] σ σ' ∧ omBz n p r (S ||| 2 ^ j) σ' := by
  have hn := hok.1
  have hoj := hok.2.1 j hj
  obtain ⟨hT1, hT2, hT3, hT4⟩ := omTe_ok (S := S) hok hj
  have hc : (((r j).toNat : Nat) : Int) = r j := by omega
  have hz : omFi n p r S (r j) (r j).toNat = 0 := omFi_zero _ (by omega)
  obtain ⟨σ', z1, z2, z3⟩ := l_X12_takes_14_eq (S := S) hok hj (omTe n p r S j - (r j).toNat) (r j).toNat FU σ (by omega) (by rw [FU_eq]; omega) (by omega) (fun t ht => by rw [hB t ht, if_neg (show ¬ (r j ≤ (t : Int) ∧ t < (r j).toNat) by omega)])
  rw [hz, Int.sub_zero, hc] at z1
  refine ⟨σ', ?_, z2, fun t ht => ?_⟩
  · unfold s_X12_takes
    rw [om_wn (show j < 2147483648 by omega), Int.toNat_natCast, hm.2.1, hm.2.2.2.2.1, omg_t ⟨by omega, by omega⟩, omg_t ⟨by omega, by omega⟩, z1, om_b0]
  · rw [z3 t ht, omWb_ins hok hj hb]
    have hW := omWb_0 (S := S) (t := t) hok
    unfold omXl
    by_cases h1 : r j ≤ (t : Int) ∧ t < omTe n p r S j
    · have := hT3 t h1.2
      rw [if_pos h1, if_neg (show ¬ (t : Int) < r j by omega), if_pos (show 0 < omWb n p r S t + max 0 (p j - omFi n p r S (r j) t) by omega)]
    · rw [if_neg h1]
      by_cases h2 : (t : Int) < r j
      · rw [if_pos h2, Int.add_zero]
      · have h3 : omTe n p r S j ≤ t := Nat.not_lt.mp (fun h => h1 ⟨by omega, h⟩)
        have h4 := omFi_le (n := n) (p := p) (r := r) (S := S) (a := r j) h3
        rw [if_neg h2, show max 0 (p j - omFi n p r S (r j) t) = 0 by omega, Int.add_zero]
theorem omWb_none {n : Nat} {p r : Nat → Int} : ∀ t, omWb n p r 0 t = 0 := by
  have hA : ∀ t, omAr n p r 0 t = 0 := fun t => omSum_zero (fun i _ => by rw [Nat.zero_testBit]; rfl)
  intro t
  induction t with
  | zero => exact hA 0
  | succ t ih =>
    show max 0 (omWb n p r 0 t - 1) + omAr n p r 0 (t + 1) = 0
    rw [ih, hA]; rfl
/-- what the first places of a sequence cost, as priorities -/
def omWo (n c : Nat) (p d w r : Nat → Int) (q : Nat → Nat) : Nat → Int
  | 0 => omA0 c
  | k + 1 => omCj c d w (omWo n c p d w r q k) (q k) ((omTe n p r (omSs q k) (q k) : Nat) : Int)
theorem omWo_congr {n c : Nat} {p d w r : Nat → Int} {q q' : Nat → Nat} : ∀ k, (∀ i, i < k → q i = q' i) → omWo n c p d w r q k = omWo n c p d w r q' k := by
  intro k
  induction k with
  | zero => intro _; rfl
  | succ k ih =>
    intro h
    show omCj c d w (omWo n c p d w r q k) (q k) _ = omCj c d w (omWo n c p d w r q' k) (q' k) _
    rw [ih (fun i hi => h i (by omega)), h k (by omega), omSs_congr k (fun i hi => h i (by omega))]
theorem omWo_rng {n c : Nat} {p d w r f s : Nat → Int} {q : Nat → Nat} (hok : omOk n p d w r f s) (hc : c = 0 ∨ c = 2) (hq : ∀ i, i < n → q i < n) : ∀ k, k ≤ n → -1000000 ≤ omWo n c p d w r q k ∧ omWo n c p d w r q k ≤ 1000 * (k : Nat) := by
  intro k
  induction k with
  | zero => intro _; show -1000000 ≤ omA0 c ∧ omA0 c ≤ _; unfold omA0; split <;> omega
  | succ k ih =>
    intro hk
    have h1 := ih (by omega)
    have hqk := hq k (by omega)
    have ho := hok.2.1 (q k) hqk
    obtain ⟨hT1, hT2, hT3, hT4⟩ := omTe_ok (S := omSs q k) hok hqk
    have h2 : omCj c d w (omWo n c p d w r q k) (q k) ((omTe n p r (omSs q k) (q k) : Nat) : Int) = if c = 0 then max (omWo n c p d w r q k) ((omTe n p r (omSs q k) (q k) : Nat) - d (q k)) else omWo n c p d w r q k + (omTe n p r (omSs q k) (q k) : Nat) := by
      rcases hc with rfl | rfl <;> rfl
    show -1000000 ≤ omCj c d w (omWo n c p d w r q k) (q k) ((omTe n p r (omSs q k) (q k) : Nat) : Int) ∧ omCj c d w (omWo n c p d w r q k) (q k) ((omTe n p r (omSs q k) (q k) : Nat) : Int) ≤ _
    rw [h2]
    split <;> omega
theorem l_X12_worth_2_eq {v : Nat} : ∀ (m k fuel : Nat) (σ : omH), k + m = 512 → m < fuel → (∀ t, t < k → σ 59 t = 0) → ∃ σ', l_X12_worth_2 v fuel k σ = some σ' ∧ omEx [59] σ σ' ∧ ∀ t, t < 512 → σ' 59 t = 0 := by
  intro m
  induction m with
  | zero =>
    intro k fuel σ hk hf h0
    obtain ⟨fuel, rfl⟩ : ∃ z, fuel = z + 1 := ⟨fuel - 1, by omega⟩
    have : k = 512 := by omega
    subst this
    rw [l_X12_worth_2.eq_2, if_neg (by decide)]
    exact ⟨σ, rfl, omEx.rfl', h0⟩
  | succ m ih =>
    intro k fuel σ hk hf h0
    obtain ⟨fuel, rfl⟩ : ∃ z, fuel = z + 1 := ⟨fuel - 1, by omega⟩
    rw [l_X12_worth_2.eq_2, om_wn (show k < 2147483648 by omega), show omw 512 = 512 from rfl, if_pos (by omega), omg_t ⟨by omega, by omega⟩, Int.toNat_natCast, show ((k : Int) + 1) = ((k + 1 : Nat) : Int) by omega]
    have ex1 : omEx [59] σ (omsu σ 59 k 0) := omEx.su (by simp)
    obtain ⟨σ', z1, z2, z3⟩ := ih (k + 1) fuel (omsu σ 59 k 0) (by omega) (by omega) (fun t ht => by
      by_cases htk : t = k
      · subst htk; exact omsu_s
      · rw [omsu_n (Or.inr htk)]; exact h0 t (by omega))
    exact ⟨σ', z1, ex1.trans z2, z3⟩
/-- a sequence of different jobs -/
def omSq (n : Nat) (q : Nat → Nat) : Prop := ∀ i, i < n → q i < n ∧ ¬ (omSs q i).testBit (q i) = true
theorem l_X12_worth_30_eq {n v : Nat} {p d w r f s : Nat → Int} {q : Nat → Nat} (hok : omOk n p d w r f s) (hq : omSq n q) : ∀ (m k fuel : Nat) (σ : omH), k + m = n → m < fuel → omMv n p d w r f s σ → (∀ i, i < n → σ 54 i = q i) → omBz n p r (omSs q k) σ →
    ∃ σ', l_X12_worth_30 v fuel (omWo n 0 p d w r q k) (omWo n 2 p d w r q k) k σ = some (omWo n 0 p d w r q n, omWo n 2 p d w r q n, σ') ∧ omEx [59] σ σ' := by
  have hn := hok.1
  intro m
  induction m with
  | zero =>
    intro k fuel σ hk hf hm hr hB
    obtain ⟨fuel, rfl⟩ : ∃ z, fuel = z + 1 := ⟨fuel - 1, by omega⟩
    have : k = n := by omega
    subst this
    rw [l_X12_worth_30.eq_2, hm.1, if_neg (Int.lt_irrefl _)]
    exact ⟨σ, rfl, omEx.rfl'⟩
  | succ m ih =>
    intro k fuel σ hk hf hm hr hB
    obtain ⟨fuel, rfl⟩ : ∃ z, fuel = z + 1 := ⟨fuel - 1, by omega⟩
    have hkn : k < n := by omega
    obtain ⟨hqk, hbk⟩ := hq k hkn
    have ho := hok.2.1 (q k) hqk
    obtain ⟨hT1, hT2, hT3, hT4⟩ := omTe_ok (S := omSs q k) hok hqk
    have hw := omWo_rng (c := 0) (q := q) hok (Or.inl rfl) (fun i hi => (hq i hi).1) k (by omega)
    obtain ⟨τ, a1, a2, a3⟩ := s_X12_takes_eq hok hm hqk hbk hB
    have e54 : τ 54 = σ 54 := a2 54 (by simp)
    have hm2 := hm.ex a2 (by simp)
    have e0 : omWo n 0 p d w r q (k + 1) = max (omWo n 0 p d w r q k) ((omTe n p r (omSs q k) (q k) : Nat) - d (q k)) := rfl
    have e2 : omWo n 2 p d w r q (k + 1) = omWo n 2 p d w r q k + (omTe n p r (omSs q k) (q k) : Nat) := rfl
    rw [l_X12_worth_30.eq_2, hm.1, om_wn (show k < 2147483648 by omega), om_wn (show n < 2147483648 by omega), if_pos (by omega), omg_t ⟨by omega, by omega⟩, Int.toNat_natCast, hr k hkn, a1, om_b0]
    show ∃ σ', omg (0 ≤ (k : Int) ∧ (k : Int) < 10) (omg (0 ≤ omw (τ 54 k) ∧ omw (τ 54 k) < 10) (Option.bind (if omw (omWo n 0 p d w r q k) < omw (((omTe n p r (omSs q k) (q k) : Nat) : Int) - τ 45 (omw (τ 54 k)).toNat) then omg (0 ≤ (k : Int) ∧ (k : Int) < 10) (omg (0 ≤ omw (τ 54 k) ∧ omw (τ 54 k) < 10) (some (((omTe n p r (omSs q k) (q k) : Nat) : Int) - τ 45 (omw (τ 54 k)).toNat))) else some (omWo n 0 p d w r q k)) (fun t7 => l_X12_worth_30 v fuel t7 (omWo n 2 p d w r q k + ((omTe n p r (omSs q k) (q k) : Nat) : Int)) ((k : Int) + 1) τ))) = _ ∧ _
    rw [e54, hr k hkn, om_wn (show q k < 2147483648 by omega), Int.toNat_natCast, hm2.2.2.1, omg_t ⟨by omega, by omega⟩, omg_t ⟨by omega, by omega⟩, omw_id (a := omWo n 0 p d w r q k) (by omega) (by omega), omw_id (a := ((omTe n p r (omSs q k) (q k) : Nat) : Int) - d (q k)) (by omega) (by omega)]
    have e1 : (if omWo n 0 p d w r q k < ((omTe n p r (omSs q k) (q k) : Nat) : Int) - d (q k) then omg (0 ≤ (k : Int) ∧ (k : Int) < 10) (omg (0 ≤ (q k : Int) ∧ (q k : Int) < 10) (some (((omTe n p r (omSs q k) (q k) : Nat) : Int) - d (q k)))) else some (omWo n 0 p d w r q k)) = some (omWo n 0 p d w r q (k + 1)) := by
      rw [e0, omg_t ⟨by omega, by omega⟩, omg_t ⟨by omega, by omega⟩]
      split
      · exact congrArg some (by omega)
      · exact congrArg some (by omega)
    rw [e1, om_b0, ← e2, show ((k : Int) + 1) = ((k + 1 : Nat) : Int) by omega]
    obtain ⟨σ', z1, z2⟩ := ih (k + 1) fuel τ (by omega) (by omega) hm2 (fun i hi => by rw [e54]; exact hr i hi) a3
    exact ⟨σ', z1, a2.trans z2⟩
theorem s_X12_worth_eq {n v : Nat} {p d w r f s : Nat → Int} {q : Nat → Nat} {σ : omH} (hok : omOk n p d w r f s) (hv : v < 2) (hq : omSq n q) (hm : omMv n p d w r f s σ) (hr : ∀ i, i < n → σ 54 i = q i) : ∃ σ', s_X12_worth v σ = some (omWo n (2 * v) p d w r q n, σ') ∧ omEx [59] σ σ' := by
  have hn := hok.1
  obtain ⟨τ, a1, a2, a3⟩ := l_X12_worth_2_eq (v := v) 512 0 FU σ (by omega) (by rw [FU_eq]; omega) (fun t ht => by omega)
  have a1' : l_X12_worth_2 v FU 0 σ = some τ := a1
  have hB : omBz n p r (omSs q 0) τ := fun t ht => by
    show τ 59 t = if 0 < omWb n p r 0 t then 1 else 0
    rw [a3 t ht, omWb_none, if_neg (by decide)]
  obtain ⟨σ', z1, z2⟩ := l_X12_worth_30_eq (v := v) hok hq n 0 FU τ (by omega) (by rw [FU_eq]; omega) (hm.ex a2 (by simp)) (fun i hi => by rw [a2 54 (by simp)]; exact hr i hi) hB
  have z1' : l_X12_worth_30 v FU (-1000000) 0 0 τ = some (omWo n 0 p d w r q n, omWo n 2 p d w r q n, σ') := z1
  refine ⟨σ', ?_, a2.trans z2⟩
  unfold s_X12_worth
  rw [a1', om_b0, z1', om_b0]
  by_cases h0 : v = 0
  · subst h0
    rw [if_pos (by decide)]
  · have : v = 1 := by omega
    subst this
    rw [if_neg (by decide)]
