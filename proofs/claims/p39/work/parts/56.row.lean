/-! ===== the least of all sequences in a row against the table ===== -/
theorem omMn_fm {S : Nat} {g : Nat → Int} : ∀ k, omMn S g k = omFm 1000000 S g k := by
  intro k
  induction k with
  | zero => rfl
  | succ k ih =>
    show (if S.testBit k = true then omMn S g k else min (omMn S g k) (g k)) = (if S.testBit k = true then omFm 1000000 S g k else min (omFm 1000000 S g k) (g k))
    rw [ih]
/-- a least under something that keeps the order -/
theorem omFm_cx {S n : Nat} {g g' : Nat → Int} {F : Int → Int} (hF : ∀ x y, x ≤ y → F x ≤ F y) (h : ∀ j, j < n → ¬ S.testBit j = true → g' j = F (g j)) (h1 : omFm 1000000 S g n < 1000000) (h2 : F (omFm 1000000 S g n) ≤ 1000000) : omFm 1000000 S g' n = F (omFm 1000000 S g n) := by
  rcases omFm_att (b := 1000000) (S := S) (g := g) n with h3 | ⟨j, hj, hb, h3⟩
  · omega
  · have l1 := omFm_low (b := 1000000) (S := S) (g := g') n j hj hb
    rw [h j hj hb, ← h3] at l1
    rcases omFm_att (b := 1000000) (S := S) (g := g') n with h4 | ⟨i, hi, hbi, h4⟩
    · omega
    · have l2 := omFm_low (b := 1000000) (S := S) (g := g) n i hi hbi
      have l3 := hF _ _ l2
      rw [← h i hi hbi, ← h4] at l3
      omega
theorem omLn_ins {n S j : Nat} {p : Nat → Int} (hj : j < n) (hb : ¬ S.testBit j = true) : omLn n p (S ||| 2 ^ j) = omLn n p S + p j := by
  have e : omLn n p (S ||| 2 ^ j) = omSum n (fun i => (if S.testBit i then p i else 0) + (if i = j then p i else 0)) := omSum_congr (fun i hi => by
    rw [om_ins_bit]
    by_cases hij : i = j
    · subst hij; simp [hb]
    · have : ¬ j = i := fun h => hij h.symm
      simp [hij, this])
  rw [omSum_add, omSum_single (n := n) (j := j) (g := fun i => if i = j then p i else 0) hj (fun i _ h => if_neg h), if_pos rfl] at e
  exact e
theorem omEq_low0 {n : Nat} {p d w r f s : Nat → Int} {T : Nat → Int} (hok : omOk n p d w r f s) (h : ∀ S, S < 2 ^ n → omEq n p d w 0 T S) : ∀ m S, S < 2 ^ n → 2 ^ n - S ≤ m → T S ≤ 60000 := by
  have hn := hok.1
  intro m
  induction m with
  | zero => intro S hS hm; omega
  | succ m ih =>
    intro S hS hm
    rw [h S hS]
    by_cases hx : ∃ j, j < n ∧ ¬ S.testBit j = true
    · obtain ⟨j, hj, hb⟩ := hx
      have h1 := omFm_low (b := omB0 n 0 S) (g := omTg n p d w 0 T S) n j hj hb
      have h2 := ih (S ||| 2 ^ j) (om_ins_lt hS hj) (by have := om_or_gt hb; omega)
      have hL0 := omLn_rng (S := S) hok (Nat.le_refl n)
      have ho := hok.2.1 j hj
      have h4 : omTg n p d w 0 T S j = max (T (S ||| 2 ^ j)) (omLn n p S + p j - d j) := rfl
      omega
    · have hall : ∀ j, j < n → S.testBit j = true := fun j hj => Classical.byContradiction (fun hb => hx ⟨j, hj, hb⟩)
      rw [omFm_set n hall]
      have hun : omUn n S = 0 := omSum_zero (fun j hj => by rw [hall j hj]; rfl)
      have hSf := omUn_full hS hun
      have : omB0 n 0 S = -1000000 := by
        unfold omB0
        rw [if_neg (by omega), if_pos rfl]
      omega
theorem omEq_top {n v : Nat} {p d w r f s : Nat → Int} {T : Nat → Int} (hok : omOk n p d w r f s) (hv : v < 3) (h : ∀ S, S < 2 ^ n → omEq n p d w v T S) {S : Nat} (hS : S < 2 ^ n) : T S ≤ 60000 := by
  have hn := hok.1
  by_cases h0 : v = 0
  · subst h0
    exact omEq_low0 hok h (2 ^ n) S hS (by omega)
  · have h1 := omEq_low hok (by omega) h (2 ^ n) S hS (by omega)
    have h2 := omUn_rng (n := n) (S := S)
    omega
def omCx (c : Nat) (a x : Int) : Int := if c = 0 then max a x else a + x
theorem omVl_row {n c v : Nat} {p d w r f s : Nat → Int} {T : Nat → Int} (hok : omOk n p d w r f s) (hcv : (c = 0 ∧ v = 0) ∨ (c = 3 ∧ v = 1) ∨ (c = 4 ∧ v = 2)) (hT : ∀ S, S < 2 ^ n → omEq n p d w v T S) : ∀ (m S : Nat) (u a : Int), S < 2 ^ n → omUn n S = m → -1000000 ≤ a → (c ≠ 0 → 0 ≤ a) → a ≤ 20000 * (n - m) → omVl n c d w f (fun _ _ t j => t + p j) m S u (omLn n p S) a = omCx c a (T S) := by
  have hn := hok.1
  intro m
  induction m with
  | zero =>
    intro S u a hS hun h1 h2 h3
    have hSf := omUn_full hS (by omega)
    have hTS : T S = if v = 0 then -1000000 else 0 := by
      rw [hT S hS, hSf, omFm_set n (fun j hj => om_full_bit hj)]
      unfold omB0
      rw [if_neg (by omega)]
    show a = omCx c a (T S)
    rw [hTS]
    unfold omCx
    rcases hcv with ⟨rfl, rfl⟩ | ⟨rfl, rfl⟩ | ⟨rfl, rfl⟩
    · rw [if_pos rfl, if_pos rfl]; omega
    · rw [if_neg (by decide), if_neg (by decide)]; omega
    · rw [if_neg (by decide), if_neg (by decide)]; omega
  | succ m ih =>
    intro S u a hS hun h1 h2 h3
    have hne : S ≠ 2 ^ n - 1 := fun he => by
      have := omUn_of_full (n := n)
      rw [← he] at this
      omega
    have hb0 : omB0 n v S = 1000000 := by unfold omB0; rw [if_pos (by omega)]
    have hTS : T S = omFm 1000000 S (omTg n p d w v T S) n := by rw [← hb0]; exact hT S hS
    have htop := omEq_top hok (by omega) hT hS
    have hL := omLn_rng (S := S) hok (Nat.le_refl n)
    show omMn S (fun j => omVl n c d w f (fun _ _ t j => t + p j) m (S ||| 2 ^ j) (f j) (omLn n p S + p j) (omCj c d w a j (omLn n p S + p j))) n = _
    rw [omMn_fm]
    have hF : ∀ x y, x ≤ y → omCx c a x ≤ omCx c a y := by
      intro x y hxy
      unfold omCx
      split <;> omega
    have key := omFm_cx (S := S) (n := n) (g := omTg n p d w v T S) (g' := fun j => omVl n c d w f (fun _ _ t j => t + p j) m (S ||| 2 ^ j) (f j) (omLn n p S + p j) (omCj c d w a j (omLn n p S + p j))) (F := omCx c a) hF (fun j hj hb => by
      have ho := hok.2.1 j hj
      have e := omLn_ins (p := p) hj hb
      have hL2 := omLn_rng (S := S ||| 2 ^ j) hok (Nat.le_refl n)
      have hun2 := omUn_ins hj hb
      have hcj := omCj_rng (c := c) (a := a) (t := omLn n p S + p j) hok hj (by omega)
      have hcj2 := hcj.2 h1
      have := ih (S ||| 2 ^ j) (f j) (omCj c d w a j (omLn n p S + p j)) (om_ins_lt hS hj) (by omega) (by omega) (fun hc => by have := h2 hc; omega) (by
        have : max a 0 ≤ 20000 * (n - ((m + 1 : Nat) : Int)) := by
          have := omUn_rng (n := n) (S := S)
          omega
        omega)
      show omVl n c d w f (fun _ _ t j => t + p j) m (S ||| 2 ^ j) (f j) (omLn n p S + p j) (omCj c d w a j (omLn n p S + p j)) = _
      rw [← e] at this ⊢
      rw [this, e]
      unfold omTg omJ omCj omCx omCs omTd
      rcases hcv with ⟨rfl, rfl⟩ | ⟨rfl, rfl⟩ | ⟨rfl, rfl⟩
      · simp only [if_true]; omega
      · simp; omega
      · simp; omega) (by omega) (by
        rw [← hTS]
        unfold omCx
        have := omUn_rng (n := n) (S := S)
        split <;> omega)
    rw [key, ← hTS]
theorem omLn_0 {n : Nat} {p : Nat → Int} : omLn n p 0 = 0 := omSum_zero (fun i _ => by rw [Nat.zero_testBit]; rfl)
theorem omUn_0 {n : Nat} : omUn n 0 = n := by
  have h1 : omUn n 0 + (0 : Nat) = n := omSs_un (n := n) (p := fun _ => 0) (d := fun _ => 0) (w := fun _ => 0) (T := fun _ => 0) (q := fun _ => 0) 0 (fun i hi => by omega)
  omega
theorem om_row {n c v : Nat} {p d w r f s : Nat → Int} {T : Nat → Int} (hok : omOk n p d w r f s) (hcv : (c = 0 ∧ v = 0) ∨ (c = 3 ∧ v = 1) ∨ (c = 4 ∧ v = 2)) (hT : ∀ S, S < 2 ^ n → omEq n p d w v T S ∧ -1000000 ≤ T S ∧ T S ≤ 1000000) : min 1000000 (omVl n c d w f (fun _ _ t j => t + p j) n 0 4 0 (omA0 c)) = T 0 := by
  have hp0 : 0 < 2 ^ n := Nat.two_pow_pos n
  have hA : -1000000 ≤ omA0 c ∧ omA0 c ≤ 0 ∧ (c ≠ 0 → omA0 c = 0) ∧ (c = 0 → omA0 c = -1000000) := by unfold omA0; split <;> omega
  have h := omVl_row hok hcv (fun S hS => (hT S hS).1) n 0 4 (omA0 c) hp0 omUn_0 hA.1 (fun hc => by have := hA.2.2.1 hc; omega) (by omega)
  rw [omLn_0] at h
  have h0 := (hT 0 hp0).2
  rw [h]
  unfold omCx
  split
  · have := hA.2.2.2 (by assumption); omega
  · have := hA.2.2.1 (by assumption); omega
theorem s_X11_needFewJobs_eq {n : Nat} {p d w r f s : Nat → Int} {σ : omH} (hok : omOk n p d w r f s) (hc : omCv n p d w r f s σ) : (¬ (1 ≤ n ∧ n ≤ 7) → s_X11_needFewJobs σ = some (Sum.inl 2)) ∧ ((1 ≤ n ∧ n ≤ 7) → s_X11_needFewJobs σ = some (Sum.inr ())) := by
  have hn := hok.1
  unfold s_X11_needFewJobs
  rw [hc.1, s_X11_isWithin_eq (by omega) (by decide) (by decide), om_b0]
  exact ⟨fun h => om_if1 (by omega), fun h => om_if0 (by omega)⟩
