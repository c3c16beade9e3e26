/-! .. without an order in the families -/
theorem omFq_fm {n S : Nat} {b : Int} {d f g : Nat → Int} : ∀ k, omFq b (omAw 0 n d f S) g k = omFm b S g k := by
  intro k
  induction k with
  | zero => rfl
  | succ k ih =>
    show _ = if S.testBit k = true then omFm b S g k else min (omFm b S g k) (g k)
    by_cases hb : S.testBit k = true
    · rw [if_pos hb, omFq_f (fun h => h.1 hb), ih]
    · rw [if_neg hb, omFq_t ⟨hb, Or.inl rfl⟩, ih]
theorem omUe_top {n : Nat} {p d w r f s : Nat → Int} {U : Nat → Int} (hok : omOk n p d w r f s) (h : ∀ S u, u < 5 → S < 2 ^ n → omUe 0 n p d f s U S u) : ∀ m S u, u < 5 → S < 2 ^ n → 2 ^ n - S ≤ m → U (5 * S + u) ≤ 50 * omUn n S := by
  have hn := hok.1
  intro m
  induction m with
  | zero => intro S u hu hS hm; omega
  | succ m ih =>
    intro S u hu hS hm
    rw [h S u hu hS, omFq_fm]
    by_cases hx : ∃ j, j < n ∧ ¬ S.testBit j = true
    · obtain ⟨j, hj, hb⟩ := hx
      have ho := hok.2.1 j hj
      have h1 := omFm_low (b := omUb n S) (g := omUg p d f s U S (u : Nat)) n j hj hb
      have h2 := ih (S ||| 2 ^ j) (f j).toNat (by omega) (om_ins_lt hS hj) (by have := om_or_gt hb; omega)
      have h3 := omUn_ins hj hb
      have h4 := omTk_rng hok hj (u : Nat)
      have h5 := omUn_rng (n := n) (S := S ||| 2 ^ j)
      have h6 : omUg p d f s U S (u : Nat) j = omTk p f s (u : Nat) j + max (-(d j)) (U (5 * (S ||| 2 ^ j) + (f j).toNat)) := rfl
      omega
    · have hall : ∀ j, j < n → S.testBit j = true := fun j hj => Classical.byContradiction (fun hb => hx ⟨j, hj, hb⟩)
      rw [omFm_set n hall]
      have hun : omUn n S = 0 := omSum_zero (fun j hj => by rw [hall j hj]; rfl)
      have hSf := omUn_full hS hun
      have : omUb n S = -1000000 := by
        unfold omUb
        rw [if_neg (by omega)]
      omega
theorem omVl_setup {n : Nat} {p d w r f s : Nat → Int} {U : Nat → Int} (hok : omOk n p d w r f s) (hU : ∀ S u, u < 5 → S < 2 ^ n → omUe 0 n p d f s U S u) : ∀ (m S u : Nat) (t a : Int), S < 2 ^ n → u < 5 → omUn n S = m → t - 1000000 ≤ a → -1000000 ≤ a → a ≤ 10000 → 0 ≤ t → t ≤ 50 * (n - m) → omVl n 0 d w f (fun _ u t j => t + omSu f s u j + p j) m S (u : Nat) t a = max a (t + U (5 * S + u)) := by
  have hn := hok.1
  intro m
  induction m with
  | zero =>
    intro S u t a hS hu hun h1 h2 h3 h4 h5
    have hSf := omUn_full hS (by omega)
    have hTS : U (5 * S + u) = -1000000 := by
      rw [hU S u hu hS, omFq_fm, hSf, omFm_set n (fun j hj => om_full_bit hj)]
      unfold omUb
      rw [if_neg (by omega)]
    show a = max a (t + U (5 * S + u))
    rw [hTS]
    omega
  | succ m ih =>
    intro S u t a hS hu hun h1 h2 h3 h4 h5
    have hne : S ≠ 2 ^ n - 1 := fun he => by
      have := omUn_of_full (n := n)
      rw [← he] at this
      omega
    have hb0 : omUb n S = 1000000 := by unfold omUb; rw [if_pos (by omega)]
    have hTS : U (5 * S + u) = omFm 1000000 S (omUg p d f s U S (u : Nat)) n := by rw [← hb0, ← omFq_fm (n := n) (d := d) (f := f)]; exact hU S u hu hS
    have htop := omUe_top hok hU (2 ^ n) S u hu hS (by omega)
    have hur := omUn_rng (n := n) (S := S)
    show omMn S (fun j => omVl n 0 d w f (fun _ u t j => t + omSu f s u j + p j) m (S ||| 2 ^ j) (f j) (t + omSu f s (u : Nat) j + p j) (omCj 0 d w a j (t + omSu f s (u : Nat) j + p j))) n = _
    rw [omMn_fm]
    have key := omFm_cx (S := S) (n := n) (g := omUg p d f s U S (u : Nat)) (g' := fun j => omVl n 0 d w f (fun _ u t j => t + omSu f s u j + p j) m (S ||| 2 ^ j) (f j) (t + omSu f s (u : Nat) j + p j) (omCj 0 d w a j (t + omSu f s (u : Nat) j + p j))) (F := fun x => max a (t + x)) (fun x y hxy => by show max a (t + x) ≤ max a (t + y); omega) (fun j hj hb => by
      have ho := hok.2.1 j hj
      have hs := omSu_rng hok hj (u : Nat)
      have hun2 := omUn_ins hj hb
      have e : omCj 0 d w a j (t + omSu f s (u : Nat) j + p j) = max a (t + omSu f s (u : Nat) j + p j - d j) := rfl
      have efj : f j = (((f j).toNat : Nat) : Int) := by omega
      have := ih (S ||| 2 ^ j) (f j).toNat (t + omSu f s (u : Nat) j + p j) (omCj 0 d w a j (t + omSu f s (u : Nat) j + p j)) (om_ins_lt hS hj) (by omega) (by omega) (by rw [e]; omega) (by rw [e]; omega) (by rw [e]; omega) (by omega) (by omega)
      rw [← efj] at this
      show omVl n 0 d w f (fun _ u t j => t + omSu f s u j + p j) m (S ||| 2 ^ j) (f j) (t + omSu f s (u : Nat) j + p j) (omCj 0 d w a j (t + omSu f s (u : Nat) j + p j)) = max a (t + omUg p d f s U S (u : Nat) j)
      rw [this, e]
      unfold omUg omTk
      omega) (by omega) (by
        rw [← hTS]
        show max a (t + U (5 * S + u)) ≤ 1000000
        omega)
    rw [key, ← hTS]
theorem om_setups {n : Nat} {p d w r f s : Nat → Int} {U : Nat → Int} (hok : omOk n p d w r f s) (hU : ∀ S u, u < 5 → S < 2 ^ n → omUe 0 n p d f s U S u ∧ -1000000 ≤ U (5 * S + u) ∧ U (5 * S + u) ≤ 1000000) : min 1000000 (omVl n 0 d w f (fun _ u t j => t + omSu f s u j + p j) n 0 4 0 (omA0 0)) = U 4 := by
  have hp0 : 0 < 2 ^ n := Nat.two_pow_pos n
  have hA : omA0 0 = -1000000 := if_pos rfl
  have h := omVl_setup hok (fun S u hu hS => (hU S u hu hS).1) n 0 4 0 (omA0 0) hp0 (by decide) omUn_0 (by omega) (by omega) (by omega) (by omega) (by omega)
  have h0 := (hU 0 4 (by decide) hp0).2
  have h' : omVl n 0 d w f (fun _ u t j => t + omSu f s u j + p j) n 0 4 0 (omA0 0) = max (omA0 0) (0 + U 4) := h
  have h0' : -1000000 ≤ U 4 ∧ U 4 ≤ 1000000 := h0
  rw [h']
  omega
