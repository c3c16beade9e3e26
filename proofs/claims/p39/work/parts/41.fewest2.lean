/-! ===== onto is one to one ===== -/
theorem omSum_two {n i k : Nat} {g : Nat → Int} (h : ∀ x, x < n → 0 ≤ g x) (hi : i < n) (hk : k < n) (hik : i ≠ k) : g i + g k ≤ omSum n g := by
  have h1 : omSum n g = omSum n (fun x => (if x = i then g x else 0) + (if x = i then 0 else g x)) := omSum_congr (fun x _ => by split <;> omega)
  rw [h1, omSum_add, omSum_single (j := i) hi (fun x _ hx => if_neg hx), if_pos rfl]
  have h2 := omSum_one (n := n) (k := k) (g := fun x => if x = i then 0 else g x) (fun x hx => by
    have := h x hx
    show 0 ≤ (if x = i then (0 : Int) else g x)
    split <;> omega) hk
  have h3 : (if k = i then (0 : Int) else g k) = g k := if_neg (fun he => hik he.symm)
  have h4 : (fun x => if x = i then (0 : Int) else g x) k = g k := h3
  omega
theorem om_onto {n : Nat} {q : Nat → Nat} (hq : ∀ i, i < n → q i < n) (hs : ∀ j, j < n → ∃ i, i < n ∧ q i = j) : ∀ i k, i < n → k < n → q i = q k → i = k := by
  intro i k hi hk he
  apply Classical.byContradiction
  intro hik
  have hnn : ∀ (j x : Nat), 0 ≤ (if q x = j then (1 : Int) else 0) := fun j x => by split <;> omega
  have hc : ∀ j, j < n → 0 ≤ omSum n (fun x => if q x = j then (1 : Int) else 0) - 1 := by
    intro j hj
    obtain ⟨x, hx, hxj⟩ := hs j hj
    have := omSum_one (n := n) (k := x) (g := fun x => if q x = j then (1 : Int) else 0) (fun x _ => hnn j x) hx
    have e : (fun x => if q x = j then (1 : Int) else 0) x = 1 := if_pos hxj
    omega
  have hsum : omSum n (fun j => omSum n (fun x => if q x = j then (1 : Int) else 0) - 1) = 0 := by
    have h1 : omSum n (fun j => omSum n (fun x => if q x = j then (1 : Int) else 0)) = omSum n (fun _ => 1) := by
      rw [omSum_swap]
      exact omSum_congr (fun x hx => by
        rw [omSum_single (j := q x) (hq x hx) (fun j _ hj => if_neg (fun h => hj h.symm)), if_pos rfl])
    have h2 : omSum n (fun j => omSum n (fun x => if q x = j then (1 : Int) else 0)) = omSum n (fun j => (omSum n (fun x => if q x = j then (1 : Int) else 0) - 1) + 1) := omSum_congr (fun j _ => by omega)
    rw [h2, omSum_add] at h1
    omega
  have h3 := omSum_one (n := n) (k := q i) (g := fun j => omSum n (fun x => if q x = j then (1 : Int) else 0) - 1) hc (hq i hi)
  have h4 := omSum_two (n := n) (i := i) (k := k) (g := fun x => if q x = q i then (1 : Int) else 0) (fun x _ => hnn (q i) x) hi hk hik
  have e1 : (fun x => if q x = q i then (1 : Int) else 0) i = 1 := if_pos rfl
  have e2 : (fun x => if q x = q i then (1 : Int) else 0) k = 1 := if_pos he.symm
  have e3 : (fun j => omSum n (fun x => if q x = j then (1 : Int) else 0) - 1) (q i) = omSum n (fun x => if q x = q i then (1 : Int) else 0) - 1 := rfl
  omega
/-! ===== jobs taken and dropped ===== -/
/-- after m places: the set taken, how many dropped, the dropped -/
def omFw (n : Nat) (p d : Nat → Int) (q : Nat → Nat) : Nat → Nat × Nat × (Nat → Nat)
  | 0 => (0, 0, fun _ => 0)
  | m + 1 => if d (q m) < omLn n p ((omFw n p d q m).1 ||| 2 ^ (q m)) then (omDel ((omFw n p d q m).1 ||| 2 ^ (q m)) (omLg p ((omFw n p d q m).1 ||| 2 ^ (q m)) n).toNat, (omFw n p d q m).2.1 + 1, fun i => if i = (omFw n p d q m).2.1 then (omLg p ((omFw n p d q m).1 ||| 2 ^ (q m)) n).toNat else (omFw n p d q m).2.2 i) else ((omFw n p d q m).1 ||| 2 ^ (q m), (omFw n p d q m).2.1, (omFw n p d q m).2.2)
theorem omFw_t {n m : Nat} {p d : Nat → Int} {q : Nat → Nat} (h : d (q m) < omLn n p ((omFw n p d q m).1 ||| 2 ^ (q m))) : omFw n p d q (m + 1) = (omDel ((omFw n p d q m).1 ||| 2 ^ (q m)) (omLg p ((omFw n p d q m).1 ||| 2 ^ (q m)) n).toNat, (omFw n p d q m).2.1 + 1, fun i => if i = (omFw n p d q m).2.1 then (omLg p ((omFw n p d q m).1 ||| 2 ^ (q m)) n).toNat else (omFw n p d q m).2.2 i) := if_pos h
theorem omFw_f {n m : Nat} {p d : Nat → Int} {q : Nat → Nat} (h : ¬ d (q m) < omLn n p ((omFw n p d q m).1 ||| 2 ^ (q m))) : omFw n p d q (m + 1) = ((omFw n p d q m).1 ||| 2 ^ (q m), (omFw n p d q m).2.1, (omFw n p d q m).2.2) := if_neg h
theorem omCt_le {q : Nat → Nat} {S : Nat} : ∀ m, omCt q S m ≤ m := by
  intro m
  induction m with
  | zero => exact Nat.le_refl _
  | succ m ih => show omCt q S m + (if _ then 1 else 0) ≤ m + 1; split <;> omega
theorem omCt_mono {q : Nat → Nat} {S m m' : Nat} (h : m ≤ m') : omCt q S m ≤ omCt q S m' := by
  induction m' with
  | zero => have : m = 0 := by omega
            subst this; exact Nat.le_refl _
  | succ m' ih =>
    by_cases hm : m = m' + 1
    · subst hm; exact Nat.le_refl _
    · have := ih (by omega)
      show _ ≤ omCt q S m' + (if _ then 1 else 0)
      omega
theorem omCt_del {n S i0 : Nat} {q : Nat → Nat} (hinj : ∀ i k, i < n → k < n → q i = q k → i = k) (hb : S.testBit (q i0) = true) : ∀ m, m ≤ n → i0 < m → omCt q (omDel S (q i0)) m + 1 = omCt q S m := by
  intro m
  induction m with
  | zero => intro _ h; omega
  | succ m ih =>
    intro hm hi
    show omCt q (omDel S (q i0)) m + (if (omDel S (q i0)).testBit (q m) = true then 1 else 0) + 1 = omCt q S m + (if S.testBit (q m) = true then 1 else 0)
    by_cases him : i0 = m
    · subst him
      have h1 : omCt q (omDel S (q i0)) i0 = omCt q S i0 := omCt_congr i0 (fun i h => by
        rw [omDel_bit]
        have : q i0 ≠ q i := fun he => by have := hinj i0 i (by omega) (by omega) he; omega
        simp [this])
      rw [h1, if_pos hb, if_neg (by rw [omDel_bit]; simp)]
    · have h2 : (omDel S (q i0)).testBit (q m) = S.testBit (q m) := by
        rw [omDel_bit]
        have : q i0 ≠ q m := fun he => him (hinj i0 m (by omega) (by omega) he)
        simp [this]
      rw [h2, ← ih (by omega) (by omega)]
      omega
/-- what the taken and the dropped are -/
theorem omFw_ok {n : Nat} {p d w r f s : Nat → Int} {q : Nat → Nat} (hok : omOk n p d w r f s) (hq : ∀ i, i < n → q i < n) (hinj : ∀ i k, i < n → k < n → q i = q k → i = k) : ∀ m, m ≤ n → (∀ b, (omFw n p d q m).1.testBit b = true → ∃ i, i < m ∧ q i = b) ∧ (∀ i, i < m → (omFw n p d q m).1.testBit (q i) = true ∨ ∃ x, x < (omFw n p d q m).2.1 ∧ (omFw n p d q m).2.2 x = q i) ∧ omCt q (omFw n p d q m).1 m + (omFw n p d q m).2.1 = m ∧ (omFw n p d q m).1 < 2 ^ n ∧ ∀ x, x < (omFw n p d q m).2.1 → (omFw n p d q m).2.2 x < n := by
  intro m
  induction m with
  | zero => exact fun _ => ⟨fun b hb => absurd hb (by show ¬ (0 : Nat).testBit b = true; rw [Nat.zero_testBit]; decide), fun i hi => by omega, rfl, Nat.two_pow_pos n, fun x hx => absurd hx (by show ¬ x < 0; omega)⟩
  | succ m ih =>
    intro hm
    obtain ⟨h1, h2, h3, h4, h5⟩ := ih (by omega)
    have hn := hok.1
    have hqm := hq m (by omega)
    have g1 : ∀ b, ((omFw n p d q m).1 ||| 2 ^ (q m)).testBit b = true → ∃ i, i < m + 1 ∧ q i = b := by
      intro b hb
      rw [om_ins_bit] at hb
      by_cases hqb : q m = b
      · exact ⟨m, by omega, hqb⟩
      · have hb' : (omFw n p d q m).1.testBit b = true := by simpa [hqb] using hb
        obtain ⟨i, hi, hiq⟩ := h1 b hb'
        exact ⟨i, by omega, hiq⟩
    have gown : ((omFw n p d q m).1 ||| 2 ^ (q m)).testBit (q m) = true := by rw [om_ins_bit]; simp
    have gnew : ∀ i, i < m → ((omFw n p d q m).1 ||| 2 ^ (q m)).testBit (q i) = (omFw n p d q m).1.testBit (q i) := by
      intro i hi
      rw [om_ins_bit]
      have : q m ≠ q i := fun he => by have := hinj m i (by omega) (by omega) he; omega
      simp [this]
    have gct : omCt q ((omFw n p d q m).1 ||| 2 ^ (q m)) (m + 1) = omCt q (omFw n p d q m).1 m + 1 := by
      show omCt q ((omFw n p d q m).1 ||| 2 ^ (q m)) m + (if ((omFw n p d q m).1 ||| 2 ^ (q m)).testBit (q m) = true then 1 else 0) = _
      rw [omCt_congr m gnew, if_pos gown]
    have glt : (omFw n p d q m).1 ||| 2 ^ (q m) < 2 ^ n := om_ins_lt h4 hqm
    by_cases hc : d (q m) < omLn n p ((omFw n p d q m).1 ||| 2 ^ (q m))
    · rw [omFw_t hc]
      have hl := omLg_ok (p := p) (S := (omFw n p d q m).1 ||| 2 ^ (q m)) n
      have hl4 := hl.2.2.2 ⟨q m, hqm, gown⟩
      have hl3 := hl.2.2.1 hl4
      obtain ⟨i0, hi0, hi0q⟩ := g1 _ hl3
      have htn : (omLg p ((omFw n p d q m).1 ||| 2 ^ (q m)) n).toNat < n := by omega
      refine ⟨fun b hb => ?_, fun i hi => ?_, ?_, omDel_lt glt, fun x hx => ?_⟩
      · rw [omDel_bit] at hb
        exact g1 b (Bool.and_eq_true_iff.mp hb).1
      · show (omDel _ _).testBit (q i) = true ∨ ∃ x, x < (omFw n p d q m).2.1 + 1 ∧ (if x = (omFw n p d q m).2.1 then (omLg p ((omFw n p d q m).1 ||| 2 ^ (q m)) n).toNat else (omFw n p d q m).2.2 x) = q i
        by_cases ht : (omLg p ((omFw n p d q m).1 ||| 2 ^ (q m)) n).toNat = q i
        · exact Or.inr ⟨(omFw n p d q m).2.1, by omega, by rw [if_pos rfl]; exact ht⟩
        · by_cases him : i = m
          · subst him
            exact Or.inl (by rw [omDel_bit, gown]; simp [ht])
          · rcases h2 i (by omega) with h | ⟨x, hx, hxq⟩
            · exact Or.inl (by rw [omDel_bit, gnew i (by omega), h]; simp [ht])
            · exact Or.inr ⟨x, by omega, by rw [if_neg (by omega)]; exact hxq⟩
      · show omCt q (omDel _ _) (m + 1) + ((omFw n p d q m).2.1 + 1) = m + 1
        have := omCt_del hinj (S := (omFw n p d q m).1 ||| 2 ^ (q m)) (i0 := i0) (by rw [hi0q]; exact hl3) (m + 1) hm hi0
        rw [hi0q, gct] at this
        omega
      · show (if x = (omFw n p d q m).2.1 then _ else (omFw n p d q m).2.2 x) < n
        have hx' : x < (omFw n p d q m).2.1 + 1 := hx
        by_cases hxc : x = (omFw n p d q m).2.1
        · rw [if_pos hxc]; exact htn
        · rw [if_neg hxc]; exact h5 x (by omega)
    · rw [omFw_f hc]
      refine ⟨g1, fun i hi => ?_, ?_, glt, h5⟩
      · by_cases him : i = m
        · subst him; exact Or.inl gown
        · rcases h2 i (by omega) with h | h
          · exact Or.inl (by show ((omFw n p d q m).1 ||| 2 ^ (q m)).testBit (q i) = true; rw [gnew i (by omega)]; exact h)
          · exact Or.inr h
      · show omCt q ((omFw n p d q m).1 ||| 2 ^ (q m)) (m + 1) + (omFw n p d q m).2.1 = m + 1
        rw [gct]; omega
