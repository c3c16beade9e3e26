/-! ===== p39: shortest remaining time is the least sum of ends ===== -/
def omGr (r R : Nat → Int) (t : Nat) (j : Nat) : Int := if r j ≤ (t : Int) then R j else 0
/-- what is left at a time of the released jobs but some -/
def omLq (n : Nat) (r R : Nat → Int) (T t : Nat) : Int := omSum n (fun j => if T.testBit j = true then 0 else omGr r R t j)
theorem omLq_eq {n T t : Nat} {r R : Nat → Int} : omLq n r R T t = omSum n (omGr r R t) - omLn n (omGr r R t) T := by
  have h : omSum n (omGr r R t) = omSum n (fun j => (if T.testBit j = true then 0 else omGr r R t j) + (if T.testBit j then omGr r R t j else 0)) := omSum_congr (fun j _ => by
    by_cases hb : T.testBit j = true
    · rw [if_pos hb, if_pos hb]; omega
    · rw [if_neg hb, if_neg hb]; omega)
  rw [omSum_add] at h
  have e : omLn n (omGr r R t) T = omSum n (fun j => if T.testBit j then omGr r R t j else 0) := rfl
  have e2 : omLq n r R T t = omSum n (fun j => if T.testBit j = true then 0 else omGr r R t j) := rfl
  omega
theorem omLq_same {n T t : Nat} {r R R' : Nat → Int} (h : ∀ j, j < n → R' j = R j) : omLq n r R' T t = omLq n r R T t := omSum_congr (fun j hj => by unfold omGr; rw [h j hj])
theorem omLq_dec {n T t a : Nat} {r R R' : Nat → Int} (ha : a < n) (hr : r a ≤ (t : Int)) (h : ∀ j, j < n → R' j = R j - (if j = a then 1 else 0)) : omLq n r R' T t = omLq n r R T t - (if T.testBit a = true then 0 else 1) := by
  have e : omLq n r R T t = omSum n (fun j => (if T.testBit j = true then 0 else omGr r R' t j) + (if j = a then (if T.testBit a = true then 0 else 1) else 0)) := omSum_congr (fun j hj => by
    unfold omGr
    rw [h j hj]
    by_cases he : j = a
    · subst he
      rw [if_pos rfl, if_pos rfl, if_pos hr, if_pos hr]
      by_cases hb : T.testBit j = true
      · rw [if_pos hb, if_pos hb, if_pos hb]; rfl
      · rw [if_neg hb, if_neg hb, if_neg hb]; omega
    · rw [if_neg he, if_neg he]
      by_cases hb : T.testBit j = true
      · rw [if_pos hb, if_pos hb]; rfl
      · rw [if_neg hb, if_neg hb]
        by_cases hj : r j ≤ (t : Int)
        · rw [if_pos hj, if_pos hj]; omega
        · rw [if_neg hj, if_neg hj]; rfl)
  rw [omSum_add, omSum_single (j := a) ha (fun j _ hne => if_neg hne), if_pos rfl] at e
  have e2 : omLq n r R' T t = omSum n (fun j => if T.testBit j = true then 0 else omGr r R' t j) := rfl
  omega
theorem omRb_unrel {n j : Nat} {p d w r f s : Nat → Int} {q : Nat → Nat} (hok : omOk n p d w r f s) (hq : omSq n q) (hj : j < n) (t : Nat) (ht : (t : Int) ≤ r j) : omRb n p r q t j = p j := by
  obtain ⟨k, hk, rfl⟩ := (omSs_perm hq).2.2 j hj
  have := hok.2.1 _ hj
  rw [omRb_at hq hk, omFi_zero t ht]
  omega
def omDm (n : Nat) (r A B : Nat → Int) (t : Nat) : Prop := ∀ TB : Nat, ∃ TA : Nat, omLn n (fun _ => 1) TA ≤ omLn n (fun _ => 1) TB ∧ omLq n r A TA t ≤ omLq n r B TB t
/-- one unit of time, ahead of the releases at its end -/
theorem omDm_work {n t : Nat} {p d w r f s : Nat → Int} {q : Nat → Nat} (hok : omOk n p d w r f s) (hq : omSq n q) (h : omDm n r (omUs 1 n p d r t) (omRb n p r q t) t) : omDm n r (omUs 1 n p d r (t + 1)) (omRb n p r q (t + 1)) t := by
  intro TB
  obtain ⟨TA, s1, s2⟩ := h TB
  have hApos : ∀ j, j < n → 0 ≤ omGr r (omUs 1 n p d r t) t j := fun j hj => by
    have := omUs_pos (v := 1) hok t j hj
    unfold omGr
    split <;> omega
  -- the other side loses at most one
  have hB : omLq n r (omRb n p r q t) TB t - 1 ≤ omLq n r (omRb n p r q (t + 1)) TB t ∧ omLq n r (omRb n p r q (t + 1)) TB t ≤ omLq n r (omRb n p r q t) TB t := by
    rcases omRb_step hok hq t with ⟨_, h2⟩ | ⟨k, hk, hon, _, h2⟩
    · rw [omLq_same h2]; omega
    · rw [omLq_dec (hq k hk).1 hon.2 h2]
      split <;> omega
  have hB0 : 0 ≤ omLq n r (omRb n p r q (t + 1)) TB t := omSum_0 (fun j hj => by
    have := omRb_pos (d := d) (w := w) (f := f) (s := s) (p := p) (r := r) (t := t + 1) hq hj
    unfold omGr
    split
    · exact Int.le_refl _
    · split <;> omega)
  rcases omUs_step (v := 1) (n := n) (p := p) (d := d) (r := r) t with ⟨h3, h4⟩ | ⟨a, ha, h4⟩
  · -- nothing is open: nothing is left
    have hz : omLq n r (omUs 1 n p d r t) TA t = 0 := omSum_zero (fun j hj => by
      have h5 := h3 j hj
      have h6 := omUs_pos (v := 1) hok t j hj
      unfold omOn at h5
      unfold omGr
      split
      · rfl
      · split <;> omega)
    refine ⟨TA, s1, ?_⟩
    rw [h4, hz]
    exact hB0
  · have hg : omGk 1 d (omUs 1 n p d r t) = omUs 1 n p d r t := if_neg (by decide)
    rw [hg] at ha
    obtain ⟨c1, ⟨c2, c3⟩, c4⟩ := ha
    have hdec : ∀ j, j < n → omUs 1 n p d r (t + 1) j = omUs 1 n p d r t j - (if j = a then 1 else 0) := fun j _ => by
      rw [h4]
      by_cases he : j = a
      · subst he; rw [omUp_s, if_pos rfl]
      · rw [omUp_n he, if_neg he]; omega
    by_cases haT : TA.testBit a = true
    · by_cases hY : omLq n r (omUs 1 n p d r t) TA t ≤ omLq n r (omRb n p r q (t + 1)) TB t
      · refine ⟨TA, s1, ?_⟩
        rw [omLq_dec c1 c3 hdec, if_pos haT]
        omega
      · -- a released job outside
        have hex : ∃ b, b < n ∧ ¬ TA.testBit b = true ∧ omOn r (omUs 1 n p d r t) (t : Int) b := Classical.byContradiction (fun hno => by
          have hz : omLq n r (omUs 1 n p d r t) TA t = 0 := omSum_zero (fun j hj => by
            by_cases hb : TA.testBit j = true
            · exact if_pos hb
            · rw [if_neg hb]
              unfold omGr
              by_cases hr : r j ≤ (t : Int)
              · rw [if_pos hr]
                have h6 := omUs_pos (v := 1) hok t j hj
                have h7 : ¬ 0 < omUs 1 n p d r t j := fun h => hno ⟨j, hj, hb, h, hr⟩
                omega
              · exact if_neg hr)
          omega)
        obtain ⟨b, hb, hbT, hbon⟩ := hex
        have hab : omUs 1 n p d r t a ≤ omUs 1 n p d r t b := by
          by_cases he : b = a
          · rw [he]; exact Int.le_refl _
          · have := c4 b hb hbon he
            unfold omBk at this
            omega
        obtain ⟨w1, w2⟩ := om_swap (n := n) hbT haT hb c1
        refine ⟨omDel TA a ||| 2 ^ b, ?_, ?_⟩
        · rw [w1]; omega
        · have hna : ¬ (omDel TA a ||| 2 ^ b).testBit a = true := fun h => by
            rcases w2 a h with h5 | ⟨_, h5⟩
            · subst h5; exact hbT haT
            · exact h5 rfl
          rw [omLq_dec c1 c3 hdec, if_neg hna]
          have e1 := omLq_eq (n := n) (T := omDel TA a ||| 2 ^ b) (t := t) (r := r) (R := omUs 1 n p d r t)
          have e2 := omLq_eq (n := n) (T := TA) (t := t) (r := r) (R := omUs 1 n p d r t)
          rw [w1] at e1
          have e3 : omGr r (omUs 1 n p d r t) t a = omUs 1 n p d r t a := if_pos c3
          have e4 : omGr r (omUs 1 n p d r t) t b = omUs 1 n p d r t b := if_pos hbon.2
          omega
    · refine ⟨TA, s1, ?_⟩
      rw [omLq_dec c1 c3 hdec, if_neg haT]
      omega
/-- the releases at its end -/
theorem omDm_rel {n t : Nat} {r A B p : Nat → Int} (hA : ∀ j, j < n → r j = (t : Int) + 1 → A j = p j) (hB : ∀ j, j < n → r j = (t : Int) + 1 → B j = p j) (h : omDm n r A B t) : omDm n r A B (t + 1) := by
  intro TB
  obtain ⟨TB1, -, b1⟩ := om_mask n (fun j => TB.testBit j = true ∧ r j ≠ (t : Int) + 1)
  obtain ⟨TA1, s1, s2⟩ := h TB1
  obtain ⟨TA, -, a1⟩ := om_mask n (fun j => (r j ≠ (t : Int) + 1 ∧ TA1.testBit j = true) ∨ (r j = (t : Int) + 1 ∧ TB.testBit j = true))
  have et : ((t + 1 : Nat) : Int) = (t : Int) + 1 := by omega
  refine ⟨TA, ?_, ?_⟩
  · have e1 : omLn n (fun _ => (1 : Int)) TA ≤ omSum n (fun j => (if TA1.testBit j then (1 : Int) else 0) + (if r j = (t : Int) + 1 then (if TB.testBit j = true then 1 else 0) else 0)) := omSum_le (fun j hj => by
      show (if TA.testBit j then (1 : Int) else 0) ≤ _
      by_cases ha : TA.testBit j = true
      · rw [if_pos ha]
        rcases ((a1 j).mp ha).2 with ⟨h1, h2⟩ | ⟨h1, h2⟩
        · rw [if_pos h2, if_neg h1]; decide
        · rw [if_pos h1, if_pos h2]; split <;> decide
      · rw [if_neg ha]
        split <;> split <;> (try split) <;> decide)
    have e2 : omLn n (fun _ => (1 : Int)) TB = omSum n (fun j => (if TB1.testBit j then (1 : Int) else 0) + (if r j = (t : Int) + 1 then (if TB.testBit j = true then 1 else 0) else 0)) := omSum_congr (fun j hj => by
      have hb := b1 j
      by_cases h1 : r j = (t : Int) + 1
      · have : ¬ TB1.testBit j = true := fun h => (hb.mp h).2.2 h1
        rw [if_neg this, if_pos h1]
        show (if TB.testBit j then (1 : Int) else 0) = _
        omega
      · rw [if_neg h1]
        by_cases h2 : TB.testBit j = true
        · rw [if_pos h2, if_pos (hb.mpr ⟨hj, h2, h1⟩)]; rfl
        · rw [if_neg h2, if_neg (fun h => h2 (hb.mp h).2.1)]; rfl)
    rw [omSum_add] at e1 e2
    have e3 : omLn n (fun _ => (1 : Int)) TA1 = omSum n (fun j => if TA1.testBit j then (1 : Int) else 0) := rfl
    have e4 : omLn n (fun _ => (1 : Int)) TB1 = omSum n (fun j => if TB1.testBit j then (1 : Int) else 0) := rfl
    omega
  · have e1 : omLq n r A TA (t + 1) = omSum n (fun j => (if TA1.testBit j = true then 0 else omGr r A t j) + (if r j = (t : Int) + 1 then (if TB.testBit j = true then 0 else p j) else 0)) := omSum_congr (fun j hj => by
      have ha := a1 j
      unfold omGr
      rw [et]
      by_cases h1 : r j = (t : Int) + 1
      · rw [if_pos h1, if_pos (show r j ≤ (t : Int) + 1 by omega), if_neg (show ¬ r j ≤ (t : Int) by omega), hA j hj h1]
        have e9 : (if TA1.testBit j = true then (0 : Int) else 0) = 0 := by split <;> rfl
        rw [e9]
        by_cases h2 : TB.testBit j = true
        · rw [if_pos h2, if_pos (ha.mpr ⟨hj, Or.inr ⟨h1, h2⟩⟩)]; rfl
        · rw [if_neg h2, if_neg (fun h => by
            rcases (ha.mp h).2 with h3 | h3
            · exact h3.1 h1
            · exact h2 h3.2)]
          omega
      · rw [if_neg h1]
        have e8 : (if r j ≤ (t : Int) + 1 then A j else 0) = (if r j ≤ (t : Int) then A j else 0) := by
          by_cases h2 : r j ≤ (t : Int)
          · rw [if_pos h2, if_pos (by omega)]
          · rw [if_neg h2, if_neg (by omega)]
        rw [e8]
        by_cases h2 : TA1.testBit j = true
        · rw [if_pos h2, if_pos (ha.mpr ⟨hj, Or.inl ⟨h1, h2⟩⟩)]; rfl
        · rw [if_neg h2, if_neg (fun h => by
            rcases (ha.mp h).2 with h3 | h3
            · exact h2 h3.2
            · exact h1 h3.1)]
          omega)
    have e2 : omLq n r B TB (t + 1) = omSum n (fun j => (if TB1.testBit j = true then 0 else omGr r B t j) + (if r j = (t : Int) + 1 then (if TB.testBit j = true then 0 else p j) else 0)) := omSum_congr (fun j hj => by
      have hb := b1 j
      unfold omGr
      rw [et]
      by_cases h1 : r j = (t : Int) + 1
      · rw [if_pos h1, if_pos (show r j ≤ (t : Int) + 1 by omega), if_neg (show ¬ r j ≤ (t : Int) by omega), hB j hj h1]
        have e9 : (if TB1.testBit j = true then (0 : Int) else 0) = 0 := by split <;> rfl
        rw [e9]
        omega
      · rw [if_neg h1]
        have e8 : (if r j ≤ (t : Int) + 1 then B j else 0) = (if r j ≤ (t : Int) then B j else 0) := by
          by_cases h2 : r j ≤ (t : Int)
          · rw [if_pos h2, if_pos (by omega)]
          · rw [if_neg h2, if_neg (by omega)]
        rw [e8]
        by_cases h2 : TB.testBit j = true
        · rw [if_pos h2, if_pos (hb.mpr ⟨hj, h2, h1⟩)]; rfl
        · rw [if_neg h2, if_neg (fun h => h2 (hb.mp h).2.1)]; omega)
    rw [omSum_add] at e1 e2
    have e3 : omLq n r A TA1 t = omSum n (fun j => if TA1.testBit j = true then 0 else omGr r A t j) := rfl
    have e4 : omLq n r B TB1 t = omSum n (fun j => if TB1.testBit j = true then 0 else omGr r B t j) := rfl
    omega
theorem omDm_all {n : Nat} {p d w r f s : Nat → Int} {q : Nat → Nat} (hok : omOk n p d w r f s) (hq : omSq n q) : ∀ t, omDm n r (omUs 1 n p d r t) (omRb n p r q t) t := by
  intro t
  induction t with
  | zero =>
    intro TB
    refine ⟨TB, Int.le_refl _, Int.le_of_eq (omLq_same (fun j hj => ?_))⟩
    rw [omRb_0 hok hq hj]; rfl
  | succ t ih =>
    refine omDm_rel (p := p) (fun j _ hr => omUs_unrel (t + 1) (by omega)) (fun j hj hr => omRb_unrel hok hq hj (t + 1) (by omega)) (omDm_work hok hq ih)
/-- so at each time no more are unfinished -/
theorem om_short_count {n : Nat} {p d w r f s : Nat → Int} {q : Nat → Nat} (hok : omOk n p d w r f s) (hq : omSq n q) (t : Nat) : omSum n (fun j => if 0 < omUs 1 n p d r t j then (1 : Int) else 0) ≤ omSum n (fun j => if 0 < omRb n p r q t j then (1 : Int) else 0) := by
  obtain ⟨TB, -, b1⟩ := om_mask n (fun j => r j ≤ (t : Int) ∧ 0 < omRb n p r q t j)
  obtain ⟨TA, s1, s2⟩ := omDm_all hok hq t TB
  have hz : omLq n r (omRb n p r q t) TB t = 0 := omSum_zero (fun j hj => by
    have h0 := omRb_pos (d := d) (w := w) (f := f) (s := s) (p := p) (r := r) (t := t) hq hj
    by_cases hb : TB.testBit j = true
    · exact if_pos hb
    · rw [if_neg hb]
      unfold omGr
      by_cases hr : r j ≤ (t : Int)
      · rw [if_pos hr]
        have : ¬ 0 < omRb n p r q t j := fun h => hb ((b1 j).mpr ⟨hj, hr, h⟩)
        omega
      · exact if_neg hr)
  have hin : ∀ j, j < n → r j ≤ (t : Int) → 0 < omUs 1 n p d r t j → TA.testBit j = true := fun j hj hr h0 => Classical.byContradiction (fun hb => by
    have h1 := omSum_one (n := n) (k := j) (g := fun j => if TA.testBit j = true then 0 else omGr r (omUs 1 n p d r t) t j) (fun i hi => by
      have := omUs_pos (v := 1) hok t i hi
      show 0 ≤ (if TA.testBit i = true then 0 else omGr r (omUs 1 n p d r t) t i)
      unfold omGr
      split
      · exact Int.le_refl _
      · split <;> omega) hj
    have h2 : (if TA.testBit j = true then 0 else omGr r (omUs 1 n p d r t) t j) = omUs 1 n p d r t j := by
      rw [if_neg hb]
      exact if_pos hr
    have h1' : (if TA.testBit j = true then 0 else omGr r (omUs 1 n p d r t) t j) ≤ omLq n r (omUs 1 n p d r t) TA t := h1
    omega)
  have e1 : omSum n (fun j => if 0 < omUs 1 n p d r t j then (1 : Int) else 0) ≤ omSum n (fun j => (if (t : Int) < r j then (1 : Int) else 0) + (if TA.testBit j then (1 : Int) else 0)) := omSum_le (fun j hj => by
    show (if 0 < omUs 1 n p d r t j then (1 : Int) else 0) ≤ (if (t : Int) < r j then (1 : Int) else 0) + (if TA.testBit j then (1 : Int) else 0)
    by_cases h1 : (t : Int) < r j
    · rw [if_pos h1]
      split <;> split <;> decide
    · rw [if_neg h1]
      by_cases h2 : 0 < omUs 1 n p d r t j
      · rw [if_pos h2, if_pos (hin j hj (by omega) h2)]; decide
      · rw [if_neg h2]
        split <;> decide)
  have e2 : omSum n (fun j => if 0 < omRb n p r q t j then (1 : Int) else 0) = omSum n (fun j => (if (t : Int) < r j then (1 : Int) else 0) + (if TB.testBit j then (1 : Int) else 0)) := omSum_congr (fun j hj => by
    have hb := b1 j
    have hpj := hok.2.1 j hj
    by_cases h1 : (t : Int) < r j
    · have h2 := omRb_unrel hok hq hj t (by omega)
      rw [if_pos h1, if_pos (by omega), if_neg (fun h => by have := (hb.mp h).2.1; omega)]; rfl
    · rw [if_neg h1]
      by_cases h2 : 0 < omRb n p r q t j
      · rw [if_pos h2, if_pos (hb.mpr ⟨hj, by omega, h2⟩)]; rfl
      · rw [if_neg h2, if_neg (fun h => h2 (hb.mp h).2.2)]; rfl)
  rw [omSum_add] at e1 e2
  have e3 : omLn n (fun _ => (1 : Int)) TA = omSum n (fun j => if TA.testBit j then (1 : Int) else 0) := rfl
  have e4 : omLn n (fun _ => (1 : Int)) TB = omSum n (fun j => if TB.testBit j then (1 : Int) else 0) := rfl
  omega
/-- an end is the number of times ahead of it -/
theorem om_count_end {c : Int} (h0 : 0 ≤ c) : ∀ M : Nat, c ≤ (M : Int) → omSum M (fun t => if (t : Int) < c then (1 : Int) else 0) = c := by
  intro M
  induction M with
  | zero => intro h; show (0 : Int) = c; omega
  | succ M ih =>
    intro h
    show omSum M _ + (if (M : Int) < c then (1 : Int) else 0) = c
    by_cases h1 : c ≤ (M : Int)
    · rw [ih h1, if_neg (by omega)]; omega
    · have h2 : c = (M : Int) + 1 := by omega
      have h3 : ∀ K : Nat, K ≤ M → omSum K (fun t => if (t : Int) < c then (1 : Int) else 0) = K := by
        intro K
        induction K with
        | zero => intro _; rfl
        | succ K ih =>
          intro hK
          show omSum K _ + (if (K : Int) < c then (1 : Int) else 0) = _
          rw [ih (by omega), if_pos (by omega)]
          omega
      rw [h3 M (Nat.le_refl M), if_pos (by omega)]
      omega
theorem om_short_low {n : Nat} {p d w r f s C : Nat → Int} {q : Nat → Nat} (hok : omOk n p d w r f s) (hq : omSq n q) (hC : ∀ k, k < n → C (q k) = ((omTe n p r (omSs q k) (q k) : Nat) : Int)) : omTot n 2 d w (omEs 1 n p d r 20).2.2 ≤ omTot n 2 d w C := by
  have hc2 : ∀ X : Nat → Int, omTot n 2 d w X = omSum n X := fun X => by
    have e : omTot n 2 d w X = omSum n (omCs 2 d w X) := if_neg (by decide)
    rw [e]
    refine omSum_congr (fun j _ => ?_)
    show (if (2 : Nat) = 0 then _ else if (2 : Nat) = 1 then _ else if (2 : Nat) = 2 then X j else _) = _
    rw [if_neg (by decide), if_neg (by decide), if_pos rfl]
  rw [hc2, hc2]
  -- a time behind all ends
  obtain ⟨M, hM⟩ : ∃ M : Nat, ∀ j, j < n → (omEs 1 n p d r 20).2.2 j ≤ (M : Int) ∧ C j ≤ (M : Int) := by
    have hb : ∀ m : Nat, m ≤ n → ∃ M : Nat, ∀ j, j < m → (omEs 1 n p d r 20).2.2 j ≤ (M : Int) ∧ C j ≤ (M : Int) := by
      intro m
      induction m with
      | zero => intro _; exact ⟨0, fun j hj => by omega⟩
      | succ m ih =>
        intro hm
        obtain ⟨M, h⟩ := ih (by omega)
        refine ⟨M + ((omEs 1 n p d r 20).2.2 m).toNat + (C m).toNat, fun j hj => ?_⟩
        by_cases he : j = m
        · subst he; omega
        · have := h j (by omega); omega
    exact hb n (Nat.le_refl n)
  have hCe : ∀ j, j < n → ∀ t : Nat, (0 < omRb n p r q t j ↔ (t : Int) < C j) := fun j hj t => by
    obtain ⟨k, hk, rfl⟩ := (omSs_perm hq).2.2 j hj
    have h1 := omRb_done (t := t) hok hq hk
    have h2 := omRb_pos (d := d) (w := w) (f := f) (s := s) (p := p) (r := r) (t := t) hq hj
    rw [hC k hk]
    constructor
    · intro h
      have : ¬ omTe n p r (omSs q k) (q k) ≤ t := fun h3 => by have := h1.mpr h3; omega
      omega
    · intro h
      have : ¬ omRb n p r q t (q k) = 0 := fun h3 => by have := h1.mp h3; omega
      omega
  have hAe : ∀ j, j < n → ∀ t : Nat, (0 < omUs 1 n p d r t j ↔ (t : Int) < (omEs 1 n p d r 20).2.2 j) := fun j hj t => by
    have h1 := omEs_end (v := 1) hok j hj t
    have h2 := omUs_pos (v := 1) hok t j hj
    constructor
    · intro h
      have : ¬ (omEs 1 n p d r 20).2.2 j ≤ (t : Int) := fun h3 => by have := h1.mpr h3; omega
      omega
    · intro h
      have : ¬ omUs 1 n p d r t j = 0 := fun h3 => by have := h1.mp h3; omega
      omega
  have hC0 : ∀ j, j < n → 0 ≤ C j := fun j hj => by
    obtain ⟨k, hk, rfl⟩ := (omSs_perm hq).2.2 j hj
    rw [hC k hk]
    omega
  have e1 : omSum n (omEs 1 n p d r 20).2.2 = omSum n (fun j => omSum M (fun t => if 0 < omUs 1 n p d r t j then (1 : Int) else 0)) := omSum_congr (fun j hj => by
    have h1 := omEs_pos (v := 1) hok hj
    rw [← om_count_end (c := (omEs 1 n p d r 20).2.2 j) (by omega) M (hM j hj).1]
    refine omSum_congr (fun t _ => ?_)
    have := hAe j hj t
    by_cases h2 : 0 < omUs 1 n p d r t j
    · rw [if_pos h2, if_pos (this.mp h2)]
    · rw [if_neg h2, if_neg (fun h => h2 (this.mpr h))])
  have e2 : omSum n C = omSum n (fun j => omSum M (fun t => if 0 < omRb n p r q t j then (1 : Int) else 0)) := omSum_congr (fun j hj => by
    rw [← om_count_end (c := C j) (hC0 j hj) M (hM j hj).2]
    refine omSum_congr (fun t _ => ?_)
    have := hCe j hj t
    by_cases h2 : 0 < omRb n p r q t j
    · rw [if_pos h2, if_pos (this.mp h2)]
    · rw [if_neg h2, if_neg (fun h => h2 (this.mpr h))])
  rw [e1, e2, omSum_swap, omSum_swap (F := fun j t => if 0 < omRb n p r q t j then (1 : Int) else 0)]
  exact omSum_le (fun t _ => om_short_count hok hq t)
/-- shortest remaining: the least of all priorities -/
theorem om_short_least {n : Nat} {p d w r f s : Nat → Int} (hok : omOk n p d w r f s) (hB : omTot n 2 d w (omEs 1 n p d r 20).2.2 ≤ 1000000) : min 1000000 (omVl n 2 d w f (fun S _ _ j => ((omTe n p r S j : Nat) : Int)) n 0 4 0 (omA0 2)) = omTot n 2 d w (omEs 1 n p d r 20).2.2 := by
  obtain ⟨q, hq, hC⟩ := om_agree_short (d := d) hok
  exact om_least hB (fun Q C' hQ hC' => om_short_low hok hQ hC') ⟨q, (omEs 1 n p d r 20).2.2, hq, hC, Int.le_refl _⟩
