/-! ===== p39: the events, unit by unit of time ===== -/
noncomputable def omUs (v n : Nat) (p d r : Nat → Int) : Nat → Nat → Int
  | 0 => p
  | t + 1 => if omWk v d r (omUs v n p d r t) (t : Int) n = -1 then omUs v n p d r t else omUp (omUs v n p d r t) (omWk v d r (omUs v n p d r t) (t : Int) n).toNat (omUs v n p d r t (omWk v d r (omUs v n p d r t) (t : Int) n).toNat - 1)
theorem omUs_job {v n t j : Nat} {p d r : Nat → Int} (h : omCh n (omGk v d (omUs v n p d r t)) r (omUs v n p d r t) (t : Int) j) : omUs v n p d r (t + 1) = omUp (omUs v n p d r t) j (omUs v n p d r t j - 1) := by
  have hw := omWk_of h
  show (if omWk v d r (omUs v n p d r t) (t : Int) n = -1 then omUs v n p d r t else omUp (omUs v n p d r t) (omWk v d r (omUs v n p d r t) (t : Int) n).toNat (omUs v n p d r t (omWk v d r (omUs v n p d r t) (t : Int) n).toNat - 1)) = _
  rw [hw, if_neg (by omega), Int.toNat_natCast]
theorem omUs_idle {v n t : Nat} {p d r : Nat → Int} (h : ∀ i, i < n → ¬ omOn r (omUs v n p d r t) (t : Int) i) : omUs v n p d r (t + 1) = omUs v n p d r t := by
  show (if omWk v d r (omUs v n p d r t) (t : Int) n = -1 then omUs v n p d r t else _) = _
  rw [omWk_no h, if_pos rfl]
theorem omUs_step {v n : Nat} {p d r : Nat → Int} (t : Nat) : ((∀ i, i < n → ¬ omOn r (omUs v n p d r t) (t : Int) i) ∧ omUs v n p d r (t + 1) = omUs v n p d r t) ∨ ∃ j, omCh n (omGk v d (omUs v n p d r t)) r (omUs v n p d r t) (t : Int) j ∧ omUs v n p d r (t + 1) = omUp (omUs v n p d r t) j (omUs v n p d r t j - 1) := by
  rcases om_dec (n := n) (r := r) (R := omUs v n p d r t) (t := (t : Int)) with h | h
  · obtain ⟨j, hj⟩ := omCh_ex (v := v) (d := d) h
    exact Or.inr ⟨j, hj, omUs_job hj⟩
  · exact Or.inl ⟨h, omUs_idle h⟩
theorem omUs_pos {v n : Nat} {p d w r f s : Nat → Int} (hok : omOk n p d w r f s) : ∀ t j, j < n → 0 ≤ omUs v n p d r t j := by
  intro t
  induction t with
  | zero => intro j hj; have := hok.2.1 j hj; show 0 ≤ p j; omega
  | succ t ih =>
    intro j hj
    have h0 := ih j hj
    rcases omUs_step (v := v) (n := n) (p := p) (d := d) (r := r) t with ⟨_, h⟩ | ⟨i, hi, h⟩
    · rw [h]; exact h0
    · rw [h]
      by_cases he : j = i
      · subst he
        have := hi.2.1.1
        rw [omUp_s]; omega
      · rw [omUp_n he]; exact h0
theorem omUs_one {v n t j : Nat} {p d r : Nat → Int} : omUs v n p d r (t + 1) j ≤ omUs v n p d r t j := by
  rcases omUs_step (v := v) (n := n) (p := p) (d := d) (r := r) t with ⟨_, h⟩ | ⟨i, hi, h⟩
  · rw [h]; exact Int.le_refl _
  · rw [h]
    by_cases he : j = i
    · subst he; rw [omUp_s]; omega
    · rw [omUp_n he]; exact Int.le_refl _
theorem omUs_anti {v n t j : Nat} {p d r : Nat → Int} : ∀ x, omUs v n p d r (t + x) j ≤ omUs v n p d r t j := by
  intro x
  induction x with
  | zero => exact Int.le_refl _
  | succ x ih => exact Int.le_trans omUs_one ih
theorem omUs_le {v n t t' j : Nat} {p d r : Nat → Int} (h : t ≤ t') : omUs v n p d r t' j ≤ omUs v n p d r t j := by
  have := omUs_anti (v := v) (n := n) (t := t) (j := j) (p := p) (d := d) (r := r) (t' - t)
  rw [show t + (t' - t) = t' by omega] at this
  exact this
/-- a job isn't worked on ahead of its release -/
theorem omUs_unrel {v n j : Nat} {p d r : Nat → Int} : ∀ t : Nat, (t : Int) ≤ r j → omUs v n p d r t j = p j := by
  intro t
  induction t with
  | zero => intro _; rfl
  | succ t ih =>
    intro h
    have h0 := ih (by omega)
    rcases omUs_step (v := v) (n := n) (p := p) (d := d) (r := r) t with ⟨_, h1⟩ | ⟨i, hi, h1⟩
    · rw [h1]; exact h0
    · rw [h1]
      have he : j ≠ i := fun e => by
        subst e
        have := hi.2.1.2
        omega
      rw [omUp_n he]; exact h0
theorem omUs_jobs {v n T j : Nat} {p d w r f s : Nat → Int} {dt : Int} (hok : omOk n p d w r f s) (h : omCh n (omGk v d (omUs v n p d r T)) r (omUs v n p d r T) (T : Int) j) (h1 : dt ≤ omUs v n p d r T j) (h2 : (T : Int) + dt ≤ omNr r (T : Int) n) : ∀ x : Nat, (x : Int) ≤ dt → omUs v n p d r (T + x) = omUp (omUs v n p d r T) j (omUs v n p d r T j - (x : Int)) := by
  intro x
  induction x with
  | zero =>
    intro _
    funext i
    show omUs v n p d r T i = omUp (omUs v n p d r T) j (omUs v n p d r T j - ((0 : Nat) : Int)) i
    by_cases he : i = j
    · subst he; rw [omUp_s]; omega
    · rw [omUp_n he]
  | succ x ih =>
    intro hx
    have e := ih (by omega)
    have hch : omCh n (omGk v d (omUs v n p d r (T + x))) r (omUs v n p d r (T + x)) ((T + x : Nat) : Int) j := by
      rw [e]
      obtain ⟨c1, ⟨c2, c3⟩, c4⟩ := h
      refine ⟨c1, ⟨by rw [omUp_s]; omega, by omega⟩, fun i hi hon hne => ?_⟩
      obtain ⟨o1, o2⟩ := hon
      rw [omUp_n hne] at o1
      have hri : r i ≤ (T : Int) := Classical.byContradiction (fun hgt => by
        have := omNr_low (r := r) (t := (T : Int)) n i hi (by omega)
        omega)
      have hb := c4 i hi ⟨o1, hri⟩ hne
      unfold omBk at hb ⊢
      unfold omGk at hb ⊢
      by_cases hv : v = 0
      · rw [if_pos hv] at hb ⊢; exact hb
      · rw [if_neg hv] at hb ⊢
        rw [omUp_s, omUp_n hne]
        omega
    show omUs v n p d r (T + x + 1) = _
    rw [omUs_job hch, e, omUp_s, omUp_up]
    rw [show omUs v n p d r T j - (x : Int) - 1 = omUs v n p d r T j - ((x + 1 : Nat) : Int) by omega]
theorem omUs_idles {v n T : Nat} {p d r : Nat → Int} (h : ∀ i, i < n → ¬ omOn r (omUs v n p d r T) (T : Int) i) : ∀ x : Nat, (T : Int) + x ≤ omNr r (T : Int) n → omUs v n p d r (T + x) = omUs v n p d r T := by
  intro x
  induction x with
  | zero => intro _; rfl
  | succ x ih =>
    intro hx
    have e := ih (by omega)
    show omUs v n p d r (T + x + 1) = _
    rw [omUs_idle (fun i hi hon => ?_), e]
    rw [e] at hon
    obtain ⟨o1, o2⟩ := hon
    have hri : r i ≤ (T : Int) := Classical.byContradiction (fun hgt => by
      have := omNr_low (r := r) (t := (T : Int)) n i hi (by omega)
      omega)
    exact h i hi ⟨o1, hri⟩
/-- the events' state is the unit's, and an ended job's end is the first time with nothing left of it -/
theorem omEs_us {v n : Nat} {p d w r f s : Nat → Int} (hok : omOk n p d w r f s) : ∀ k, ∃ T : Nat, omNow (omEs v n p d r k).1 = (T : Int) ∧ (omEs v n p d r k).2.1 = omUs v n p d r T ∧ ∀ j, j < n → omUs v n p d r T j = 0 → ∀ t : Nat, t ≤ T → (omUs v n p d r t j = 0 ↔ (omEs v n p d r k).2.2 j ≤ (t : Int)) := by
  intro k
  induction k with
  | zero =>
    refine ⟨0, rfl, rfl, fun j hj h0 => ?_⟩
    have := hok.2.1 j hj
    have h1 : p j = 0 := h0
    omega
  | succ k ih =>
    obtain ⟨T, a1, a2, a3⟩ := ih
    have hE := omEs_ok (v := v) hok k
    have e : omEs v n p d r (k + 1) = omEv v n d r (omEs v n p d r k) := rfl
    rw [e]
    generalize omEs v n p d r k = X at a1 a2 a3 hE
    rcases om_dec (n := n) (r := r) (R := X.2.1) (t := omNow X.1) with h | h
    · obtain ⟨j, hj⟩ := omCh_ex (v := v) (d := d) h
      have hd := omDt_rng hok hE hj
      rw [omEv_job hj]
      obtain ⟨D, hD⟩ : ∃ D : Nat, (D : Int) = omDt n j r X := ⟨(omDt n j r X).toNat, by omega⟩
      rw [← hD] at hd ⊢
      rw [a1, a2] at hj
      rw [a1] at hd
      rw [a2] at hd
      have hU := omUs_jobs hok hj (dt := (D : Int)) (by omega) (by omega)
      refine ⟨T + D, ?_, ?_, fun i hi h0 t ht => ?_⟩
      · show omNow (omAdd X.1 (0, (j : Int), (D : Int))) = _
        rw [omAdd_now (by show (0 : Int) ≤ (D : Int); omega), a1]
        show (T : Int) + (D : Int) = _
        omega
      · show omUp X.2.1 j (X.2.1 j - (D : Int)) = _
        rw [a2, hU D (Int.le_refl _)]
      · show omUs v n p d r t i = 0 ↔ omUp X.2.2 j (omNow X.1 + (D : Int)) i ≤ (t : Int)
        rw [hU D (Int.le_refl _)] at h0
        by_cases he : i = j
        · subst he
          rw [omUp_s] at h0 ⊢
          rw [a1]
          constructor
          · intro hz
            apply Classical.byContradiction
            intro hlt
            by_cases htT : t ≤ T
            · have := omUs_le (v := v) (n := n) (p := p) (d := d) (r := r) (j := i) htT
              omega
            · have h5 := hU (t - T) (by omega)
              rw [show T + (t - T) = t by omega] at h5
              rw [h5, omUp_s] at hz
              omega
          · intro hle
            have : t = T + D := by omega
            subst this
            rw [hU D (Int.le_refl _), omUp_s]
            exact h0
        · rw [omUp_n he] at h0 ⊢
          have h6 := a3 i hi h0
          by_cases htT : t ≤ T
          · exact h6 t htT
          · have h7 := (h6 T (Nat.le_refl T)).mp h0
            have h5 := hU (t - T) (by omega)
            rw [show T + (t - T) = t by omega] at h5
            rw [h5, omUp_n he]
            exact ⟨fun _ => by omega, fun _ => h0⟩
    · by_cases hN : omNr r (omNow X.1) n < 1000000
      · rw [omEv_idle h hN]
        have hg := omNr_gt (n := n) (t := omNow X.1) hok (by have := omEk_now hok hE; omega)
        rw [a2, a1] at h
        rw [a1] at hg hN ⊢
        obtain ⟨D, hD⟩ : ∃ D : Nat, (D : Int) = omNr r (T : Int) n - T := ⟨(omNr r (T : Int) n - T).toNat, by omega⟩
        have hU := omUs_idles h
        rw [← hD]
        refine ⟨T + D, ?_, ?_, fun i hi h0 t ht => ?_⟩
        · show omNow (omAdd X.1 (2, -1, (D : Int))) = _
          rw [omAdd_now (by show (0 : Int) ≤ (D : Int); omega), a1]
          show (T : Int) + (D : Int) = _
          omega
        · show X.2.1 = _
          rw [a2, hU D (by omega)]
        · show omUs v n p d r t i = 0 ↔ X.2.2 i ≤ (t : Int)
          rw [hU D (by omega)] at h0
          have h6 := a3 i hi h0
          by_cases htT : t ≤ T
          · exact h6 t htT
          · have h7 := (h6 T (Nat.le_refl T)).mp h0
            have h5 := hU (t - T) (by omega)
            rw [show T + (t - T) = t by omega] at h5
            rw [h5]
            exact ⟨fun _ => by omega, fun _ => h0⟩
      · rw [omEv_end h hN]
        exact ⟨T, a1, a2, a3⟩
/-- an end in the plan is the first time with nothing left -/
theorem omEs_end {v n : Nat} {p d w r f s : Nat → Int} (hok : omOk n p d w r f s) : ∀ j, j < n → ∀ t : Nat, (omUs v n p d r t j = 0 ↔ (omEs v n p d r 20).2.2 j ≤ (t : Int)) := by
  intro j hj t
  obtain ⟨T, a1, a2, a3⟩ := omEs_us (v := v) hok 20
  have h0 := omEs_done (v := v) hok j hj
  rw [a2] at h0
  have h1 := a3 j hj h0
  by_cases ht : t ≤ T
  · exact h1 t ht
  · have h2 := (h1 T (Nat.le_refl T)).mp h0
    have h3 := omUs_le (v := v) (n := n) (p := p) (d := d) (r := r) (j := j) (show T ≤ t by omega)
    have h4 := omUs_pos (v := v) hok t j hj
    exact ⟨fun _ => by omega, fun _ => by omega⟩
