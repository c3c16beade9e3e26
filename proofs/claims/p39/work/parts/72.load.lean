/-! ===== priorities: the load of a set ===== -/
/-- what is released at a time -/
def omAr (n : Nat) (p r : Nat → Int) (S t : Nat) : Int := omSum n (fun i => if S.testBit i = true then (if r i = (t : Int) then p i else 0) else 0)
/-- what is still to do, the jobs of a set worked off without a pause -/
def omWb (n : Nat) (p r : Nat → Int) (S : Nat) : Nat → Int
  | 0 => omAr n p r S 0
  | t + 1 => max 0 (omWb n p r S t - 1) + omAr n p r S (t + 1)
/-- the free times from a time on -/
def omFi (n : Nat) (p r : Nat → Int) (S : Nat) (a : Int) : Nat → Int
  | 0 => 0
  | t + 1 => omFi n p r S a t + (if a ≤ (t : Int) then (if omWb n p r S t = 0 then 1 else 0) else 0)
theorem omAr_rng {n S t : Nat} {p d w r f s : Nat → Int} (hok : omOk n p d w r f s) : 0 ≤ omAr n p r S t ∧ omAr n p r S t ≤ n * 30 :=
  omSum_rng (fun i hi => by
    have := hok.2.1 i hi
    split
    · split <;> omega
    · omega)
theorem omWb_0 {n S t : Nat} {p d w r f s : Nat → Int} (hok : omOk n p d w r f s) : 0 ≤ omWb n p r S t := by
  cases t with
  | zero => exact (omAr_rng hok).1
  | succ t =>
    have h1 := (omAr_rng (S := S) (t := t + 1) hok).1
    show 0 ≤ max 0 (omWb n p r S t - 1) + omAr n p r S (t + 1)
    omega
/-- all that is released by a time -/
def omRs (n : Nat) (p r : Nat → Int) (S t : Nat) : Int := omSum n (fun i => if S.testBit i = true then (if r i ≤ (t : Int) then p i else 0) else 0)
theorem omRs_rng {n S t : Nat} {p d w r f s : Nat → Int} (hok : omOk n p d w r f s) : 0 ≤ omRs n p r S t ∧ omRs n p r S t ≤ n * 30 :=
  omSum_rng (fun i hi => by
    have := hok.2.1 i hi
    split
    · split <;> omega
    · omega)
theorem omWb_le {n S : Nat} {p d w r f s : Nat → Int} (hok : omOk n p d w r f s) : ∀ t, omWb n p r S t ≤ omRs n p r S t := by
  intro t
  induction t with
  | zero =>
    have : omAr n p r S 0 = omRs n p r S 0 := omSum_congr (fun i hi => by
      have := hok.2.1 i hi
      by_cases hb : S.testBit i = true
      · rw [if_pos hb, if_pos hb]
        by_cases h : r i = ((0 : Nat) : Int)
        · rw [if_pos h, if_pos (by omega)]
        · rw [if_neg h, if_neg (by omega)]
      · rw [if_neg hb, if_neg hb])
    show omAr n p r S 0 ≤ _
    omega
  | succ t ih =>
    have e : omRs n p r S (t + 1) = omRs n p r S t + omAr n p r S (t + 1) := by
      unfold omRs omAr
      rw [← omSum_add]
      refine omSum_congr (fun i hi => ?_)
      by_cases hb : S.testBit i = true
      · rw [if_pos hb, if_pos hb, if_pos hb]
        by_cases h : r i = ((t + 1 : Nat) : Int)
        · rw [if_pos h, if_pos (by omega), if_neg (by omega)]; omega
        · rw [if_neg h]
          by_cases h2 : r i ≤ (t : Int)
          · rw [if_pos h2, if_pos (by omega)]; omega
          · rw [if_neg h2, if_neg (by omega)]; omega
      · rw [if_neg hb, if_neg hb, if_neg hb]; omega
    have h1 := omWb_0 (S := S) (t := t) hok
    have h2 := omRs_rng (S := S) (t := t) hok
    show max 0 (omWb n p r S t - 1) + omAr n p r S (t + 1) ≤ _
    omega
theorem omAr_late {n S t : Nat} {p d w r f s : Nat → Int} (hok : omOk n p d w r f s) (ht : 100 < t) : omAr n p r S t = 0 := omSum_zero (fun i hi => by
  have := hok.2.1 i hi
  by_cases hb : S.testBit i = true
  · rw [if_pos hb, if_neg (by omega)]
  · rw [if_neg hb])
theorem omWb_late {n S : Nat} {p d w r f s : Nat → Int} (hok : omOk n p d w r f s) : ∀ x, omWb n p r S (100 + x) ≤ max 0 (300 - (x : Nat)) := by
  have hn := hok.1
  intro x
  induction x with
  | zero =>
    have h1 := omWb_le (S := S) hok 100
    have h2 := omRs_rng (S := S) (t := 100) hok
    show omWb n p r S 100 ≤ _
    omega
  | succ x ih =>
    have h1 := omAr_late (S := S) (t := 100 + x + 1) hok (by omega)
    show max 0 (omWb n p r S (100 + x) - 1) + omAr n p r S (100 + x + 1) ≤ _
    omega
theorem omWb_end {n S t : Nat} {p d w r f s : Nat → Int} (hok : omOk n p d w r f s) (ht : 400 ≤ t) : omWb n p r S t = 0 := by
  have h1 := omWb_late (S := S) hok (t - 100)
  have h2 := omWb_0 (S := S) (t := t) hok
  rw [show 100 + (t - 100) = t by omega] at h1
  omega
theorem omFi_step {n S t : Nat} {p r : Nat → Int} {a : Int} : omFi n p r S a t ≤ omFi n p r S a (t + 1) ∧ omFi n p r S a (t + 1) ≤ omFi n p r S a t + 1 := by
  show omFi n p r S a t ≤ omFi n p r S a t + _ ∧ omFi n p r S a t + _ ≤ _
  split
  · split <;> omega
  · omega
theorem omFi_mono {n S : Nat} {p r : Nat → Int} {a : Int} : ∀ x t, omFi n p r S a t ≤ omFi n p r S a (t + x) := by
  intro x
  induction x with
  | zero => intro t; exact Int.le_refl _
  | succ x ih =>
    intro t
    have h1 := ih t
    have h2 := omFi_step (n := n) (p := p) (r := r) (S := S) (a := a) (t := t + x)
    show _ ≤ omFi n p r S a (t + x + 1)
    omega
theorem omFi_le {n S t t' : Nat} {p r : Nat → Int} {a : Int} (h : t ≤ t') : omFi n p r S a t ≤ omFi n p r S a t' := by
  have := omFi_mono (n := n) (p := p) (r := r) (S := S) (a := a) (t' - t) t
  rw [show t + (t' - t) = t' by omega] at this
  exact this
theorem omFi_zero {n S : Nat} {p r : Nat → Int} {a : Int} : ∀ t : Nat, (t : Int) ≤ a → omFi n p r S a t = 0 := by
  intro t
  induction t with
  | zero => intro _; rfl
  | succ t ih =>
    intro h
    show omFi n p r S a t + (if a ≤ (t : Int) then _ else 0) = 0
    rw [ih (by omega), if_neg (by omega)]; rfl
theorem omFi_free {n S : Nat} {p r : Nat → Int} {a : Int} : ∀ x t : Nat, a ≤ (t : Int) → (∀ y, t ≤ y → y < t + x → omWb n p r S y = 0) → omFi n p r S a (t + x) = omFi n p r S a t + (x : Int) := by
  intro x
  induction x with
  | zero => intro t _ _; show omFi n p r S a t = _; omega
  | succ x ih =>
    intro t h1 h2
    have h3 := ih t h1 (fun y h4 h5 => h2 y h4 (by omega))
    show omFi n p r S a (t + x) + (if a ≤ ((t + x : Nat) : Int) then (if omWb n p r S (t + x) = 0 then 1 else 0) else 0) = _
    rw [if_pos (by omega), if_pos (h2 (t + x) (by omega) (by omega)), h3]
    omega
theorem omFi_busy {n S : Nat} {p r : Nat → Int} {a : Int} : ∀ x t : Nat, (∀ y, t ≤ y → y < t + x → omWb n p r S y ≠ 0) → omFi n p r S a (t + x) = omFi n p r S a t := by
  intro x
  induction x with
  | zero => intro t _; rfl
  | succ x ih =>
    intro t h2
    have h3 := ih t (fun y h4 h5 => h2 y h4 (by omega))
    show omFi n p r S a (t + x) + (if a ≤ ((t + x : Nat) : Int) then (if omWb n p r S (t + x) = 0 then 1 else 0) else 0) = _
    rw [if_neg (h2 (t + x) (by omega) (by omega)), h3]
    split <;> omega
/-- the time at which a job behind a set is done -/
def omTw (n : Nat) (p r : Nat → Int) (S j : Nat) : Nat → Nat → Nat
  | 0, t => t
  | m + 1, t => if p j ≤ omFi n p r S (r j) t then t else omTw n p r S j m (t + 1)
def omTe (n : Nat) (p r : Nat → Int) (S j : Nat) : Nat := omTw n p r S j 431 0
theorem omTw_ok {n S j : Nat} {p r : Nat → Int} : ∀ m t : Nat, (∀ x, x < t → omFi n p r S (r j) x < p j) → p j ≤ omFi n p r S (r j) (t + m) → t ≤ omTw n p r S j m t ∧ omTw n p r S j m t ≤ t + m ∧ p j ≤ omFi n p r S (r j) (omTw n p r S j m t) ∧ ∀ x, x < omTw n p r S j m t → omFi n p r S (r j) x < p j := by
  intro m
  induction m with
  | zero => intro t h1 h2; exact ⟨Nat.le_refl _, Nat.le_refl _, h2, h1⟩
  | succ m ih =>
    intro t h1 h2
    have e0 : omTw n p r S j (m + 1) t = if p j ≤ omFi n p r S (r j) t then t else omTw n p r S j m (t + 1) := rfl
    rw [e0]
    by_cases h : p j ≤ omFi n p r S (r j) t
    · rw [if_pos h]
      exact ⟨Nat.le_refl _, by omega, h, h1⟩
    · rw [if_neg h]
      have := ih (t + 1) (fun x hx => by
        by_cases hxt : x = t
        · subst hxt; omega
        · exact h1 x (by omega)) (by rw [show t + 1 + m = t + (m + 1) by omega]; exact h2)
      exact ⟨by omega, by omega, this.2.2⟩
theorem omTe_ok {n S j : Nat} {p d w r f s : Nat → Int} (hok : omOk n p d w r f s) (hj : j < n) : omTe n p r S j ≤ 431 ∧ omFi n p r S (r j) (omTe n p r S j) = p j ∧ (∀ x, x < omTe n p r S j → omFi n p r S (r j) x < p j) ∧ r j < (omTe n p r S j : Nat) := by
  have ho := hok.2.1 j hj
  have h0 := omFi_free (n := n) (p := p) (r := r) (S := S) (a := r j) 31 400 (by show r j ≤ 400; omega) (fun y h1 _ => omWb_end hok h1)
  have h1 := omFi_le (n := n) (p := p) (r := r) (S := S) (a := r j) (show 0 ≤ 400 by omega)
  have h2 : omFi n p r S (r j) 0 = 0 := rfl
  obtain ⟨a1, a2, a3, a4⟩ := omTw_ok (n := n) (p := p) (r := r) (S := S) (j := j) 431 0 (fun x hx => by omega) (by show p j ≤ omFi n p r S (r j) (400 + 31); omega)
  have a1' : omTw n p r S j 431 0 = omTe n p r S j := rfl
  rw [a1'] at a2 a3 a4
  have hpos : 0 < omTe n p r S j := by
    rcases Nat.eq_zero_or_pos (omTe n p r S j) with h | h
    · rw [h] at a3
      omega
    · exact h
  have h5 := a4 (omTe n p r S j - 1) (by omega)
  have h6 := (omFi_step (n := n) (p := p) (r := r) (S := S) (a := r j) (t := omTe n p r S j - 1)).2
  rw [show omTe n p r S j - 1 + 1 = omTe n p r S j by omega] at h6
  refine ⟨by omega, by omega, a4, Int.not_le.mp (fun h7 => ?_)⟩
  have := omFi_zero (n := n) (p := p) (r := r) (S := S) _ h7
  omega
theorem omTe_uniq {n S j T : Nat} {p d w r f s : Nat → Int} (hok : omOk n p d w r f s) (hj : j < n) (h1 : omFi n p r S (r j) T = p j) (h2 : ∀ x, x < T → omFi n p r S (r j) x < p j) : T = omTe n p r S j := by
  obtain ⟨a1, a2, a3, a4⟩ := omTe_ok (S := S) hok hj
  rcases Nat.lt_trichotomy T (omTe n p r S j) with h | h | h
  · have := a3 T h; omega
  · exact h
  · have := h2 _ h; omega
/-- what is left of a job behind a set -/
def omXl (n : Nat) (p r : Nat → Int) (S j t : Nat) : Int := if (t : Int) < r j then 0 else max 0 (p j - omFi n p r S (r j) t)
theorem omAr_ins {n S j t : Nat} {p r : Nat → Int} (hj : j < n) (hb : ¬ S.testBit j = true) : omAr n p r (S ||| 2 ^ j) t = omAr n p r S t + (if r j = (t : Int) then p j else 0) := by
  have e : omAr n p r (S ||| 2 ^ j) t = omSum n (fun i => (if S.testBit i = true then (if r i = (t : Int) then p i else 0) else 0) + (if i = j then (if r i = (t : Int) then p i else 0) else 0)) := omSum_congr (fun i hi => by
    rw [om_ins_bit]
    by_cases hij : i = j
    · subst hij; simp [hb]
    · have : ¬ j = i := fun h => hij h.symm
      simp [hij, this])
  rw [omSum_add, omSum_single (n := n) (j := j) (g := fun i => if i = j then (if r i = (t : Int) then p i else 0) else 0) hj (fun i _ h => if_neg h), if_pos rfl] at e
  exact e
theorem omWb_ins {n S j : Nat} {p d w r f s : Nat → Int} (hok : omOk n p d w r f s) (hj : j < n) (hb : ¬ S.testBit j = true) : ∀ t, omWb n p r (S ||| 2 ^ j) t = omWb n p r S t + omXl n p r S j t := by
  have ho := hok.2.1 j hj
  intro t
  induction t with
  | zero =>
    show omAr n p r (S ||| 2 ^ j) 0 = omAr n p r S 0 + omXl n p r S j 0
    rw [omAr_ins hj hb]
    have e : omXl n p r S j 0 = if ((0 : Nat) : Int) < r j then 0 else max 0 (p j - 0) := rfl
    rw [e]
    by_cases h : r j = ((0 : Nat) : Int)
    · rw [if_pos h, if_neg (by omega)]; omega
    · rw [if_neg h, if_pos (by omega)]
  | succ t ih =>
    have h0 := omWb_0 (S := S) (t := t) hok
    have e1 : omWb n p r (S ||| 2 ^ j) (t + 1) = max 0 (omWb n p r (S ||| 2 ^ j) t - 1) + omAr n p r (S ||| 2 ^ j) (t + 1) := rfl
    have e2 : omWb n p r S (t + 1) = max 0 (omWb n p r S t - 1) + omAr n p r S (t + 1) := rfl
    have e3 : omFi n p r S (r j) (t + 1) = omFi n p r S (r j) t + (if r j ≤ (t : Int) then (if omWb n p r S t = 0 then 1 else 0) else 0) := rfl
    rw [e1, ih, omAr_ins hj hb, e2]
    unfold omXl
    by_cases hr1 : r j = ((t + 1 : Nat) : Int)
    · have hz := omFi_zero (n := n) (p := p) (r := r) (S := S) (a := r j) (t + 1) (by omega)
      rw [if_pos hr1, if_pos (show (t : Int) < r j by omega), if_neg (show ¬ ((t + 1 : Nat) : Int) < r j by omega), hz]
      omega
    · rw [if_neg hr1]
      by_cases hr2 : (t : Int) < r j
      · rw [if_pos hr2, if_pos (show ((t + 1 : Nat) : Int) < r j by omega)]
        omega
      · rw [if_neg hr2, if_neg (show ¬ ((t + 1 : Nat) : Int) < r j by omega), e3, if_pos (by omega)]
        by_cases hw : omWb n p r S t = 0
        · rw [if_pos hw, hw]; omega
        · rw [if_neg hw]; omega
