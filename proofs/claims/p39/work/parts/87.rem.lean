/-! ===== p39: what is left of each job under fixed priorities ===== -/
def omRb (n : Nat) (p r : Nat → Int) (q : Nat → Nat) (t j : Nat) : Int := omSum n (fun k => if q k = j then max 0 (p j - omFi n p r (omSs q k) (r j) t) else 0)
theorem omRb_at {n k : Nat} {p r : Nat → Int} {q : Nat → Nat} (hq : omSq n q) (hk : k < n) (t : Nat) : omRb n p r q t (q k) = max 0 (p (q k) - omFi n p r (omSs q k) (r (q k)) t) := by
  have hinj := (omSs_perm hq).2.1
  unfold omRb
  rw [omSum_single (j := k) hk (fun i hi hne => if_neg (fun h => hne (hinj i k hi hk h))), if_pos rfl]
theorem omRb_0 {n j : Nat} {p d w r f s : Nat → Int} {q : Nat → Nat} (hok : omOk n p d w r f s) (hq : omSq n q) (hj : j < n) : omRb n p r q 0 j = p j := by
  obtain ⟨k, hk, rfl⟩ := (omSs_perm hq).2.2 j hj
  have h1 := hok.2.1 _ hj
  rw [omRb_at hq hk]
  have : omFi n p r (omSs q k) (r (q k)) 0 = 0 := rfl
  omega
theorem omRb_pos {n j t : Nat} {p d w r f s : Nat → Int} {q : Nat → Nat} (hq : omSq n q) (hj : j < n) : 0 ≤ omRb n p r q t j := by
  obtain ⟨k, hk, rfl⟩ := (omSs_perm hq).2.2 j hj
  rw [omRb_at hq hk]
  omega
theorem omRb_done {n k t : Nat} {p d w r f s : Nat → Int} {q : Nat → Nat} (hok : omOk n p d w r f s) (hq : omSq n q) (hk : k < n) : omRb n p r q t (q k) = 0 ↔ omTe n p r (omSs q k) (q k) ≤ t := by
  obtain ⟨h1, h2, h3, h4⟩ := omTe_ok (S := omSs q k) hok (hq k hk).1
  rw [omRb_at hq hk]
  constructor
  · intro h
    apply Classical.byContradiction
    intro hlt
    have := h3 t (by omega)
    omega
  · intro h
    have := omFi_le (n := n) (p := p) (r := r) (S := omSs q k) (a := r (q k)) h
    omega
/-- the load of the jobs ahead, out of what is left of them -/
theorem omWb_rb {n t : Nat} {p d w r f s : Nat → Int} {q : Nat → Nat} (hok : omOk n p d w r f s) (hq : omSq n q) : ∀ k, k ≤ n → omWb n p r (omSs q k) t = omSum k (fun i => if (t : Int) < r (q i) then 0 else omRb n p r q t (q i)) := by
  intro k
  induction k with
  | zero => intro _; exact omWb_none t
  | succ k ih =>
    intro hk
    obtain ⟨h1, h2⟩ := hq k (by omega)
    show omWb n p r (omSs q k ||| 2 ^ (q k)) t = omSum k _ + (if (t : Int) < r (q k) then 0 else omRb n p r q t (q k))
    rw [omWb_ins hok h1 h2, ih (by omega), omRb_at hq (by omega)]
    rfl
theorem omFi_succ {n S t : Nat} {p r : Nat → Int} {a : Int} : omFi n p r S a (t + 1) = omFi n p r S a t + (if a ≤ (t : Int) then (if omWb n p r S t = 0 then 1 else 0) else 0) := rfl
/-- one unit of time under fixed priorities: the first open job is worked on -/
theorem omRb_step {n : Nat} {p d w r f s : Nat → Int} {q : Nat → Nat} (hok : omOk n p d w r f s) (hq : omSq n q) (t : Nat) : ((∀ j, j < n → ¬ omOn r (omRb n p r q t) t j) ∧ ∀ j, j < n → omRb n p r q (t + 1) j = omRb n p r q t j) ∨ ∃ k, k < n ∧ omOn r (omRb n p r q t) t (q k) ∧ (∀ i, i < k → ¬ omOn r (omRb n p r q t) t (q i)) ∧ ∀ j, j < n → omRb n p r q (t + 1) j = omRb n p r q t j - (if j = q k then 1 else 0) := by
  obtain ⟨g1, g2, g3⟩ := omSs_perm hq
  have hone : ∀ k, k < n → ¬ omOn r (omRb n p r q t) t (q k) → omRb n p r q (t + 1) (q k) = omRb n p r q t (q k) := by
    intro k hk hno
    have h0 := omRb_pos (d := d) (w := w) (f := f) (s := s) (p := p) (r := r) (t := t) hq (g1 k hk)
    have hs := omFi_step (n := n) (S := omSs q k) (t := t) (p := p) (r := r) (a := r (q k))
    unfold omOn at hno
    by_cases hr : r (q k) ≤ (t : Int)
    · have h1 : omRb n p r q t (q k) = 0 := by omega
      rw [h1]
      rw [omRb_at hq hk] at h1 ⊢
      omega
    · rw [omRb_at hq hk, omRb_at hq hk, omFi_succ, if_neg hr]
      omega
  have hterm : ∀ i, i < n → 0 ≤ (if (t : Int) < r (q i) then 0 else omRb n p r q t (q i)) := fun i hi => by
    have := omRb_pos (d := d) (w := w) (f := f) (s := s) (p := p) (r := r) (t := t) hq (g1 i hi)
    split <;> omega
  by_cases h : ∃ k, k < n ∧ omOn r (omRb n p r q t) t (q k)
  · have hfirst : ∀ m, (∃ k, k < m ∧ k < n ∧ omOn r (omRb n p r q t) t (q k)) → ∃ k, k < n ∧ omOn r (omRb n p r q t) t (q k) ∧ ∀ i, i < k → ¬ omOn r (omRb n p r q t) t (q i) := by
      intro m
      induction m with
      | zero => intro ⟨k, hk, _⟩; omega
      | succ m ih =>
        intro ⟨k, hk, hkn, hon⟩
        by_cases hm : ∃ k, k < m ∧ k < n ∧ omOn r (omRb n p r q t) t (q k)
        · exact ih hm
        · have hkm : k = m := Classical.byContradiction (fun hne => hm ⟨k, by omega, hkn, hon⟩)
          subst hkm
          exact ⟨k, hkn, hon, fun i hi hoi => hm ⟨i, hi, by omega, hoi⟩⟩
    obtain ⟨k0, hk0, hon0⟩ := h
    obtain ⟨k, hk, hon, hno⟩ := hfirst (k0 + 1) ⟨k0, by omega, hk0, hon0⟩
    refine Or.inr ⟨k, hk, hon, hno, fun j hj => ?_⟩
    obtain ⟨i, hi, rfl⟩ := g3 j hj
    by_cases hik : i = k
    · subst hik
      rw [if_pos rfl]
      have hz : omWb n p r (omSs q i) t = 0 := by
        rw [omWb_rb hok hq i (by omega)]
        refine omSum_zero (fun x hx => ?_)
        have h1 := hno x hx
        have h2 := omRb_pos (d := d) (w := w) (f := f) (s := s) (p := p) (r := r) (t := t) hq (g1 x (by omega))
        unfold omOn at h1
        split <;> omega
      obtain ⟨o1, o2⟩ := hon
      rw [omRb_at hq hi] at o1 ⊢
      rw [omRb_at hq hi, omFi_succ, if_pos o2, if_pos hz]
      omega
    · rw [if_neg (fun h => hik (g2 i k hi hk h))]
      by_cases hlt : i < k
      · rw [hone i hi (hno i hlt)]; omega
      · have hz : omWb n p r (omSs q i) t ≠ 0 := by
          rw [omWb_rb hok hq i (by omega)]
          have h1 := omSum_one (n := i) (k := k) (g := fun i => if (t : Int) < r (q i) then 0 else omRb n p r q t (q i)) (fun x hx => hterm x (by omega)) (by omega)
          obtain ⟨o1, o2⟩ := hon
          have h2 : (if (t : Int) < r (q k) then 0 else omRb n p r q t (q k)) = omRb n p r q t (q k) := if_neg (by omega)
          have h1' : (if (t : Int) < r (q k) then 0 else omRb n p r q t (q k)) ≤ omSum i (fun i => if (t : Int) < r (q i) then 0 else omRb n p r q t (q i)) := h1
          omega
        rw [omRb_at hq hi, omRb_at hq hi, omFi_succ, if_neg hz]
        split <;> omega
  · refine Or.inl ⟨fun j hj hon => ?_, fun j hj => ?_⟩
    · obtain ⟨i, hi, rfl⟩ := g3 j hj
      exact h ⟨i, hi, hon⟩
    · obtain ⟨i, hi, rfl⟩ := g3 j hj
      exact hone i hi (fun hon => h ⟨i, hi, hon⟩)
/-- what is left of a window's jobs -/
theorem om_win_left {n i j : Nat} {p d w r f s : Nat → Int} {q : Nat → Nat} (hok : omOk n p d w r f s) (hq : omSq n q) (hi : i < n) : ∀ t : Nat, omWl 1 n p d r i j - max 0 ((t : Int) - r i) ≤ omWl 1 n (omRb n p r q t) d r i j := by
  have hri := hok.2.1 i hi
  have hrl : ∀ k, omRl 1 r k = r k := fun k => if_neg (by decide)
  intro t
  induction t with
  | zero =>
    have e : omWl 1 n (omRb n p r q 0) d r i j = omWl 1 n p d r i j := omSum_congr (fun k hk => by
      unfold omWlT
      rw [omRb_0 hok hq hk])
    rw [e]
    have : ((0 : Nat) : Int) - r i ≤ 0 := by omega
    omega
  | succ t ih =>
    rcases omRb_step hok hq t with ⟨h1, h2⟩ | ⟨k, hk, hon, hno, h2⟩
    · have e : omWl 1 n (omRb n p r q (t + 1)) d r i j = omWl 1 n (omRb n p r q t) d r i j := omSum_congr (fun k hk => by
        unfold omWlT
        rw [h2 k hk])
      rw [e]
      omega
    · have hqk := (hq k hk).1
      have e : omWl 1 n (omRb n p r q t) d r i j = omSum n (fun x => omWlT 1 (omRb n p r q (t + 1)) d r i j x + (if x = q k then (if r (q k) < r i then 0 else if d j < d (q k) then 0 else 1) else 0)) := omSum_congr (fun x hx => by
        unfold omWlT
        rw [h2 x hx, hrl, hrl]
        by_cases he : x = q k
        · subst he
          rw [if_pos rfl, if_pos rfl]
          split
          · rfl
          · split
            · rfl
            · omega
        · rw [if_neg he, if_neg he]
          split
          · rfl
          · split
            · rfl
            · omega)
      rw [omSum_add, omSum_single (j := q k) hqk (fun x _ hne => if_neg hne), if_pos rfl] at e
      have e' : omWl 1 n (omRb n p r q (t + 1)) d r i j = omSum n (omWlT 1 (omRb n p r q (t + 1)) d r i j) := rfl
      obtain ⟨o1, o2⟩ := hon
      by_cases hlt : r (q k) < r i
      · rw [if_pos hlt] at e
        omega
      · rw [if_neg hlt] at e
        have : (if d j < d (q k) then (0 : Int) else 1) ≤ 1 := by split <;> omega
        omega
/-- under fixed priorities some job of a window ends no sooner than its jobs take -/
theorem om_win_late {n i j : Nat} {p d w r f s C : Nat → Int} {q : Nat → Nat} (hok : omOk n p d w r f s) (hq : omSq n q) (hi : i < n) (hW : 0 < omWl 1 n p d r i j) (hC : ∀ k, k < n → C (q k) = ((omTe n p r (omSs q k) (q k) : Nat) : Int)) : ∃ k, k < n ∧ d k ≤ d j ∧ r i + omWl 1 n p d r i j ≤ C k := by
  apply Classical.byContradiction
  intro hno
  have hri := hok.2.1 i hi
  have hrl : ∀ k, omRl 1 r k = r k := fun k => if_neg (by decide)
  have h1 := om_win_left (j := j) hok hq hi (r i + omWl 1 n p d r i j - 1).toNat
  have h2 : omWl 1 n (omRb n p r q (r i + omWl 1 n p d r i j - 1).toNat) d r i j = 0 := omSum_zero (fun x hx => by
    unfold omWlT
    rw [hrl, hrl]
    by_cases ha : r x < r i
    · rw [if_pos ha]
    · rw [if_neg ha]
      by_cases hb : d j < d x
      · rw [if_pos hb]
      · rw [if_neg hb]
        obtain ⟨k, hk, rfl⟩ := (omSs_perm hq).2.2 x hx
        rw [omRb_done hok hq hk]
        have h3 : ¬ r i + omWl 1 n p d r i j ≤ C (q k) := fun h => hno ⟨q k, hx, by omega, h⟩
        rw [hC k hk] at h3
        omega)
  rw [h2] at h1
  omega
theorem om_prio_low {n : Nat} {p d w r f s C : Nat → Int} {q : Nat → Nat} (hok : omOk n p d w r f s) (hn : 0 < n) (hq : omSq n q) (hC : ∀ k, k < n → C (q k) = ((omTe n p r (omSs q k) (q k) : Nat) : Int)) : omBst 1 n p d r ≤ omTot n 0 d w C := by
  obtain ⟨i, j, hi, hj, h1, h2⟩ := omBst_ex (v := 1) hok hn
  obtain ⟨k, hk, hd, hw⟩ := om_win_late (j := j) hok hq hi h1 hC
  have h3 : omCs 0 d w C k ≤ omMx n (omCs 0 d w C) := omMx_ge hk
  have h4 : omCs 0 d w C k = C k - d k := if_pos rfl
  have h5 : omTot n 0 d w C = omMx n (omCs 0 d w C) := if_pos rfl
  have h6 : omRl 1 r i = r i := if_neg (by decide)
  omega
