/-! ===== with preemption: who is worked on ===== -/
def omOn (r R : Nat → Int) (t : Int) (j : Nat) : Prop := 0 < R j ∧ r j ≤ t
def omGk (v : Nat) (d R : Nat → Int) : Nat → Int := if v = 0 then d else R
noncomputable def omWk (v : Nat) (d r R : Nat → Int) (t : Int) : Nat → Int
  | 0 => -1
  | k + 1 => @ite Int (omOn r R t k ∧ (omWk v d r R t k = -1 ∨ omBk (omGk v d R) k (omWk v d r R t k).toNat)) (Classical.propDecidable _) (k : Int) (omWk v d r R t k)
theorem omWk_t {v k : Nat} {d r R : Nat → Int} {t : Int} (h : omOn r R t k ∧ (omWk v d r R t k = -1 ∨ omBk (omGk v d R) k (omWk v d r R t k).toNat)) : omWk v d r R t (k + 1) = k := if_pos h
theorem omWk_f {v k : Nat} {d r R : Nat → Int} {t : Int} (h : ¬ (omOn r R t k ∧ (omWk v d r R t k = -1 ∨ omBk (omGk v d R) k (omWk v d r R t k).toNat))) : omWk v d r R t (k + 1) = omWk v d r R t k := if_neg h
/-- the one that is worked on, of the first n -/
def omCh (n : Nat) (g r R : Nat → Int) (t : Int) (j : Nat) : Prop := j < n ∧ omOn r R t j ∧ ∀ i, i < n → omOn r R t i → i ≠ j → omBk g j i
theorem omWk_spec {v : Nat} {d r R : Nat → Int} {t : Int} : ∀ k, (omWk v d r R t k = -1 ∧ ∀ i, i < k → ¬ omOn r R t i) ∨ ∃ j : Nat, omWk v d r R t k = j ∧ omCh k (omGk v d R) r R t j := by
  intro k
  induction k with
  | zero => exact Or.inl ⟨rfl, fun i hi => by omega⟩
  | succ k ih =>
    have hso := omBk_so (k + 1) (omGk v d R)
    by_cases h : omOn r R t k ∧ (omWk v d r R t k = -1 ∨ omBk (omGk v d R) k (omWk v d r R t k).toNat)
    · refine Or.inr ⟨k, omWk_t h, by omega, h.1, fun i hi hon hne => ?_⟩
      rcases ih with ⟨h1, h2⟩ | ⟨j, h1, h2, h3, h4⟩
      · exact absurd hon (h2 i (by omega))
      · have hb : omBk (omGk v d R) k j := by
          rcases h.2 with h5 | h5
          · omega
          · rw [h1, Int.toNat_natCast] at h5; exact h5
        by_cases hij : i = j
        · subst hij; exact hb
        · exact hso.2.1 k j i (by omega) (by omega) hi hb (h4 i (by omega) hon hij)
    · rw [omWk_f h]
      rcases ih with ⟨h1, h2⟩ | ⟨j, h1, h2, h3, h4⟩
      · refine Or.inl ⟨h1, fun i hi hon => ?_⟩
        by_cases hik : i = k
        · subst hik; exact h ⟨hon, Or.inl h1⟩
        · exact h2 i (by omega) hon
      · refine Or.inr ⟨j, h1, by omega, h3, fun i hi hon hne => ?_⟩
        by_cases hik : i = k
        · subst hik
          rcases hso.2.2 j i (by omega) (by omega) (fun he => hne he.symm) with h5 | h5
          · exact h5
          · exact absurd ⟨hon, Or.inr (by rw [h1, Int.toNat_natCast]; exact h5)⟩ h
        · exact h4 i (by omega) hon hne
theorem omWk_of {v n j : Nat} {d r R : Nat → Int} {t : Int} (h : omCh n (omGk v d R) r R t j) : omWk v d r R t n = j := by
  obtain ⟨h1, h2, h3⟩ := h
  rcases omWk_spec (v := v) (d := d) (r := r) (R := R) (t := t) n with ⟨g1, g2⟩ | ⟨i, g1, g2, g3, g4⟩
  · exact absurd h2 (g2 j h1)
  · rw [g1]
    by_cases hij : i = j
    · rw [hij]
    · have a1 := h3 i g2 g3 hij
      have a2 := g4 j h1 h2 (fun he => hij he.symm)
      exact absurd a2 ((omBk_so n (omGk v d R)).asym h1 g2 a1)
theorem omWk_no {v n : Nat} {d r R : Nat → Int} {t : Int} (h : ∀ i, i < n → ¬ omOn r R t i) : omWk v d r R t n = -1 := by
  rcases omWk_spec (v := v) (d := d) (r := r) (R := R) (t := t) n with ⟨g1, g2⟩ | ⟨i, g1, g2, g3, g4⟩
  · exact g1
  · exact absurd g3 (h i g2)
theorem omWk_rng {v k : Nat} {d r R : Nat → Int} {t : Int} : -1 ≤ omWk v d r R t k ∧ omWk v d r R t k < k := by
  rcases omWk_spec (v := v) (d := d) (r := r) (R := R) (t := t) k with ⟨g1, g2⟩ | ⟨i, g1, g2, g3, g4⟩
  · omega
  · omega
/-- the next release -/
def omNr (r : Nat → Int) (t : Int) : Nat → Int
  | 0 => 1000000
  | k + 1 => if t < r k then min (omNr r t k) (r k) else omNr r t k
theorem omNr_low {r : Nat → Int} {t : Int} : ∀ k i, i < k → t < r i → omNr r t k ≤ r i := by
  intro k
  induction k with
  | zero => intro i hi; omega
  | succ k ih =>
    intro i hi ht
    show (if t < r k then min (omNr r t k) (r k) else omNr r t k) ≤ r i
    by_cases hik : i = k
    · subst hik; rw [if_pos ht]; omega
    · have := ih i (by omega) ht
      split <;> omega
theorem omNr_att {r : Nat → Int} {t : Int} : ∀ k, omNr r t k = 1000000 ∨ ∃ i, i < k ∧ t < r i ∧ omNr r t k = r i := by
  intro k
  induction k with
  | zero => exact Or.inl rfl
  | succ k ih =>
    have e0 : omNr r t (k + 1) = if t < r k then min (omNr r t k) (r k) else omNr r t k := rfl
    by_cases ht : t < r k
    · rw [if_pos ht] at e0
      rcases Int.le_total (omNr r t k) (r k) with h | h
      · rw [Int.min_eq_left h] at e0
        rw [e0]
        rcases ih with h1 | ⟨i, hi, h2⟩
        · exact Or.inl h1
        · exact Or.inr ⟨i, by omega, h2⟩
      · rw [Int.min_eq_right h] at e0
        exact Or.inr ⟨k, by omega, ht, e0⟩
    · rw [if_neg ht] at e0
      rw [e0]
      rcases ih with h1 | ⟨i, hi, h2⟩
      · exact Or.inl h1
      · exact Or.inr ⟨i, by omega, h2⟩
/-- what is left of each job -/
def omRr (n : Nat) (p R : Nat → Int) : Prop := ∀ j, j < n → 0 ≤ R j ∧ R j ≤ p j
/-! .. the class's choice -/
theorem s_X6_isOpen_eq {n j : Nat} {t : Int} {p d w r f s R : Nat → Int} {σ : omH} (hok : omOk n p d w r f s) (hc : omCv n p d w r f s σ) (hRr : omRr n p R) (hR : ∀ j, j < n → σ 37 j = R j) (hj : j < n) (ht : 0 ≤ t ∧ t ≤ 1000) : s_X6_isOpen j t σ = some (omIf (omOn r R t j)) := by
  have hn := hok.1
  have ho := hok.2.1 j hj
  have hr := hRr j hj
  unfold s_X6_isOpen
  rw [om_wn (show j < 2147483648 by omega), Int.toNat_natCast, hR j hj, hc.2.2.2.2.1, omw_id (a := R j) (by omega) (by omega), omw_id (a := t) (by omega) (by omega), omw_id (a := r j) (by omega) (by omega), omg_t ⟨by omega, by omega⟩]
  by_cases h1 : 0 < R j
  · rw [if_pos h1, omg_t ⟨by omega, by omega⟩]
    by_cases h2 : t < r j
    · rw [if_pos h2, omIf_f (fun h => by have := h.2; omega)]
    · rw [if_neg h2, omIf_t ⟨h1, by omega⟩]
  · rw [if_neg h1, omIf_f (fun h => h1 h.1)]
theorem l_X6_firstByDateAt_2_eq {n : Nat} {t : Int} {p d w r f s R : Nat → Int} {q : Nat → Nat} {σ : omH} (hok : omOk n p d w r f s) (hc : omCv n p d w r f s σ) (hq : omSt (omBk d) n q) (hr : ∀ i, i < n → σ 36 i = q i) (hRr : omRr n p R) (hR : ∀ j, j < n → σ 37 j = R j) (ht : 0 ≤ t ∧ t ≤ 1000) : ∀ (m k fuel : Nat), k + m = n → m < fuel → (∀ i, i < k → ¬ omOn r R t (q i)) → l_X6_firstByDateAt_2 t σ fuel k = some (Sum.inl (omWk 0 d r R t n)) := by
  have hn := hok.1
  intro m
  induction m with
  | zero =>
    intro k fuel hk hf hno
    obtain ⟨fuel, rfl⟩ : ∃ z, fuel = z + 1 := ⟨fuel - 1, by omega⟩
    rw [l_X6_firstByDateAt_2.eq_2, hc.1, om_wn (show k < 2147483648 by omega), om_wn (show n < 2147483648 by omega), if_neg (by omega), omWk_no (fun i hi => by
      obtain ⟨x, hx, rfl⟩ := hq.2.1 i hi
      exact hno x (by omega))]
  | succ m ih =>
    intro k fuel hk hf hno
    obtain ⟨fuel, rfl⟩ : ∃ z, fuel = z + 1 := ⟨fuel - 1, by omega⟩
    have hkn : k < n := by omega
    have hqk := hq.1 k hkn
    rw [l_X6_firstByDateAt_2.eq_2, hc.1, om_wn (show k < 2147483648 by omega), om_wn (show n < 2147483648 by omega), if_pos (by omega), Int.toNat_natCast, hr k hkn, s_X6_isOpen_eq hok hc hRr hR hqk ht, omg_t ⟨by omega, by omega⟩, om_b0, show ((k : Int) + 1) = ((k + 1 : Nat) : Int) by omega]
    by_cases hon : omOn r R t (q k)
    · have hch : omCh n (omGk 0 d R) r R t (q k) := ⟨hqk, hon, fun i hi hoi hne => by
        obtain ⟨x, hx, rfl⟩ := hq.2.1 i hi
        rcases Nat.lt_trichotomy x k with h | h | h
        · exact absurd hoi (hno x h)
        · subst h; exact absurd rfl hne
        · exact hq.2.2 k x h hx⟩
      rw [om_if0 hon, omg_t ⟨by omega, by omega⟩, omWk_of hch]
    · rw [om_if1 hon]
      exact ih (k + 1) fuel (by omega) (by omega) (fun i hi => by
        by_cases hik : i = k
        · subst hik; exact hon
        · exact hno i (by omega))
theorem s_X6_firstByDateAt_eq {n : Nat} {t : Int} {p d w r f s R : Nat → Int} {q : Nat → Nat} {σ : omH} (hok : omOk n p d w r f s) (hc : omCv n p d w r f s σ) (hq : omSt (omBk d) n q) (hr : ∀ i, i < n → σ 36 i = q i) (hRr : omRr n p R) (hR : ∀ j, j < n → σ 37 j = R j) (ht : 0 ≤ t ∧ t ≤ 1000) : s_X6_firstByDateAt t σ = some (omWk 0 d r R t n) := by
  have hn := hok.1
  have h1 := l_X6_firstByDateAt_2_eq hok hc hq hr hRr hR ht n 0 FU (by omega) (by rw [FU_eq]; omega) (fun i hi => by omega)
  have h1' : l_X6_firstByDateAt_2 t σ FU 0 = _ := h1
  unfold s_X6_firstByDateAt
  rw [h1', om_b0]
  rfl
theorem omBk_R {R : Nat → Int} {k a : Nat} (h : a < k) : omBk R k a ↔ R k < R a := by unfold omBk; omega
theorem l_X6_shortestAt_9_eq {n : Nat} {t : Int} {p d w r f s R : Nat → Int} {σ : omH} (hok : omOk n p d w r f s) (hc : omCv n p d w r f s σ) (hRr : omRr n p R) (hR : ∀ j, j < n → σ 37 j = R j) (ht : 0 ≤ t ∧ t ≤ 1000) : ∀ (m k fuel : Nat), k + m = n → m < fuel → l_X6_shortestAt_9 t σ fuel (omWk 1 d r R t k) (if omWk 1 d r R t k = -1 then 1000000 else R (omWk 1 d r R t k).toNat) k = some (omWk 1 d r R t n) := by
  have hn := hok.1
  intro m
  induction m with
  | zero =>
    intro k fuel hk hf
    obtain ⟨fuel, rfl⟩ : ∃ z, fuel = z + 1 := ⟨fuel - 1, by omega⟩
    have : k = n := by omega
    subst this
    rw [l_X6_shortestAt_9.eq_2, hc.1, if_neg (by omega)]
  | succ m ih =>
    intro k fuel hk hf
    obtain ⟨fuel, rfl⟩ : ∃ z, fuel = z + 1 := ⟨fuel - 1, by omega⟩
    have hkn : k < n := by omega
    have ho := hok.2.1 k hkn
    have hrk := hRr k hkn
    have hw := omWk_rng (v := 1) (k := k) (d := d) (r := r) (R := R) (t := t)
    have ih' := ih (k + 1) fuel (by omega) (by omega)
    rw [l_X6_shortestAt_9.eq_2, hc.1, om_wn (show k < 2147483648 by omega), om_wn (show n < 2147483648 by omega), if_pos (by omega), s_X6_isOpen_eq hok hc hRr hR hkn ht, om_b0, Int.toNat_natCast, hR k hkn, show ((k : Int) + 1) = ((k + 1 : Nat) : Int) by omega]
    have hg : omGk 1 d R = R := if_neg (by decide)
    by_cases hon : omOn r R t k
    · rw [om_if0 hon, omg_t ⟨by omega, by omega⟩, omg_t ⟨by omega, by omega⟩]
      have hlt : omw (R k) < omw (if omWk 1 d r R t k = -1 then 1000000 else R (omWk 1 d r R t k).toNat) ↔ (omWk 1 d r R t k = -1 ∨ omBk (omGk 1 d R) k (omWk 1 d r R t k).toNat) := by
        rw [hg, omw_id (a := R k) (by omega) (by omega)]
        by_cases h1 : omWk 1 d r R t k = -1
        · rw [if_pos h1]
          exact ⟨fun _ => Or.inl h1, fun _ => by show R k < omw 1000000; rw [omw_id (by decide) (by decide)]; omega⟩
        · have hra := hRr (omWk 1 d r R t k).toNat (by omega)
          have hoa := hok.2.1 (omWk 1 d r R t k).toNat (by omega)
          rw [if_neg h1, omw_id (a := R (omWk 1 d r R t k).toNat) (by omega) (by omega), omBk_R (by omega)]
          exact ⟨fun h => Or.inr h, fun h => h.resolve_left h1⟩
      by_cases hb : omWk 1 d r R t k = -1 ∨ omBk (omGk 1 d R) k (omWk 1 d r R t k).toNat
      · rw [if_pos (hlt.mpr hb)]
        rw [omWk_t ⟨hon, hb⟩, if_neg (by omega), Int.toNat_natCast] at ih'
        exact ih'
      · rw [if_neg (fun h => hb (hlt.mp h))]
        rw [omWk_f (fun h => hb h.2)] at ih'
        exact ih'
    · rw [om_if1 hon]
      rw [omWk_f (fun h => hon h.1)] at ih'
      exact ih'
theorem s_X6_shortestAt_eq {n : Nat} {t : Int} {p d w r f s R : Nat → Int} {σ : omH} (hok : omOk n p d w r f s) (hc : omCv n p d w r f s σ) (hRr : omRr n p R) (hR : ∀ j, j < n → σ 37 j = R j) (ht : 0 ≤ t ∧ t ≤ 1000) : s_X6_shortestAt t σ = some (omWk 1 d r R t n) := by
  have hn := hok.1
  have h1 := l_X6_shortestAt_9_eq hok hc hRr hR ht n 0 FU (by omega) (by rw [FU_eq]; omega)
  have h1' : l_X6_shortestAt_9 t σ FU (-1) 1000000 0 = _ := h1
  unfold s_X6_shortestAt
  rw [h1', om_b0]
theorem l_X6_nextRelease_5_eq {n : Nat} {t : Int} {p d w r f s : Nat → Int} {σ : omH} (hok : omOk n p d w r f s) (hc : omCv n p d w r f s σ) (ht : 0 ≤ t ∧ t ≤ 1000) : ∀ (m k fuel : Nat), k + m = n → m < fuel → l_X6_nextRelease_5 t σ fuel (omNr r t k) k = some (omNr r t n) := by
  have hn := hok.1
  intro m
  induction m with
  | zero =>
    intro k fuel hk hf
    obtain ⟨fuel, rfl⟩ : ∃ z, fuel = z + 1 := ⟨fuel - 1, by omega⟩
    have : k = n := by omega
    subst this
    rw [l_X6_nextRelease_5.eq_2, hc.1, if_neg (by omega)]
  | succ m ih =>
    intro k fuel hk hf
    obtain ⟨fuel, rfl⟩ : ∃ z, fuel = z + 1 := ⟨fuel - 1, by omega⟩
    have hkn : k < n := by omega
    have ho := hok.2.1 k hkn
    have hN : 0 ≤ omNr r t k ∧ omNr r t k ≤ 1000000 := by
      rcases omNr_att (r := r) (t := t) k with h | ⟨i, hi, h1, h2⟩
      · omega
      · have := hok.2.1 i (by omega); omega
    have ih' := ih (k + 1) fuel (by omega) (by omega)
    have e0 : omNr r t (k + 1) = if t < r k then min (omNr r t k) (r k) else omNr r t k := rfl
    rw [l_X6_nextRelease_5.eq_2, hc.1, om_wn (show k < 2147483648 by omega), om_wn (show n < 2147483648 by omega), if_pos (by omega), Int.toNat_natCast, hc.2.2.2.2.1, omw_id (a := t) (by omega) (by omega), omw_id (a := r k) (by omega) (by omega), omw_id (a := omNr r t k) (by omega) (by omega), omg_t ⟨by omega, by omega⟩, show ((k : Int) + 1) = ((k + 1 : Nat) : Int) by omega]
    by_cases h : t < r k
    · rw [if_pos h] at e0
      rw [if_pos h, omg_t ⟨by omega, by omega⟩, ← e0]
      exact ih'
    · rw [if_neg h] at e0
      rw [if_neg h]
      rw [e0] at ih'
      exact ih'
theorem s_X6_nextRelease_eq {n : Nat} {t : Int} {p d w r f s : Nat → Int} {σ : omH} (hok : omOk n p d w r f s) (hc : omCv n p d w r f s σ) (ht : 0 ≤ t ∧ t ≤ 1000) : s_X6_nextRelease t σ = some (omNr r t n) := by
  have hn := hok.1
  have h1 := l_X6_nextRelease_5_eq hok hc ht n 0 FU (by omega) (by rw [FU_eq]; omega)
  have h1' : l_X6_nextRelease_5 t σ FU 1000000 0 = _ := h1
  unfold s_X6_nextRelease
  rw [h1', om_b0]
