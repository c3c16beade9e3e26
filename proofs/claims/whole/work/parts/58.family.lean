/-! ===== tables over the sets and the family ahead ===== -/
/-- of its family the next by due dates, as far as the first n jobs say -/
def omNx (n : Nat) (d f : Nat → Int) (S j : Nat) : Prop := ¬ S.testBit j = true ∧ ∀ i, i < n → i ≠ j → f i = f j → ¬ S.testBit i = true → ¬ omBk d i j
def omAw (v n : Nat) (d f : Nat → Int) (S j : Nat) : Prop := ¬ S.testBit j = true ∧ (v = 0 ∨ omNx n d f S j)
/-- the least over the numbers of a kind -/
noncomputable def omFq (b : Int) (P : Nat → Prop) (g : Nat → Int) : Nat → Int
  | 0 => b
  | k + 1 => @ite Int (P k) (Classical.propDecidable _) (min (omFq b P g k) (g k)) (omFq b P g k)
theorem omFq_t {b : Int} {P : Nat → Prop} {g : Nat → Int} {k : Nat} (h : P k) : omFq b P g (k + 1) = min (omFq b P g k) (g k) := if_pos h
theorem omFq_f {b : Int} {P : Nat → Prop} {g : Nat → Int} {k : Nat} (h : ¬ P k) : omFq b P g (k + 1) = omFq b P g k := if_neg h
theorem omFq_congr {b : Int} {P P' : Nat → Prop} {g g' : Nat → Int} : ∀ k, (∀ j, j < k → (P j ↔ P' j)) → (∀ j, j < k → P j → g j = g' j) → omFq b P g k = omFq b P' g' k := by
  intro k
  induction k with
  | zero => intro _ _; rfl
  | succ k ih =>
    intro h1 h2
    have h3 := ih (fun j hj => h1 j (by omega)) (fun j hj => h2 j (by omega))
    by_cases hP : P k
    · rw [omFq_t hP, omFq_t ((h1 k (by omega)).mp hP), h3, h2 k (by omega) hP]
    · rw [omFq_f hP, omFq_f (fun hp => hP ((h1 k (by omega)).mpr hp)), h3]
theorem omFq_att {b : Int} {P : Nat → Prop} {g : Nat → Int} : ∀ k, omFq b P g k = b ∨ ∃ j, j < k ∧ P j ∧ omFq b P g k = g j := by
  intro k
  induction k with
  | zero => exact Or.inl rfl
  | succ k ih =>
    by_cases hP : P k
    · rw [omFq_t hP]
      rcases Int.le_total (omFq b P g k) (g k) with h | h
      · rw [Int.min_eq_left h]
        rcases ih with h1 | ⟨j, hj, h2⟩
        · exact Or.inl h1
        · exact Or.inr ⟨j, by omega, h2⟩
      · rw [Int.min_eq_right h]
        exact Or.inr ⟨k, by omega, hP, rfl⟩
    · rw [omFq_f hP]
      rcases ih with h | ⟨j, hj, h2⟩
      · exact Or.inl h
      · exact Or.inr ⟨j, by omega, h2⟩
theorem omFq_low {b : Int} {P : Nat → Prop} {g : Nat → Int} : ∀ k j, j < k → P j → omFq b P g k ≤ g j := by
  intro k
  induction k with
  | zero => intro j hj; omega
  | succ k ih =>
    intro j hj hb
    by_cases hP : P k
    · rw [omFq_t hP]
      by_cases hjk : j = k
      · subst hjk; omega
      · have := ih j (by omega) hb; omega
    · rw [omFq_f hP]
      exact ih j (by
        by_cases hjk : j = k
        · subst hjk; exact absurd hb hP
        · omega) hb
theorem omFq_rng {b : Int} {P : Nat → Prop} {g : Nat → Int} (hb : -1000000 ≤ b ∧ b ≤ 1000000) : ∀ k, (∀ j, j < k → P j → -1000000 ≤ g j) → -1000000 ≤ omFq b P g k ∧ omFq b P g k ≤ 1000000 := by
  intro k
  induction k with
  | zero => intro _; exact hb
  | succ k ih =>
    intro h
    have h1 := ih (fun j hj => h j (by omega))
    by_cases hP : P k
    · rw [omFq_t hP]
      have := h k (by omega) hP
      omega
    · rw [omFq_f hP]
      exact h1
/-- the time that a job takes behind a family -/
def omTk (p f s : Nat → Int) (u : Int) (j : Nat) : Int := p j + omSu f s u j
def omUg (p d f s : Nat → Int) (U : Nat → Int) (S : Nat) (u : Int) (j : Nat) : Int := omTk p f s u j + max (-(d j)) (U (5 * (S ||| 2 ^ j) + (f j).toNat))
def omUb (n S : Nat) : Int := if S < 2 ^ n - 1 then 1000000 else -1000000
def omUe (v n : Nat) (p d f s : Nat → Int) (U : Nat → Int) (S u : Nat) : Prop := U (5 * S + u) = omFq (omUb n S) (omAw v n d f S) (omUg p d f s U S (u : Nat)) n
theorem omUb_rng {n S : Nat} : -1000000 ≤ omUb n S ∧ omUb n S ≤ 1000000 := by
  unfold omUb
  split <;> omega
theorem omTk_rng {n j : Nat} {p d w r f s : Nat → Int} (hok : omOk n p d w r f s) (hj : j < n) (u : Int) : 1 ≤ omTk p f s u j ∧ omTk p f s u j ≤ 50 := by
  have h1 := hok.2.1 j hj
  have h2 := omSu_rng hok hj u
  unfold omTk
  omega
theorem omUg_rng {n S j : Nat} {u : Int} {p d w r f s : Nat → Int} {U : Nat → Int} (hok : omOk n p d w r f s) (hj : j < n) (hU : -1000000 ≤ U (5 * (S ||| 2 ^ j) + (f j).toNat) ∧ U (5 * (S ||| 2 ^ j) + (f j).toNat) ≤ 1000000) : -300 ≤ omUg p d f s U S u j ∧ omUg p d f s U S u j ≤ 1000050 := by
  have h1 := hok.2.1 j hj
  have h2 := omTk_rng hok hj u
  unfold omUg
  omega
theorem omUe_of {v n S u : Nat} {p d f s : Nat → Int} {U U' : Nat → Int} (h : omUe v n p d f s U S u) (h0 : U' (5 * S + u) = U (5 * S + u)) (h1 : ∀ j, j < n → ¬ S.testBit j = true → U' (5 * (S ||| 2 ^ j) + (f j).toNat) = U (5 * (S ||| 2 ^ j) + (f j).toNat)) : omUe v n p d f s U' S u := by
  unfold omUe at h ⊢
  rw [h0, h]
  refine omFq_congr n (fun j hj => Iff.rfl) (fun j hj hP => ?_)
  unfold omUg
  rw [h1 j hj hP.1]
/-! .. the reference's -/
theorem omIf_bit {P : Prop} : omIf P = 0 ∨ omIf P = 1 := by
  by_cases h : P
  · exact Or.inr (omIf_t h)
  · exact Or.inl (omIf_f h)
def omAh (d f : Nat → Int) (S j k : Nat) : Prop := k ≠ j ∧ f k = f j ∧ ¬ S.testBit k = true ∧ omBk d k j
theorem omNx_succ {k S j : Nat} {d f : Nat → Int} : omNx (k + 1) d f S j ↔ omNx k d f S j ∧ ¬ omAh d f S j k := by
  unfold omNx omAh
  refine ⟨fun h => ⟨⟨h.1, fun i hi => h.2 i (by omega)⟩, fun h2 => h.2 k (by omega) h2.1 h2.2.1 h2.2.2.1 h2.2.2.2⟩, fun h => ⟨h.1.1, fun i hi h1 h2 h3 h4 => ?_⟩⟩
  by_cases hik : i = k
  · subst hik; exact h.2 ⟨h1, h2, h3, h4⟩
  · exact h.1.2 i (by omega) h1 h2 h3 h4
theorem l_X12_isNext_17_eq {n S j : Nat} {p d w r f s : Nat → Int} {σ : omH} (hok : omOk n p d w r f s) (hm : omMv n p d w r f s σ) (hS : S < 1024) (hj : j < n) : ∀ (m k fuel : Nat), k + m = n → m < fuel → l_X12_isNext_17 S j σ fuel (omIf (omNx k d f S j)) k = some (omIf (omNx n d f S j)) := by
  have hn := hok.1
  intro m
  induction m with
  | zero =>
    intro k fuel hk hf
    obtain ⟨fuel, rfl⟩ : ∃ z, fuel = z + 1 := ⟨fuel - 1, by omega⟩
    have : k = n := by omega
    subst this
    rw [l_X12_isNext_17.eq_2, hm.1, if_neg (by omega)]
  | succ m ih =>
    intro k fuel hk hf
    obtain ⟨fuel, rfl⟩ : ∃ z, fuel = z + 1 := ⟨fuel - 1, by omega⟩
    have hkn : k < n := by omega
    have hok1 := hok.2.1 k hkn
    have hok2 := hok.2.1 j hj
    rw [l_X12_isNext_17.eq_2, hm.1, om_bit (by omega) (by omega), om_wn (show k < 2147483648 by omega), om_wn (show n < 2147483648 by omega), om_wn (show j < 2147483648 by omega), if_pos (by omega), Int.toNat_natCast, Int.toNat_natCast, hm.2.2.2.2.2.1, omw_id (a := f k) (by omega) (by omega), omw_id (a := f j) (by omega) (by omega), s_X12_comesByDue_eq hok hm.2.2.1 hkn hj, show ((k : Int) + 1) = ((k + 1 : Nat) : Int) by omega]
    have e1 : (if (k : Int) = (j : Int) then some (0 : Int) else omg (0 ≤ (k : Int) ∧ (k : Int) < 10) (omg (0 ≤ (j : Int) ∧ (j : Int) < 10) (if f k = f j then (if omw (if S.testBit k = true then (1 : Int) else 0) = 0 then Option.bind (some (omIf (omBk d k j))) (fun r6 => (if omw r6 = 0 then some 0 else some 1)) else some 0) else some 0))) = some (omIf (omAh d f S j k)) := by
      by_cases h1 : k = j
      · rw [if_pos (by omega), omIf_f (fun h => h.1 h1)]
      · rw [if_neg (by omega), omg_t ⟨by omega, by omega⟩, omg_t ⟨by omega, by omega⟩]
        by_cases h2 : f k = f j
        · rw [if_pos h2]
          by_cases h3 : S.testBit k = true
          · rw [if_pos h3, if_neg (by decide), omIf_f (fun h => h.2.2.1 h3)]
          · rw [if_neg h3, if_pos (by decide), om_b0]
            by_cases h4 : omBk d k j
            · rw [om_if0 h4, omIf_t ⟨h1, h2, h3, h4⟩]
            · rw [om_if1 h4, omIf_f (fun h => h4 h.2.2.2)]
        · rw [if_neg h2, omIf_f (fun h => h2 h.2.1)]
    rw [e1, om_b0]
    have e2 : (if omw (omIf (omNx k d f S j)) = 0 then some (0 : Int) else (if omw (omIf (omAh d f S j k)) = 0 then some 1 else some 0)) = some (omIf (omNx (k + 1) d f S j)) := by
      by_cases h1 : omNx k d f S j
      · rw [om_if0 h1]
        by_cases h2 : omAh d f S j k
        · rw [om_if0 h2, omIf_f (fun h => (omNx_succ.mp h).2 h2)]
        · rw [om_if1 h2, omIf_t (omNx_succ.mpr ⟨h1, h2⟩)]
      · rw [om_if1 h1, omIf_f (fun h => h1 (omNx_succ.mp h).1)]
    rw [e2, om_b0]
    exact ih (k + 1) fuel (by omega) (by omega)
theorem s_X12_isNext_eq {n S j : Nat} {p d w r f s : Nat → Int} {σ : omH} (hok : omOk n p d w r f s) (hm : omMv n p d w r f s σ) (hS : S < 1024) (hj : j < n) : s_X12_isNext S j σ = some (omIf (omNx n d f S j)) := by
  have hn := hok.1
  unfold s_X12_isNext
  rw [om_bit (by omega) (by omega)]
  have e : (if omw (if S.testBit j = true then (1 : Int) else 0) = 0 then some (1 : Int) else some 0) = some (omIf (omNx 0 d f S j)) := by
    by_cases hb : S.testBit j = true
    · rw [if_pos hb, if_neg (by decide), omIf_f (fun h => h.1 hb)]
    · rw [if_neg hb, if_pos (by decide), omIf_t ⟨hb, fun i hi => by omega⟩]
  have h17 : l_X12_isNext_17 S j σ FU (omIf (omNx 0 d f S j)) 0 = _ := l_X12_isNext_17_eq hok hm hS hj n 0 FU (by omega) (by rw [FU_eq]; omega)
  rw [e, om_b0, h17, om_b0, omg_t omIf_bit]
theorem s_X12_taken_eq {n j : Nat} {u : Int} {p d w r f s : Nat → Int} {σ : omH} (hok : omOk n p d w r f s) (hm : omMv n p d w r f s σ) (hj : j < n) (hu : -1 ≤ u ∧ u ≤ 4) : s_X12_taken j u σ = some (omTk p f s u j) := by
  have hn := hok.1
  have ho := hok.2.1 j hj
  unfold s_X12_taken omTk omSu
  rw [hm.2.1, hm.2.2.2.2.2.1, hm.2.2.2.2.2.2, om_wn (show j < 2147483648 by omega), Int.toNat_natCast, omw_id (a := f j) (by omega) (by omega), omw_id (a := u) (by omega) (by omega), omg_t ⟨by omega, by omega⟩, omg_t ⟨by omega, by omega⟩]
  by_cases h : f j = u
  · rw [if_pos h, if_pos h, om_b0]
  · rw [if_neg h, if_neg h, omg_t ⟨by omega, by omega⟩, omg_t ⟨by omega, by omega⟩, om_b0]
theorem om_tmod5 {S u : Nat} (h : 5 * S + u < 2147483648) (hu : u < 5) : (omw ((5 * S + u : Nat) : Int)).tmod (omw 5) = (u : Int) := by
  rw [om_wn h, show omw 5 = ((5 : Nat) : Int) from rfl, om_tmod]
  congr 1
  omega
theorem om_tdiv5 {S u : Nat} (h : 5 * S + u < 2147483648) (hu : u < 5) : (omw ((5 * S + u : Nat) : Int)).tdiv (omw 5) = (S : Int) := by
  rw [om_wn h, show omw 5 = ((5 : Nat) : Int) from rfl, om_tdiv]
  congr 1
  omega
theorem om_idx {X : Nat} {v : Int} (h : 0 ≤ v) : 5 * (X : Int) + v = ((5 * X + v.toNat : Nat) : Int) := by
  rw [Int.natCast_add, Int.natCast_mul]
  omega
theorem om_idx_lt {X : Nat} {v : Int} (hX : X < 1024) (h : v ≤ 3) : 5 * X + v.toNat < 5120 := by omega
theorem om_behindA {n k x I : Nat} {V u : Int} {p d w r f s : Nat → Int} {σ : omH} {rec : omH → Option omH} (hok : omOk n p d w r f s) (hm : omMv n p d w r f s σ) (hx : x < 5120) (hI : I < 5120) (hu : -1 ≤ u ∧ u ≤ 4) (hk : k < n) (h1 : -1000000 ≤ σ 57 I ∧ σ 57 I ≤ 1000000) (h2 : -1000000 ≤ σ 57 x ∧ σ 57 x ≤ 1000000) (hV : V = (I : Int)) :
    Option.bind (s_X12_taken k u σ) (fun r5 => omg (0 ≤ omw (k : Int) ∧ omw (k : Int) < 10) (omg (0 ≤ omw V ∧ omw V < 5120) (omg (0 ≤ omw (k : Int) ∧ omw (k : Int) < 10) (Option.bind ((if omw (r5 - (σ 45 (omw (k : Int)).toNat)) < omw (r5 + (σ 57 (omw V).toNat)) then some (r5 + (σ 57 (omw V).toNat)) else omg (0 ≤ omw (k : Int) ∧ omw (k : Int) < 10) (some (r5 - (σ 45 (omw (k : Int)).toNat))))) (fun t9 => omg (0 ≤ omw (x : Int) ∧ omw (x : Int) < 5120) (Option.bind ((if omw t9 < omw (σ 57 (omw (x : Int)).toNat) then some (t9) else omg (0 ≤ omw (x : Int) ∧ omw (x : Int) < 5120) (some (σ 57 (omw (x : Int)).toNat)))) (fun t11 => omg (0 ≤ omw (x : Int) ∧ omw (x : Int) < 5120) (rec (omsu σ 57 (omw (x : Int)).toNat t11))))))))) = rec (omsu σ 57 x (min (σ 57 x) (omTk p f s u k + max (-(d k)) (σ 57 I)))) := by
  have hn := hok.1
  have ho := hok.2.1 k hk
  have htk := omTk_rng hok hk u
  subst hV
  rw [s_X12_taken_eq hok hm hk hu, om_b0, om_wn (show k < 2147483648 by omega), om_wn (show I < 2147483648 by omega), om_wn (show x < 2147483648 by omega), Int.toNat_natCast, Int.toNat_natCast, Int.toNat_natCast, hm.2.2.1, omg_t ⟨by omega, by omega⟩, omg_t ⟨by omega, by omega⟩, omg_t ⟨by omega, by omega⟩]
  have e1 : (if omw (omTk p f s u k - d k) < omw (omTk p f s u k + σ 57 I) then some (omTk p f s u k + σ 57 I) else omg (0 ≤ (k : Int) ∧ (k : Int) < 10) (some (omTk p f s u k - d k))) = some (omTk p f s u k + max (-(d k)) (σ 57 I)) := by
    rw [omw_id (a := omTk p f s u k - d k) (by omega) (by omega), omw_id (a := omTk p f s u k + σ 57 I) (by omega) (by omega), omg_t ⟨by omega, by omega⟩]
    split
    · congr 1; omega
    · congr 1; omega
  rw [e1, om_b0, omg_t ⟨by omega, by omega⟩]
  have e2 : (if omw (omTk p f s u k + max (-(d k)) (σ 57 I)) < omw (σ 57 x) then some (omTk p f s u k + max (-(d k)) (σ 57 I)) else omg (0 ≤ (x : Int) ∧ (x : Int) < 5120) (some (σ 57 x))) = some (min (σ 57 x) (omTk p f s u k + max (-(d k)) (σ 57 I))) := by
    rw [omw_id (a := omTk p f s u k + max (-(d k)) (σ 57 I)) (by omega) (by omega), omw_id (a := σ 57 x) (by omega) (by omega), omg_t ⟨by omega, by omega⟩]
    split
    · congr 1; omega
    · congr 1; omega
  rw [e2, om_b0, omg_t ⟨by omega, by omega⟩]
