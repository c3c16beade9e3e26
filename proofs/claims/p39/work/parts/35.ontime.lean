/-! ===== sums, in another order ===== -/
theorem omSum_add {n : Nat} {g h : Nat → Int} : omSum n (fun i => g i + h i) = omSum n g + omSum n h := by
  induction n with
  | zero => rfl
  | succ n ih =>
    show omSum n (fun i => g i + h i) + (g n + h n) = (omSum n g + g n) + (omSum n h + h n)
    rw [ih]; omega
theorem omSum_zero {n : Nat} {g : Nat → Int} (h : ∀ i, i < n → g i = 0) : omSum n g = 0 := by
  induction n with
  | zero => rfl
  | succ n ih =>
    show omSum n g + g n = 0
    rw [ih (fun i hi => h i (by omega)), h n (by omega)]; rfl
theorem omSum_swap {n m : Nat} {F : Nat → Nat → Int} : omSum n (fun i => omSum m (fun j => F i j)) = omSum m (fun j => omSum n (fun i => F i j)) := by
  induction n with
  | zero => exact (omSum_zero (fun _ _ => rfl)).symm
  | succ n ih =>
    show omSum n (fun i => omSum m (fun j => F i j)) + omSum m (fun j => F n j) = omSum m (fun j => omSum n (fun i => F i j) + F n j)
    rw [ih, omSum_add]
theorem omSum_single {n j : Nat} {g : Nat → Int} (hj : j < n) (h : ∀ i, i < n → i ≠ j → g i = 0) : omSum n g = g j := by
  induction n with
  | zero => omega
  | succ n ih =>
    show omSum n g + g n = g j
    by_cases hjn : j = n
    · subst hjn
      rw [omSum_zero (fun i hi => h i (by omega) (by omega))]; omega
    · rw [ih (by omega) (fun i hi => h i (by omega)), h n (by omega) (by omega)]; omega
/-- a sum over the places is the sum over the jobs -/
theorem omSum_perm {n : Nat} {q : Nat → Nat} {g : Nat → Int} (hq : ∀ i, i < n → q i < n) (hinj : ∀ i k, i < n → k < n → q i = q k → i = k) (hs : ∀ j, j < n → ∃ i, i < n ∧ q i = j) : omSum n (fun i => g (q i)) = omSum n g := by
  have h1 : omSum n (fun i => g (q i)) = omSum n (fun i => omSum n (fun j => if q i = j then g j else 0)) := by
    refine omSum_congr (fun i hi => ?_)
    rw [omSum_single (j := q i) (hq i hi) (fun j _ hji => if_neg (fun h => hji h.symm)), if_pos rfl]
  rw [h1, omSum_swap]
  refine omSum_congr (fun j hj => ?_)
  obtain ⟨i, hi, hij⟩ := hs j hj
  show omSum n (fun i => if q i = j then g j else 0) = g j
  rw [omSum_single (j := i) hi (fun k hk hki => if_neg (fun h => hki (hinj k i hk hi (h.trans hij.symm)))), if_pos hij]
theorem omSum_tail {n k : Nat} {g : Nat → Int} (hk : k ≤ n) (h : ∀ i, k ≤ i → i < n → g i = 0) : omSum n g = omSum k g := by
  induction n with
  | zero => have : k = 0 := by omega
            subst this; rfl
  | succ n ih =>
    by_cases hkn : k = n + 1
    · subst hkn; rfl
    · show omSum n g + g n = omSum k g
      rw [ih (by omega) (fun i h1 h2 => h i h1 (by omega)), h n (by omega) (by omega)]; omega
/-! ===== a set of jobs on time ===== -/
def omTq (p : Nat → Int) (q : Nat → Nat) (S k : Nat) : Int := omSum k (fun i => if S.testBit (q i) then p (q i) else 0)
def omOq (n : Nat) (p d : Nat → Int) (q : Nat → Nat) (S : Nat) : Prop := ∀ k, k < n → S.testBit (q k) = true → omTq p q S (k + 1) ≤ d (q k)
theorem omTq_rng {n k S : Nat} {p d w r f s : Nat → Int} {q : Nat → Nat} (hok : omOk n p d w r f s) (hq : ∀ i, i < n → q i < n) (hk : k ≤ n) : 0 ≤ omTq p q S k ∧ omTq p q S k ≤ k * 30 :=
  omSum_rng (fun i hi => by
    have := hok.2.1 (q i) (hq i (by omega))
    split <;> omega)
theorem l_X8_isOnTimeByDue_5_eq {n S : Nat} {p d w r f s : Nat → Int} {q : Nat → Nat} {σ : omH} (hok : omOk n p d w r f s) (hc : omCv n p d w r f s σ) (hS : S < 1024) (hq : ∀ i, i < n → q i < n) (hr : ∀ i, i < n → σ 41 i = q i) : ∀ (m k fuel : Nat), k + m = n → m < fuel → l_X8_isOnTimeByDue_5 S σ fuel (omTq p q S k) k = some (Sum.inl (omIf (∀ i, k ≤ i → i < n → S.testBit (q i) = true → omTq p q S (i + 1) ≤ d (q i)))) := by
  have hn := hok.1
  obtain ⟨c1, c2, c3, c4, c5, c6, c7⟩ := id hc
  intro m
  induction m with
  | zero =>
    intro k fuel hk hf
    obtain ⟨fuel, rfl⟩ : ∃ z, fuel = z + 1 := ⟨fuel - 1, by omega⟩
    rw [l_X8_isOnTimeByDue_5.eq_2, c1, om_wn (show k < 2147483648 by omega), om_wn (show n < 2147483648 by omega), if_neg (by omega), omIf_t (fun i h1 h2 => by omega)]
  | succ m ih =>
    intro k fuel hk hf
    obtain ⟨fuel, rfl⟩ : ∃ z, fuel = z + 1 := ⟨fuel - 1, by omega⟩
    have hqk := hq k (by omega)
    have hkk := hok.2.1 (q k) hqk
    have hT := omTq_rng (S := S) hok hq (show k ≤ n by omega)
    have e0 : omTq p q S (k + 1) = omTq p q S k + (if S.testBit (q k) then p (q k) else 0) := rfl
    rw [l_X8_isOnTimeByDue_5.eq_2, c1, om_wn (show k < 2147483648 by omega), om_wn (show n < 2147483648 by omega), if_pos (by omega), omg_t ⟨by omega, by omega⟩, Int.toNat_natCast, hr k (by omega), s_X2_isIn_eq (by omega) (by omega), om_b0, om_wn (show q k < 2147483648 by omega), Int.toNat_natCast, c2, c3, show ((k : Int) + 1) = ((k + 1 : Nat) : Int) by omega]
    by_cases hb : S.testBit (q k) = true
    · rw [hb] at e0
      simp only [if_true] at e0
      rw [hb, if_neg (by show ¬ omw 1 = 0; decide), omg_t ⟨by omega, by omega⟩, omg_t ⟨by omega, by omega⟩, omw_id (a := d (q k)) (by omega) (by omega), omw_id (a := omTq p q S k + p (q k)) (by omega) (by omega), ← e0]
      by_cases h : d (q k) < omTq p q S (k + 1)
      · rw [if_pos h, omIf_f (fun hh => by have := hh k (by omega) (by omega) hb; omega)]
      · rw [if_neg h, ih (k + 1) fuel (by omega) (by omega)]
        have hiff : (∀ i, k + 1 ≤ i → i < n → S.testBit (q i) = true → omTq p q S (i + 1) ≤ d (q i)) ↔ (∀ i, k ≤ i → i < n → S.testBit (q i) = true → omTq p q S (i + 1) ≤ d (q i)) := by
          refine ⟨fun hh i h1 h2 h3 => ?_, fun hh i h1 h2 h3 => hh i (by omega) h2 h3⟩
          by_cases hik : i = k
          · subst hik; omega
          · exact hh i (by omega) h2 h3
        rw [propext hiff]
    · have hb' : S.testBit (q k) = false := by simpa using hb
      rw [hb'] at e0
      simp only [Bool.false_eq_true, if_false, Int.add_zero] at e0
      rw [hb', if_pos (by show omw 0 = 0; decide), ← e0, ih (k + 1) fuel (by omega) (by omega)]
      have hiff : (∀ i, k + 1 ≤ i → i < n → S.testBit (q i) = true → omTq p q S (i + 1) ≤ d (q i)) ↔ (∀ i, k ≤ i → i < n → S.testBit (q i) = true → omTq p q S (i + 1) ≤ d (q i)) := by
        refine ⟨fun hh i h1 h2 h3 => ?_, fun hh i h1 h2 h3 => hh i (by omega) h2 h3⟩
        by_cases hik : i = k
        · subst hik; exact absurd h3 hb
        · exact hh i (by omega) h2 h3
      rw [propext hiff]
theorem s_X8_isOnTimeByDue_eq {n S : Nat} {p d w r f s : Nat → Int} {q : Nat → Nat} {σ : omH} (hok : omOk n p d w r f s) (hc : omCv n p d w r f s σ) (hS : S < 1024) (hq : ∀ i, i < n → q i < n) (hr : ∀ i, i < n → σ 41 i = q i) : s_X8_isOnTimeByDue S σ = some (omIf (omOq n p d q S)) := by
  have hn := hok.1
  have h1 := l_X8_isOnTimeByDue_5_eq hok hc hS hq hr n 0 FU (by omega) (by rw [FU_eq]; omega)
  have h1' : l_X8_isOnTimeByDue_5 S σ FU 0 0 = _ := h1
  unfold s_X8_isOnTimeByDue
  rw [h1', om_b0]
  have hiff : (∀ i, 0 ≤ i → i < n → S.testBit (q i) = true → omTq p q S (i + 1) ≤ d (q i)) ↔ omOq n p d q S := ⟨fun h i hi => h i (by omega) hi, fun h i _ hi => h i hi⟩
  rw [propext hiff]
  rfl
/-! .. the reference's -/
def omEsT (p d : Nat → Int) (S j i : Nat) : Prop := S.testBit i = true ∧ omBk d i j
noncomputable def omEsV (p d : Nat → Int) (S j i : Nat) : Int := @ite Int (omEsT p d S j i) (Classical.propDecidable _) (p i) 0
theorem omEsV_t {p d : Nat → Int} {S j i : Nat} (h : omEsT p d S j i) : omEsV p d S j i = p i := if_pos h
theorem omEsV_f {p d : Nat → Int} {S j i : Nat} (h : ¬ omEsT p d S j i) : omEsV p d S j i = 0 := if_neg h
theorem omEsV_rng {n S j i : Nat} {p d w r f s : Nat → Int} (hok : omOk n p d w r f s) (hi : i < n) : 0 ≤ omEsV p d S j i ∧ omEsV p d S j i ≤ 30 := by
  have := hok.2.1 i hi
  by_cases h : omEsT p d S j i
  · rw [omEsV_t h]; omega
  · rw [omEsV_f h]; omega
def omOj (n : Nat) (p d : Nat → Int) (S j : Nat) : Prop := S.testBit j = true → p j + omSum n (omEsV p d S j) ≤ d j
/-- the sum up to a place is the sum of what comes before -/
theorem omTq_es {n S k : Nat} {p d w r f s : Nat → Int} {q : Nat → Nat} (hok : omOk n p d w r f s) (hq : omSt (omBk d) n q) (hk : k < n) (hb : S.testBit (q k) = true) : omTq p q S (k + 1) = p (q k) + omSum n (omEsV p d S (q k)) := by
  have hso := omBk_so n d
  have hinj : ∀ i k, i < n → k < n → q i = q k → i = k := fun i k hi hk he => hq.inj hso hi hk he
  have h1 : omSum n (fun i => omEsV p d S (q k) (q i)) = omSum n (omEsV p d S (q k)) := omSum_perm hq.1 hinj hq.2.1
  have h2 : omSum n (fun i => omEsV p d S (q k) (q i)) = omSum k (fun i => omEsV p d S (q k) (q i)) := omSum_tail (by omega) (fun i h1 h2 => omEsV_f (fun h => by
    by_cases hik : i = k
    · subst hik; exact hso.1 (q i) (hq.1 i h2) h.2
    · exact hso.asym (hq.1 k hk) (hq.1 i h2) (hq.2.2 k i (by omega) h2) h.2))
  have h3 : omSum k (fun i => omEsV p d S (q k) (q i)) = omTq p q S k := by
    refine omSum_congr (fun i hi => ?_)
    by_cases hbi : S.testBit (q i) = true
    · rw [omEsV_t ⟨hbi, hq.2.2 i k hi hk⟩, if_pos hbi]
    · rw [omEsV_f (fun h => hbi h.1), if_neg hbi]
  have h4 : omTq p q S (k + 1) = omTq p q S k + (if S.testBit (q k) = true then p (q k) else 0) := rfl
  rw [h4, if_pos hb, ← h3, ← h2, h1]
  omega
theorem omOq_iff {n S : Nat} {p d w r f s : Nat → Int} {q : Nat → Nat} (hok : omOk n p d w r f s) (hq : omSt (omBk d) n q) : omOq n p d q S ↔ ∀ j, j < n → omOj n p d S j := by
  refine ⟨fun h j hj hb => ?_, fun h k hk hb => ?_⟩
  · obtain ⟨k, hk, rfl⟩ := hq.2.1 j hj
    rw [← omTq_es hok hq hk hb]
    exact h k hk hb
  · rw [omTq_es hok hq hk hb]
    exact h (q k) (hq.1 k hk) hb
theorem om_pow_le {n : Nat} (hn : n ≤ 10) : 2 ^ n ≤ 1024 := Nat.pow_le_pow_right (by decide) hn
theorem s_X2_all_eq {n : Nat} {p d w r f s : Nat → Int} {σ : omH} (hok : omOk n p d w r f s) (hc : omCv n p d w r f s σ) : s_X2_all σ = some (((2 ^ n : Nat) : Int) - 1) := by
  have hn := hok.1
  unfold s_X2_all
  rw [hc.1, omshl_one (by omega)]
