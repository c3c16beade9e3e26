/-! .. the class's gaps -/
/-- busy until, after the first places of a sequence by release dates -/
def omBu (p r : Nat → Int) (q : Nat → Nat) (S : Nat) : Nat → Int
  | 0 => 0
  | k + 1 => if S.testBit (q k) = true then max (omBu p r q S k) (r (q k)) + p (q k) else omBu p r q S k
/-- the load of the first places -/
def omVk (p r : Nat → Int) (q : Nat → Nat) (S : Nat) : Nat → Nat → Int
  | 0, _ => 0
  | k + 1, t => if S.testBit (q k) = true then (if (t : Int) < r (q k) then omVk p r q S k t else max 0 (omBu p r q S (k + 1) - t)) else omVk p r q S k t
/-- what the first places release at a time -/
def omAk (p r : Nat → Int) (q : Nat → Nat) (S k t : Nat) : Int := omSum k (fun i => if S.testBit (q i) = true then (if r (q i) = (t : Int) then p (q i) else 0) else 0)
theorem omBu_mono {n k S : Nat} {p d w r f s : Nat → Int} {q : Nat → Nat} (hok : omOk n p d w r f s) (hq : ∀ i, i < n → q i < n) (hk : k < n) : omBu p r q S k ≤ omBu p r q S (k + 1) := by
  have ho := hok.2.1 (q k) (hq k hk)
  show _ ≤ if S.testBit (q k) = true then max (omBu p r q S k) (r (q k)) + p (q k) else omBu p r q S k
  split <;> omega
theorem omBu_rng {n S : Nat} {p d w r f s : Nat → Int} {q : Nat → Nat} (hok : omOk n p d w r f s) (hq : ∀ i, i < n → q i < n) : ∀ k, k ≤ n → 0 ≤ omBu p r q S k ∧ omBu p r q S k ≤ 100 + 30 * (k : Nat) := by
  intro k
  induction k with
  | zero => intro _; show (0 : Int) ≤ 0 ∧ (0 : Int) ≤ _; omega
  | succ k ih =>
    intro hk
    have h1 := ih (by omega)
    have ho := hok.2.1 (q k) (hq k (by omega))
    show 0 ≤ (if S.testBit (q k) = true then max (omBu p r q S k) (r (q k)) + p (q k) else omBu p r q S k) ∧ (if S.testBit (q k) = true then max (omBu p r q S k) (r (q k)) + p (q k) else omBu p r q S k) ≤ _
    split <;> omega
theorem omVk_top {n S : Nat} {p d w r f s : Nat → Int} {q : Nat → Nat} (hok : omOk n p d w r f s) (hq : ∀ i, i < n → q i < n) : ∀ k, k ≤ n → ∀ t : Nat, 0 ≤ omVk p r q S k t ∧ omVk p r q S k t ≤ max 0 (omBu p r q S k - t) := by
  intro k
  induction k with
  | zero => intro _ t; show (0 : Int) ≤ 0 ∧ (0 : Int) ≤ _; omega
  | succ k ih =>
    intro hk t
    have h1 := ih (by omega) t
    have h2 := omBu_mono (S := S) hok hq (show k < n by omega)
    have e : omVk p r q S (k + 1) t = if S.testBit (q k) = true then (if (t : Int) < r (q k) then omVk p r q S k t else max 0 (omBu p r q S (k + 1) - t)) else omVk p r q S k t := rfl
    rw [e]
    split
    · split <;> omega
    · omega
theorem omVk_late {n S : Nat} {p d w r f s : Nat → Int} {q : Nat → Nat} : ∀ k, k ≤ n → ∀ t : Nat, (∀ i, i < k → S.testBit (q i) = true → r (q i) ≤ (t : Int)) → omVk p r q S k t = max 0 (omBu p r q S k - t) := by
  intro k
  induction k with
  | zero => intro _ t _; show (0 : Int) = max 0 (0 - (t : Int)); omega
  | succ k ih =>
    intro hk t h
    have h1 := ih (by omega) t (fun i hi => h i (by omega))
    have e : omVk p r q S (k + 1) t = if S.testBit (q k) = true then (if (t : Int) < r (q k) then omVk p r q S k t else max 0 (omBu p r q S (k + 1) - t)) else omVk p r q S k t := rfl
    have e2 : omBu p r q S (k + 1) = if S.testBit (q k) = true then max (omBu p r q S k) (r (q k)) + p (q k) else omBu p r q S k := rfl
    rw [e]
    by_cases hb : S.testBit (q k) = true
    · have := h k (by omega) hb
      rw [if_pos hb, if_neg (by omega)]
    · rw [if_neg hb, h1, e2, if_neg hb]
theorem omVk_up {n S k : Nat} {p d w r f s : Nat → Int} {q : Nat → Nat} (hok : omOk n p d w r f s) (hq : ∀ i, i < n → q i < n) (hk : k < n) (t : Nat) : omVk p r q S k t ≤ omVk p r q S (k + 1) t := by
  have h1 := omVk_top (S := S) hok hq k (by omega) t
  have h2 := omBu_mono (S := S) hok hq hk
  have e : omVk p r q S (k + 1) t = if S.testBit (q k) = true then (if (t : Int) < r (q k) then omVk p r q S k t else max 0 (omBu p r q S (k + 1) - t)) else omVk p r q S k t := rfl
  rw [e]
  split
  · split <;> omega
  · omega
theorem omVk_up2 {n S : Nat} {p d w r f s : Nat → Int} {q : Nat → Nat} (hok : omOk n p d w r f s) (hq : ∀ i, i < n → q i < n) (t : Nat) : ∀ m k, k + m ≤ n → omVk p r q S k t ≤ omVk p r q S (k + m) t := by
  intro m
  induction m with
  | zero => intro k _; exact Int.le_refl _
  | succ m ih =>
    intro k hk
    have h1 := ih k (by omega)
    have h2 := omVk_up (S := S) hok hq (show k + m < n by omega) t
    show _ ≤ omVk p r q S (k + m + 1) t
    omega
/-- ahead of the next release nothing changes -/
theorem omVk_same {n S : Nat} {p r : Nat → Int} {q : Nat → Nat} (t : Nat) : ∀ m k, k + m ≤ n → (∀ i, k ≤ i → i < n → (t : Int) < r (q i)) → omVk p r q S (k + m) t = omVk p r q S k t := by
  intro m
  induction m with
  | zero => intro k _ _; rfl
  | succ m ih =>
    intro k hk h
    have h1 := ih k (by omega) h
    have e : omVk p r q S (k + m + 1) t = if S.testBit (q (k + m)) = true then (if (t : Int) < r (q (k + m)) then omVk p r q S (k + m) t else max 0 (omBu p r q S (k + m + 1) - t)) else omVk p r q S (k + m) t := rfl
    show omVk p r q S (k + m + 1) t = _
    rw [e, if_pos (h (k + m) (by omega) (by omega)), h1]
    split <;> rfl
theorem omAk_late {n S k : Nat} {p r : Nat → Int} {q : Nat → Nat} {t : Nat} (h : ∀ i, i < k → r (q i) < (t : Int)) : omAk p r q S k t = 0 := omSum_zero (fun i hi => by
  have := h i hi
  split
  · rw [if_neg (by omega)]
  · rfl)
/-- a sequence by release dates -/
def omBr2 (n : Nat) (r : Nat → Int) (q : Nat → Nat) : Prop := ∀ i k, i < k → k < n → r (q i) ≤ r (q k)
theorem omVk_rec {n S : Nat} {p d w r f s : Nat → Int} {q : Nat → Nat} (hok : omOk n p d w r f s) (hq : ∀ i, i < n → q i < n) (hs : omBr2 n r q) : ∀ k, k ≤ n → omVk p r q S k 0 = omAk p r q S k 0 ∧ ∀ t : Nat, omVk p r q S k (t + 1) = max 0 (omVk p r q S k t - 1) + omAk p r q S k (t + 1) := by
  intro k
  induction k with
  | zero =>
    intro _
    refine ⟨rfl, fun t => ?_⟩
    show (0 : Int) = max 0 (0 - 1) + 0
    decide
  | succ k ih =>
    intro hk
    obtain ⟨i1, i2⟩ := ih (by omega)
    have ho := hok.2.1 (q k) (hq k (by omega))
    have eV : ∀ t : Nat, omVk p r q S (k + 1) t = if S.testBit (q k) = true then (if (t : Int) < r (q k) then omVk p r q S k t else max 0 (omBu p r q S (k + 1) - t)) else omVk p r q S k t := fun _ => rfl
    have eA : ∀ t : Nat, omAk p r q S (k + 1) t = omAk p r q S k t + (if S.testBit (q k) = true then (if r (q k) = (t : Int) then p (q k) else 0) else 0) := fun _ => rfl
    have eB : omBu p r q S (k + 1) = if S.testBit (q k) = true then max (omBu p r q S k) (r (q k)) + p (q k) else omBu p r q S k := rfl
    have hB := omBu_rng (S := S) hok hq k (by omega)
    by_cases hb : S.testBit (q k) = true
    · rw [if_pos hb] at eB
      have hlate : ∀ t : Nat, r (q k) ≤ (t : Int) → omVk p r q S k t = max 0 (omBu p r q S k - t) := fun t ht => omVk_late (n := n) (d := d) (w := w) (f := f) (s := s) k (by omega) t (fun i hi _ => by have := hs i k hi (by omega); omega)
      refine ⟨?_, fun t => ?_⟩
      · rw [eV, eA, if_pos hb, if_pos hb]
        by_cases h : ((0 : Nat) : Int) < r (q k)
        · rw [if_pos h, if_neg (by omega), i1]; omega
        · have h3 := hlate 0 (by omega)
          rw [if_neg h, if_pos (by omega), eB, ← i1, h3]
          omega
      · rw [eV, eV, eA, if_pos hb, if_pos hb, if_pos hb]
        by_cases h : ((t + 1 : Nat) : Int) < r (q k)
        · rw [if_pos h, if_pos (by omega), if_neg (by omega), i2]; omega
        · by_cases h2 : r (q k) = ((t + 1 : Nat) : Int)
          · have h3 := hlate (t + 1) (by omega)
            have h4 := i2 t
            rw [if_neg h, if_pos (by omega), if_pos h2, eB]
            omega
          · have h3 : omAk p r q S k (t + 1) = 0 := omAk_late (n := n) (fun i hi => by have := hs i k hi (by omega); omega)
            rw [if_neg h, if_neg (by omega), if_neg h2, h3]
            omega
    · refine ⟨?_, fun t => ?_⟩
      · rw [eV, eA, if_neg hb, if_neg hb, i1]; omega
      · rw [eV, eV, eA, if_neg hb, if_neg hb, if_neg hb, i2]; omega
theorem omVk_eq {n S : Nat} {p d w r f s : Nat → Int} {q : Nat → Nat} (hok : omOk n p d w r f s) (hq : omSt (omBk r) n q) : ∀ t : Nat, omVk p r q S n t = omWb n p r S t := by
  have hso := omBk_so n r
  have hinj : ∀ i k, i < n → k < n → q i = q k → i = k := fun i k hi hk he => hq.inj hso hi hk he
  have hs : omBr2 n r q := fun i k hik hk => by
    have := hq.2.2 i k hik hk
    unfold omBk at this
    omega
  have hA : ∀ t, omAk p r q S n t = omAr n p r S t := fun t => omSum_perm (g := fun i => if S.testBit i = true then (if r i = (t : Int) then p i else 0) else 0) hq.1 hinj hq.2.1
  obtain ⟨h1, h2⟩ := omVk_rec (S := S) hok hq.1 hs n (Nat.le_refl n)
  intro t
  induction t with
  | zero => rw [h1, hA]; rfl
  | succ t ih => rw [h2, ih, hA]; rfl
theorem l_X4_endInGaps_14_eq {n S j : Nat} {p d w r f s : Nat → Int} {q : Nat → Nat} {σ : omH} (hok : omOk n p d w r f s) (hc : omCv n p d w r f s σ) (hq : omSt (omBk r) n q) (hr : ∀ i, i < n → σ 39 i = q i) (hS : S < 1024) (hj : j < n) : ∀ (m k fuel : Nat) (l : Int), k + m = n → m < fuel → 1 ≤ l → l = p j - omFi n p r S (r j) (max (omBu p r q S k) (r j)).toNat →
    l_X4_endInGaps_14 S j σ fuel l (omBu p r q S k) k = some (Sum.inl ((omTe n p r S j : Nat) : Int)) ∨ ∃ l' : Int, l_X4_endInGaps_14 S j σ fuel l (omBu p r q S k) k = some (Sum.inr (l', omBu p r q S n)) ∧ 1 ≤ l' ∧ l' = p j - omFi n p r S (r j) (max (omBu p r q S n) (r j)).toNat := by
  have hn := hok.1
  have hso := omBk_so n r
  have hoj := hok.2.1 j hj
  have hs : omBr2 n r q := fun i k hik hk => by
    have := hq.2.2 i k hik hk
    unfold omBk at this
    omega
  intro m
  induction m with
  | zero =>
    intro k fuel l hk hf hl hle
    obtain ⟨fuel, rfl⟩ : ∃ z, fuel = z + 1 := ⟨fuel - 1, by omega⟩
    have : k = n := by omega
    subst this
    rw [l_X4_endInGaps_14.eq_2, hc.1, if_neg (Int.lt_irrefl _)]
    exact Or.inr ⟨l, rfl, hl, hle⟩
  | succ m ih =>
    intro k fuel l hk hf hl hle
    obtain ⟨fuel, rfl⟩ : ∃ z, fuel = z + 1 := ⟨fuel - 1, by omega⟩
    have hkn : k < n := by omega
    have hqk := hq.1 k hkn
    have ho := hok.2.1 (q k) hqk
    have hB := omBu_rng (p := p) (r := r) (S := S) hok hq.1 k (by omega)
    have hF0 := omFi_le (n := n) (p := p) (r := r) (S := S) (a := r j) (show 0 ≤ (max (omBu p r q S k) (r j)).toNat by omega)
    have hF00 : omFi n p r S (r j) 0 = 0 := rfl
    have eB : omBu p r q S (k + 1) = if S.testBit (q k) = true then max (omBu p r q S k) (r (q k)) + p (q k) else omBu p r q S k := rfl
    rw [l_X4_endInGaps_14.eq_2, hc.1, om_wn (show k < 2147483648 by omega), om_wn (show n < 2147483648 by omega), if_pos (by omega), omg_t ⟨by omega, by omega⟩, Int.toNat_natCast, hr k hkn, s_X2_isIn_eq (by omega) (by omega), om_b0, om_wn (show q k < 2147483648 by omega), om_wn (show j < 2147483648 by omega), Int.toNat_natCast, Int.toNat_natCast, hc.2.1, hc.2.2.2.2.1, show ((k : Int) + 1) = ((k + 1 : Nat) : Int) by omega]
    by_cases hb : S.testBit (q k) = true
    · rw [if_pos hb] at eB
      rw [if_pos hb, if_neg (by decide), omg_t ⟨by omega, by omega⟩, omg_t ⟨by omega, by omega⟩, om_w0, omw_id (a := omBu p r q S k) (by omega) (by omega), omw_id (a := r j) (by omega) (by omega), omw_id (a := r (q k)) (by omega) (by omega), omw_id (a := r (q k) - max (omBu p r q S k) (r j)) (by omega) (by omega), omw_id (a := max 0 (r (q k) - max (omBu p r q S k) (r j))) (by omega) (by omega), omw_id (a := l) (by omega) (by omega), omg_t ⟨by omega, by omega⟩, omg_t ⟨by omega, by omega⟩]
      -- what is free ahead of the next release
      have hfree : ∀ y : Nat, (max (omBu p r q S k) (r j)).toNat ≤ y → (y : Int) < r (q k) → omWb n p r S y = 0 := fun y h1 h2 => by
        have h3 := omVk_same (S := S) (p := p) (n := n) (r := r) (q := q) y m (k + 1) (by omega) (fun i h4 h5 => by
          have := hs k i (by omega) h5
          omega)
        have h4 : omVk p r q S (k + 1) y = omVk p r q S k y := by
          show (if S.testBit (q k) = true then (if (y : Int) < r (q k) then omVk p r q S k y else _) else _) = _
          rw [if_pos hb, if_pos h2]
        have h5 := omVk_top (S := S) hok hq.1 k (by omega) y
        rw [← omVk_eq hok hq, show n = k + 1 + m by omega, h3, h4]
        omega
      by_cases hg : max 0 (r (q k) - max (omBu p r q S k) (r j)) < l
      · rw [if_pos hg, ← eB]
        have hB2 := omBu_rng (p := p) (r := r) (S := S) hok hq.1 (k + 1) (by omega)
        -- free up to the release, busy behind it
        have hx1 : ∃ x : Nat, (x : Int) = max 0 (r (q k) - max (omBu p r q S k) (r j)) := ⟨(max 0 (r (q k) - max (omBu p r q S k) (r j))).toNat, by omega⟩
        obtain ⟨x, hx⟩ := hx1
        have hf1 := omFi_free (n := n) (p := p) (r := r) (S := S) (a := r j) x (max (omBu p r q S k) (r j)).toNat (by omega) (fun y h1 h2 => hfree y h1 (by omega))
        have hy1 : ∃ y : Nat, (max (omBu p r q S (k + 1)) (r j)).toNat = (max (omBu p r q S k) (r j)).toNat + x + y := ⟨(max (omBu p r q S (k + 1)) (r j)).toNat - ((max (omBu p r q S k) (r j)).toNat + x), by omega⟩
        obtain ⟨y, hy⟩ := hy1
        have hf2 := omFi_busy (n := n) (p := p) (r := r) (S := S) (a := r j) y ((max (omBu p r q S k) (r j)).toNat + x) (fun z h1 h2 => by
          have h3 : (z : Int) < omBu p r q S (k + 1) := by omega
          have h4 : r (q k) ≤ (z : Int) := by omega
          have h5 : omVk p r q S (k + 1) z = max 0 (omBu p r q S (k + 1) - z) := by
            show (if S.testBit (q k) = true then (if (z : Int) < r (q k) then omVk p r q S k z else max 0 (omBu p r q S (k + 1) - z)) else _) = _
            rw [if_pos hb, if_neg (by omega)]
          have h6 := omVk_up2 (S := S) hok hq.1 z m (k + 1) (by omega)
          rw [← omVk_eq hok hq]
          rw [show k + 1 + m = n by omega] at h6
          omega)
        exact ih (k + 1) fuel (l - max 0 (r (q k) - max (omBu p r q S k) (r j))) (by omega) (by omega) (by omega) (by rw [hy, hf2, hf1, hle, hx]; omega)
      · rw [if_neg hg]
        refine Or.inl ?_
        obtain ⟨x, hx⟩ : ∃ x : Nat, ((x + 1 : Nat) : Int) = l := ⟨(l - 1).toNat, by omega⟩
        have hf1 := omFi_free (n := n) (p := p) (r := r) (S := S) (a := r j) (x + 1) (max (omBu p r q S k) (r j)).toNat (by omega) (fun y h1 h2 => hfree y h1 (by omega))
        have hf2 := omFi_free (n := n) (p := p) (r := r) (S := S) (a := r j) x (max (omBu p r q S k) (r j)).toNat (by omega) (fun y h1 h2 => hfree y h1 (by omega))
        have hT : (max (omBu p r q S k) (r j)).toNat + (x + 1) = omTe n p r S j := omTe_uniq hok hj (by rw [hf1]; omega) (fun y hy => by
          have := omFi_le (n := n) (p := p) (r := r) (S := S) (a := r j) (show y ≤ (max (omBu p r q S k) (r j)).toNat + x by omega)
          omega)
        rw [← hT, show max (omBu p r q S k) (r j) + l = (((max (omBu p r q S k) (r j)).toNat + (x + 1) : Nat) : Int) by omega]
    · rw [if_neg hb] at eB
      rw [if_neg hb, if_pos (by decide)]
      have := ih (k + 1) fuel l (by omega) (by omega) hl (by rw [eB]; exact hle)
      rw [eB] at this
      exact this
theorem s_X4_endInGaps_eq {n S j : Nat} {p d w r f s : Nat → Int} {q : Nat → Nat} {σ : omH} (hok : omOk n p d w r f s) (hc : omCv n p d w r f s σ) (hq : omSt (omBk r) n q) (hr : ∀ i, i < n → σ 39 i = q i) (hS : S < 1024) (hj : j < n) : s_X4_endInGaps S j σ = some ((omTe n p r S j : Nat) : Int) := by
  have hn := hok.1
  have hoj := hok.2.1 j hj
  have h0 : omFi n p r S (r j) (max (0 : Int) (r j)).toNat = 0 := omFi_zero _ (by omega)
  have h1 := l_X4_endInGaps_14_eq hok hc hq hr hS hj n 0 FU (p j) (by omega) (by rw [FU_eq]; omega) (by omega) (by
    show p j = p j - omFi n p r S (r j) (max (0 : Int) (r j)).toNat
    rw [h0]; omega)
  have hB := omBu_rng (p := p) (r := r) (S := S) hok hq.1 n (Nat.le_refl n)
  unfold s_X4_endInGaps
  rw [om_wn (show j < 2147483648 by omega), Int.toNat_natCast, hc.2.1, hc.2.2.2.2.1, omg_t ⟨by omega, by omega⟩]
  rcases h1 with h1 | ⟨l', h1, h2, h3⟩
  · have h1' : l_X4_endInGaps_14 S j σ FU (p j) 0 0 = _ := h1
    rw [h1', om_b0]
    rfl
  · have h1' : l_X4_endInGaps_14 S j σ FU (p j) 0 0 = _ := h1
    rw [h1', om_b0]
    show omg (0 ≤ (j : Int) ∧ (j : Int) < 10) (some (max (omw (omBu p r q S n)) (omw (r j)) + l')) = _
    have hfree : ∀ y : Nat, (max (omBu p r q S n) (r j)).toNat ≤ y → omWb n p r S y = 0 := fun y h4 => by
      have h5 := omVk_top (S := S) hok hq.1 n (Nat.le_refl n) y
      rw [← omVk_eq hok hq]
      omega
    obtain ⟨x, hx⟩ : ∃ x : Nat, ((x + 1 : Nat) : Int) = l' := ⟨(l' - 1).toNat, by omega⟩
    have hf1 := omFi_free (n := n) (p := p) (r := r) (S := S) (a := r j) (x + 1) (max (omBu p r q S n) (r j)).toNat (by omega) (fun y h1 h2 => hfree y h1)
    have hf2 := omFi_free (n := n) (p := p) (r := r) (S := S) (a := r j) x (max (omBu p r q S n) (r j)).toNat (by omega) (fun y h1 h2 => hfree y h1)
    have hT : (max (omBu p r q S n) (r j)).toNat + (x + 1) = omTe n p r S j := omTe_uniq hok hj (by rw [hf1]; omega) (fun y hy => by
      have := omFi_le (n := n) (p := p) (r := r) (S := S) (a := r j) (show y ≤ (max (omBu p r q S n) (r j)).toNat + x by omega)
      omega)
    rw [omg_t ⟨by omega, by omega⟩, omw_id (a := omBu p r q S n) (by omega) (by omega), omw_id (a := r j) (by omega) (by omega), ← hT]
    congr 1
    omega
theorem s_X4_endBehind_10 {n S j : Nat} {u t : Int} {p d w r f s : Nat → Int} {q : Nat → Nat} {τ : omH} (hok : omOk n p d w r f s) (hc : omCv n p d w r f s τ) (h1 : τ 38 1 = (10 : Nat)) (hq : omSt (omBk r) n q) (hr : ∀ i, i < n → τ 39 i = q i) (hS : S < 1024) (hj : j < n) : s_X4_endBehind S u t j τ = some ((omTe n p r S j : Nat) : Int) := by
  have hn := hok.1
  unfold s_X4_endBehind
  rw [h1, Int.toNat_natCast, omg_t ⟨by decide, by decide⟩, omg_t ⟨by decide, by decide⟩, if_neg (by decide), if_neg (by decide), if_pos (by decide), s_X4_endInGaps_eq hok hc hq hr hS hj, om_b0]
