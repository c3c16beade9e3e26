/-! ===== p39: the greatest window; by due dates is the greatest window without releases, and the least of all orders ===== -/
noncomputable def omBst (v n : Nat) (p d r : Nat → Int) : Int := omBw v n p d r (omBe v n p d r (n * n) / n) (omBe v n p d r (n * n) % n)
theorem omBe_top {v n : Nat} {p d r : Nat → Int} : ∀ x y, y < x → omBw v n p d r (y / n) (y % n) ≤ omBw v n p d r (omBe v n p d r x / n) (omBe v n p d r x % n) := by
  intro x
  induction x with
  | zero => intro y hy; omega
  | succ x ih =>
    intro y hy
    by_cases hb : omBt v n p d r x (omBe v n p d r x)
    · rw [omBe_t hb]
      by_cases he : y = x
      · rw [he]; exact Int.le_refl _
      · have h1 := ih y (by omega)
        unfold omBt at hb
        omega
    · rw [omBe_f hb]
      by_cases he : y = x
      · rw [he]
        unfold omBt at hb
        omega
      · exact ih y (by omega)
theorem omBst_ge {v n i j : Nat} {p d r : Nat → Int} (hi : i < n) (hj : j < n) : omBw v n p d r i j ≤ omBst v n p d r := by
  have h := omBe_top (v := v) (n := n) (p := p) (d := d) (r := r) (n * n) (i * n + j) (om_pair_lt hi hj)
  obtain ⟨h1, h2⟩ := om_pair (n := n) (i := i) hj
  rw [h1, h2] at h
  exact h
theorem omBst_ex {v n : Nat} {p d w r f s : Nat → Int} (hok : omOk n p d w r f s) (hn : 0 < n) : ∃ i j, i < n ∧ j < n ∧ 0 < omWl v n p d r i j ∧ omBst v n p d r = omRl v r i + omWl v n p d r i j - d j := by
  obtain ⟨h1, h2⟩ := omBe_ok (v := v) hok hn (n * n) (Nat.le_refl _)
  obtain ⟨h3, h4⟩ := om_dm hn h1
  have h5 := (omBw_rng (v := v) hok h3 h4).2 h2
  have h6 := omWl_rng (v := v) (i := omBe v n p d r (n * n) / n) (j := omBe v n p d r (n * n) % n) hok (Nat.le_refl n)
  exact ⟨_, _, h3, h4, by omega, h5.1⟩
theorem omBst_rng {v n : Nat} {p d w r f s : Nat → Int} (hok : omOk n p d w r f s) (hn : 0 < n) : -300 ≤ omBst v n p d r ∧ omBst v n p d r ≤ 400 := by
  obtain ⟨h1, h2⟩ := omBe_ok (v := v) hok hn (n * n) (Nat.le_refl _)
  obtain ⟨h3, h4⟩ := om_dm hn h1
  have h5 := (omBw_rng (v := v) hok h3 h4).2 h2
  exact ⟨h5.2.1, h5.2.2⟩
/-- a window's bound, told without its case -/
theorem omBw_pos {v n i j : Nat} {p d w r f s : Nat → Int} (hok : omOk n p d w r f s) (hi : i < n) (hj : j < n) (h : 0 < omWl v n p d r i j) : omBw v n p d r i j = omRl v r i + omWl v n p d r i j - d j := ((omBw_rng hok hi hj).2 (by omega)).1
/-- what a sequence in a row has done behind so many jobs -/
def omPs (p : Nat → Int) (q : Nat → Nat) (k : Nat) : Int := omSum k (fun i => p (q i))
theorem omPl0_now {n : Nat} {p d w r f s : Nat → Int} {q : Nat → Nat} (hok : omOk n p d w r f s) : ∀ k, (∀ i, i < k → q i < n) → omNow (omPl 0 p f s q k).1 = omPs p q k := by
  intro k
  induction k with
  | zero => intro _; rfl
  | succ k ih =>
    intro hq
    have h1 := ih (fun i hi => hq i (by omega))
    have h2 := hok.2.1 (q k) (hq k (by omega))
    have e : (omPl 0 p f s q (k + 1)).1 = omAdd (omPl 0 p f s q k).1 (0, (q k : Int), p (q k)) := by
      show omAdd (if (0 : Nat) = 0 then (omPl 0 p f s q k).1 else _) _ = _
      rw [if_pos rfl]
    rw [e, omAdd_now (by show 0 ≤ p (q k); omega), h1]
    rfl
theorem omTi_row {f p : Nat → Int} {q : Nat → Nat} : ∀ k, (omTi f (fun _ _ t j => t + p j) q k).2 = omPs p q k := by
  intro k
  induction k with
  | zero => rfl
  | succ k ih =>
    show (omTi f (fun _ _ t j => t + p j) q k).2 + p (q k) = omPs p q k + p (q k)
    rw [ih]
theorem omEd0 {n k : Nat} {p d w r f s : Nat → Int} {q : Nat → Nat} (hok : omOk n p d w r f s) (hq : ∀ i, i < n → q i < n) (hk : k < n) : omEd 0 p f s q k = omPs p q (k + 1) := omPl0_now hok (k + 1) (fun i hi => hq i (by omega))
/-- in each order some job due by j's date ends no sooner than all of these take -/
theorem om_row_late {n j : Nat} {p d w r f s C : Nat → Int} {q : Nat → Nat} (hok : omOk n p d w r f s) (hq : omSq n q) (hC : ∀ i, i < n → C (q i) = omPs p q (i + 1)) (i0 : Nat) (hj : j < n) : ∃ k, k < n ∧ d k ≤ d j ∧ omWl 0 n p d r i0 j ≤ C k := by
  obtain ⟨h1, h2, h3⟩ := omSs_perm hq
  obtain ⟨a, ha, haj⟩ := h3 j hj
  obtain ⟨x, hx, hdx, hl⟩ := om_last (n := n) (P := fun i => d (q i) ≤ d j) ⟨a, ha, by rw [haj]; exact Int.le_refl _⟩
  refine ⟨q x, h1 x hx, hdx, ?_⟩
  rw [hC x hx]
  have e1 : omWl 0 n p d r i0 j = omSum n (fun i => omWlT 0 p d r i0 j (q i)) := (omSum_perm (g := omWlT 0 p d r i0 j) h1 h2 h3).symm
  have e2 : omSum n (fun i => omWlT 0 p d r i0 j (q i)) = omSum (x + 1) (fun i => omWlT 0 p d r i0 j (q i)) := omSum_tail (by omega) (fun i hi hin => by
    have := hl i hin (by omega)
    show omWlT 0 p d r i0 j (q i) = 0
    unfold omWlT omRl
    rw [if_neg (by simp), if_pos (by omega)])
  rw [e1, e2]
  refine omSum_le (fun i hi => ?_)
  have hp := hok.2.1 (q i) (h1 i (by omega))
  show omWlT 0 p d r i0 j (q i) ≤ p (q i)
  unfold omWlT
  split
  · omega
  · split <;> omega
theorem om_row_low {n : Nat} {p d w r f s C : Nat → Int} {q : Nat → Nat} (hok : omOk n p d w r f s) (hn : 0 < n) (hq : omSq n q) (hC : ∀ i, i < n → C (q i) = omPs p q (i + 1)) : omBst 0 n p d r ≤ omTot n 0 d w C := by
  obtain ⟨i, j, hi, hj, h1, h2⟩ := omBst_ex (v := 0) hok hn
  obtain ⟨k, hk, hd, hw⟩ := om_row_late hok hq hC i hj
  have h3 : omCs 0 d w C k ≤ omMx n (omCs 0 d w C) := omMx_ge hk
  have h4 : omCs 0 d w C k = C k - d k := if_pos rfl
  have h5 : omTot n 0 d w C = omMx n (omCs 0 d w C) := if_pos rfl
  have h6 : omRl 0 r i = 0 := if_pos rfl
  omega
theorem om_edd {n : Nat} {p d w r f s C : Nat → Int} {q : Nat → Nat} (hok : omOk n p d w r f s) (hn : 0 < n) (hq : omSt (omBk d) n q) (hC : ∀ i, i < n → C (q i) = omPs p q (i + 1)) : omTot n 0 d w C = omBst 0 n p d r := by
  have hinj := fun i k (hi : i < n) (hk : k < n) => omSt.inj (omBk_so n d) hq hi hk
  have hsq : omSq n q := omSq_of hq.1 hinj
  apply Int.le_antisymm
  · have h5 : omTot n 0 d w C = omMx n (omCs 0 d w C) := if_pos rfl
    rw [h5]
    have hr := omBst_rng (v := 0) hok hn
    refine omMx_lub (by omega) (fun j hj => ?_)
    obtain ⟨k, hk, rfl⟩ := hq.2.1 j hj
    have h4 : omCs 0 d w C (q k) = C (q k) - d (q k) := if_pos rfl
    rw [h4, hC k hk]
    have h6 := omBw_pos (v := 0) hok (hq.1 k hk) (hq.1 k hk) (omWl_own hok (hq.1 k hk))
    have h7 := omBst_ge (v := 0) (p := p) (d := d) (r := r) (hq.1 k hk) (hq.1 k hk)
    have h8 : omRl 0 r (q k) = 0 := if_pos rfl
    have h9 : omPs p q (k + 1) ≤ omWl 0 n p d r (q k) (q k) := by
      have e1 : omWl 0 n p d r (q k) (q k) = omSum n (fun i => omWlT 0 p d r (q k) (q k) (q i)) := (omSum_perm (g := omWlT 0 p d r (q k) (q k)) hq.1 hinj hq.2.1).symm
      rw [e1]
      refine Int.le_trans (omSum_le (h := fun i => omWlT 0 p d r (q k) (q k) (q i)) (fun i hi => ?_)) (omSum_mono_n (by omega) (fun i hi => (omWlT_rng hok (hq.1 i hi)).1))
      have hd : d (q i) ≤ d (q k) := by
        by_cases he : i = k
        · rw [he]; exact Int.le_refl _
        · have := hq.2.2 i k (by omega) hk
          unfold omBk at this
          omega
      show p (q i) ≤ omWlT 0 p d r (q k) (q k) (q i)
      unfold omWlT omRl
      rw [if_neg (by simp), if_neg (by omega)]
      exact Int.le_refl _
    omega
  · exact om_row_low hok hn hsq hC
/-- by due dates: the least of all orders -/
theorem om_edd_least {n : Nat} {p d w r f s C : Nat → Int} {q : Nat → Nat} (hok : omOk n p d w r f s) (hn : 0 < n) (hq : omSt (omBk d) n q) (hC : ∀ i, i < n → C (q i) = omPs p q (i + 1)) : min 1000000 (omVl n 0 d w f (fun _ _ t j => t + p j) n 0 4 0 (omA0 0)) = omTot n 0 d w C := by
  have hinj := fun i k (hi : i < n) (hk : k < n) => omSt.inj (omBk_so n d) hq hi hk
  have hr := omBst_rng (v := 0) (p := p) (d := d) (r := r) hok hn
  have he := om_edd hok hn hq hC
  refine om_least (by omega) (fun Q C' hQ hC' => ?_) ⟨q, C, omSq_of hq.1 hinj, fun i hi => by rw [omTi_row]; exact hC i hi, Int.le_refl _⟩
  rw [he]
  exact om_row_low hok hn hQ (fun i hi => by rw [hC' i hi, omTi_row])
