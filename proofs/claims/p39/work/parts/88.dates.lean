/-! ===== p39: priorities by due dates come to the greatest window ===== -/
def omBz2 (n : Nat) (p r : Nat → Int) (S : Nat) (a : Int) (t : Nat) : Int := omSum n (fun k => if S.testBit k = true then (if r k < a then 0 else if (t : Int) < r k then 0 else p k) else 0)
theorem omBz2_succ {n S t : Nat} {p r : Nat → Int} {a : Int} (ha : a ≤ (t : Int) + 1) : omBz2 n p r S a (t + 1) = omBz2 n p r S a t + omAr n p r S (t + 1) := by
  unfold omBz2 omAr
  rw [← omSum_add]
  refine omSum_congr (fun k _ => ?_)
  by_cases hb : S.testBit k = true
  · rw [if_pos hb, if_pos hb, if_pos hb]
    have e : ((t + 1 : Nat) : Int) = (t : Int) + 1 := by omega
    rw [e]
    by_cases h1 : r k < a
    · rw [if_pos h1, if_pos h1, if_neg (by omega)]; rfl
    · rw [if_neg h1, if_neg h1]
      by_cases h2 : (t : Int) + 1 < r k
      · rw [if_pos h2, if_pos (by omega), if_neg (by omega)]; rfl
      · rw [if_neg h2]
        by_cases h3 : (t : Int) < r k
        · rw [if_pos h3, if_pos (by omega)]; omega
        · rw [if_neg h3, if_neg (by omega)]; omega
  · rw [if_neg hb, if_neg hb, if_neg hb]; rfl
theorem omAr_ex {n S t : Nat} {p r : Nat → Int} (h : omAr n p r S t ≠ 0) : ∃ i, i < n ∧ S.testBit i = true ∧ r i = (t : Int) := by
  apply Classical.byContradiction
  intro hno
  refine h (omSum_zero (fun i hi => ?_))
  by_cases hb : S.testBit i = true
  · rw [if_pos hb, if_neg (fun hr => hno ⟨i, hi, hb, hr⟩)]
  · exact if_neg hb
theorem omBz2_self {n S t : Nat} {p r : Nat → Int} : omBz2 n p r S (t : Int) t = omAr n p r S t := omSum_congr (fun k _ => by
  by_cases hb : S.testBit k = true
  · rw [if_pos hb, if_pos hb]
    by_cases h1 : r k < (t : Int)
    · rw [if_pos h1, if_neg (by omega)]
    · rw [if_neg h1]
      by_cases h2 : (t : Int) < r k
      · rw [if_pos h2, if_neg (by omega)]
      · rw [if_neg h2, if_pos (by omega)]
  · rw [if_neg hb, if_neg hb])
/-- a load comes from the jobs released since some release -/
theorem om_lindley {n S : Nat} {p d w r f s : Nat → Int} (hok : omOk n p d w r f s) : ∀ t : Nat, 0 < omWb n p r S t → ∃ i, i < n ∧ S.testBit i = true ∧ r i ≤ (t : Int) ∧ omWb n p r S t ≤ omBz2 n p r S (r i) t - ((t : Int) - r i) := by
  intro t
  induction t with
  | zero =>
    intro h
    have e : omWb n p r S 0 = omAr n p r S 0 := rfl
    obtain ⟨i, hi, hb, hr⟩ := omAr_ex (n := n) (S := S) (t := 0) (p := p) (r := r) (by omega)
    have e2 := omBz2_self (n := n) (S := S) (t := 0) (p := p) (r := r)
    refine ⟨i, hi, hb, by omega, ?_⟩
    rw [hr, e2]
    omega
  | succ t ih =>
    intro h
    have e : omWb n p r S (t + 1) = max 0 (omWb n p r S t - 1) + omAr n p r S (t + 1) := rfl
    have e0 : ((t + 1 : Nat) : Int) = (t : Int) + 1 := by omega
    by_cases h1 : 2 ≤ omWb n p r S t
    · obtain ⟨i, hi, hb, hr, hw⟩ := ih (by omega)
      refine ⟨i, hi, hb, by omega, ?_⟩
      rw [omBz2_succ (by omega), e, e0]
      omega
    · have h0 := omWb_0 (S := S) (t := t) hok
      obtain ⟨i, hi, hb, hr⟩ := omAr_ex (n := n) (S := S) (t := t + 1) (p := p) (r := r) (by omega)
      have e2 := omBz2_self (n := n) (S := S) (t := t + 1) (p := p) (r := r)
      refine ⟨i, hi, hb, by omega, ?_⟩
      rw [hr, e2]
      omega
theorem om_dates_top {n k : Nat} {p d w r f s : Nat → Int} {q : Nat → Nat} (hok : omOk n p d w r f s) (hq : omSt (omBk d) n q) (hk : k < n) : ((omTe n p r (omSs q k) (q k) : Nat) : Int) - d (q k) ≤ omBst 1 n p d r := by
  have hinj := fun i k (hi : i < n) (hk : k < n) => omSt.inj (omBk_so n d) hq hi hk
  have hsq : omSq n q := omSq_of hq.1 hinj
  obtain ⟨g1, g2⟩ := hsq k hk
  have hr0 := hok.2.1 _ g1
  obtain ⟨t1, t2, t3, t4⟩ := omTe_ok (S := omSs q k) hok g1
  have hW := omWb_ins hok g1 g2 (omTe n p r (omSs q k) (q k) - 1)
  have h0 := omWb_0 (S := omSs q k) (t := omTe n p r (omSs q k) (q k) - 1) hok
  have h3 := t3 (omTe n p r (omSs q k) (q k) - 1) (by omega)
  have hx : omXl n p r (omSs q k) (q k) (omTe n p r (omSs q k) (q k) - 1) = max 0 (p (q k) - omFi n p r (omSs q k) (r (q k)) (omTe n p r (omSs q k) (q k) - 1)) := by
    unfold omXl
    rw [if_neg (by omega)]
  obtain ⟨i, hi, hb, hr, hw⟩ := om_lindley (S := omSs q k ||| 2 ^ (q k)) hok (omTe n p r (omSs q k) (q k) - 1) (by omega)
  have hrl : ∀ k, omRl 1 r k = r k := fun k => if_neg (by decide)
  have hsub : omBz2 n p r (omSs q k ||| 2 ^ (q k)) (r i) (omTe n p r (omSs q k) (q k) - 1) ≤ omWl 1 n p d r i (q k) := omSum_le (fun x hx => by
    have hpx := hok.2.1 x hx
    have h0 := (omWlT_rng (v := 1) (i := i) (j := q k) hok hx).1
    by_cases hbx : (omSs q k ||| 2 ^ (q k)).testBit x = true
    · rw [if_pos hbx]
      have hbx' : (omSs q (k + 1)).testBit x = true := hbx
      obtain ⟨y, hy, rfl⟩ := (omSs_mem (k + 1)).mp hbx'
      have hd : d (q y) ≤ d (q k) := by
        by_cases he : y = k
        · rw [he]; exact Int.le_refl _
        · have := hq.2.2 y k (by omega) hk
          unfold omBk at this
          omega
      unfold omWlT at h0 ⊢
      rw [hrl, hrl] at h0 ⊢
      by_cases h1 : r (q y) < r i
      · rw [if_pos h1, if_pos h1]; exact Int.le_refl _
      · rw [if_neg h1, if_neg h1, if_neg (show ¬ d (q k) < d (q y) by omega)]
        split <;> omega
    · rw [if_neg hbx]; exact h0)
  have hWp : 0 < omWl 1 n p d r i (q k) := by omega
  have h6 := omBw_pos (v := 1) hok hi g1 hWp
  have h7 := omBst_ge (v := 1) (p := p) (d := d) (r := r) hi g1
  rw [hrl] at h6
  omega
/-- priorities by due dates: the greatest window -/
theorem om_dates {n : Nat} {p d w r f s C : Nat → Int} {q : Nat → Nat} (hok : omOk n p d w r f s) (hn : 0 < n) (hq : omSt (omBk d) n q) (hC : ∀ k, k < n → C (q k) = ((omTe n p r (omSs q k) (q k) : Nat) : Int)) : omTot n 0 d w C = omBst 1 n p d r := by
  have hinj := fun i k (hi : i < n) (hk : k < n) => omSt.inj (omBk_so n d) hq hi hk
  have hsq : omSq n q := omSq_of hq.1 hinj
  apply Int.le_antisymm
  · have hT : omTot n 0 d w C = omMx n (omCs 0 d w C) := if_pos rfl
    have hr := omBst_rng (v := 1) (p := p) (d := d) (r := r) hok hn
    rw [hT]
    refine omMx_lub (by omega) (fun j hj => ?_)
    obtain ⟨k, hk, rfl⟩ := hq.2.1 j hj
    have e1 : omCs 0 d w C (q k) = C (q k) - d (q k) := if_pos rfl
    rw [e1, hC k hk]
    exact om_dates_top hok hq hk
  · exact om_prio_low hok hn hsq hC
/-- .. and the least of all priorities -/
theorem om_dates_least {n : Nat} {p d w r f s C : Nat → Int} {q : Nat → Nat} (hok : omOk n p d w r f s) (hn : 0 < n) (hq : omSt (omBk d) n q) (hC : ∀ k, k < n → C (q k) = ((omTe n p r (omSs q k) (q k) : Nat) : Int)) : min 1000000 (omVl n 0 d w f (fun S _ _ j => ((omTe n p r S j : Nat) : Int)) n 0 4 0 (omA0 0)) = omTot n 0 d w C := by
  have hinj := fun i k (hi : i < n) (hk : k < n) => omSt.inj (omBk_so n d) hq hi hk
  have hsq : omSq n q := omSq_of hq.1 hinj
  have hr := omBst_rng (v := 1) (p := p) (d := d) (r := r) hok hn
  have he := om_dates (w := w) hok hn hq hC
  refine om_least (by omega) (fun Q C' hQ hC' => ?_) ⟨q, C, hsq, hC, Int.le_refl _⟩
  rw [he]
  exact om_prio_low hok hn hQ hC'
