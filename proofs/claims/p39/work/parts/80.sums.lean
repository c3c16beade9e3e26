/-! ===== p39: sums, greatest ones, sequences ===== -/
theorem omSum_le {n : Nat} {g h : Nat → Int} (hle : ∀ i, i < n → g i ≤ h i) : omSum n g ≤ omSum n h := by
  induction n with
  | zero => exact Int.le_refl _
  | succ n ih =>
    have h1 := ih (fun i hi => hle i (by omega))
    have h2 := hle n (by omega)
    show omSum n g + g n ≤ omSum n h + h n
    omega
theorem omSum_succ {n : Nat} {g : Nat → Int} : omSum (n + 1) g = omSum n g + g n := rfl
theorem omSum_mul {n : Nat} {g : Nat → Int} {a : Int} : omSum n (fun i => a * g i) = a * omSum n g := by
  induction n with
  | zero => exact (Int.mul_zero a).symm
  | succ n ih =>
    show omSum n (fun i => a * g i) + a * g n = a * (omSum n g + g n)
    rw [ih, Int.mul_add]
theorem omSum_mono_n {n m : Nat} {g : Nat → Int} (hm : m ≤ n) (h : ∀ i, i < n → 0 ≤ g i) : omSum m g ≤ omSum n g := by
  induction n with
  | zero =>
    have : m = 0 := by omega
    subst this
    exact Int.le_refl _
  | succ n ih =>
    by_cases he : m = n + 1
    · subst he; exact Int.le_refl _
    · have h1 := ih (by omega) (fun i hi => h i (by omega))
      have h2 := h n (by omega)
      show _ ≤ omSum n g + g n
      omega
theorem omMx_ge {n j : Nat} {g : Nat → Int} (hj : j < n) : g j ≤ omMx n g := by
  induction n with
  | zero => omega
  | succ n ih =>
    show g j ≤ max (omMx n g) (g n)
    by_cases he : j = n
    · subst he; omega
    · have := ih (by omega); omega
theorem omMx_base {n : Nat} {g : Nat → Int} : -1000000 ≤ omMx n g := by
  induction n with
  | zero => exact Int.le_refl _
  | succ n ih =>
    show _ ≤ max (omMx n g) (g n)
    omega
theorem omMx_lub {n : Nat} {g : Nat → Int} {B : Int} (hB : -1000000 ≤ B) (h : ∀ j, j < n → g j ≤ B) : omMx n g ≤ B := by
  induction n with
  | zero => exact hB
  | succ n ih =>
    have h1 := ih (fun j hj => h j (by omega))
    have h2 := h n (by omega)
    show max (omMx n g) (g n) ≤ B
    omega
theorem omMx_att {n : Nat} {g : Nat → Int} : omMx n g = -1000000 ∨ ∃ j, j < n ∧ omMx n g = g j := by
  induction n with
  | zero => exact Or.inl rfl
  | succ n ih =>
    have e : omMx (n + 1) g = max (omMx n g) (g n) := rfl
    by_cases h : omMx n g ≤ g n
    · exact Or.inr ⟨n, by omega, by omega⟩
    · rcases ih with h1 | ⟨j, hj, h1⟩
      · exact Or.inl (by omega)
      · exact Or.inr ⟨j, by omega, by omega⟩
theorem omMx_perm {n : Nat} {q : Nat → Nat} {g : Nat → Int} (hq : ∀ i, i < n → q i < n) (hs : ∀ j, j < n → ∃ i, i < n ∧ q i = j) : omMx n (fun i => g (q i)) = omMx n g := by
  apply Int.le_antisymm
  · exact omMx_lub omMx_base (fun i hi => omMx_ge (hq i hi))
  · refine omMx_lub omMx_base (fun j hj => ?_)
    obtain ⟨i, hi, rfl⟩ := hs j hj
    exact omMx_ge (g := fun i => g (q i)) hi
/-- the last place of a property -/
theorem om_last {n : Nat} {P : Nat → Prop} (h : ∃ i, i < n ∧ P i) : ∃ i, i < n ∧ P i ∧ ∀ k, k < n → i < k → ¬ P k := by
  induction n with
  | zero => obtain ⟨i, hi, _⟩ := h; omega
  | succ n ih =>
    by_cases hn : P n
    · exact ⟨n, by omega, hn, fun k hk hnk => by omega⟩
    · obtain ⟨i, hi, hP⟩ := h
      have hin : i ≠ n := fun e => hn (e ▸ hP)
      obtain ⟨a, ha, hPa, hl⟩ := ih ⟨i, by omega, hP⟩
      refine ⟨a, by omega, hPa, fun k hk hak => ?_⟩
      by_cases he : k = n
      · rw [he]; exact hn
      · exact hl k (by omega) hak
/-- a number for each job, told by its place -/
theorem om_inv_fun {n : Nat} {q : Nat → Nat} (F : Nat → Int) (hinj : ∀ i k, i < n → k < n → q i = q k → i = k) : ∃ C : Nat → Int, ∀ i, i < n → C (q i) = F i := by
  refine ⟨fun j => omSum n (fun i => if q i = j then F i else 0), fun i hi => ?_⟩
  show omSum n (fun k => if q k = q i then F k else 0) = F i
  rw [omSum_single (j := i) hi (fun k hk hki => if_neg (fun h => hki (hinj k i hk hi h))), if_pos rfl]
theorem omSs_mem {q : Nat → Nat} {b : Nat} : ∀ k, (omSs q k).testBit b = true ↔ ∃ i, i < k ∧ q i = b := by
  intro k
  induction k with
  | zero =>
    constructor
    · intro h
      have : (0 : Nat).testBit b = true := h
      simp at this
    · intro ⟨i, hi, _⟩; omega
  | succ k ih =>
    have e : omSs q (k + 1) = omSs q k ||| 2 ^ (q k) := rfl
    rw [e, om_ins_bit, Bool.or_eq_true, ih, decide_eq_true_eq]
    constructor
    · rintro (⟨i, hi, h⟩ | h)
      · exact ⟨i, by omega, h⟩
      · exact ⟨k, by omega, h⟩
    · rintro ⟨i, hi, h⟩
      by_cases he : i = k
      · subst he; exact Or.inr h
      · exact Or.inl ⟨i, by omega, h⟩
theorem omSq_of {n : Nat} {q : Nat → Nat} (hq : ∀ i, i < n → q i < n) (hinj : ∀ i k, i < n → k < n → q i = q k → i = k) : omSq n q := by
  intro i hi
  refine ⟨hq i hi, fun h => ?_⟩
  obtain ⟨k, hk, e⟩ := (omSs_mem i).mp h
  have := hinj k i (by omega) hi e
  omega
/-- a sequence worked off by 'the end of a job behind': the family and the time behind so many jobs, and what they cost -/
def omTi (f : Nat → Int) (E : Nat → Int → Int → Nat → Int) (q : Nat → Nat) : Nat → Int × Int
  | 0 => (4, 0)
  | k + 1 => (f (q k), E (omSs q k) (omTi f E q k).1 (omTi f E q k).2 (q k))
def omAv (c : Nat) (d w f : Nat → Int) (E : Nat → Int → Int → Nat → Int) (q : Nat → Nat) : Nat → Int
  | 0 => omA0 c
  | k + 1 => omCj c d w (omAv c d w f E q k) (q k) (omTi f E q (k + 1)).2
theorem omTi_congr {f : Nat → Int} {E : Nat → Int → Int → Nat → Int} {q q' : Nat → Nat} : ∀ k, (∀ i, i < k → q i = q' i) → omTi f E q k = omTi f E q' k := by
  intro k
  induction k with
  | zero => intro _; rfl
  | succ k ih =>
    intro h
    have h1 := ih (fun i hi => h i (by omega))
    show (f (q k), E (omSs q k) (omTi f E q k).1 (omTi f E q k).2 (q k)) = (f (q' k), E (omSs q' k) (omTi f E q' k).1 (omTi f E q' k).2 (q' k))
    rw [h1, omSs_congr k (fun i hi => h i (by omega)), h k (by omega)]
theorem omAv_congr {c : Nat} {d w f : Nat → Int} {E : Nat → Int → Int → Nat → Int} {q q' : Nat → Nat} : ∀ k, (∀ i, i < k → q i = q' i) → omAv c d w f E q k = omAv c d w f E q' k := by
  intro k
  induction k with
  | zero => intro _; rfl
  | succ k ih =>
    intro h
    show omCj c d w (omAv c d w f E q k) (q k) (omTi f E q (k + 1)).2 = omCj c d w (omAv c d w f E q' k) (q' k) (omTi f E q' (k + 1)).2
    rw [ih (fun i hi => h i (by omega)), omTi_congr (k + 1) h, h k (by omega)]
theorem omVl_try_low {n c : Nat} {d w f : Nat → Int} {E : Nat → Int → Int → Nat → Int} {q : Nat → Nat} (hq : omSq n q) : ∀ (m k : Nat), k + m = n → omVl n c d w f E m (omSs q k) (omTi f E q k).1 (omTi f E q k).2 (omAv c d w f E q k) ≤ omAv c d w f E q n := by
  intro m
  induction m with
  | zero =>
    intro k hk
    have : k = n := by omega
    subst this
    exact Int.le_refl _
  | succ m ih =>
    intro k hk
    obtain ⟨h1, h2⟩ := hq k (by omega)
    have h3 := ih (k + 1) (by omega)
    show omMn (omSs q k) (fun j => omVl n c d w f E m (omSs q k ||| 2 ^ j) (f j) (E (omSs q k) (omTi f E q k).1 (omTi f E q k).2 j) (omCj c d w (omAv c d w f E q k) j (E (omSs q k) (omTi f E q k).1 (omTi f E q k).2 j))) n ≤ _
    rw [omMn_fm]
    exact Int.le_trans (omFm_low n (q k) h1 h2) h3
theorem omVl_try_att {n c : Nat} {d w f : Nat → Int} {E : Nat → Int → Int → Nat → Int} : ∀ (m k : Nat) (q : Nat → Nat), k + m = n → (∀ i, i < k → q i < n ∧ ¬ (omSs q i).testBit (q i) = true) → omVl n c d w f E m (omSs q k) (omTi f E q k).1 (omTi f E q k).2 (omAv c d w f E q k) = 1000000 ∨ ∃ q', omSq n q' ∧ omVl n c d w f E m (omSs q k) (omTi f E q k).1 (omTi f E q k).2 (omAv c d w f E q k) = omAv c d w f E q' n := by
  intro m
  induction m with
  | zero =>
    intro k q hk hq
    have : k = n := by omega
    subst this
    exact Or.inr ⟨q, hq, rfl⟩
  | succ m ih =>
    intro k q hk hq
    have e0 : omVl n c d w f E (m + 1) (omSs q k) (omTi f E q k).1 (omTi f E q k).2 (omAv c d w f E q k) = omFm 1000000 (omSs q k) (fun j => omVl n c d w f E m (omSs q k ||| 2 ^ j) (f j) (E (omSs q k) (omTi f E q k).1 (omTi f E q k).2 j) (omCj c d w (omAv c d w f E q k) j (E (omSs q k) (omTi f E q k).1 (omTi f E q k).2 j))) n := omMn_fm n
    rw [e0]
    rcases omFm_att (b := 1000000) (S := omSs q k) (g := fun j => omVl n c d w f E m (omSs q k ||| 2 ^ j) (f j) (E (omSs q k) (omTi f E q k).1 (omTi f E q k).2 j) (omCj c d w (omAv c d w f E q k) j (E (omSs q k) (omTi f E q k).1 (omTi f E q k).2 j))) n with h | ⟨j, hj, hb, h⟩
    · exact Or.inl h
    · rw [h]
      obtain ⟨Q, hag, hqk⟩ : ∃ Q : Nat → Nat, (∀ i, i < k → Q i = q i) ∧ Q k = j := ⟨fun i => if i = k then j else q i, fun i hi => if_neg (by omega), if_pos rfl⟩
      have hss : ∀ i, i ≤ k → omSs Q i = omSs q i := fun i hi => omSs_congr i (fun x hx => hag x (by omega))
      have hk1 : omSs Q (k + 1) = omSs q k ||| 2 ^ j := by
        show omSs Q k ||| 2 ^ (Q k) = _
        rw [hss k (Nat.le_refl _), hqk]
      have hk0 : omTi f E Q (k + 1) = (f j, E (omSs q k) (omTi f E q k).1 (omTi f E q k).2 j) := by
        show (f (Q k), E (omSs Q k) (omTi f E Q k).1 (omTi f E Q k).2 (Q k)) = _
        rw [hss k (Nat.le_refl _), hqk, omTi_congr k hag]
      have hk2 : omAv c d w f E Q (k + 1) = omCj c d w (omAv c d w f E q k) j (E (omSs q k) (omTi f E q k).1 (omTi f E q k).2 j) := by
        show omCj c d w (omAv c d w f E Q k) (Q k) (omTi f E Q (k + 1)).2 = _
        rw [hk0, hqk, omAv_congr k hag]
      have := ih (k + 1) Q (by omega) (fun i hi => by
        by_cases hik : i = k
        · subst hik
          rw [hss i (Nat.le_refl _), hqk]
          exact ⟨hj, hb⟩
        · rw [hss i (by omega), hag i (by omega)]
          exact hq i (by omega))
      rw [hk1, hk0, hk2] at this
      exact this
/-- what a sequence costs, out of its jobs' ends -/
theorem omAv_tot {n c : Nat} {d w f C : Nat → Int} {E : Nat → Int → Int → Nat → Int} {q : Nat → Nat} (hq : omSq n q) (hC : ∀ i, i < n → C (q i) = (omTi f E q (i + 1)).2) : omAv c d w f E q n = omTot n c d w C := by
  obtain ⟨h1, h2, h3⟩ := omSs_perm hq
  by_cases hc : c = 0
  · subst hc
    have e : ∀ k, k ≤ n → omAv 0 d w f E q k = omMx k (fun i => omCs 0 d w C (q i)) := by
      intro k
      induction k with
      | zero => intro _; rfl
      | succ k ih =>
        intro hk
        have e1 : omCs 0 d w (fun _ => (omTi f E q (k + 1)).2) (q k) = omCs 0 d w C (q k) := omCs_congr (hC k (by omega)).symm
        show omCj 0 d w (omAv 0 d w f E q k) (q k) (omTi f E q (k + 1)).2 = max (omMx k (fun i => omCs 0 d w C (q i))) (omCs 0 d w C (q k))
        unfold omCj
        rw [if_pos rfl, ih (by omega), e1]
    rw [e n (Nat.le_refl _), omMx_perm (g := omCs 0 d w C) h1 h3]
    exact (if_pos rfl).symm
  · have e : ∀ k, k ≤ n → omAv c d w f E q k = omSum k (fun i => omCs c d w C (q i)) := by
      intro k
      induction k with
      | zero => intro _; exact if_neg hc
      | succ k ih =>
        intro hk
        have e1 : omCs c d w (fun _ => (omTi f E q (k + 1)).2) (q k) = omCs c d w C (q k) := omCs_congr (hC k (by omega)).symm
        show omCj c d w (omAv c d w f E q k) (q k) (omTi f E q (k + 1)).2 = omSum k (fun i => omCs c d w C (q i)) + omCs c d w C (q k)
        unfold omCj
        rw [if_neg hc, ih (by omega), e1]
    rw [e n (Nat.le_refl _), omSum_perm (g := omCs c d w C) h1 h2 h3]
    exact (if_neg hc).symm
/-- the least of all sequences -/
theorem om_least {n c : Nat} {d w f : Nat → Int} {E : Nat → Int → Int → Nat → Int} {g : Int} (h1 : g ≤ 1000000) (h2 : ∀ (q : Nat → Nat) (C : Nat → Int), omSq n q → (∀ i, i < n → C (q i) = (omTi f E q (i + 1)).2) → g ≤ omTot n c d w C) (h3 : ∃ (q : Nat → Nat) (C : Nat → Int), omSq n q ∧ (∀ i, i < n → C (q i) = (omTi f E q (i + 1)).2) ∧ omTot n c d w C ≤ g) : min 1000000 (omVl n c d w f E n 0 4 0 (omA0 c)) = g := by
  have ha : ∀ q, omSq n q → omVl n c d w f E n 0 4 0 (omA0 c) ≤ omAv c d w f E q n := fun q hq => omVl_try_low hq n 0 (by omega)
  have hb : omVl n c d w f E n 0 4 0 (omA0 c) = 1000000 ∨ ∃ q', omSq n q' ∧ omVl n c d w f E n 0 4 0 (omA0 c) = omAv c d w f E q' n := omVl_try_att n 0 (fun _ => 0) (by omega) (fun i hi => by omega)
  generalize omVl n c d w f E n 0 4 0 (omA0 c) = V at ha hb
  have hle : g ≤ V := by
    rcases hb with h | ⟨q, hq, h⟩
    · omega
    · obtain ⟨C, hC⟩ := om_inv_fun (n := n) (q := q) (fun i => (omTi f E q (i + 1)).2) (omSs_perm hq).2.1
      rw [h, omAv_tot hq hC]
      exact h2 q C hq hC
  have hge : V ≤ g := by
    obtain ⟨q, C, hq, hC, h⟩ := h3
    have := ha q hq
    rw [omAv_tot hq hC] at this
    omega
  omega
