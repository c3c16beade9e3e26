/-! ===== p39: Moore and Hodgson's set is a greatest one that can be on time ===== -/
theorem omLn_congr {n : Nat} {g : Nat → Int} {S S' : Nat} (h : ∀ i, i < n → S.testBit i = S'.testBit i) : omLn n g S = omLn n g S' := omSum_congr (fun i hi => by rw [h i hi])
theorem omLn_del {n S j : Nat} {g : Nat → Int} (hj : j < n) (hb : S.testBit j = true) : omLn n g (omDel S j) = omLn n g S - g j := by
  have h1 : ¬ (omDel S j).testBit j = true := by rw [omDel_bit]; simp
  have h2 := omLn_ins (p := g) hj h1
  have h3 : omLn n g (omDel S j ||| 2 ^ j) = omLn n g S := omLn_congr (fun i _ => by
    rw [om_ins_bit, omDel_bit]
    by_cases he : j = i
    · subst he; simp [hb]
    · simp [he])
  omega
theorem omLn_sub {n S S' : Nat} {g : Nat → Int} (hg : ∀ i, i < n → 0 ≤ g i) (h : ∀ i, i < n → S.testBit i = true → S'.testBit i = true) : omLn n g S ≤ omLn n g S' := omSum_le (fun i hi => by
  have h0 := hg i hi
  by_cases hb : S.testBit i = true
  · rw [if_pos hb, if_pos (h i hi hb)]; exact Int.le_refl _
  · rw [if_neg hb]; split <;> omega)
theorem omLg_max {p : Nat → Int} {S : Nat} : ∀ k i, i < k → S.testBit i = true → p i ≤ p (omLg p S k).toNat := by
  intro k
  induction k with
  | zero => intro i hi; omega
  | succ k ih =>
    intro i hi hb
    have e0 : omLg p S (k + 1) = if S.testBit k = true then (if omLg p S k = -1 then (k : Int) else if p k < p (omLg p S k).toNat then omLg p S k else k) else omLg p S k := rfl
    by_cases hk : S.testBit k = true
    · rw [if_pos hk] at e0
      by_cases h1 : omLg p S k = -1
      · rw [if_pos h1] at e0
        rw [e0, Int.toNat_natCast]
        by_cases he : i = k
        · rw [he]; exact Int.le_refl _
        · exact absurd h1 ((omLg_ok k).2.2.2 ⟨i, by omega, hb⟩)
      · rw [if_neg h1] at e0
        by_cases h2 : p k < p (omLg p S k).toNat
        · rw [if_pos h2] at e0
          rw [e0]
          by_cases he : i = k
          · rw [he]; omega
          · exact ih i (by omega) hb
        · rw [if_neg h2] at e0
          rw [e0, Int.toNat_natCast]
          by_cases he : i = k
          · rw [he]; exact Int.le_refl _
          · have := ih i (by omega) hb; omega
    · rw [if_neg hk] at e0
      rw [e0]
      by_cases he : i = k
      · subst he; exact absurd hb hk
      · exact ih i (by omega) hb
/-- a set of so many first jobs of a sequence -/
def omFs (q : Nat → Nat) (m S : Nat) : Prop := ∀ b, S.testBit b = true → ∃ i, i < m ∧ q i = b
theorem om_tq_ln {n m S : Nat} {p : Nat → Int} {q : Nat → Nat} (hq : ∀ i, i < n → q i < n) (hinj : ∀ i k, i < n → k < n → q i = q k → i = k) (hm : m ≤ n) (hS : omFs q m S) : omTq p q S m = omLn n p S := by
  have hs := om_inj_onto hq hinj
  have e1 : omLn n p S = omSum n (fun i => if S.testBit (q i) then p (q i) else 0) := (omSum_perm (g := fun j => if S.testBit j then p j else 0) hq hinj hs).symm
  rw [e1]
  refine (omSum_tail hm (fun i hi hin => ?_)).symm
  by_cases hb : S.testBit (q i) = true
  · obtain ⟨k, hk, he⟩ := hS _ hb
    have := hinj k i (by omega) hin he
    omega
  · exact if_neg hb
/-- a job put in for another one -/
theorem om_swap {n T x l : Nat} (hx : ¬ T.testBit x = true) (hl : T.testBit l = true) (hxn : x < n) (hln : l < n) : (∀ g : Nat → Int, omLn n g (omDel T l ||| 2 ^ x) = omLn n g T - g l + g x) ∧ ∀ b, (omDel T l ||| 2 ^ x).testBit b = true → b = x ∨ (T.testBit b = true ∧ b ≠ l) := by
  refine ⟨fun g => ?_, fun b hb => ?_⟩
  · have h1 : ¬ (omDel T l).testBit x = true := by
      rw [omDel_bit, Bool.and_eq_true]
      exact fun h => hx h.1
    rw [omLn_ins hxn h1, omLn_del hln hl]
  · rw [om_ins_bit, omDel_bit, Bool.or_eq_true, Bool.and_eq_true, decide_eq_true_eq] at hb
    rcases hb with ⟨h1, h2⟩ | h
    · refine Or.inr ⟨h1, fun e => ?_⟩
      rw [e] at h2
      simp at h2
    · exact Or.inl h.symm
/-- the step's sets: what is kept, the new job, what is dropped -/
theorem omFw_step {n m : Nat} {p d w r f s : Nat → Int} {q : Nat → Nat} (hok : omOk n p d w r f s) (hq : ∀ i, i < n → q i < n) (hinj : ∀ i k, i < n → k < n → q i = q k → i = k) (hm : m < n) :
    ¬ (omFw n p d q m).1.testBit (q m) = true ∧ omLn n p ((omFw n p d q m).1 ||| 2 ^ (q m)) = omLn n p (omFw n p d q m).1 + p (q m) ∧
    ((omLn n p ((omFw n p d q m).1 ||| 2 ^ (q m)) ≤ d (q m) ∧ (omFw n p d q (m + 1)).1 = (omFw n p d q m).1 ||| 2 ^ (q m)) ∨
     (d (q m) < omLn n p ((omFw n p d q m).1 ||| 2 ^ (q m)) ∧ ∃ l, l < n ∧ ((omFw n p d q m).1 ||| 2 ^ (q m)).testBit l = true ∧ (∀ i, i < n → ((omFw n p d q m).1 ||| 2 ^ (q m)).testBit i = true → p i ≤ p l) ∧ (omFw n p d q (m + 1)).1 = omDel ((omFw n p d q m).1 ||| 2 ^ (q m)) l)) := by
  have hk := (omFw_ok hok hq hinj m (by omega)).1
  have h1 : ¬ (omFw n p d q m).1.testBit (q m) = true := fun h => by
    obtain ⟨i, hi, he⟩ := hk _ h
    have := hinj i m (by omega) hm he
    omega
  refine ⟨h1, omLn_ins (hq m hm) h1, ?_⟩
  by_cases hd : d (q m) < omLn n p ((omFw n p d q m).1 ||| 2 ^ (q m))
  · refine Or.inr ⟨hd, (omLg p ((omFw n p d q m).1 ||| 2 ^ (q m)) n).toNat, ?_⟩
    have hin : ((omFw n p d q m).1 ||| 2 ^ (q m)).testBit (q m) = true := by rw [om_ins_bit]; simp
    obtain ⟨a1, a2, a3, a4⟩ := omLg_ok (p := p) (S := (omFw n p d q m).1 ||| 2 ^ (q m)) n
    have a5 := a4 ⟨q m, hq m hm, hin⟩
    refine ⟨by omega, a3 a5, fun i hi hb => omLg_max n i hi hb, ?_⟩
    rw [omFw_t hd]
  · exact Or.inl ⟨by omega, by rw [omFw_f hd]⟩
theorem om_moore {n : Nat} {p d w r f s : Nat → Int} {q : Nat → Nat} (hok : omOk n p d w r f s) (hq : ∀ i, i < n → q i < n) (hinj : ∀ i k, i < n → k < n → q i = q k → i = k) : ∀ m, m ≤ n → ∀ S, omFs q m S → omOm p d q S m → ∃ T, (∀ b, T.testBit b = true → (omFw n p d q m).1.testBit b = true) ∧ omLn n (fun _ => 1) T = omLn n (fun _ => 1) S ∧ omLn n p T ≤ omLn n p S := by
  intro m
  induction m with
  | zero =>
    intro _ S hS _
    refine ⟨0, fun b hb => ?_, ?_, ?_⟩
    · rw [Nat.zero_testBit] at hb; cases hb
    · exact omLn_congr (fun i _ => by
        rw [Nat.zero_testBit]
        cases hb : S.testBit i with
        | false => rfl
        | true => obtain ⟨k, hk, _⟩ := hS i hb; omega)
    · refine Int.le_of_eq (omLn_congr (fun i _ => ?_))
      rw [Nat.zero_testBit]
      cases hb : S.testBit i with
      | false => rfl
      | true => obtain ⟨k, hk, _⟩ := hS i hb; omega
  | succ m ih =>
    intro hm S hS hO
    obtain ⟨c1, c2, c3⟩ := omFw_step hok hq hinj (m := m) (by omega)
    have hqm := hq m (by omega)
    have hkf := (omFw_ok hok hq hinj m (by omega)).1
    generalize hK : (omFw n p d q m).1 = K at ih c1 c2 c3 hkf
    have hsub : ∀ b, K.testBit b = true → (K ||| 2 ^ (q m)).testBit b = true := fun b hb => by rw [om_ins_bit, hb]; rfl
    have hin : (K ||| 2 ^ (q m)).testBit (q m) = true := by rw [om_ins_bit]; simp
    have hA : ∃ T, (∀ b, T.testBit b = true → (K ||| 2 ^ (q m)).testBit b = true) ∧ omLn n (fun _ => 1) T = omLn n (fun _ => 1) S ∧ omLn n p T ≤ omLn n p S ∧ (d (q m) < omLn n p (K ||| 2 ^ (q m)) → ∃ x, x < n ∧ (K ||| 2 ^ (q m)).testBit x = true ∧ ¬ T.testBit x = true) := by
      by_cases hb : S.testBit (q m) = true
      · have hS0 : omFs q m (omDel S (q m)) := by
          intro b hb0
          rw [omDel_bit, Bool.and_eq_true] at hb0
          obtain ⟨i, hi, he⟩ := hS b hb0.1
          refine ⟨i, ?_, he⟩
          by_cases hie : i = m
          · subst hie
            rw [he] at hb0
            simp at hb0
          · omega
        have hO0 : omOm p d q (omDel S (q m)) m := by
          intro k hk hb0
          have e1 : omTq p q (omDel S (q m)) (k + 1) = omTq p q S (k + 1) := omTq_congr (fun i hi => by
            rw [omDel_bit]
            have : ¬ q m = q i := fun e => by
              have := hinj m i (by omega) (by omega) e
              omega
            simp [this])
          rw [e1]
          rw [omDel_bit, Bool.and_eq_true] at hb0
          exact hO k (by omega) hb0.1
        obtain ⟨T0, t1, t2, t3⟩ := ih (by omega) (omDel S (q m)) hS0 hO0
        have t4 : ¬ T0.testBit (q m) = true := fun h => c1 (t1 _ h)
        have l1 := omLn_del (g := fun _ => (1 : Int)) hqm hb
        have l2 := omLn_del (g := p) hqm hb
        have l3 := omLn_ins (p := fun _ => (1 : Int)) hqm t4
        have l4 := omLn_ins (p := p) hqm t4
        refine ⟨T0 ||| 2 ^ (q m), fun b hb0 => ?_, by omega, by omega, fun hd => ?_⟩
        · rw [om_ins_bit, Bool.or_eq_true] at hb0 ⊢
          rcases hb0 with h | h
          · exact Or.inl (t1 b h)
          · exact Or.inr h
        · apply Classical.byContradiction
          intro hno
          have hle : omLn n p (K ||| 2 ^ (q m)) ≤ omLn n p (T0 ||| 2 ^ (q m)) := omLn_sub (fun i hi => by have := hok.2.1 i hi; omega) (fun i hi hbi => Classical.byContradiction (fun hni => hno ⟨i, hi, hbi, hni⟩))
          have h5 := hO m (by omega) hb
          rw [om_tq_ln hq hinj hm hS] at h5
          omega
      · have hS0 : omFs q m S := by
          intro b hb0
          obtain ⟨i, hi, he⟩ := hS b hb0
          refine ⟨i, ?_, he⟩
          by_cases hie : i = m
          · subst hie
            rw [he] at hb
            exact absurd hb0 hb
          · omega
        obtain ⟨T0, t1, t2, t3⟩ := ih (by omega) S hS0 (fun k hk => hO k (by omega))
        exact ⟨T0, fun b h => hsub b (t1 b h), t2, t3, fun _ => ⟨q m, hqm, hin, fun h => c1 (t1 _ h)⟩⟩
    obtain ⟨T, t1, t2, t3, t4⟩ := hA
    rcases c3 with ⟨hd, he⟩ | ⟨hd, l, hln, hlb, hlm, he⟩
    · exact ⟨T, fun b hb => by rw [he]; exact t1 b hb, t2, t3⟩
    · by_cases hl : T.testBit l = true
      · obtain ⟨x, hx, hxb, hxT⟩ := t4 hd
        obtain ⟨s1, s2⟩ := om_swap hxT hl hx hln
        have hpx := hlm x hx hxb
        refine ⟨omDel T l ||| 2 ^ x, fun b hb => ?_, by rw [s1]; omega, by rw [s1]; omega⟩
        rw [he, omDel_bit, Bool.and_eq_true]
        rcases s2 b hb with h | ⟨h1, h2⟩
        · subst h
          refine ⟨hxb, ?_⟩
          have : ¬ l = b := fun e => hxT (e ▸ hl)
          simp [this]
        · refine ⟨t1 b h1, ?_⟩
          have : ¬ l = b := fun e => h2 e.symm
          simp [this]
      · refine ⟨T, fun b hb => ?_, t2, t3⟩
        rw [he, omDel_bit, Bool.and_eq_true]
        refine ⟨t1 b hb, ?_⟩
        have : ¬ l = b := fun e => hl (e ▸ hb)
        simp [this]
/-- the kept ones are on time by due dates -/
theorem om_kept {n : Nat} {p d w r f s : Nat → Int} {q : Nat → Nat} (hok : omOk n p d w r f s) (hq : omSt (omBk d) n q) : ∀ m, m ≤ n → omOm p d q (omFw n p d q m).1 m ∧ ∀ i, m ≤ i → i < n → omLn n p (omFw n p d q m).1 ≤ d (q i) := by
  have hinj := fun i k (hi : i < n) (hk : k < n) => omSt.inj (omBk_so n d) hq hi hk
  have hd : ∀ i k, i ≤ k → k < n → d (q i) ≤ d (q k) := by
    intro i k hik hk
    by_cases he : i = k
    · rw [he]; exact Int.le_refl _
    · have := hq.2.2 i k (by omega) hk
      unfold omBk at this
      omega
  intro m
  induction m with
  | zero =>
    intro _
    refine ⟨fun k hk => by omega, fun i _ hi => ?_⟩
    have e : (omFw n p d q 0).1 = 0 := rfl
    have := hok.2.1 (q i) (hq.1 i hi)
    rw [e, omLn_0]
    omega
  | succ m ih =>
    intro hm
    obtain ⟨h1, h2⟩ := ih (by omega)
    obtain ⟨c1, c2, c3⟩ := omFw_step hok hq.1 hinj (m := m) (by omega)
    have hqm := hq.1 m (by omega)
    have hpm := hok.2.1 _ hqm
    have hkf := (omFw_ok hok hq.1 hinj (m + 1) hm).1
    have hsame : ∀ i, i < m → ((omFw n p d q m).1 ||| 2 ^ (q m)).testBit (q i) = (omFw n p d q m).1.testBit (q i) := fun i hi => by
      rw [om_ins_bit]
      have : ¬ q m = q i := fun e => by
        have := hinj m i (by omega) (by omega) e
        omega
      simp [this]
    have htot := om_tq_ln (p := p) hq.1 hinj hm hkf
    rcases c3 with ⟨hdd, he⟩ | ⟨hdd, l, hln, hlb, hlm, he⟩
    · rw [he] at htot ⊢
      refine ⟨fun k hk hb => ?_, fun i hi hin => ?_⟩
      · by_cases hkm : k = m
        · subst hkm
          rw [htot]
          exact hdd
        · rw [omTq_congr (S := (omFw n p d q m).1) (fun i hi => hsame i (by omega))]
          rw [hsame k (by omega)] at hb
          exact h1 k (by omega) hb
      · have := hd m i (by omega) hin
        omega
    · have hlen := omLn_del (g := p) hln hlb
      have hpl := hlm (q m) hqm (by rw [om_ins_bit]; simp)
      have hK := h2 m (Nat.le_refl _) (by omega)
      rw [he] at htot ⊢
      refine ⟨fun k hk hb => ?_, fun i hi hin => ?_⟩
      · by_cases hkm : k = m
        · subst hkm
          rw [htot]
          omega
        · rw [omDel_bit, Bool.and_eq_true, hsame k (by omega)] at hb
          have h3 := h1 k (by omega) hb.1
          refine Int.le_trans (omSum_le (fun i hi => ?_)) h3
          have h5 := hok.2.1 (q i) (hq.1 i (by omega))
          show (if (omDel ((omFw n p d q m).1 ||| 2 ^ (q m)) l).testBit (q i) then p (q i) else 0) ≤ (if (omFw n p d q m).1.testBit (q i) then p (q i) else 0)
          rw [omDel_bit, hsame i (by omega)]
          cases (omFw n p d q m).1.testBit (q i) <;> cases decide (l = q i) <;> simp <;> omega
      · have := h2 i (by omega) hin
        omega
