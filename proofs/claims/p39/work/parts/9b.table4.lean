/-! ===== p39: the law's table: a job told, a job gone ===== -/
def omP5 (σ : omH) (j : Nat) (A B C D E : Int) : omH := omsu (omsu (omsu (omsu (omsu σ 43 j A) 43 (10 + j) B) 43 (20 + j) C) 43 (30 + j) D) 43 (40 + j) E
theorem omP5_ex {σ : omH} {j : Nat} {A B C D E : Int} : omEx [43] σ (omP5 σ j A B C D E) := ((((omEx.su (by simp)).trans (omEx.su (by simp))).trans (omEx.su (by simp))).trans (omEx.su (by simp))).trans (omEx.su (by simp))
theorem omP5_other {σ : omH} {j k : Nat} {A B C D E : Int} (h0 : k ≠ j) (h1 : k ≠ 10 + j) (h2 : k ≠ 20 + j) (h3 : k ≠ 30 + j) (h4 : k ≠ 40 + j) : omP5 σ j A B C D E 43 k = σ 43 k := by
  unfold omP5
  rw [omsu_n (Or.inr h4), omsu_n (Or.inr h3), omsu_n (Or.inr h2), omsu_n (Or.inr h1), omsu_n (Or.inr h0)]
theorem omP5_own {σ : omH} {j : Nat} {A B C D E : Int} : omP5 σ j A B C D E 43 j = A ∧ omP5 σ j A B C D E 43 (10 + j) = B ∧ omP5 σ j A B C D E 43 (20 + j) = C ∧ omP5 σ j A B C D E 43 (30 + j) = D ∧ omP5 σ j A B C D E 43 (40 + j) = E := by
  unfold omP5
  refine ⟨?_, ?_, ?_, ?_, omsu_s⟩
  · rw [omsu_n (Or.inr (by omega)), omsu_n (Or.inr (by omega)), omsu_n (Or.inr (by omega)), omsu_n (Or.inr (by omega)), omsu_s]
  · rw [omsu_n (Or.inr (by omega)), omsu_n (Or.inr (by omega)), omsu_n (Or.inr (by omega)), omsu_s]
  · rw [omsu_n (Or.inr (by omega)), omsu_n (Or.inr (by omega)), omsu_s]
  · rw [omsu_n (Or.inr (by omega)), omsu_s]
/-- a job told at a place, and the number of jobs -/
theorem omTb.put {n n' j : Nat} {p d w r f s : Nat → Int} {σ σ' : omH} {A B C D E : Int} (h : omTb n p d w r f s σ) (hn : n ≤ 10) (hn' : n' ≤ 10) (hj : j < 10) (hin : ∀ i, i < n' → i ≠ j → i < n) (h54 : σ' 43 54 = n') (hr : ∀ k, k ≠ 54 → σ' 43 k = omP5 σ j A B C D E 43 k) : omTb n' (omUp p j A) (omUp d j B) (omUp w j C) (omUp r j D) (omUp f j E) s σ' := by
  refine ⟨h54, fun i hi => ?_, fun q hq => ?_⟩
  · by_cases he : i = j
    · subst he
      obtain ⟨a1, a2, a3, a4, a5⟩ := omP5_own (σ := σ) (j := i) (A := A) (B := B) (C := C) (D := D) (E := E)
      rw [omUp_s, omUp_s, omUp_s, omUp_s, omUp_s]
      exact ⟨by rw [hr i (by omega)]; exact a1, by rw [hr (10 + i) (by omega)]; exact a2, by rw [hr (20 + i) (by omega)]; exact a3, by rw [hr (30 + i) (by omega)]; exact a4, by rw [hr (40 + i) (by omega)]; exact a5⟩
    · have hin' := hin i hi he
      obtain ⟨a1, a2, a3, a4, a5⟩ := h.2.1 i hin'
      rw [omUp_n he, omUp_n he, omUp_n he, omUp_n he, omUp_n he]
      refine ⟨?_, ?_, ?_, ?_, ?_⟩
      · rw [hr i (by omega), omP5_other (by omega) (by omega) (by omega) (by omega) (by omega)]; exact a1
      · rw [hr (10 + i) (by omega), omP5_other (by omega) (by omega) (by omega) (by omega) (by omega)]; exact a2
      · rw [hr (20 + i) (by omega), omP5_other (by omega) (by omega) (by omega) (by omega) (by omega)]; exact a3
      · rw [hr (30 + i) (by omega), omP5_other (by omega) (by omega) (by omega) (by omega) (by omega)]; exact a4
      · rw [hr (40 + i) (by omega), omP5_other (by omega) (by omega) (by omega) (by omega) (by omega)]; exact a5
  · rw [hr (50 + q) (by omega), omP5_other (by omega) (by omega) (by omega) (by omega) (by omega)]
    exact h.2.2 q hq
theorem om_tm {x m : Nat} {M : Int} (hM : omw M = (m : Int)) (hx : x < 2147483648) : (omw (x : Int)).tmod (omw M) = ((x % m : Nat) : Int) := by
  rw [om_wn hx, hM, om_tmod]
theorem om_td {x m : Nat} {M : Int} (hM : omw M = (m : Int)) (hx : x < 2147483648) : (omw (x : Int)).tdiv (omw M) = ((x / m : Nat) : Int) := by
  rw [om_wn hx, hM, om_tdiv]
theorem om_div_lt {x m : Nat} (hx : x < 2147483648) : x / m < 2147483648 := Nat.lt_of_le_of_lt (Nat.div_le_self x m) hx
theorem om_if01 {c : Prop} [Decidable c] {a b : Int} : (if c then some a else some b) = some (if c then a else b) := by split <;> rfl
theorem om_mod_w {k m : Nat} (hm : m < 2147483648) (h0 : 0 < m) : omw ((k % m : Nat) : Int) = ((k % m : Nat) : Int) := om_wn (Nat.lt_trans (Nat.mod_lt k h0) hm)
/-- a job's numbers out of two of the script's -/
theorem s_L_tells_eq {j x y : Nat} {σ : omH} (hj : j < 10) (hx : x < 2147483648) (hy : y < 2147483648) : ∃ A B C D E, omRg A B C D E ∧ s_L_tells (j : Int) (x : Int) (y : Int) σ = some (omP5 σ j A B C D E) := by
  have t3 : (omw (y : Int)).tmod (omw 3) = ((y % 3 : Nat) : Int) := om_tm (by decide) hy
  have t2 : (omw (x : Int)).tmod (omw 2) = ((x % 2 : Nat) : Int) := om_tm (by decide) hx
  have t30 : (omw (x : Int)).tmod (omw 30) = ((x % 30 : Nat) : Int) := om_tm (by decide) hx
  have d30 : (omw (x : Int)).tdiv (omw 30) = ((x / 30 : Nat) : Int) := om_td (by decide) hx
  have d90 : (omw (x : Int)).tdiv (omw 9030) = ((x / 9030 : Nat) : Int) := om_td (by decide) hx
  have d10 : (omw (y : Int)).tdiv (omw 101) = ((y / 101 : Nat) : Int) := om_td (by decide) hy
  have m20 : (omw ((x / 9030 : Nat) : Int)).tmod (omw 20) = ((x / 9030 % 20 : Nat) : Int) := om_tm (by decide) (om_div_lt hx)
  have m4 : (omw ((y / 101 : Nat) : Int)).tmod (omw 4) = ((y / 101 % 4 : Nat) : Int) := om_tm (by decide) (om_div_lt hy)
  -- the two divisors
  obtain ⟨M, hM, hMr⟩ : ∃ M : Nat, (if omw ((y % 3 : Nat) : Int) = 0 then some (301 : Int) else some 90) = some (M : Int) ∧ (M = 301 ∨ M = 90) := by
    by_cases h : omw ((y % 3 : Nat) : Int) = 0
    · exact ⟨301, by rw [if_pos h]; rfl, Or.inl rfl⟩
    · exact ⟨90, by rw [if_neg h]; rfl, Or.inr rfl⟩
  obtain ⟨K, hK, hKr⟩ : ∃ K : Nat, (if omw ((x % 2 : Nat) : Int) = 0 then some (101 : Int) else some 40) = some (K : Int) ∧ (K = 101 ∨ K = 40) := by
    by_cases h : omw ((x % 2 : Nat) : Int) = 0
    · exact ⟨101, by rw [if_pos h]; rfl, Or.inl rfl⟩
    · exact ⟨40, by rw [if_neg h]; rfl, Or.inr rfl⟩
  have wM : omw (M : Int) = (M : Int) := by rcases hMr with h | h <;> rw [h] <;> rfl
  have wK : omw (K : Int) = (K : Int) := by rcases hKr with h | h <;> rw [h] <;> rfl
  have nM : ¬ omw (M : Int) = 0 := by rcases hMr with h | h <;> rw [h] <;> decide
  have nK : ¬ omw (K : Int) = 0 := by rcases hKr with h | h <;> rw [h] <;> decide
  have mM : (omw ((x / 30 : Nat) : Int)).tmod (omw (M : Int)) = ((x / 30 % M : Nat) : Int) := om_tm wM (om_div_lt hx)
  have mK : (omw (y : Int)).tmod (omw (K : Int)) = ((y % K : Nat) : Int) := om_tm wK hy
  refine ⟨1 + ((x % 30 : Nat) : Int), ((x / 30 % M : Nat) : Int), 1 + ((x / 9030 % 20 : Nat) : Int), ((y % K : Nat) : Int), ((y / 101 % 4 : Nat) : Int), ?_, ?_⟩
  · have a1 := Nat.mod_lt x (show 0 < 30 by decide)
    have a2 : x / 30 % M < 301 := by
      rcases hMr with h | h
      · rw [h]; exact Nat.mod_lt _ (by decide)
      · rw [h]; exact Nat.lt_trans (Nat.mod_lt _ (by decide)) (by decide)
    have a3 := Nat.mod_lt (x / 9030) (show 0 < 20 by decide)
    have a4 : y % K < 101 := by
      rcases hKr with h | h
      · rw [h]; exact Nat.mod_lt _ (by decide)
      · rw [h]; exact Nat.lt_trans (Nat.mod_lt _ (by decide)) (by decide)
    have a5 := Nat.mod_lt (y / 101) (show 0 < 4 by decide)
    unfold omRg
    generalize x % 30 = z1 at a1
    generalize x / 30 % M = z2 at a2
    generalize x / 9030 % 20 = z3 at a3
    generalize y % K = z4 at a4
    generalize y / 101 % 4 = z5 at a5
    exact ⟨⟨by omega, by omega⟩, ⟨by omega, by omega⟩, ⟨by omega, by omega⟩, ⟨by omega, by omega⟩, ⟨by omega, by omega⟩⟩
  · have i0 : omw (j : Int) = (j : Int) := om_wn (Nat.lt_trans hj (by decide))
    have g0 := om_ixg (Nat.lt_trans hj (by decide : 10 < 55))
    have l1 := om_lt55 (C := 10) hj (Nat.le_refl 10) (by decide)
    have l2 := om_lt55 (C := 20) hj (Nat.le_refl 10) (by decide)
    have l3 := om_lt55 (C := 30) hj (Nat.le_refl 10) (by decide)
    have l4 := om_lt55 (C := 40) hj (Nat.le_refl 10) (by decide)
    unfold s_L_tells
    rw [t3, hM, t2, hK, t30, d30, d90, d10, m20, m4, om_ix (c := 10) (C := 10) rfl l1, om_ix (c := 20) (C := 20) rfl l2, om_ix (c := 30) (C := 30) rfl l3, om_ix (c := 40) (C := 40) rfl l4, i0, omg_t (show ¬ omw 30 = 0 by decide), omg_t g0, omg_t (show ¬ omw 30 = 0 by decide), omg_t (show ¬ omw 3 = 0 by decide), om_b0, mM, omg_t nM, omg_t (om_ixg l1), omg_t (show ¬ omw 9030 = 0 by decide), omg_t (show ¬ omw 20 = 0 by decide), omg_t (om_ixg l2), omg_t (show ¬ omw 2 = 0 by decide), om_b0, mK, omg_t nK, omg_t (om_ixg l3), omg_t (show ¬ omw 101 = 0 by decide), omg_t (show ¬ omw 4 = 0 by decide), omg_t (om_ixg l4), Int.toNat_natCast, Int.toNat_natCast, Int.toNat_natCast, Int.toNat_natCast, Int.toNat_natCast]
    rfl
/-- what the step does where no job is told anew -/
def step_rest (v2 v3 v4 : Int) (σ : omH) : Option (Int × omH) := omg (¬ omw 8 = 0) ((if omw ((omw v2).tmod (omw 8)) = omw 7 then omg (¬ omw 4 = 0) (omg (0 ≤ omw (50 + ((omw v3).tmod (omw 4))) ∧ omw (50 + ((omw v3).tmod (omw 4))) < 55) (omg (¬ omw 4 = 0) (omg (¬ omw 21 = 0) (omg (0 ≤ omw (50 + ((omw v3).tmod (omw 4))) ∧ omw (50 + ((omw v3).tmod (omw 4))) < 55) (omg (¬ omw 4 = 0) (omg (¬ omw 21 = 0) (Option.bind (s_X11_setSetup ((omw v3).tmod (omw 4)) ((omw v4).tmod (omw 21)) (omsu σ 43 (omw (50 + ((omw v3).tmod (omw 4)))).toNat ((omw v4).tmod (omw 21)))) (fun r38 => Sum.elim (fun u39 => none) (fun u39 => (if omw u39.1 = omw (σ 43 (omw (50 + ((omw v3).tmod (omw 4)))).toNat) then Option.bind (s_X11_hasPlan  u39.2) (fun r40 => (if omw r40 = 0 then some (1, u39.2) else some (0, u39.2))) else some (0, u39.2))) r38)))))))) else (if omw (σ 43 (omw 54).toNat) = 0 then Option.bind (s_X11_hasPlan  σ) (fun r26 => (if omw r26 = 0 then Option.bind (s_X11_pieces  σ) (fun r27 => (if omw r27 = 0 then Option.bind (s_X11_fewestLateBySets  σ) (fun r28 => (if omw r28.1 = 0 then Option.bind (s_X11_canBeOnTime 0 r28.2) (fun r29 => Sum.elim (fun u30 => none) (fun u30 => (if omw u30.1 = 0 then some (0, u30.2) else some (1, u30.2))) r29) else some (0, r28.2))) else some (0, σ))) else some (0, σ))) else omg (¬ omw (σ 43 (omw 54).toNat) = 0) (omg (¬ omw 8 = 0) ((if omw ((omw v2).tmod (omw 8)) = omw 6 then Option.bind (s_L_tells ((omw v3).tmod (omw (σ 43 (omw 54).toNat))) v4 v3 σ) (fun r16 => omg (0 ≤ omw ((omw v3).tmod (omw (σ 43 (omw 54).toNat))) ∧ omw ((omw v3).tmod (omw (σ 43 (omw 54).toNat))) < 55) (omg (0 ≤ omw (10 + ((omw v3).tmod (omw (σ 43 (omw 54).toNat)))) ∧ omw (10 + ((omw v3).tmod (omw (σ 43 (omw 54).toNat)))) < 55) (omg (0 ≤ omw (20 + ((omw v3).tmod (omw (σ 43 (omw 54).toNat)))) ∧ omw (20 + ((omw v3).tmod (omw (σ 43 (omw 54).toNat)))) < 55) (omg (0 ≤ omw (30 + ((omw v3).tmod (omw (σ 43 (omw 54).toNat)))) ∧ omw (30 + ((omw v3).tmod (omw (σ 43 (omw 54).toNat)))) < 55) (omg (0 ≤ omw (40 + ((omw v3).tmod (omw (σ 43 (omw 54).toNat)))) ∧ omw (40 + ((omw v3).tmod (omw (σ 43 (omw 54).toNat)))) < 55) (Option.bind (s_X11_changeJob ((omw v3).tmod (omw (σ 43 (omw 54).toNat))) (r16 43 (omw ((omw v3).tmod (omw (σ 43 (omw 54).toNat)))).toNat) (r16 43 (omw (10 + ((omw v3).tmod (omw (σ 43 (omw 54).toNat))))).toNat) (r16 43 (omw (20 + ((omw v3).tmod (omw (σ 43 (omw 54).toNat))))).toNat) (r16 43 (omw (30 + ((omw v3).tmod (omw (σ 43 (omw 54).toNat))))).toNat) (r16 43 (omw (40 + ((omw v3).tmod (omw (σ 43 (omw 54).toNat))))).toNat) r16) (fun r22 => Sum.elim (fun u23 => none) (fun u23 => Option.bind (s_X11_hasPlan  u23) (fun r24 => (if omw r24 = 0 then Option.bind (s_X11_jobs  u23) (fun r25 => (if omw r25 = omw (σ 43 (omw 54).toNat) then some (1, u23) else some (0, u23))) else some (0, u23)))) r22))))))) else omg (0 ≤ omw 54 ∧ omw 54 < 55) (omg (0 ≤ omw 54 ∧ omw 54 < 55) (Option.bind (l_L_step_301 (σ 43 (omw 54).toNat) ((omw v3).tmod (omw (σ 43 (omw 54).toNat))) FU ((omw v3).tmod (omw (σ 43 (omw 54).toNat))) (omsu σ 43 (omw 54).toNat ((σ 43 (omw 54).toNat) - 1))) (fun t12 => Option.bind (s_X11_removeJob ((omw v3).tmod (omw (σ 43 (omw 54).toNat))) t12) (fun r13 => Sum.elim (fun u14 => none) (fun u14 => (if omw u14.1 = omw ((σ 43 (omw 54).toNat) - 1) then Option.bind (s_X11_hasPlan  u14.2) (fun r15 => (if omw r15 = 0 then some (1, u14.2) else some (0, u14.2))) else some (0, u14.2))) r13))))))))))
def step_add (v2 v3 v4 : Int) (σ : omH) : Option (Int × omH) := Option.bind (s_L_tells (σ 43 (omw 54).toNat) v3 v4 σ) (fun r75 => omg (0 ≤ omw 54 ∧ omw 54 < 55) (omg (0 ≤ omw 54 ∧ omw 54 < 55) (omg (0 ≤ omw (σ 43 (omw 54).toNat) ∧ omw (σ 43 (omw 54).toNat) < 55) (omg (0 ≤ omw (10 + (σ 43 (omw 54).toNat)) ∧ omw (10 + (σ 43 (omw 54).toNat)) < 55) (omg (0 ≤ omw (20 + (σ 43 (omw 54).toNat)) ∧ omw (20 + (σ 43 (omw 54).toNat)) < 55) (omg (0 ≤ omw (30 + (σ 43 (omw 54).toNat)) ∧ omw (30 + (σ 43 (omw 54).toNat)) < 55) (omg (0 ≤ omw (40 + (σ 43 (omw 54).toNat)) ∧ omw (40 + (σ 43 (omw 54).toNat)) < 55) (Option.bind (s_X11_addJob ((omsu r75 43 (omw 54).toNat ((r75 43 (omw 54).toNat) + 1)) 43 (omw (σ 43 (omw 54).toNat)).toNat) ((omsu r75 43 (omw 54).toNat ((r75 43 (omw 54).toNat) + 1)) 43 (omw (10 + (σ 43 (omw 54).toNat))).toNat) ((omsu r75 43 (omw 54).toNat ((r75 43 (omw 54).toNat) + 1)) 43 (omw (20 + (σ 43 (omw 54).toNat))).toNat) ((omsu r75 43 (omw 54).toNat ((r75 43 (omw 54).toNat) + 1)) 43 (omw (30 + (σ 43 (omw 54).toNat))).toNat) ((omsu r75 43 (omw 54).toNat ((r75 43 (omw 54).toNat) + 1)) 43 (omw (40 + (σ 43 (omw 54).toNat))).toNat) (omsu r75 43 (omw 54).toNat ((r75 43 (omw 54).toNat) + 1))) (fun r83 => Sum.elim (fun u84 => none) (fun u84 => (if omw u84.1 = omw (σ 43 (omw 54).toNat) then Option.bind (s_X11_jobs  u84.2) (fun r85 => (if omw r85 = omw ((σ 43 (omw 54).toNat) + 1) then Option.bind (s_X11_hasPlan  u84.2) (fun r86 => (if omw r86 = 0 then some (1, u84.2) else some (0, u84.2))) else some (0, u84.2))) else some (0, u84.2))) r83)))))))))
theorem s_L_step_cut {v2 v3 v4 : Int} {σ : omH} : s_L_step v2 v3 v4 σ = (if omw ((omw v2).tmod (omw 8)) < omw 5 then (if omw (σ 43 54) < omw 10 then step_add v2 v3 v4 σ else step_rest v2 v3 v4 σ) else step_rest v2 v3 v4 σ) := by
  unfold s_L_step
  rw [omg_t om_54, omg_t (show ¬ omw 8 = 0 by decide)]
  rfl
