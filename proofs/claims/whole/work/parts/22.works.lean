def omUp (C : Nat → Int) (j : Nat) (v : Int) : Nat → Int := fun i => if i = j then v else C i
theorem omsu_row {σ : omH} {o j : Nat} {v : Int} : omsu σ o j v o = omUp (σ o) j v := by
  funext i
  unfold omsu omUp
  by_cases h : i = j <;> simp [h]
theorem omMv.ex2 {n : Nat} {p d w r f s : Nat → Int} {W : List Nat} {σ σ' : omH} (h : omMv n p d w r f s σ) (he : omEx W σ σ') (h1 : σ' 43 1 = σ 43 1) (hW : ∀ o ∈ [44, 45, 46, 47, 48, 49], o ∉ W) : omMv n p d w r f s σ' := by
  obtain ⟨g1, h2, h3, h4, h5, h6, h7⟩ := h
  refine ⟨by rw [h1]; exact g1, ?_, ?_, ?_, ?_, ?_, ?_⟩
  · rw [he 44 (hW _ (by simp))]; exact h2
  · rw [he 45 (hW _ (by simp))]; exact h3
  · rw [he 46 (hW _ (by simp))]; exact h4
  · rw [he 47 (hW _ (by simp))]; exact h5
  · rw [he 48 (hW _ (by simp))]; exact h6
  · rw [he 49 (hW _ (by simp))]; exact h7
theorem omPC.ex {P : List omPc} {W : List Nat} {σ σ' : omH} (h : omPC P σ) (he : omEx W σ σ') (hW : ∀ o ∈ [24, 25, 26, 27], o ∉ W) : omPC P σ' := by
  obtain ⟨h1, h2, h3⟩ := h
  refine ⟨by rw [he 24 (hW _ (by simp))]; exact h1, h2, fun i x hx => ?_⟩
  rw [he 25 (hW _ (by simp)), he 26 (hW _ (by simp)), he 27 (hW _ (by simp))]
  exact h3 i x hx
theorem omPM.ex {P : List omPc} {W : List Nat} {σ σ' : omH} (h : omPM P σ) (he : omEx W σ σ') (h9 : σ' 43 9 = σ 43 9) (hW : ∀ o ∈ [50, 51, 52], o ∉ W) : omPM P σ' := by
  obtain ⟨h1, h2, h3⟩ := h
  refine ⟨by rw [h9]; exact h1, h2, fun i x hx => ?_⟩
  rw [he 50 (hW _ (by simp)), he 51 (hW _ (by simp)), he 52 (hW _ (by simp))]
  exact h3 i x hx
/-- Plan.addWork -/
theorem s_X5_addWork_eq {P : List omPc} {σ : omH} {j : Nat} {t B : Int} (hP : omPC P σ) (hl : P.length < 20) (hB : 0 ≤ B ∧ B ≤ 100000) (hok : omPok B P) (hj : j < 10) (ht : 0 ≤ t ∧ t ≤ 100000) :
    ∃ σ', s_X5_addWork j t σ = some σ' ∧ omPC (omAdd P (0, (j : Int), t)) σ' ∧ omEx [24, 25, 26, 27, 28] σ σ' ∧ σ' 24 0 = σ 24 0 ∧ σ' 28 = omUp (σ 28) j (omNow P + t) := by
  obtain ⟨σ1, a1, a2, a3, a4⟩ := s_X5_add_eq (e := (0, (j : Int), t)) hP hl hB hok ⟨Int.le_refl 0, by show (0 : Int) ≤ 2; decide⟩ ⟨by show -1 ≤ (j : Int); omega, by show (j : Int) ≤ 9; omega⟩ ht
  refine ⟨omsu σ1 28 j (omNow P + t), ?_, a2.ex (omEx.su (W := [28]) (by simp)) (by simp), (a3.mono (by simp)).trans (omEx.su (by simp)), by rw [omsu_n (Or.inl (by decide))]; exact a4, ?_⟩
  · unfold s_X5_addWork
    have a1' : s_X5_add 0 (j : Int) t σ = some σ1 := a1
    rw [a1', om_b0, s_X5_now_eq a2, om_b0, om_wn (by omega), omg_t ⟨by omega, by omega⟩, Int.toNat_natCast, omAdd_now ht.1]
  · rw [omsu_row, a3 28 (by simp)]
set_option maxHeartbeats 4000000 in
/-- the reference's works -/
theorem s_X12_works_eq {P : List omPc} {σ : omH} {e : omPc} {B : Int} (hP : omPM P σ) (hl : P.length < 20) (hB : 0 ≤ B ∧ B ≤ 100000) (hok : omPok B P) (h1 : 0 ≤ e.1 ∧ e.1 ≤ 2) (h2 : -1 ≤ e.2.1 ∧ e.2.1 ≤ 9) (h20 : e.1 = 0 → 0 ≤ e.2.1) (h3 : 0 ≤ e.2.2 ∧ e.2.2 ≤ 100000) :
    ∃ σ', s_X12_works e.1 e.2.1 e.2.2 σ = some σ' ∧ omPM (omAdd P e) σ' ∧ omEx [43, 50, 51, 52, 53] σ σ' ∧ (∀ k, k ≠ 9 → σ' 43 k = σ 43 k) ∧ (e.1 = 0 → σ' 53 = omUp (σ 53) e.2.1.toNat (omNow P + e.2.2)) ∧ (e.1 ≠ 0 → σ' 53 = σ 53) := by
  have hnow := hok.now hB.1
  obtain ⟨c1, c2, c3⟩ := id hP
  -- the pieces alone
  have key : ∃ τ υ, (if 0 < omw e.2.2 then (if omw (σ 43 9) = 0 then omg (0 ≤ omw (σ 43 9) ∧ omw (σ 43 9) < 64) (omg (0 ≤ omw ((omsu σ 50 (omw (σ 43 9)).toNat e.1) 43 9) ∧ omw ((omsu σ 50 (omw (σ 43 9)).toNat e.1) 43 9) < 64) (some (omsu (omsu (omsu σ 50 (omw (σ 43 9)).toNat e.1) 51 (omw ((omsu σ 50 (omw (σ 43 9)).toNat e.1) 43 9)).toNat e.2.1) 43 9 (((omsu (omsu σ 50 (omw (σ 43 9)).toNat e.1) 51 (omw ((omsu σ 50 (omw (σ 43 9)).toNat e.1) 43 9)).toNat e.2.1) 43 9) + 1)))) else omg (0 ≤ omw ((σ 43 9) - 1) ∧ omw ((σ 43 9) - 1) < 64) ((if omw (σ 50 (omw ((σ 43 9) - 1)).toNat) = omw e.1 then omg (0 ≤ omw ((σ 43 9) - 1) ∧ omw ((σ 43 9) - 1) < 64) ((if omw (σ 51 (omw ((σ 43 9) - 1)).toNat) = omw e.2.1 then some (σ) else omg (0 ≤ omw (σ 43 9) ∧ omw (σ 43 9) < 64) (omg (0 ≤ omw ((omsu σ 50 (omw (σ 43 9)).toNat e.1) 43 9) ∧ omw ((omsu σ 50 (omw (σ 43 9)).toNat e.1) 43 9) < 64) (some (omsu (omsu (omsu σ 50 (omw (σ 43 9)).toNat e.1) 51 (omw ((omsu σ 50 (omw (σ 43 9)).toNat e.1) 43 9)).toNat e.2.1) 43 9 (((omsu (omsu σ 50 (omw (σ 43 9)).toNat e.1) 51 (omw ((omsu σ 50 (omw (σ 43 9)).toNat e.1) 43 9)).toNat e.2.1) 43 9) + 1)))))) else omg (0 ≤ omw (σ 43 9) ∧ omw (σ 43 9) < 64) (omg (0 ≤ omw ((omsu σ 50 (omw (σ 43 9)).toNat e.1) 43 9) ∧ omw ((omsu σ 50 (omw (σ 43 9)).toNat e.1) 43 9) < 64) (some (omsu (omsu (omsu σ 50 (omw (σ 43 9)).toNat e.1) 51 (omw ((omsu σ 50 (omw (σ 43 9)).toNat e.1) 43 9)).toNat e.2.1) 43 9 (((omsu (omsu σ 50 (omw (σ 43 9)).toNat e.1) 51 (omw ((omsu σ 50 (omw (σ 43 9)).toNat e.1) 43 9)).toNat e.2.1) 43 9) + 1))))))) else some (σ)) = some τ ∧ (if 0 < omw e.2.2 then omg (0 ≤ omw ((τ 43 9) - 1) ∧ omw ((τ 43 9) - 1) < 64) (some (omsu τ 52 (omw ((τ 43 9) - 1)).toNat (omNow P + e.2.2))) else some (τ)) = some υ ∧ omPM (omAdd P e) υ ∧ omEx [43, 50, 51, 52] σ υ ∧ (∀ k, k ≠ 9 → υ 43 k = σ 43 k) := by
    have d1 : ∀ (τ : omH) (i : Nat) (v : Int), omsu τ 50 i v 43 9 = τ 43 9 := fun τ i v => omsu_n (Or.inl (by decide))
    have d2 : ∀ (τ : omH) (i : Nat) (v : Int), omsu τ 51 i v 43 9 = τ 43 9 := fun τ i v => omsu_n (Or.inl (by decide))
    simp only [d1, d2, c1]
    rw [omw_id (a := e.2.2) (by omega) (by omega)]
    simp only [om_wn (show P.length < 2147483648 by omega), Int.toNat_natCast]
    by_cases ht : 0 < e.2.2
    · simp only [if_pos ht]
      have hnew : omAdd P e = (e.1, e.2.1, omNow P + e.2.2) :: P → ∃ τ υ, omg (0 ≤ ((P.length : Nat) : Int) ∧ ((P.length : Nat) : Int) < 64) (omg (0 ≤ ((P.length : Nat) : Int) ∧ ((P.length : Nat) : Int) < 64) (some (omsu (omsu (omsu σ 50 P.length e.1) 51 P.length e.2.1) 43 9 (((P.length : Nat) : Int) + 1)))) = some τ ∧ omg (0 ≤ omw ((τ 43 9) - 1) ∧ omw ((τ 43 9) - 1) < 64) (some (omsu τ 52 (omw ((τ 43 9) - 1)).toNat (omNow P + e.2.2))) = some υ ∧ omPM (omAdd P e) υ ∧ omEx [43, 50, 51, 52] σ υ ∧ (∀ k, k ≠ 9 → υ 43 k = σ 43 k) := by
        intro ha
        rw [omg_t ⟨by omega, by omega⟩, omg_t ⟨by omega, by omega⟩]
        refine ⟨_, omsu (omsu (omsu (omsu σ 50 P.length e.1) 51 P.length e.2.1) 43 9 (((P.length : Nat) : Int) + 1)) 52 P.length (omNow P + e.2.2), rfl, ?_, ?_, ?_, ?_⟩
        · have e1 : (((P.length : Nat) : Int) + 1 - 1) = ((P.length : Nat) : Int) := by omega
          simp only [omsu_s, e1, om_wn (show P.length < 2147483648 by omega), Int.toNat_natCast]
          rw [omg_t ⟨by omega, by omega⟩]
        · rw [ha]
          refine hP.push hl ?_ ⟨?_, ?_, ?_⟩ ?_
          · rw [omsu_n (Or.inl (by decide)), omsu_s]; omega
          · rw [omsu_n (Or.inl (by decide)), omsu_n (Or.inl (by decide)), omsu_n (Or.inl (by decide)), omsu_s]
          · rw [omsu_n (Or.inl (by decide)), omsu_n (Or.inl (by decide)), omsu_s]
          · rw [omsu_s]
          · intro i hi
            refine ⟨?_, ?_, ?_⟩
            · rw [omsu_n (Or.inl (by decide)), omsu_n (Or.inl (by decide)), omsu_n (Or.inl (by decide)), omsu_n (Or.inr (by omega))]
            · rw [omsu_n (Or.inl (by decide)), omsu_n (Or.inl (by decide)), omsu_n (Or.inr (by omega)), omsu_n (Or.inl (by decide))]
            · rw [omsu_n (Or.inr (by omega)), omsu_n (Or.inl (by decide)), omsu_n (Or.inl (by decide)), omsu_n (Or.inl (by decide))]
        · exact (((omEx.su (by simp)).trans (omEx.su (by simp))).trans (omEx.su (by simp))).trans (omEx.su (by simp))
        · intro k hk
          rw [omsu_n (Or.inl (by decide)), omsu_n (Or.inr hk), omsu_n (Or.inl (by decide)), omsu_n (Or.inl (by decide))]
      cases P with
      | nil =>
        rw [if_pos (by rfl)]
        refine hnew ?_
        show (if 0 < e.2.2 then [e] else []) = _
        rw [if_pos ht]
        show [e] = [(e.1, e.2.1, 0 + e.2.2)]
        rw [Int.zero_add]
      | cons x T =>
        have hx := c3 T.length x om_rev_head
        have hxo := hok x List.mem_cons_self
        simp only [List.length_cons] at hl c1 hnew ⊢
        have e1 : (((T.length + 1 : Nat) : Int) - 1) = (T.length : Int) := by omega
        rw [if_neg (by omega)]
        simp only [e1, om_wn (show T.length < 2147483648 by omega), Int.toNat_natCast]
        rw [omg_t ⟨by omega, by omega⟩, omg_t ⟨by omega, by omega⟩, hx.1, hx.2.1, omw_id (a := x.1) (by omega) (by omega), omw_id (a := e.1) (by omega) (by omega), omw_id (a := x.2.1) (by omega) (by omega), omw_id (a := e.2.1) (by omega) (by omega)]
        by_cases hs : x.1 = e.1 ∧ x.2.1 = e.2.1
        · rw [if_pos hs.1, if_pos hs.2]
          refine ⟨σ, omsu σ 52 T.length (omNow (x :: T) + e.2.2), rfl, ?_, ?_, omEx.su (by simp), fun k hk => by rw [omsu_n (Or.inl (by decide))]⟩
          · simp only [c1, e1, om_wn (show T.length < 2147483648 by omega), Int.toNat_natCast]
            rw [omg_t ⟨by omega, by omega⟩]
          · have := hP.grow (v := omNow (x :: T) + e.2.2)
            show omPM (if x.1 = e.1 ∧ x.2.1 = e.2.1 then _ else _) _
            rw [if_pos hs]
            exact this
        · have hz : ∀ z : Option omH, (if x.1 = e.1 then (if x.2.1 = e.2.1 then some σ else z) else z) = z := by
            intro z
            split
            · rename_i ha
              rw [if_neg (fun hb => hs ⟨ha, hb⟩)]
            · rfl
          rw [hz]
          refine hnew ?_
          show (if x.1 = e.1 ∧ x.2.1 = e.2.1 then _ else if 0 < e.2.2 then _ else _) = _
          rw [if_neg hs, if_pos ht]
          rfl
    · simp only [if_neg ht]
      refine ⟨σ, σ, rfl, rfl, ?_, omEx.rfl', fun _ _ => rfl⟩
      have h0 : e.2.2 = 0 := by omega
      unfold omAdd
      split
      · first | exact hP | (rw [if_neg ht]; exact hP)
      · split
        · rw [h0, Int.add_zero]; exact hP
        · first | exact hP | (rw [if_neg ht]; exact hP)
  obtain ⟨τ, υ, k1, k2, k3, k4, k5⟩ := key
  unfold s_X12_works
  rw [s_X12_now_eq hP, om_b0]
  rw [k1, om_b0, k2, om_b0, omw_id (a := e.1) (by omega) (by omega)]
  by_cases h0 : e.1 = 0
  · rw [if_pos h0]
    have hj := h20 h0
    rw [omw_id (a := e.2.1) (by omega) (by omega), omg_t ⟨by omega, by omega⟩]
    refine ⟨_, rfl, k3.ex (omEx.su (W := [53]) (by simp)) (by rw [omsu_n (Or.inl (by decide))]) (by simp), (k4.mono (by simp)).trans (omEx.su (by simp)), fun k hk => by rw [omsu_n (Or.inl (by decide))]; exact k5 k hk, fun _ => ?_, fun h => absurd h0 h⟩
    rw [omsu_row, k4 53 (by simp)]
  · rw [if_neg h0]
    exact ⟨υ, rfl, k3, k4.mono (by simp), k5, fun h => absurd h h0, fun _ => k4 53 (by simp)⟩
