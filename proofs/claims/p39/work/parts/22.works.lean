def omUp (C : Nat → Int) (j : Nat) (v : Int) : Nat → Int := fun i => if i = j then v else C i
theorem omsu_row {σ : omH} {o j : Nat} {v : Int} : omsu σ o j v o = omUp (σ o) j v := by
  funext i
  unfold omsu omUp
  by_cases h : i = j <;> simp [h]
theorem omPC.ex {P : List omPc} {W : List Nat} {σ σ' : omH} (h : omPC P σ) (he : omEx W σ σ') (hW : ∀ o ∈ [24, 25, 26, 27], o ∉ W) : omPC P σ' := by
  obtain ⟨h1, h2, h3⟩ := h
  refine ⟨by rw [he 24 (hW _ (by simp))]; exact h1, h2, fun i x hx => ?_⟩
  rw [he 25 (hW _ (by simp)), he 26 (hW _ (by simp)), he 27 (hW _ (by simp))]
  exact h3 i x hx
/-- Plan.addWork -/
theorem s_X5_addWork_eq {P : List omPc} {σ : omH} {j : Nat} {t B : Int} (hP : omPC P σ) (hl : P.length < 20) (hB : 0 ≤ B ∧ B ≤ 100000) (hok : omPok B P) (hj : j < 10) (ht : 0 ≤ t ∧ t ≤ 100000) :
    ∃ σ', s_X5_addWork j t σ = some σ' ∧ omPC (omAdd P (0, (j : Int), t)) σ' ∧ omEx [24, 25, 26, 27, 28] σ σ' ∧ σ' 24 0 = σ 24 0 ∧ σ' 28 = omUp (σ 28) j (omNow P + t) := by
  obtain ⟨σ1, a1, a2, a3, a4⟩ := s_X5_add_eq (e := (0, (j : Int), t)) hP hl hB hok ⟨Int.le_refl 0, by show (0 : Int) ≤ 2; decide⟩ ⟨by show -1 ≤ (j : Int); omega, by show (j : Int) ≤ 9; omega⟩ ht
  refine ⟨omsu σ1 28 j (omNow P + t), ?_, a2.ex (omEx.su (W := [28]) (by simp)) (by simp), (a3.mono (by simp)).trans (omEx.su (by simp)), by rw [omsu_n (Or.inl (by decide))]; exact a4, ?_⟩
  · unfold s_X5_addWork
    have a1' : s_X5_add 0 (j : Int) t σ = some σ1 := a1
    rw [a1', om_b0, s_X5_now_eq a2, om_b0, om_wn (by omega), omg_t ⟨by omega, by omega⟩, Int.toNat_natCast, omAdd_now ht.1]
  · rw [omsu_row, a3 28 (by simp)]
