/-! ===== what holds between two operations ===== -/
theorem omcmp_self (a : Int) : omcmp a a = 0 := by unfold omcmp; simp
theorem s_X11_isWithin_eq {v a b : Int} {σ : omH} (hv : -2147483648 ≤ v ∧ v < 2147483648) (ha : -2147483648 ≤ a ∧ a < 2147483648) (hb : -2147483648 ≤ b ∧ b < 2147483648) : s_X11_isWithin v a b σ = some (omIf (a ≤ v ∧ v ≤ b)) := by
  unfold s_X11_isWithin
  rw [omw_id hv.1 hv.2, omw_id ha.1 ha.2, omw_id hb.1 hb.2]
  by_cases h : a ≤ v ∧ v ≤ b
  · rw [omIf_t h, if_neg (by omega), if_neg (by omega)]
  · rw [omIf_f h]
    split
    · rfl
    · rw [if_pos (by omega)]
theorem om_if0 {P : Prop} {α : Type} {a b : α} (h : P) : (if omw (omIf P) = 0 then a else b) = b := by rw [omIf_t h, if_neg (by decide)]
theorem om_if1 {P : Prop} {α : Type} {a b : α} (h : ¬ P) : (if omw (omIf P) = 0 then a else b) = a := by rw [omIf_f h, if_pos (by decide)]
theorem s_X11_needJob_eq {n : Nat} {p d w r f s : Nat → Int} {v : Int} {σ : omH} (hok : omOk n p d w r f s) (hc : omCv n p d w r f s σ) (hv : -2147483648 ≤ v ∧ v < 2147483648) : (0 ≤ v ∧ v < n → s_X11_needJob v σ = some (Sum.inr ())) ∧ (¬ (0 ≤ v ∧ v < n) → s_X11_needJob v σ = some (Sum.inl 3)) := by
  have hn := hok.1
  unfold s_X11_needJob
  rw [hc.1, s_X11_isWithin_eq hv (by decide) (by omega), om_b0]
  exact ⟨fun h => om_if0 (by omega), fun h => om_if1 (by omega)⟩
/-! .. the counts -/
/-! .. the pieces -/
theorem s_X11_needPiece_eq {P : List omPc} {v : Int} {σ : omH} (hP : omPC P σ) (hv : -2147483648 ≤ v ∧ v < 2147483648) : (0 ≤ v ∧ v < P.length → s_X11_needPiece v σ = some (Sum.inr ())) ∧ (¬ (0 ≤ v ∧ v < P.length) → s_X11_needPiece v σ = some (Sum.inl 3)) := by
  have hl := hP.2.1
  unfold s_X11_needPiece
  rw [hP.1, s_X11_isWithin_eq hv (by decide) (by omega), om_b0]
  exact ⟨fun h => om_if0 (by omega), fun h => om_if1 (by omega)⟩
/-! .. the completions -/
theorem s_X11_needPlan_eq {σ : omH} : (σ 24 0 = 0 → s_X11_needPlan σ = some (Sum.inl 2)) ∧ (σ 24 0 = 1 → s_X11_needPlan σ = some (Sum.inr ())) := by
  unfold s_X11_needPlan
  exact ⟨fun h => by rw [h, if_pos (by decide)], fun h => by rw [h, if_neg (by decide)]⟩
