/-! .. the reference's unit steps -/
theorem omAdd_head {P : List omPc} {e : omPc} (h : 0 < e.2.2) : ∃ x T, omAdd P e = x :: T ∧ x.1 = e.1 ∧ x.2.1 = e.2.1 := by
  cases P with
  | nil => exact ⟨e, [], if_pos h, rfl, rfl⟩
  | cons x T =>
    by_cases hs : x.1 = e.1 ∧ x.2.1 = e.2.1
    · exact ⟨_, T, if_pos hs, hs.1, hs.2⟩
    · refine ⟨(e.1, e.2.1, x.2.2 + e.2.2), x :: T, ?_, rfl, rfl⟩
      show (if x.1 = e.1 ∧ x.2.1 = e.2.1 then _ else if 0 < e.2.2 then _ else _) = _
      rw [if_neg hs, if_pos h]
theorem omAdd_add {P : List omPc} {k y a b : Int} (ha : 0 < a) (hb : 0 ≤ b) : omAdd (omAdd P (k, y, a)) (k, y, b) = omAdd P (k, y, a + b) := by
  cases P with
  | nil =>
    show omAdd (if 0 < a then [(k, y, a)] else []) (k, y, b) = if 0 < a + b then [(k, y, a + b)] else []
    rw [if_pos ha, if_pos (by omega)]
    exact if_pos ⟨rfl, rfl⟩
  | cons x T =>
    by_cases hs : x.1 = k ∧ x.2.1 = y
    · have h1 : omAdd (x :: T) (k, y, a) = (x.1, x.2.1, x.2.2 + a) :: T := if_pos hs
      have h2 : omAdd (x :: T) (k, y, a + b) = (x.1, x.2.1, x.2.2 + (a + b)) :: T := if_pos hs
      have h3 : omAdd ((x.1, x.2.1, x.2.2 + a) :: T) (k, y, b) = (x.1, x.2.1, x.2.2 + a + b) :: T := if_pos hs
      rw [h1, h2, h3, Int.add_assoc]
    · have h1 : omAdd (x :: T) (k, y, a) = (k, y, x.2.2 + a) :: x :: T := by
        show (if x.1 = k ∧ x.2.1 = y then _ else if 0 < a then (k, y, x.2.2 + a) :: x :: T else _) = _
        rw [if_neg hs, if_pos ha]
      have h2 : omAdd (x :: T) (k, y, a + b) = (k, y, x.2.2 + (a + b)) :: x :: T := by
        show (if x.1 = k ∧ x.2.1 = y then _ else if 0 < a + b then (k, y, x.2.2 + (a + b)) :: x :: T else _) = _
        rw [if_neg hs, if_pos (by omega)]
      have h3 : omAdd ((k, y, x.2.2 + a) :: x :: T) (k, y, b) = (k, y, x.2.2 + a + b) :: x :: T := if_pos ⟨rfl, rfl⟩
      rw [h1, h2, h3, Int.add_assoc]
theorem omUp_up {C : Nat → Int} {j : Nat} {v v' : Int} : omUp (omUp C j v) j v' = omUp C j v' := by
  funext i
  by_cases h : i = j
  · subst h; rw [omUp_s, omUp_s]
  · rw [omUp_n h, omUp_n h, omUp_n h]
