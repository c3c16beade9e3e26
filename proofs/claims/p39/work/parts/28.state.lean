/-! ===== the operations on the jobs ===== -/
def omRg (a b c e g : Int) : Prop := (1 ≤ a ∧ a ≤ 30) ∧ (0 ≤ b ∧ b ≤ 300) ∧ (1 ≤ c ∧ c ≤ 20) ∧ (0 ≤ e ∧ e ≤ 100) ∧ (0 ≤ g ∧ g ≤ 3)
abbrev omI (v : Int) : Prop := -2147483648 ≤ v ∧ v < 2147483648
theorem s_X11_needJobInRange_eq {a b c e g : Int} {σ : omH} (ha : omI a) (hb : omI b) (hc : omI c) (he : omI e) (hg : omI g) : (omRg a b c e g → s_X11_needJobInRange a b c e g σ = some (Sum.inr ())) ∧ (¬ omRg a b c e g → s_X11_needJobInRange a b c e g σ = some (Sum.inl 1)) := by
  unfold s_X11_needJobInRange
  rw [s_X11_isWithin_eq ha (by decide) (by decide), s_X11_isWithin_eq hb (by decide) (by decide), s_X11_isWithin_eq hc (by decide) (by decide), s_X11_isWithin_eq he (by decide) (by decide), s_X11_isWithin_eq hg (by decide) (by decide)]
  simp only [om_b0]
  refine ⟨fun h => ?_, fun h => ?_⟩
  · rw [om_if0 h.1, om_if0 h.2.1, om_if0 h.2.2.1, om_if0 h.2.2.2.1, om_if0 h.2.2.2.2]
  · by_cases h1 : 1 ≤ a ∧ a ≤ 30
    · rw [om_if0 h1]
      by_cases h2 : 0 ≤ b ∧ b ≤ 300
      · rw [om_if0 h2]
        by_cases h3 : 1 ≤ c ∧ c ≤ 20
        · rw [om_if0 h3]
          by_cases h4 : 0 ≤ e ∧ e ≤ 100
          · rw [om_if0 h4]
            rw [om_if1 (fun h5 => h ⟨h1, h2, h3, h4, h5⟩)]
          · rw [om_if1 h4]
        · rw [om_if1 h3]
      · rw [om_if1 h2]
    · rw [om_if1 h1]
theorem om_if2 {P : Prop} {α : Type} {a b : α} (h : P) : (if omw (omIf P) = 0 then a else b) = b := om_if0 h
theorem omUp_ok {n n' j : Nat} {p d w r f s : Nat → Int} {a b c e g : Int} (hok : omOk n p d w r f s) (hn : n' ≤ 10) (hj : ∀ i, i < n' → i ≠ j → i < n) (h : omRg a b c e g) : omOk n' (omUp p j a) (omUp d j b) (omUp w j c) (omUp r j e) (omUp f j g) s := by
  refine ⟨hn, fun i hi => ?_, hok.2.2⟩
  unfold omUp
  obtain ⟨h1, h2, h3, h4, h5⟩ := h
  by_cases hij : i = j
  · simp only [hij, if_true]
    omega
  · simp only [hij, if_false]
    exact hok.2.1 i (hj i hi hij)
theorem s_X2_put_eq {n j : Nat} {p d w r f s : Nat → Int} {a b c e g : Int} {σ : omH} (hc : omCv n p d w r f s σ) (hj : j < 10) : ∃ σ', s_X2_put j a b c e g σ = some σ' ∧ omCv n (omUp p j a) (omUp d j b) (omUp w j c) (omUp r j e) (omUp f j g) s σ' ∧ omEx [18, 19, 20, 21, 22] σ σ' := by
  unfold s_X2_put
  rw [om_wn (by omega), omg_t ⟨by omega, by omega⟩, omg_t ⟨by omega, by omega⟩, omg_t ⟨by omega, by omega⟩, omg_t ⟨by omega, by omega⟩, omg_t ⟨by omega, by omega⟩, Int.toNat_natCast]
  refine ⟨_, rfl, ?_, ((((omEx.su (by simp)).trans (omEx.su (by simp))).trans (omEx.su (by simp))).trans (omEx.su (by simp))).trans (omEx.su (by simp))⟩
  obtain ⟨c1, c2, c3, c4, c5, c6, c7⟩ := hc
  have e0 : ∀ (τ : omH) (o : Nat) (v : Int) (o' : Nat), o' ≠ o → omsu τ o j v o' = τ o' := fun τ o v o' h => omsu_o h
  refine ⟨?_, ?_, ?_, ?_, ?_, ?_, ?_⟩
  · rw [e0 _ 22 _ 17 (by decide), e0 _ 21 _ 17 (by decide), e0 _ 20 _ 17 (by decide), e0 _ 19 _ 17 (by decide), e0 _ 18 _ 17 (by decide)]; exact c1
  · rw [e0 _ 22 _ 18 (by decide), e0 _ 21 _ 18 (by decide), e0 _ 20 _ 18 (by decide), e0 _ 19 _ 18 (by decide), omsu_row, c2]
  · rw [e0 _ 22 _ 19 (by decide), e0 _ 21 _ 19 (by decide), e0 _ 20 _ 19 (by decide), omsu_row, e0 _ 18 _ 19 (by decide), c3]
  · rw [e0 _ 22 _ 20 (by decide), e0 _ 21 _ 20 (by decide), omsu_row, e0 _ 19 _ 20 (by decide), e0 _ 18 _ 20 (by decide), c4]
  · rw [e0 _ 22 _ 21 (by decide), omsu_row, e0 _ 20 _ 21 (by decide), e0 _ 19 _ 21 (by decide), e0 _ 18 _ 21 (by decide), c5]
  · rw [omsu_row, e0 _ 21 _ 22 (by decide), e0 _ 20 _ 22 (by decide), e0 _ 19 _ 22 (by decide), e0 _ 18 _ 22 (by decide), c6]
  · rw [e0 _ 22 _ 23 (by decide), e0 _ 21 _ 23 (by decide), e0 _ 20 _ 23 (by decide), e0 _ 19 _ 23 (by decide), e0 _ 18 _ 23 (by decide), c7]
theorem s_X5_drop_eq {σ : omH} : ∃ σ', s_X5_drop σ = some σ' ∧ omEx [24] σ σ' ∧ σ' 24 0 = 0 ∧ σ' 24 1 = 0 :=
  ⟨_, rfl, (omEx.su (by simp)).trans (omEx.su (by simp)), by rw [omsu_n (Or.inr (by decide)), omsu_s], omsu_s⟩
