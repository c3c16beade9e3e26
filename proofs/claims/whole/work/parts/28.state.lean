/-! ===== the operations on the jobs ===== -/
def omRg (a b c e g : Int) : Prop := (1 ≤ a ∧ a ≤ 30) ∧ (0 ≤ b ∧ b ≤ 300) ∧ (1 ≤ c ∧ c ≤ 20) ∧ (0 ≤ e ∧ e ≤ 100) ∧ (0 ≤ g ∧ g ≤ 3)
abbrev omI (v : Int) : Prop := -2147483648 ≤ v ∧ v < 2147483648
theorem s_X11_needJobInRange_eq {a b c e g : Int} {σ : omH} (ha : omI a) (hb : omI b) (hc : omI c) (he : omI e) (hg : omI g) : (omRg a b c e g → s_X11_needJobInRange a b c e g σ = some (Sum.inr ())) ∧ (¬ omRg a b c e g → s_X11_needJobInRange a b c e g σ = some (Sum.inl 1)) := by
  unfold s_X11_needJobInRange
  rw [s_X11_isWithin_eq ha (by decide) (by decide), s_X11_isWithin_eq hb (by decide) (by decide), s_X11_isWithin_eq hc (by decide) (by decide), s_X11_isWithin_eq he (by decide) (by decide), s_X11_isWithin_eq hg (by decide) (by decide)]
  simp only [om_b0]
  refine ⟨fun h => ?_, fun h => ?_⟩
  · rw [om_if0 h.1, om_if0 h.2.1, om_if0 h.2.2.1, om_if0 h.2.2.2.1, om_if0 h.2.2.2.2]
  · by_cases h1 : 1 ≤ a ∧ a ≤ 30
    · rw [om_if0 h1]
      by_cases h2 : 0 ≤ b ∧ b ≤ 300
      · rw [om_if0 h2]
        by_cases h3 : 1 ≤ c ∧ c ≤ 20
        · rw [om_if0 h3]
          by_cases h4 : 0 ≤ e ∧ e ≤ 100
          · rw [om_if0 h4]
            rw [om_if1 (fun h5 => h ⟨h1, h2, h3, h4, h5⟩)]
          · rw [om_if1 h4]
        · rw [om_if1 h3]
      · rw [om_if1 h2]
    · rw [om_if1 h1]
theorem s_X12_isIn_eq {v a b : Int} {σ : omH} (hv : omI v) (ha : omI a) (hb : omI b) : s_X12_isIn v a b σ = some (omIf (a ≤ v ∧ v ≤ b)) := by
  have h := s_X11_isWithin_eq (σ := σ) hv ha hb
  unfold s_X11_isWithin at h
  unfold s_X12_isIn
  exact h
theorem om_if2 {P : Prop} {α : Type} {a b : α} (h : P) : (if omw (omIf P) = 0 then a else b) = b := om_if0 h
theorem s_X12_areRight_eq {a b c e g : Int} {σ : omH} (ha : omI a) (hb : omI b) (hc : omI c) (he : omI e) (hg : omI g) : s_X12_areRight a b c e g σ = some (omIf (omRg a b c e g)) := by
  unfold s_X12_areRight
  rw [s_X12_isIn_eq ha (by decide) (by decide), s_X12_isIn_eq hb (by decide) (by decide), s_X12_isIn_eq hc (by decide) (by decide), s_X12_isIn_eq he (by decide) (by decide), s_X12_isIn_eq hg (by decide) (by decide)]
  simp only [om_b0]
  by_cases h : omRg a b c e g
  · rw [om_if0 h.1, om_if0 h.2.1, om_if0 h.2.2.1, om_if0 h.2.2.2.1, om_if0 h.2.2.2.2, omIf_t h]
  · rw [omIf_f h]
    by_cases h1 : 1 ≤ a ∧ a ≤ 30
    · rw [om_if0 h1]
      by_cases h2 : 0 ≤ b ∧ b ≤ 300
      · rw [om_if0 h2]
        by_cases h3 : 1 ≤ c ∧ c ≤ 20
        · rw [om_if0 h3]
          by_cases h4 : 0 ≤ e ∧ e ≤ 100
          · rw [om_if0 h4]
            rw [om_if1 (fun h5 => h ⟨h1, h2, h3, h4, h5⟩)]
          · rw [om_if1 h4]
        · rw [om_if1 h3]
      · rw [om_if1 h2]
    · rw [om_if1 h1]
theorem omUp_ok {n n' j : Nat} {p d w r f s : Nat → Int} {a b c e g : Int} (hok : omOk n p d w r f s) (hn : n' ≤ 10) (hj : ∀ i, i < n' → i ≠ j → i < n) (h : omRg a b c e g) : omOk n' (omUp p j a) (omUp d j b) (omUp w j c) (omUp r j e) (omUp f j g) s := by
  refine ⟨hn, fun i hi => ?_, hok.2.2⟩
  unfold omUp
  obtain ⟨h1, h2, h3, h4, h5⟩ := h
  by_cases hij : i = j
  · simp only [hij, if_true]
    omega
  · simp only [hij, if_false]
    exact hok.2.1 i (hj i hi hij)
theorem omPln_drop {n : Nat} {σ : omH} (h1 : σ 24 0 = 0) (h2 : σ 24 1 = 0) (h3 : σ 43 8 = 0) (h4 : σ 43 9 = 0) : omPln n σ :=
  ⟨⟨[], ⟨by rw [h2]; rfl, by show 0 ≤ 20; decide, fun i x hx => by simp at hx⟩, ⟨by rw [h4]; rfl, by show 0 ≤ 20; decide, fun i x hx => by simp at hx⟩⟩, Or.inl ⟨h1, h3⟩⟩
theorem s_X2_put_eq {n j : Nat} {p d w r f s : Nat → Int} {a b c e g : Int} {σ : omH} (hc : omCv n p d w r f s σ) (hj : j < 10) : ∃ σ', s_X2_put j a b c e g σ = some σ' ∧ omCv n (omUp p j a) (omUp d j b) (omUp w j c) (omUp r j e) (omUp f j g) s σ' ∧ omEx [18, 19, 20, 21, 22] σ σ' := by
  unfold s_X2_put
  rw [om_wn (by omega), omg_t ⟨by omega, by omega⟩, omg_t ⟨by omega, by omega⟩, omg_t ⟨by omega, by omega⟩, omg_t ⟨by omega, by omega⟩, omg_t ⟨by omega, by omega⟩, Int.toNat_natCast]
  refine ⟨_, rfl, ?_, ((((omEx.su (by simp)).trans (omEx.su (by simp))).trans (omEx.su (by simp))).trans (omEx.su (by simp))).trans (omEx.su (by simp))⟩
  obtain ⟨c1, c2, c3, c4, c5, c6, c7⟩ := hc
  have e0 : ∀ (τ : omH) (o : Nat) (v : Int) (o' : Nat), o' ≠ o → omsu τ o j v o' = τ o' := fun τ o v o' h => omsu_o h
  refine ⟨?_, ?_, ?_, ?_, ?_, ?_, ?_⟩
  · rw [e0 _ 22 _ 17 (by decide), e0 _ 21 _ 17 (by decide), e0 _ 20 _ 17 (by decide), e0 _ 19 _ 17 (by decide), e0 _ 18 _ 17 (by decide)]; exact c1
  · rw [e0 _ 22 _ 18 (by decide), e0 _ 21 _ 18 (by decide), e0 _ 20 _ 18 (by decide), e0 _ 19 _ 18 (by decide), omsu_row, c2]
  · rw [e0 _ 22 _ 19 (by decide), e0 _ 21 _ 19 (by decide), e0 _ 20 _ 19 (by decide), omsu_row, e0 _ 18 _ 19 (by decide), c3]
  · rw [e0 _ 22 _ 20 (by decide), e0 _ 21 _ 20 (by decide), omsu_row, e0 _ 19 _ 20 (by decide), e0 _ 18 _ 20 (by decide), c4]
  · rw [e0 _ 22 _ 21 (by decide), omsu_row, e0 _ 20 _ 21 (by decide), e0 _ 19 _ 21 (by decide), e0 _ 18 _ 21 (by decide), c5]
  · rw [omsu_row, e0 _ 21 _ 22 (by decide), e0 _ 20 _ 22 (by decide), e0 _ 19 _ 22 (by decide), e0 _ 18 _ 22 (by decide), c6]
  · rw [e0 _ 22 _ 23 (by decide), e0 _ 21 _ 23 (by decide), e0 _ 20 _ 23 (by decide), e0 _ 19 _ 23 (by decide), e0 _ 18 _ 23 (by decide), c7]
theorem s_X5_drop_eq {σ : omH} : ∃ σ', s_X5_drop σ = some σ' ∧ omEx [24] σ σ' ∧ σ' 24 0 = 0 ∧ σ' 24 1 = 0 :=
  ⟨_, rfl, (omEx.su (by simp)).trans (omEx.su (by simp)), by rw [omsu_n (Or.inr (by decide)), omsu_s], omsu_s⟩
theorem s_X12_drops_eq {σ : omH} : ∃ σ', s_X12_drops σ = some σ' ∧ omEx [43] σ σ' ∧ (∀ k, k ≠ 8 → k ≠ 9 → σ' 43 k = σ 43 k) ∧ σ' 43 8 = 0 ∧ σ' 43 9 = 0 :=
  ⟨_, rfl, (omEx.su (by simp)).trans (omEx.su (by simp)), fun k h1 h2 => by rw [omsu_n (Or.inr h2), omsu_n (Or.inr h1)], by rw [omsu_n (Or.inr (by decide)), omsu_s], omsu_s⟩
theorem s_X12_lays_eq {n j : Nat} {p d w r f s : Nat → Int} {a b c e g : Int} {σ : omH} (hc : omMv n p d w r f s σ) (hj : j < 10) : ∃ σ', s_X12_lays j a b c e g σ = some σ' ∧ omMv n (omUp p j a) (omUp d j b) (omUp w j c) (omUp r j e) (omUp f j g) s σ' ∧ omEx [43, 44, 45, 46, 47, 48] σ σ' ∧ (∀ k, k ≠ 8 → k ≠ 9 → σ' 43 k = σ 43 k) ∧ σ' 43 8 = 0 ∧ σ' 43 9 = 0 := by
  unfold s_X12_lays
  rw [om_wn (by omega), omg_t ⟨by omega, by omega⟩, omg_t ⟨by omega, by omega⟩, omg_t ⟨by omega, by omega⟩, omg_t ⟨by omega, by omega⟩, omg_t ⟨by omega, by omega⟩, Int.toNat_natCast]
  have e0 : ∀ (τ : omH) (o : Nat) (v : Int) (o' : Nat), o' ≠ o → omsu τ o j v o' = τ o' := fun τ o v o' h => omsu_o h
  have ex0 : omEx [44, 45, 46, 47, 48] σ (omsu (omsu (omsu (omsu (omsu σ 44 j a) 45 j b) 46 j c) 47 j e) 48 j g) := ((((omEx.su (by simp)).trans (omEx.su (by simp))).trans (omEx.su (by simp))).trans (omEx.su (by simp))).trans (omEx.su (by simp))
  obtain ⟨σ', z1, z2, z3, z4, z5⟩ := s_X12_drops_eq (σ := omsu (omsu (omsu (omsu (omsu σ 44 j a) 45 j b) 46 j c) 47 j e) 48 j g)
  rw [z1, om_b0]
  refine ⟨σ', rfl, ?_, (ex0.mono (by simp)).trans (z2.mono (by simp)), fun k h8 h9 => by rw [z3 k h8 h9, ex0 43 (by simp)], z4, z5⟩
  obtain ⟨c1, c2, c3, c4, c5, c6, c7⟩ := hc
  refine ⟨?_, ?_, ?_, ?_, ?_, ?_, ?_⟩
  · rw [z3 1 (by decide) (by decide), ex0 43 (by simp)]; exact c1
  · rw [z2 44 (by simp), e0 _ 48 _ 44 (by decide), e0 _ 47 _ 44 (by decide), e0 _ 46 _ 44 (by decide), e0 _ 45 _ 44 (by decide), omsu_row, c2]
  · rw [z2 45 (by simp), e0 _ 48 _ 45 (by decide), e0 _ 47 _ 45 (by decide), e0 _ 46 _ 45 (by decide), omsu_row, e0 _ 44 _ 45 (by decide), c3]
  · rw [z2 46 (by simp), e0 _ 48 _ 46 (by decide), e0 _ 47 _ 46 (by decide), omsu_row, e0 _ 45 _ 46 (by decide), e0 _ 44 _ 46 (by decide), c4]
  · rw [z2 47 (by simp), e0 _ 48 _ 47 (by decide), omsu_row, e0 _ 46 _ 47 (by decide), e0 _ 45 _ 47 (by decide), e0 _ 44 _ 47 (by decide), c5]
  · rw [z2 48 (by simp), omsu_row, e0 _ 47 _ 48 (by decide), e0 _ 46 _ 48 (by decide), e0 _ 45 _ 48 (by decide), e0 _ 44 _ 48 (by decide), c6]
  · rw [z2 49 (by simp), e0 _ 48 _ 49 (by decide), e0 _ 47 _ 49 (by decide), e0 _ 46 _ 49 (by decide), e0 _ 45 _ 49 (by decide), e0 _ 44 _ 49 (by decide), c7]
/-- the class's half of a change done and the reference's half after it -/
theorem om_done {n : Nat} {p d w r f s : Nat → Int} {W : List Nat} {σ1 σ2 : omH} (hok : omOk n p d w r f s) (hc : omCv n p d w r f s σ1) (h1 : σ1 24 0 = 0) (h2 : σ1 24 1 = 0) (he : omEx W σ1 σ2) (hW : ∀ o ∈ [17, 18, 19, 20, 21, 22, 23, 24], o ∉ W) (hm : omMv n p d w r f s σ2) (h3 : σ2 43 8 = 0) (h4 : σ2 43 9 = 0) : omInv σ2 :=
  ⟨n, p, d, w, r, f, s, hok, hc.ex he (fun o ho => hW o (by simp at ho ⊢; omega)), hm, omPln_drop (by rw [he 24 (hW _ (by simp))]; exact h1) (by rw [he 24 (hW _ (by simp))]; exact h2) h3 h4⟩
theorem om_addJob {σ : omH} (hI : omInv σ) {a b c e g : Int} (ha : omI a) (hb : omI b) (hc : omI c) (he : omI e) (hg : omI g) : omGood (s_L_addJob a b c e g σ) (s_X12_addJob a b c e g) := by
  obtain ⟨n, p, d, w, r, f, s, h1, h2, h3, h45, h6⟩ := id hI
  have hn := h1.1
  by_cases h : omRg a b c e g
  · by_cases h10 : n < 10
    · obtain ⟨τ1, x1, x2, x3⟩ := s_X2_put_eq (j := n) (a := a) (b := b) (c := c) (e := e) (g := g) (n := n + 1) (p := p) (d := d) (w := w) (r := r) (f := f) (s := s) (σ := omsu σ 17 0 ((n : Int) + 1)) ⟨by rw [omsu_s]; omega, by rw [omsu_o (by decide)]; exact h2.2.1, by rw [omsu_o (by decide)]; exact h2.2.2.1, by rw [omsu_o (by decide)]; exact h2.2.2.2.1, by rw [omsu_o (by decide)]; exact h2.2.2.2.2.1, by rw [omsu_o (by decide)]; exact h2.2.2.2.2.2.1, by rw [omsu_o (by decide)]; exact h2.2.2.2.2.2.2⟩ h10
      obtain ⟨τ2, y1, y2, y3, y4⟩ := s_X5_drop_eq (σ := τ1)
      have hex : omEx [17, 18, 19, 20, 21, 22, 24] σ τ2 := ((omEx.su (W := [17, 18, 19, 20, 21, 22, 24]) (by simp)).trans (x3.mono (by simp))).trans (y2.mono (by simp))
      have hcv := x2.ex y2 (by simp)
      have hmv : omMv n p d w r f s (omsu (omsu τ2 60 0 (omw (n : Int))) 43 0 0) := (h3.ex hex (by simp)).ex2 (W := [60, 43]) ((omEx.su (by simp)).trans (omEx.su (by simp))) (by rw [omsu_n (Or.inr (by decide)), omsu_n (Or.inl (by decide))]) (by simp)
      obtain ⟨τ3, z1, z2, z3, z4, z5, z6⟩ := s_X12_lays_eq (j := n) (a := a) (b := b) (c := c) (e := e) (g := g) hmv h10
      refine ⟨0, omsu τ2 60 0 (omw (n : Int)), n, omsu τ3 43 1 ((n : Int) + 1), ?_, ?_, ?_, by decide, by decide, ?_, ?_⟩
      · unfold s_L_addJob s_X11_addJob
        rw [(s_X11_needJobInRange_eq ha hb hc he hg).1 h, om_b0]
        simp only [Sum.elim_inr]
        rw [h2.1, om_wn (by omega), if_pos (by show (n : Int) < omw 10; rw [show omw 10 = 10 from rfl]; omega), x1, om_b0, y1, om_b0, om_b0]
        simp only [Sum.elim_inr]
        rw [omg_t (by decide), om_wn (by omega)]
        rfl
      · unfold s_X12_addJob
        rw [s_X12_areRight_eq ha hb hc he hg, om_b0, om_if0 h, omsu_n (Or.inl (by decide)), hex 43 (by simp), h3.1, if_neg (by rw [om_wn (by omega), show omw 10 = 10 from rfl]; omega), om_b0, s_X12_holds0, om_b0, if_neg (by show ¬ omw 1 = 0; decide)]
        show Option.bind (s_X12_lays ((omsu (omsu τ2 60 0 (omw (n : Int))) 43 0 0) 43 1) a b c e g (omsu (omsu τ2 60 0 (omw (n : Int))) 43 0 0)) _ = _
        rw [hmv.1, z1, om_b0, z2.1, omsu_s, show ((n : Int) + 1 - 1) = n by omega]
      · rw [omsu_n (Or.inr (by decide)), z4 0 (by decide) (by decide), omsu_s]
      · intro _
        rw [omsu_n (Or.inl (by decide)), z3 60 (by simp), omsu_n (Or.inl (by decide)), omsu_s]
      · refine om_done (W := [43, 44, 45, 46, 47, 48, 60]) (σ1 := τ2) (omUp_ok (n' := n + 1) (j := n) h1 (by omega) (fun i hi hij => by omega) h) hcv y3 y4 ?_ (by simp) ⟨by rw [omsu_s]; omega, by rw [omsu_o (by decide)]; exact z2.2.1, by rw [omsu_o (by decide)]; exact z2.2.2.1, by rw [omsu_o (by decide)]; exact z2.2.2.2.1, by rw [omsu_o (by decide)]; exact z2.2.2.2.2.1, by rw [omsu_o (by decide)]; exact z2.2.2.2.2.2.1, by rw [omsu_o (by decide)]; exact z2.2.2.2.2.2.2⟩ ?_ ?_
        · exact (((omEx.su (by simp)).trans (omEx.su (by simp))).trans (z3.mono (by simp))).trans (omEx.su (by simp))
        · rw [omsu_n (Or.inr (by decide))]; exact z5
        · rw [omsu_n (Or.inr (by decide))]; exact z6
    · refine omGood.th (k := 2) (v := 0) hI (Or.inr rfl) ?_ ?_
      · unfold s_L_addJob s_X11_addJob
        rw [(s_X11_needJobInRange_eq ha hb hc he hg).1 h, om_b0]
        simp only [Sum.elim_inr]
        rw [h2.1, om_wn (by omega), if_neg (by show ¬ (n : Int) < omw 10; rw [show omw 10 = 10 from rfl]; omega)]
        rfl
      · unfold s_X12_addJob
        rw [s_X12_areRight_eq ha hb hc he hg, om_b0, om_if0 h, h3.1, if_pos (by rw [om_wn (by omega), show omw 10 = 10 from rfl]; omega), om_b0, s_X12_holds2, om_b0, if_pos (by show omw 0 = 0; decide)]
  · refine omGood.th (k := 1) (v := 0) hI (Or.inl rfl) ?_ ?_
    · unfold s_L_addJob s_X11_addJob
      rw [(s_X11_needJobInRange_eq ha hb hc he hg).2 h, om_b0]
      rfl
    · unfold s_X12_addJob
      rw [s_X12_areRight_eq ha hb hc he hg, om_b0, om_if1 h, om_b0, s_X12_holds1, om_b0, if_pos (by show omw 0 = 0; decide)]
