/-- the jobs behind one moved down, up to a place -/
def omSh (j m : Nat) (g : Nat → Int) : Nat → Int := fun i => if j ≤ i ∧ i < m then g (i + 1) else g i
theorem omSh_0 {j : Nat} {g : Nat → Int} : omSh j j g = g := by
  funext i
  unfold omSh
  rw [if_neg (by omega)]
theorem omSh_r {j m : Nat} {g : Nat → Int} : omSh j m g (m + 1) = g (m + 1) := by
  unfold omSh
  rw [if_neg (by omega)]
theorem omSh_s {j m : Nat} {g : Nat → Int} (h : j ≤ m) : omUp (omSh j m g) m (g (m + 1)) = omSh j (m + 1) g := by
  funext i
  unfold omUp omSh
  by_cases him : i = m
  · subst him
    rw [if_pos rfl, if_pos (by omega)]
  · rw [if_neg him]
    by_cases hi : j ≤ i ∧ i < m
    · rw [if_pos hi, if_pos (by omega)]
    · rw [if_neg hi, if_neg (by omega)]
theorem l_X2_remove_4_eq {n j : Nat} {p d w r f s : Nat → Int} (hn : n ≤ 10) : ∀ (k m fuel : Nat) (σ : omH), m + 1 + k = n → j ≤ m → k < fuel → omCv n (omSh j m p) (omSh j m d) (omSh j m w) (omSh j m r) (omSh j m f) s σ →
    ∃ σ', l_X2_remove_4 fuel ((m : Int) + 1) σ = some σ' ∧ omCv n (omSh j (n - 1) p) (omSh j (n - 1) d) (omSh j (n - 1) w) (omSh j (n - 1) r) (omSh j (n - 1) f) s σ' ∧ omEx [18, 19, 20, 21, 22] σ σ' := by
  intro k
  induction k with
  | zero =>
    intro m fuel σ hm hj hf hc
    obtain ⟨fuel, rfl⟩ : ∃ z, fuel = z + 1 := ⟨fuel - 1, by omega⟩
    rw [l_X2_remove_4.eq_2, hc.1, show ((m : Int) + 1) = ((m + 1 : Nat) : Int) by omega, om_wn (show m + 1 < 2147483648 by omega), om_wn (show n < 2147483648 by omega), if_neg (by omega)]
    have : n - 1 = m := by omega
    rw [this]
    exact ⟨σ, rfl, hc, omEx.rfl'⟩
  | succ k ih =>
    intro m fuel σ hm hj hf hc
    obtain ⟨fuel, rfl⟩ : ∃ z, fuel = z + 1 := ⟨fuel - 1, by omega⟩
    rw [l_X2_remove_4.eq_2, hc.1, show ((m : Int) + 1) = ((m + 1 : Nat) : Int) by omega, om_wn (show m + 1 < 2147483648 by omega), om_wn (show n < 2147483648 by omega), if_pos (by omega), omg_t ⟨by omega, by omega⟩, omg_t ⟨by omega, by omega⟩, omg_t ⟨by omega, by omega⟩, omg_t ⟨by omega, by omega⟩, omg_t ⟨by omega, by omega⟩, Int.toNat_natCast, show (((m + 1 : Nat) : Int) - 1) = (m : Int) by omega, hc.2.1, hc.2.2.1, hc.2.2.2.1, hc.2.2.2.2.1, hc.2.2.2.2.2.1]
    simp only [omSh_r]
    obtain ⟨τ, x1, x2, x3⟩ := s_X2_put_eq (j := m) (a := p (m + 1)) (b := d (m + 1)) (c := w (m + 1)) (e := r (m + 1)) (g := f (m + 1)) hc (by omega)
    rw [x1, om_b0]
    simp only [omSh_s hj] at x2
    obtain ⟨σ', z1, z2, z3⟩ := ih (m + 1) fuel τ (by omega) (by omega) (by omega) x2
    exact ⟨σ', z1, z2, x3.trans z3⟩
theorem l_X12_removeJob_38_eq {n j : Nat} {p d w r f s : Nat → Int} (hn : n < 10) : ∀ (k m fuel : Nat) (σ : omH), m + k = n → j ≤ m → k < fuel → omMv n (omSh j m p) (omSh j m d) (omSh j m w) (omSh j m r) (omSh j m f) s σ → σ 43 8 = 0 → σ 43 9 = 0 →
    ∃ σ', l_X12_removeJob_38 fuel (m : Int) σ = some σ' ∧ omMv n (omSh j n p) (omSh j n d) (omSh j n w) (omSh j n r) (omSh j n f) s σ' ∧ omEx [43, 44, 45, 46, 47, 48] σ σ' ∧ (∀ k, k ≠ 8 → k ≠ 9 → σ' 43 k = σ 43 k) ∧ σ' 43 8 = 0 ∧ σ' 43 9 = 0 := by
  intro k
  induction k with
  | zero =>
    intro m fuel σ hm hj hf hc h8 h9
    obtain ⟨fuel, rfl⟩ : ∃ z, fuel = z + 1 := ⟨fuel - 1, by omega⟩
    rw [l_X12_removeJob_38.eq_2, hc.1, om_wn (show m < 2147483648 by omega), om_wn (show n < 2147483648 by omega), if_neg (by omega)]
    have : m = n := by omega
    subst this
    exact ⟨σ, rfl, hc, omEx.rfl', fun _ _ _ => rfl, h8, h9⟩
  | succ k ih =>
    intro m fuel σ hm hj hf hc h8 h9
    obtain ⟨fuel, rfl⟩ : ∃ z, fuel = z + 1 := ⟨fuel - 1, by omega⟩
    rw [l_X12_removeJob_38.eq_2, hc.1, om_wn (show m < 2147483648 by omega), om_wn (show n < 2147483648 by omega), if_pos (by omega), show ((m : Int) + 1) = ((m + 1 : Nat) : Int) by omega, om_wn (show m + 1 < 2147483648 by omega), omg_t ⟨by omega, by omega⟩, omg_t ⟨by omega, by omega⟩, omg_t ⟨by omega, by omega⟩, omg_t ⟨by omega, by omega⟩, omg_t ⟨by omega, by omega⟩, Int.toNat_natCast, hc.2.1, hc.2.2.1, hc.2.2.2.1, hc.2.2.2.2.1, hc.2.2.2.2.2.1]
    simp only [omSh_r]
    obtain ⟨τ, x1, x2, x3, x4, x5, x6⟩ := s_X12_lays_eq (j := m) (a := p (m + 1)) (b := d (m + 1)) (c := w (m + 1)) (e := r (m + 1)) (g := f (m + 1)) hc (by omega)
    rw [x1, om_b0]
    simp only [omSh_s hj] at x2
    obtain ⟨σ', z1, z2, z3, z4, z5⟩ := ih (m + 1) fuel τ (by omega) (by omega) (by omega) x2 x5 x6
    exact ⟨σ', z1, z2, x3.trans z3, fun k a b => by rw [z4 k a b, x4 k a b], z5⟩
theorem omSh_ok {n j : Nat} {p d w r f s : Nat → Int} (hok : omOk n p d w r f s) (hj : j < n) : omOk (n - 1) (omSh j (n - 1) p) (omSh j (n - 1) d) (omSh j (n - 1) w) (omSh j (n - 1) r) (omSh j (n - 1) f) s := by
  have hn := hok.1
  refine ⟨by omega, fun i hi => ?_, hok.2.2⟩
  unfold omSh
  by_cases h : j ≤ i ∧ i < n - 1
  · simp only [h, and_self, if_true]
    exact hok.2.1 (i + 1) (by omega)
  · simp only [h, if_false]
    exact hok.2.1 i (by omega)
theorem om_removeJob {σ : omH} (hI : omInv σ) {v : Int} (hv : omI v) : omGood (s_L_removeJob v σ) (s_X12_removeJob v) := by
  obtain ⟨n, p, d, w, r, f, s, h1, h2, h3, h45, h6⟩ := id hI
  have hn := h1.1
  by_cases hj : 0 ≤ v ∧ v < n
  · obtain ⟨j, rfl⟩ : ∃ j : Nat, v = (j : Int) := ⟨v.toNat, by omega⟩
    obtain ⟨τ1, x1, x2, x3⟩ := l_X2_remove_4_eq (j := j) (p := p) (d := d) (w := w) (r := r) (f := f) (s := s) h1.1 (n - 1 - j) j FU σ (by omega) (Nat.le_refl _) (by rw [FU_eq]; omega) (by rw [omSh_0, omSh_0, omSh_0, omSh_0, omSh_0]; exact h2)
    have x1' : l_X2_remove_4 FU ((j : Int) + 1) σ = some τ1 := x1
    obtain ⟨τ2, y1, y2, y3, y4⟩ := s_X5_drop_eq (σ := omsu τ1 17 0 ((n : Int) - 1))
    have e17 : τ2 17 0 = ((n - 1 : Nat) : Int) := by rw [y2 17 (by simp), omsu_s]; omega
    have hcv : omCv (n - 1) (omSh j (n - 1) p) (omSh j (n - 1) d) (omSh j (n - 1) w) (omSh j (n - 1) r) (omSh j (n - 1) f) s τ2 := by
      refine ⟨e17, ?_, ?_, ?_, ?_, ?_, ?_⟩
      · rw [y2 18 (by simp), omsu_o (by decide)]; exact x2.2.1
      · rw [y2 19 (by simp), omsu_o (by decide)]; exact x2.2.2.1
      · rw [y2 20 (by simp), omsu_o (by decide)]; exact x2.2.2.2.1
      · rw [y2 21 (by simp), omsu_o (by decide)]; exact x2.2.2.2.2.1
      · rw [y2 22 (by simp), omsu_o (by decide)]; exact x2.2.2.2.2.2.1
      · rw [y2 23 (by simp), omsu_o (by decide)]; exact x2.2.2.2.2.2.2
    have hex : omEx [17, 18, 19, 20, 21, 22, 24] σ τ2 := ((x3.mono (by simp)).trans (omEx.su (W := [17, 18, 19, 20, 21, 22, 24]) (by simp))).trans (y2.mono (by simp))
    have hmv : omMv n p d w r f s (omsu (omsu τ2 60 0 (omw ((n - 1 : Nat) : Int))) 43 0 0) := (h3.ex hex (by simp)).ex2 (W := [60, 43]) ((omEx.su (by simp)).trans (omEx.su (by simp))) (by rw [omsu_n (Or.inr (by decide)), omsu_n (Or.inl (by decide))]) (by simp)
    obtain ⟨τ3, u1, u2, u3, u4, u5⟩ := s_X12_drops_eq (σ := omsu (omsu τ2 60 0 (omw ((n - 1 : Nat) : Int))) 43 0 0)
    have hm3 := hmv.ex2 u2 (u3 1 (by decide) (by decide)) (by simp)
    have hm4 : omMv (n - 1) (omSh j j p) (omSh j j d) (omSh j j w) (omSh j j r) (omSh j j f) s (omsu τ3 43 1 ((n : Int) - 1)) := by
      rw [omSh_0, omSh_0, omSh_0, omSh_0, omSh_0]
      exact ⟨by rw [omsu_s]; omega, by rw [omsu_o (by decide)]; exact hm3.2.1, by rw [omsu_o (by decide)]; exact hm3.2.2.1, by rw [omsu_o (by decide)]; exact hm3.2.2.2.1, by rw [omsu_o (by decide)]; exact hm3.2.2.2.2.1, by rw [omsu_o (by decide)]; exact hm3.2.2.2.2.2.1, by rw [omsu_o (by decide)]; exact hm3.2.2.2.2.2.2⟩
    obtain ⟨τ4, z1, z2, z3, z4, z5, z6⟩ := l_X12_removeJob_38_eq (j := j) (show n - 1 < 10 by omega) (n - 1 - j) j FU (omsu τ3 43 1 ((n : Int) - 1)) (by omega) (Nat.le_refl _) (by rw [FU_eq]; omega) hm4 (by rw [omsu_n (Or.inr (by decide))]; exact u4) (by rw [omsu_n (Or.inr (by decide))]; exact u5)
    refine ⟨0, omsu τ2 60 0 (omw ((n - 1 : Nat) : Int)), ((n - 1 : Nat) : Int), τ4, ?_, ?_, ?_, by decide, by decide, ?_, ?_⟩
    · unfold s_L_removeJob s_X11_removeJob
      rw [(s_X11_needJob_eq h1 h2 hv).1 hj, om_b0]
      simp only [Sum.elim_inr]
      unfold s_X2_remove
      rw [x1', om_b0, x2.1, om_b0, y1, om_b0, om_b0]
      simp only [Sum.elim_inr]
      rw [omg_t (by decide), e17]
      rfl
    · unfold s_X12_removeJob
      rw [s_X12_isJob_eq h1 ((h3.ex hex (by simp)).ex (W := [60]) (omEx.su (by simp)) (by simp)) hv, om_b0, om_if0 hj, om_b0, s_X12_holds0, om_b0, if_neg (by show ¬ omw 1 = 0; decide), u1, om_b0, hm3.1, z1, om_b0, z2.1]
    · rw [z4 0 (by decide) (by decide), omsu_n (Or.inr (by decide)), u3 0 (by decide) (by decide), omsu_s]
    · intro _
      rw [z3 60 (by simp), omsu_n (Or.inl (by decide)), u2 60 (by simp), omsu_n (Or.inl (by decide)), omsu_s]
    · refine om_done (W := [43, 44, 45, 46, 47, 48, 60]) (σ1 := τ2) (omSh_ok h1 (by omega)) hcv y3 ?_ ?_ (by simp) z2 z5 z6
      · exact y4
      · exact ((((omEx.su (by simp)).trans (omEx.su (by simp))).trans (u2.mono (by simp))).trans (omEx.su (by simp))).trans (z3.mono (by simp))
  · refine omGood.th (k := 1) (v := 0) hI (Or.inl rfl) ?_ ?_
    · unfold s_L_removeJob s_X11_removeJob
      rw [(s_X11_needJob_eq h1 h2 hv).2 hj, om_b0]
      rfl
    · unfold s_X12_removeJob
      rw [s_X12_isJob_eq h1 h3 hv, om_b0, om_if1 hj, om_b0, s_X12_holds1, om_b0, if_pos (by show omw 0 = 0; decide)]
theorem om_setSetup {σ : omH} (hI : omInv σ) {v a : Int} (hv : omI v) (ha : omI a) : omGood (s_L_setSetup v a σ) (s_X12_setSetup v a) := by
  obtain ⟨n, p, d, w, r, f, s, h1, h2, h3, h45, h6⟩ := id hI
  have hn := h1.1
  by_cases hj : 0 ≤ v ∧ v ≤ 3
  · obtain ⟨j, rfl⟩ : ∃ j : Nat, v = (j : Int) := ⟨v.toNat, by omega⟩
    by_cases h : 0 ≤ a ∧ a ≤ 20
    · obtain ⟨τ2, y1, y2, y3, y4⟩ := s_X5_drop_eq (σ := omsu σ 23 j a)
      have hex : omEx [23, 24] σ τ2 := (omEx.su (by simp)).trans (y2.mono (by simp))
      have hs : omOk n p d w r f (omUp s j a) := ⟨h1.1, h1.2.1, fun q hq => by
        unfold omUp
        split
        · exact h
        · exact h1.2.2 q hq⟩
      obtain ⟨τ3, z1, z2, z3, z4, z5⟩ := s_X12_drops_eq (σ := omsu (omsu (omsu τ2 60 0 (omw (s j))) 43 0 0) 49 j a)
      refine ⟨0, omsu τ2 60 0 (omw (s j)), s j, τ3, ?_, ?_, ?_, by decide, by decide, ?_, ?_⟩
      · unfold s_L_setSetup s_X11_setSetup
        rw [s_X11_isWithin_eq hv (by decide) (by decide), om_b0, om_if0 hj, s_X11_isWithin_eq ha (by decide) (by decide), om_b0, om_if0 h, om_wn (by omega), omg_t ⟨by omega, by omega⟩, omg_t ⟨by omega, by omega⟩, Int.toNat_natCast, y1, om_b0, om_b0]
        simp only [Sum.elim_inr]
        rw [omg_t (by decide), h2.2.2.2.2.2.2]
        rfl
      · unfold s_X12_setSetup
        rw [s_X12_isIn_eq hv (by decide) (by decide), om_b0, om_if0 hj, s_X12_isIn_eq ha (by decide) (by decide), om_b0, om_if0 h, om_b0, s_X12_holds0, om_b0, if_neg (by show ¬ omw 1 = 0; decide), om_wn (by omega), omg_t ⟨by omega, by omega⟩, omg_t ⟨by omega, by omega⟩, Int.toNat_natCast]
        show Option.bind (s_X12_drops (omsu (omsu (omsu τ2 60 0 (omw (s j))) 43 0 0) 49 j a)) (fun r6 => some ((omsu (omsu τ2 60 0 (omw (s j))) 43 0 0) 49 j, r6)) = _
        rw [z1, om_b0, omsu_n (Or.inl (by decide)), omsu_n (Or.inl (by decide)), hex 49 (by simp), h3.2.2.2.2.2.2]
      · rw [z3 0 (by decide) (by decide), omsu_n (Or.inl (by decide)), omsu_s]
      · intro _
        rw [z2 60 (by simp), omsu_n (Or.inl (by decide)), omsu_n (Or.inl (by decide)), omsu_s]
      · have hm0 : omMv n p d w r f s (omsu (omsu τ2 60 0 (omw (s j))) 43 0 0) := (h3.ex hex (by simp)).ex2 (W := [60, 43]) ((omEx.su (by simp)).trans (omEx.su (by simp))) (by rw [omsu_n (Or.inr (by decide)), omsu_n (Or.inl (by decide))]) (by simp)
        have hm1 : omMv n p d w r f (omUp s j a) (omsu (omsu (omsu τ2 60 0 (omw (s j))) 43 0 0) 49 j a) := ⟨by rw [omsu_n (Or.inl (by decide))]; exact hm0.1, by rw [omsu_o (by decide)]; exact hm0.2.1, by rw [omsu_o (by decide)]; exact hm0.2.2.1, by rw [omsu_o (by decide)]; exact hm0.2.2.2.1, by rw [omsu_o (by decide)]; exact hm0.2.2.2.2.1, by rw [omsu_o (by decide)]; exact hm0.2.2.2.2.2.1, by rw [omsu_row, hm0.2.2.2.2.2.2]⟩
        refine om_done (W := [43, 49, 60]) (σ1 := τ2) hs ?_ y3 y4 ?_ (by simp) (hm1.ex2 z2 (z3 1 (by decide) (by decide)) (by simp)) z4 z5
        · have hc0 : omCv n p d w r f (omUp s j a) (omsu σ 23 j a) := ⟨by rw [omsu_n (Or.inl (by decide))]; exact h2.1, by rw [omsu_o (by decide)]; exact h2.2.1, by rw [omsu_o (by decide)]; exact h2.2.2.1, by rw [omsu_o (by decide)]; exact h2.2.2.2.1, by rw [omsu_o (by decide)]; exact h2.2.2.2.2.1, by rw [omsu_o (by decide)]; exact h2.2.2.2.2.2.1, by rw [omsu_row, h2.2.2.2.2.2.2]⟩
          exact hc0.ex y2 (by simp)
        · exact (((omEx.su (by simp)).trans (omEx.su (by simp))).trans (omEx.su (by simp))).trans (z2.mono (by simp))
    · refine omGood.th (k := 2) (v := 0) hI (Or.inr rfl) ?_ ?_
      · unfold s_L_setSetup s_X11_setSetup
        rw [s_X11_isWithin_eq hv (by decide) (by decide), om_b0, om_if0 hj, s_X11_isWithin_eq ha (by decide) (by decide), om_b0, om_if1 h]
        rfl
      · unfold s_X12_setSetup
        rw [s_X12_isIn_eq hv (by decide) (by decide), om_b0, om_if0 hj, s_X12_isIn_eq ha (by decide) (by decide), om_b0, om_if1 h, om_b0, s_X12_holds2, om_b0, if_pos (by show omw 0 = 0; decide)]
  · refine omGood.th (k := 1) (v := 0) hI (Or.inl rfl) ?_ ?_
    · unfold s_L_setSetup s_X11_setSetup
      rw [s_X11_isWithin_eq hv (by decide) (by decide), om_b0, om_if1 hj]
      rfl
    · unfold s_X12_setSetup
      rw [s_X12_isIn_eq hv (by decide) (by decide), om_b0, om_if1 hj, om_b0, s_X12_holds1, om_b0, if_pos (by show omw 0 = 0; decide)]
