/-! .. the class's events -/
def omXc (n : Nat) (p : Nat → Int) (X : omE3) (σ : omH) : Prop := omPC X.1 σ ∧ (∀ j, j < n → σ 37 j = X.2.1 j) ∧ ∀ j, j < n → X.2.1 j < p j → σ 28 j = X.2.2 j
theorem l_X6_make_33_eq {v n : Nat} {p d w r f s : Nat → Int} {q : Nat → Nat} (hok : omOk n p d w r f s) (hv : v < 2) (hq : omSt (omBk d) n q) : ∀ (m k fuel : Nat) (σ : omH), k + m = 20 → m < fuel → omCv n p d w r f s σ → (∀ i, i < n → σ 36 i = q i) → omXc n p (omEs v n p d r k) σ →
    ∃ σ', l_X6_make_33 v fuel k σ = some σ' ∧ omEx [24, 25, 26, 27, 28, 37] σ σ' ∧ σ' 24 0 = σ 24 0 ∧ omXc n p (omEs v n p d r 20) σ' := by
  have hn := hok.1
  intro m
  induction m with
  | zero =>
    intro k fuel σ hk hf hc hr hX
    obtain ⟨fuel, rfl⟩ : ∃ z, fuel = z + 1 := ⟨fuel - 1, by omega⟩
    have : k = 20 := by omega
    subst this
    rw [l_X6_make_33.eq_2, if_neg (by decide)]
    exact ⟨σ, rfl, omEx.rfl', rfl, hX⟩
  | succ m ih =>
    intro k fuel σ hk hf hc hr hX
    obtain ⟨fuel, rfl⟩ : ∃ z, fuel = z + 1 := ⟨fuel - 1, by omega⟩
    have hE := omEs_ok (v := v) (d := d) hok k
    have hS : omEs v n p d r (k + 1) = omEv v n d r (omEs v n p d r k) := rfl
    have hstop := omEs_stop (v := v) (n := n) (k := k) (p := p) (d := d) (r := r)
    have ih' := ih (k + 1) fuel
    rw [hS] at ih'
    generalize omEs v n p d r k = X at hE hS hstop ih' hX
    have hnow := omEk_now hok hE
    have hNr := omNr_gt (t := omNow X.1) hok (by omega)
    have hRr := hE.2.2.1
    have hlen := hE.2.1
    have hch : (if omw (v : Int) = 0 then Option.bind (s_X6_firstByDateAt (omNow X.1) σ) (fun r11 => some r11) else Option.bind (s_X6_shortestAt (omNow X.1) σ) (fun r12 => some r12)) = some (omWk v d r X.2.1 (omNow X.1) n) := by
      by_cases h0 : v = 0
      · subst h0
        rw [if_pos (by decide), s_X6_firstByDateAt_eq hok hc hq hr hRr hX.2.1 (by omega), om_b0]
      · have : v = 1 := by omega
        subst this
        rw [if_neg (by decide), s_X6_shortestAt_eq hok hc hRr hX.2.1 (by omega), om_b0]
    rw [l_X6_make_33.eq_2, om_wn (show k < 2147483648 by omega), show omw 20 = 20 from rfl, if_pos (by omega), s_X5_now_eq hX.1, om_b0, hch, om_b0, s_X6_nextRelease_eq hok hc (by omega), om_b0, show ((k : Int) + 1) = ((k + 1 : Nat) : Int) by omega]
    rcases om_dec (n := n) (r := r) (R := X.2.1) (t := omNow X.1) with hon | hno
    · obtain ⟨j, hcj⟩ := omCh_ex (v := v) (d := d) hon
      have hD := omDt_rng hok hE hcj
      have hj := hcj.1
      have hRj := hRr j hj
      have hoj := hok.2.1 j hj
      rw [omEv_job hcj] at ih'
      have ed : min (omNr r (omNow X.1) n - omNow X.1) (X.2.1 j) = omDt n j r X := rfl
      rw [omWk_of hcj, om_wn (show j < 2147483648 by omega), show omw (-1) = -1 from rfl, if_neg (by omega), Int.toNat_natCast, hX.2.1 j hj, omw_id (a := omNr r (omNow X.1) n - omNow X.1) (by omega) (by omega), omw_id (a := X.2.1 j) (by omega) (by omega), ed, omg_t ⟨by omega, by omega⟩, omg_t ⟨by omega, by omega⟩, omg_t ⟨by omega, by omega⟩]
      have ex1 : omEx [37] σ (omsu σ 37 j (X.2.1 j - omDt n j r X)) := omEx.su (by simp)
      obtain ⟨τ, a1, a2, a3, a4, a5⟩ := s_X5_addWork_eq (j := j) (t := omDt n j r X) (hX.1.ex ex1 (by simp)) (by omega) (by decide : (0 : Int) ≤ 1000 ∧ (1000 : Int) ≤ 100000) hE.1 (by omega) (by omega)
      rw [a1, om_b0]
      have ex2 : omEx [24, 25, 26, 27, 28, 37] σ τ := (ex1.mono (by simp)).trans (a3.mono (by simp))
      obtain ⟨σ', z1, z2, z3, z4⟩ := ih' τ (by omega) (by omega) (hc.ex ex2 (by simp)) (fun i hi => by rw [ex2 36 (by simp)]; exact hr i hi) ⟨a2, fun i hi => by
        rw [a3 37 (by simp)]
        show omsu σ 37 j (X.2.1 j - omDt n j r X) 37 i = omUp X.2.1 j (X.2.1 j - omDt n j r X) i
        by_cases hij : i = j
        · subst hij; rw [omsu_s, omUp_s]
        · rw [omsu_n (Or.inr hij), omUp_n hij]; exact hX.2.1 i hi, fun i hi hlt => by
        rw [a5]
        show omUp (omsu σ 37 j (X.2.1 j - omDt n j r X) 28) j (omNow X.1 + omDt n j r X) i = omUp X.2.2 j (omNow X.1 + omDt n j r X) i
        by_cases hij : i = j
        · subst hij; rw [omUp_s, omUp_s]
        · have hlt' : omUp X.2.1 j (X.2.1 j - omDt n j r X) i < p i := hlt
          rw [omUp_n hij] at hlt'
          rw [omUp_n hij, omUp_n hij, omsu_n (Or.inl (by decide))]
          exact hX.2.2 i hi hlt'⟩
      exact ⟨σ', z1, ex2.trans z2, by rw [z3, a4, omsu_n (Or.inl (by decide))], z4⟩
    · rw [omWk_no hno, if_pos rfl]
      by_cases hN : omNr r (omNow X.1) n < 1000000
      · obtain ⟨hN1, i0, hi0, g1, g2⟩ := hNr.2.1 hN
        rw [omEv_idle hno hN] at ih'
        rw [omw_id (a := omNow X.1 + (omNr r (omNow X.1) n - omNow X.1)) (by omega) (by omega), if_pos (by show omNow X.1 + (omNr r (omNow X.1) n - omNow X.1) < 1000000; omega)]
        obtain ⟨τ, a1, a2, a3, a4⟩ := s_X5_add_eq (e := (2, -1, omNr r (omNow X.1) n - omNow X.1)) hX.1 (by omega) (by decide : (0 : Int) ≤ 1000 ∧ (1000 : Int) ≤ 100000) hE.1 ⟨by show (0 : Int) ≤ 2; decide, by show (2 : Int) ≤ 2; decide⟩ ⟨by show (-1 : Int) ≤ -1; decide, by show (-1 : Int) ≤ 9; decide⟩ ⟨by show 0 ≤ omNr r (omNow X.1) n - omNow X.1; omega, by show omNr r (omNow X.1) n - omNow X.1 ≤ 100000; omega⟩
        have a1' : s_X5_add 2 (-1) (omNr r (omNow X.1) n - omNow X.1) σ = some τ := a1
        rw [a1', om_b0]
        have ex2 : omEx [24, 25, 26, 27, 28, 37] σ τ := a3.mono (by simp)
        obtain ⟨σ', z1, z2, z3, z4⟩ := ih' τ (by omega) (by omega) (hc.ex ex2 (by simp)) (fun i hi => by rw [ex2 36 (by simp)]; exact hr i hi) ⟨a2, fun i hi => by rw [a3 37 (by simp)]; exact hX.2.1 i hi, fun i hi hlt => by rw [a3 28 (by simp)]; exact hX.2.2 i hi hlt⟩
        exact ⟨σ', z1, ex2.trans z2, by rw [z3, a4], z4⟩
      · have hst := hstop (omEv_end hno hN) (m + 1)
        rw [show k + (m + 1) = 20 by omega] at hst
        rw [omw_id (a := omNow X.1 + (omNr r (omNow X.1) n - omNow X.1)) (by omega) (by omega), if_neg (by show ¬ omNow X.1 + (omNr r (omNow X.1) n - omNow X.1) < 1000000; omega), hst]
        exact ⟨σ, rfl, omEx.rfl', rfl, hX⟩
theorem omcpy_ex {σ : omH} : omEx [37] σ (omcpy σ) := by
  intro o ho
  funext j
  unfold omcpy
  rw [if_neg (fun h => ho (by rw [h.1]; simp))]
theorem s_X6_make_eq {v n : Nat} {p d w r f s : Nat → Int} {σ : omH} (hok : omOk n p d w r f s) (hv : v < 2) (hc : omCv n p d w r f s σ) : ∃ σ', s_X6_make v σ = some σ' ∧ omEx [24, 25, 26, 27, 28, 36, 37] σ σ' ∧ σ' 24 0 = 1 ∧ omXc n p (omEs v n p d r 20) σ' := by
  have hn := hok.1
  obtain ⟨τ0, q, a1, a2, a3, a4⟩ := s_X2_fillInOrder_eq (c := 5) (a := 36) hok hc (by decide) (by decide)
  have a3' : omSt (omBk d) n q := a3
  have ex1 : omEx [24, 37] τ0 (omsu (omsu (omcpy τ0) 24 0 1) 24 1 0) := ((omcpy_ex.mono (by simp)).trans (omEx.su (by simp))).trans (omEx.su (by simp))
  have hc0 := hc.ex a2 (by simp)
  obtain ⟨σ', z1, z2, z3, z4⟩ := l_X6_make_33_eq (v := v) hok hv a3' 20 0 FU (omsu (omsu (omcpy τ0) 24 0 1) 24 1 0) (by omega) (by rw [FU_eq]; omega) (hc0.ex ex1 (by simp)) (fun i hi => by rw [ex1 36 (by simp)]; exact a4 i hi) ⟨⟨by rw [omsu_s]; rfl, by show 0 ≤ 20; decide, fun i x hx => by simp [omEs] at hx⟩, fun j hj => by
    rw [omsu_n (Or.inl (by decide)), omsu_n (Or.inl (by decide))]
    show omcpy τ0 37 j = p j
    unfold omcpy
    rw [if_pos ⟨rfl, by omega⟩, hc0.2.1], fun j hj hlt => absurd hlt (Int.lt_irrefl _)⟩
  have z1' : l_X6_make_33 v FU 0 (omsu (omsu (omcpy τ0) 24 0 1) 24 1 0) = some σ' := z1
  refine ⟨σ', ?_, (a2.mono (by simp)).trans ((ex1.mono (by simp)).trans (z2.mono (by simp))), by rw [z3, omsu_n (Or.inr (by decide)), omsu_s], z4⟩
  unfold s_X6_make s_X5_begin
  rw [a1, om_b0, om_b0, z1', om_b0]
