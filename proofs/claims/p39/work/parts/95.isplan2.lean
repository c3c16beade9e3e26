/-! .. its loop -/
theorem omAf_rng {u n : Nat} {p d w r f s : Nat → Int} (hok : omOk n p d w r f s) : ∀ T : List omPc, omGp u n r f s T → -1 ≤ omAf f T ∧ omAf f T ≤ 3 := by
  intro T
  induction T with
  | nil => intro _; exact ⟨by show (-1 : Int) ≤ -1; decide, by show (-1 : Int) ≤ 3; decide⟩
  | cons x T ih =>
    intro h
    obtain ⟨h1, h2⟩ := h
    have h3 := ih h2
    show -1 ≤ (if x.1 = 0 then f x.2.1.toNat else omAf f T) ∧ (if x.1 = 0 then f x.2.1.toNat else omAf f T) ≤ 3
    by_cases h0 : x.1 = 0
    · rw [if_pos h0]
      have h4 := h1.2.2.1 h0
      have h5 := hok.2.1 x.2.1.toNat (by omega)
      omega
    · rw [if_neg h0]
      exact h3
theorem om_pc_len {P : List omPc} {σ : omH} (hP : omPC P σ) : s_X11_pieces σ = some ((P.length : Nat) : Int) := congrArg some hP.1
theorem om_lt_w {k l : Nat} (h : k < l) (hl : l ≤ 20) : omw (k : Int) < omw (l : Int) := by
  rw [om_wn (by omega), om_wn (by omega)]
  omega
theorem om_w_small {a : Int} (h1 : -1000 ≤ a) (h2 : a ≤ 1000) : omw a = a := omw_id (by omega) (by omega)
theorem l_L_isPlan_eq {u n : Nat} {p d w r f s : Nat → Int} {P : List omPc} {σ : omH} (hok : omOk n p d w r f s) (hT : omTb n p d w r f s σ) (hP : omPC P σ) (hB : omPok 1000 P) (hG : omGp u n r f s P) (hh : ∀ x T, P = x :: T → x.1 ≠ 1) (hu : u < 7) : ∀ (m k fuel : Nat), k + m = P.length → m < fuel → l_L_isPlan_30 (u : Int) σ fuel 1 (omAf f (P.drop m)) (k : Int) = some 1 := by
  have hn := hok.1
  have hl20 := hP.2.1
  intro m
  induction m with
  | zero =>
    intro k fuel hk hf
    obtain ⟨fuel, rfl⟩ : ∃ z, fuel = z + 1 := ⟨fuel - 1, by omega⟩
    have : k = P.length := by omega
    subst this
    rw [l_L_isPlan_30.eq_2, om_pc_len hP, om_b0, if_neg (Int.lt_irrefl _)]
  | succ m ih =>
    intro k fuel hk hf
    obtain ⟨fuel, rfl⟩ : ∃ z, fuel = z + 1 := ⟨fuel - 1, by omega⟩
    obtain ⟨x, hx, hkx⟩ := om_cut hk
    have hGm : omGp u n r f s (P.drop m) := hG.drop m
    have hBm : omPok 1000 (P.drop m) := hB.drop m
    rw [hx] at hGm hBm
    obtain ⟨⟨g1, g2, g3, g4, g5, g6⟩, gT⟩ := hGm
    have hx0 := hBm x List.mem_cons_self
    have hT0 := (omPok.now (by decide) (fun y hy => hBm y (List.mem_cons_of_mem _ hy)) : 0 ≤ omNow (P.drop (m + 1)) ∧ omNow (P.drop (m + 1)) ≤ 1000)
    have haf := omAf_rng (u := u) hok (P.drop (m + 1)) gT
    have hih := ih (k + 1) fuel (by omega) (by omega)
    rw [hx] at hih
    have e1 : ((k + 1 : Nat) : Int) = (k : Int) + 1 := by omega
    rw [e1] at hih
    have c1 := om_lt_w (show k < P.length by omega) hl20
    have c7 : omw (omNow (P.drop (m + 1))) < omw x.2.2 := by
      rw [om_w_small (by omega) (by omega), om_w_small (by omega) (by omega)]
      exact g1
    have k2 := s_X11_kindOf_at hP hkx
    have k3 := s_X11_whoseIs_at hP hkx
    have k4 := s_X11_startOf_at hP hkx hk
    have k5 := s_X11_prev_at hP hkx hk
    have k6 := s_X11_endOf_at hP hkx
    rcases g2 with h0 | h1 | h2
    · -- a job's piece
      obtain ⟨b1, b2, b3, b4⟩ := g3 h0
      obtain ⟨j, hj⟩ : ∃ j : Nat, x.2.1 = (j : Int) := ⟨x.2.1.toNat, by omega⟩
      rw [hj] at k3 b1 b2 b3 b4
      rw [Int.toNat_natCast] at b3 b4
      rw [h0] at k2
      have hjn : j < n := by omega
      have ho := hok.2.1 j hjn
      have htj := hT.2.1 j hjn
      have e0 : omAf f (x :: P.drop (m + 1)) = σ 43 (40 + j) := by
        show (if x.1 = 0 then f x.2.1.toNat else _) = _
        rw [if_pos h0, hj, Int.toNat_natCast, htj.2.2.2.2]
      rw [e0] at hih
      rw [← hih]
      refine isPlan_row0 (om_pc_len hP) c1 k2 k3 k4 k5 k6 c7 (by omega) ?_ ?_ ?_
      · rw [om_wn (by omega)]; omega
      · rw [hT.1, om_wn (by omega), om_wn (by omega)]; omega
      · by_cases hu4 : u < 4
        · exact isPlan_t13_low (by rw [om_wn (by omega), show omw 5 = 5 from rfl]; omega) (by rw [om_wn (by omega), show omw 4 = 4 from rfl]; omega)
        · by_cases hu5 : u = 4
          · obtain ⟨e, he⟩ : ∃ e : Nat, f j = (e : Int) := ⟨(f j).toNat, by omega⟩
            have he4 : e < 4 := by omega
            refine isPlan_t13_fam (e := e) (by omega) (by rw [om_wn (by omega), show omw 5 = 5 from rfl]; omega) (by rw [hu5]; rfl) he4 (by rw [htj.2.2.2.2, he]) ?_
            rcases b4 with b4 | b4 | b4 | ⟨y, T', hy, hy1⟩
            · omega
            · exact Or.inl (by rw [← b4, he])
            · rw [he, Int.toNat_natCast] at b4
              exact Or.inr (Or.inl (by rw [hT.2.2 e he4, b4]; rfl))
            · refine Or.inr (Or.inr ⟨?_, ?_⟩)
              · have hkp : 0 < k := by
                  apply Classical.byContradiction
                  intro hz
                  rw [om_drop_nil (show m + 1 = P.length by omega)] at hy
                  cases hy
                rw [om_wn (by omega)]; omega
              · have hkp : 0 < k := by
                  apply Classical.byContradiction
                  intro hz
                  rw [om_drop_nil (show m + 1 = P.length by omega)] at hy
                  cases hy
                obtain ⟨y', hy', hky⟩ := om_cut (P := P) (k := k - 1) (m := m + 1) (by omega)
                rw [hy'] at hy
                cases hy
                have := s_X11_kindOf_at hP hky
                rw [hy1, show ((k - 1 : Nat) : Int) = (k : Int) - 1 by omega] at this
                exact this
          · refine isPlan_t13_high (by omega) (by rw [om_wn (by omega), show omw 5 = 5 from rfl]; omega) (by rw [om_wn (by omega), show omw 4 = 4 from rfl]; omega) k4 ?_
            rw [htj.2.2.2.1, om_w_small (by omega) (by omega), om_w_small (by omega) (by omega)]
            omega
    · -- a setup's
      obtain ⟨b1, b2, b3, b4, b5⟩ := g4 h1
      obtain ⟨j, hj⟩ : ∃ j : Nat, x.2.1 = (j : Int) := ⟨x.2.1.toNat, by omega⟩
      have hm : m ≠ 0 := fun hz => by
        subst hz
        exact hh x _ hx h1
      obtain ⟨m', rfl⟩ : ∃ z, m = z + 1 := ⟨m - 1, by omega⟩
      obtain ⟨y, hy, hky⟩ := om_cut (P := P) (k := k + 1) (m := m') (by omega)
      have hGy : omGp u n r f s (P.drop m') := hG.drop m'
      rw [hy, hx] at hGy
      obtain ⟨⟨_, _, y3, _, _, y6⟩, _⟩ := hGy
      obtain ⟨z1, z2⟩ := y6 x _ rfl h1
      obtain ⟨w1, w2, _, _⟩ := y3 z1
      obtain ⟨j', hj'⟩ : ∃ j' : Nat, y.2.1 = (j' : Int) := ⟨y.2.1.toNat, by omega⟩
      have ky2 := s_X11_kindOf_at hP hky
      have ky3 := s_X11_whoseIs_at hP hky
      rw [hj', e1] at ky3
      rw [z1, e1] at ky2
      rw [hj', Int.toNat_natCast, hj] at z2
      rw [hj] at k3 b2 b3 b4 b5
      rw [Int.toNat_natCast] at b4
      rw [h1] at k2
      have hjn : j' < n := by omega
      have htj := hT.2.1 j' hjn
      have e0 : omAf f (x :: P.drop (m' + 1 + 1)) = omAf f (P.drop (m' + 1 + 1)) := by
        show (if x.1 = 0 then _ else _) = _
        rw [if_neg (by omega)]
      rw [e0] at hih
      rw [← hih]
      refine isPlan_row1 (j' := j') (om_pc_len hP) c1 k2 k3 k4 k5 k6 c7 (by rw [b1]; rfl) (by omega) ?_ ?_ ?_ ky2 ky3 (by omega) ?_
      · rw [hT.2.2 j (by omega), b4]
      · rw [om_wn (by omega), om_w_small (by omega) (by omega)]
        exact b5
      · rw [← e1]
        exact om_lt_w (by omega) hl20
      · rw [htj.2.2.2.2, z2]
    · -- an idle one
      obtain ⟨b1, b2⟩ := g5 h2
      rw [h2] at k2
      rw [b2] at k3
      have e0 : omAf f (x :: P.drop (m + 1)) = omAf f (P.drop (m + 1)) := by
        show (if x.1 = 0 then _ else _) = _
        rw [if_neg (by omega)]
      rw [e0] at hih
      rw [← hih]
      exact isPlan_row2 (om_pc_len hP) c1 k2 k3 k4 k5 k6 c7 (by rw [om_wn (by omega), show omw 4 = 4 from rfl]; omega)
theorem s_L_isPlan_eq {u n : Nat} {p d w r f s : Nat → Int} {P : List omPc} {σ : omH} (hok : omOk n p d w r f s) (hT : omTb n p d w r f s σ) (hP : omPC P σ) (h24 : σ 24 0 = 1) (hl : n ≤ P.length) (hB : omPok 1000 P) (hG : omGp u n r f s P) (hh : ∀ x T, P = x :: T → x.1 ≠ 1) (hu : u < 7) : s_L_isPlan (u : Int) σ = some 1 := by
  have hl20 := hP.2.1
  have h1 := l_L_isPlan_eq hok hT hP hB hG hh hu P.length 0 FU (by omega) (by rw [FU_eq]; omega)
  rw [om_drop_nil rfl] at h1
  have h1' : l_L_isPlan_30 (u : Int) σ FU 1 (-1) 0 = some 1 := h1
  unfold s_L_isPlan s_X11_hasPlan
  rw [h24, omg_t (Or.inr rfl), om_b0, if_neg om_ne10, om_pc_len hP, om_b0, omg_t om_54, om_54n, hT.1, if_neg (by rw [om_wn (by omega), om_wn (by omega)]; omega), om_b0, h1', om_b0, omg_t (Or.inr rfl)]
