/-! ===== p39: the law's look at the pieces ===== -/
theorem om_ix {c : Int} {C j : Nat} (hc : c = (C : Int)) (h : C + j < 55) : omw (c + (j : Int)) = ((C + j : Nat) : Int) := by
  subst hc
  rw [show (C : Int) + (j : Int) = ((C + j : Nat) : Int) by omega]
  exact om_wn (by omega)
theorem om_ixg {m : Nat} (h : m < 55) : (0 : Int) ≤ (m : Int) ∧ (m : Int) < 55 := ⟨Int.natCast_nonneg m, by omega⟩
theorem om_54 : (0 : Int) ≤ omw 54 ∧ omw 54 < 55 := by decide
theorem om_54n : (omw 54).toNat = 54 := by decide
theorem om_ne10 : ¬ omw 1 = 0 := by decide
theorem om_ne01 : ¬ omw 0 = omw 1 := by decide
theorem om_ne20 : ¬ omw 2 = 0 := by decide
theorem om_ne21 : ¬ omw 2 = omw 1 := by decide
theorem om_eq00 : omw 0 = 0 := rfl
set_option maxRecDepth 100000 in
theorem isPlan_row2 {σ : omH} {fuel : Nat} {u g z len t0 t1 : Int} (h0 : s_X11_pieces σ = some len) (h1 : omw z < omw len) (h2 : s_X11_kindOf z σ = some (Sum.inr 2)) (h3 : s_X11_whoseIs z σ = some (Sum.inr (-1))) (h4 : s_X11_startOf z σ = some (Sum.inr t0)) (h5 : (if omw z = 0 then some (0 : Int) else Option.bind (s_X11_endOf (z - 1) σ) (fun r45 => Sum.elim (fun u46 => none) (fun u46 => some (u46)) r45)) = some t0) (h6 : s_X11_endOf z σ = some (Sum.inr t1)) (h7 : omw t0 < omw t1) (hu : omw 4 < omw u) :
    l_L_isPlan_30 u σ (fuel + 1) 1 g z = l_L_isPlan_30 u σ fuel 1 g (z + 1) := by
  rw [l_L_isPlan_30.eq_2, h0, om_b0, if_pos h1, if_neg om_ne10, h2, om_b0, Sum.elim_inr, h3, om_b0, Sum.elim_inr, h4, om_b0, Sum.elim_inr, h5, om_b0, if_pos rfl, h6, om_b0, Sum.elim_inr, om_b0, Sum.elim_inr, if_pos h7, if_neg om_ne20, if_neg om_ne21, if_pos hu, if_pos rfl, om_b0, if_neg om_ne10, if_neg om_ne21, om_b0, if_neg om_ne10, if_neg om_ne20]
set_option maxRecDepth 100000 in
theorem isPlan_row1 {σ : omH} {fuel : Nat} {u g z len t0 t1 : Int} {j j' : Nat} (h0 : s_X11_pieces σ = some len) (h1 : omw z < omw len) (h2 : s_X11_kindOf z σ = some (Sum.inr 1)) (h3 : s_X11_whoseIs z σ = some (Sum.inr (j : Int))) (h4 : s_X11_startOf z σ = some (Sum.inr t0)) (h5 : (if omw z = 0 then some (0 : Int) else Option.bind (s_X11_endOf (z - 1) σ) (fun r45 => Sum.elim (fun u46 => none) (fun u46 => some (u46)) r45)) = some t0) (h6 : s_X11_endOf z σ = some (Sum.inr t1)) (h7 : omw t0 < omw t1) (hu : omw u = omw 4) (hj : j < 4) (h8 : omw (t1 - t0) = omw (σ 43 (50 + j))) (h9 : ¬ omw (j : Int) = omw g) (h10 : omw (z + 1) < omw len) (h11 : s_X11_kindOf (z + 1) σ = some (Sum.inr 0)) (h12 : s_X11_whoseIs (z + 1) σ = some (Sum.inr (j' : Int))) (hj' : j' < 10) (h13 : omw (σ 43 (40 + j')) = omw (j : Int)) :
    l_L_isPlan_30 u σ (fuel + 1) 1 g z = l_L_isPlan_30 u σ fuel 1 g (z + 1) := by
  rw [l_L_isPlan_30.eq_2, h0, om_b0, if_pos h1, if_neg om_ne10, h2, om_b0, Sum.elim_inr, h3, om_b0, Sum.elim_inr, h4, om_b0, Sum.elim_inr, h5, om_b0, if_pos rfl, h6, om_b0, Sum.elim_inr, om_b0, Sum.elim_inr, if_pos h7, if_neg om_ne10, if_pos rfl, if_pos hu, om_b0, if_neg om_ne10, if_pos rfl, om_b0, Sum.elim_inr, om_b0, Sum.elim_inr, om_ix (c := 50) (C := 50) rfl (by omega), omg_t (om_ixg (by omega)), Int.toNat_natCast, if_pos h8, if_neg h9, om_b0, if_pos h10, h11, om_b0, Sum.elim_inr, if_pos om_eq00, h12, om_b0, Sum.elim_inr, om_ix (c := 40) (C := 40) rfl (by omega), omg_t (om_ixg (by omega)), Int.toNat_natCast, if_pos h13, om_b0, om_b0, if_neg om_ne10, if_neg om_ne10]
/-- the last look at a job's piece: its release or its family -/
def isPlan_t13 (u g z u7 : Int) (σ : omH) : Option Int := (if omw u < omw 5 then (if omw u = omw 4 then omg (0 ≤ omw (40 + u7) ∧ omw (40 + u7) < 55) ((if omw (σ 43 (omw (40 + u7)).toNat) = omw g then some (1) else omg (0 ≤ omw (40 + u7) ∧ omw (40 + u7) < 55) (omg (0 ≤ omw (50 + (σ 43 (omw (40 + u7)).toNat)) ∧ omw (50 + (σ 43 (omw (40 + u7)).toNat)) < 55) ((if omw (σ 43 (omw (50 + (σ 43 (omw (40 + u7)).toNat))).toNat) = 0 then some (1) else (if 0 < omw z then Option.bind (s_X11_kindOf (z - 1) σ) (fun r18 => Sum.elim (fun u19 => none) (fun u19 => (if omw u19 = omw 1 then some (1) else some (0))) r18) else some (0))))))) else some (1)) else Option.bind (s_X11_startOf z σ) (fun r20 => Sum.elim (fun u21 => none) (fun u21 => omg (0 ≤ omw (30 + u7) ∧ omw (30 + u7) < 55) ((if omw u21 < omw (σ 43 (omw (30 + u7)).toNat) then some (0) else (if omw u = omw 4 then omg (0 ≤ omw (40 + u7) ∧ omw (40 + u7) < 55) ((if omw (σ 43 (omw (40 + u7)).toNat) = omw g then some (1) else omg (0 ≤ omw (40 + u7) ∧ omw (40 + u7) < 55) (omg (0 ≤ omw (50 + (σ 43 (omw (40 + u7)).toNat)) ∧ omw (50 + (σ 43 (omw (40 + u7)).toNat)) < 55) ((if omw (σ 43 (omw (50 + (σ 43 (omw (40 + u7)).toNat))).toNat) = 0 then some (1) else (if 0 < omw z then Option.bind (s_X11_kindOf (z - 1) σ) (fun r26 => Sum.elim (fun u27 => none) (fun u27 => (if omw u27 = omw 1 then some (1) else some (0))) r26) else some (0))))))) else some (1))))) r20))
set_option maxRecDepth 100000 in
theorem isPlan_row0 {σ : omH} {fuel : Nat} {u g z len t0 t1 : Int} {j : Nat} (h0 : s_X11_pieces σ = some len) (h1 : omw z < omw len) (h2 : s_X11_kindOf z σ = some (Sum.inr 0)) (h3 : s_X11_whoseIs z σ = some (Sum.inr (j : Int))) (h4 : s_X11_startOf z σ = some (Sum.inr t0)) (h5 : (if omw z = 0 then some (0 : Int) else Option.bind (s_X11_endOf (z - 1) σ) (fun r45 => Sum.elim (fun u46 => none) (fun u46 => some (u46)) r45)) = some t0) (h6 : s_X11_endOf z σ = some (Sum.inr t1)) (h7 : omw t0 < omw t1) (hj : j < 10) (hj0 : ¬ omw (j : Int) < 0) (hjn : omw (j : Int) < omw (σ 43 54)) (ht : isPlan_t13 u g z (j : Int) σ = some 1) :
    l_L_isPlan_30 u σ (fuel + 1) 1 g z = l_L_isPlan_30 u σ fuel 1 (σ 43 (40 + j)) (z + 1) := by
  have e : l_L_isPlan_30 u σ (fuel + 1) 1 g z = Option.bind (isPlan_t13 u g z (j : Int) σ) (fun t13 => omg (0 ≤ omw (40 + (j : Int)) ∧ omw (40 + (j : Int)) < 55) (l_L_isPlan_30 u σ fuel t13 (σ 43 (omw (40 + (j : Int))).toNat) (z + 1))) := by
    unfold isPlan_t13
    rw [l_L_isPlan_30.eq_2, h0, om_b0, if_pos h1, if_neg om_ne10, h2, om_b0, Sum.elim_inr, h3, om_b0, Sum.elim_inr, h4, om_b0, Sum.elim_inr, h5, om_b0, if_pos rfl, h6, om_b0, Sum.elim_inr, om_b0, Sum.elim_inr, if_pos h7, if_pos om_eq00, if_neg hj0, omg_t om_54, om_54n, if_pos hjn, om_b0, if_neg om_ne10, if_neg om_ne01, om_b0, if_neg om_ne10, if_pos om_eq00]
  rw [e, ht, om_b0, om_ix (c := 40) (C := 40) rfl (by omega), omg_t (om_ixg (by omega)), Int.toNat_natCast]
theorem isPlan_t13_low {u g z : Int} {σ : omH} {j : Int} (h5 : omw u < omw 5) (h4 : ¬ omw u = omw 4) : isPlan_t13 u g z j σ = some 1 := by
  unfold isPlan_t13
  rw [if_pos h5, if_neg h4]
theorem isPlan_t13_high {u g z t0 : Int} {σ : omH} {j : Nat} (hj : j < 10) (h5 : ¬ omw u < omw 5) (h4 : ¬ omw u = omw 4) (hs : s_X11_startOf z σ = some (Sum.inr t0)) (hr : ¬ omw t0 < omw (σ 43 (30 + j))) : isPlan_t13 u g z (j : Int) σ = some 1 := by
  unfold isPlan_t13
  rw [if_neg h5, hs, om_b0, Sum.elim_inr, om_ix (c := 30) (C := 30) rfl (by omega), omg_t (om_ixg (by omega)), Int.toNat_natCast, if_neg hr, if_neg h4]
theorem isPlan_t13_fam {u g z : Int} {σ : omH} {j e : Nat} (hj : j < 10) (h5 : omw u < omw 5) (h4 : omw u = omw 4) (he : e < 4) (hf : σ 43 (40 + j) = (e : Int)) (h : omw (e : Int) = omw g ∨ omw (σ 43 (50 + e)) = 0 ∨ (0 < omw z ∧ s_X11_kindOf (z - 1) σ = some (Sum.inr 1))) : isPlan_t13 u g z (j : Int) σ = some 1 := by
  unfold isPlan_t13
  rw [if_pos h5, if_pos h4, om_ix (c := 40) (C := 40) rfl (by omega), omg_t (om_ixg (by omega)), Int.toNat_natCast, hf]
  by_cases h1 : omw (e : Int) = omw g
  · rw [if_pos h1]
  · rw [if_neg h1, omg_t (om_ixg (by omega)), om_ix (c := 50) (C := 50) rfl (by omega), omg_t (om_ixg (by omega)), Int.toNat_natCast]
    by_cases h2 : omw (σ 43 (50 + e)) = 0
    · rw [if_pos h2]
    · rcases h with h | h | ⟨h3, h6⟩
      · exact absurd h h1
      · exact absurd h h2
      · rw [if_neg h2, if_pos h3, h6, om_b0, Sum.elim_inr, if_pos rfl]
