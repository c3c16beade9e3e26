/-! ===== p39: a step of the law ===== -/
def omSj (n : Nat) (p d w r f s : Nat → Int) (σ : omH) : Prop := omOk n p d w r f s ∧ omCv n p d w r f s σ ∧ omTb n p d w r f s σ ∧ (n = 0 → σ 24 0 = 0 ∧ σ 24 1 = 0)
def omJs (σ : omH) : Prop := ∃ (n : Nat) (p d w r f s : Nat → Int), omSj n p d w r f s σ
theorem om_hasPlan0 {σ : omH} (h : σ 24 0 = 0) : s_X11_hasPlan σ = some 0 := by
  unfold s_X11_hasPlan
  rw [omg_t (Or.inl h), h]
theorem om_p5i {n : Nat} (h : n < 10) : 54 ≠ n ∧ 54 ≠ 10 + n ∧ 54 ≠ 20 + n ∧ 54 ≠ 30 + n ∧ 54 ≠ 40 + n := ⟨by omega, by omega, by omega, by omega, by omega⟩
theorem om_succI {n : Nat} : ((n + 1 : Nat) : Int) = (n : Int) + 1 := by omega
theorem omP5_54 {σ : omH} {n : Nat} {A B C D E : Int} (h : n < 10) : omP5 σ n A B C D E 43 54 = σ 43 54 := by
  obtain ⟨h0, h1, h2, h3, h4⟩ := om_p5i h
  exact omP5_other h0 h1 h2 h3 h4
theorem om_lt_succ_ne {n i : Nat} (h : i < n + 1) (hne : i ≠ n) : i < n := by omega
theorem om_succ_le {n : Nat} (h : n < 10) : n + 1 ≤ 10 := h
theorem om_le10 {n : Nat} (h : n < 10) : n ≤ 10 := Nat.le_of_lt h
section
variable {n : Nat} {p d w r f s : Nat → Int} {σ : omH} {v2 : Int}
theorem step_add_eq {x y : Nat} (h : omSj n p d w r f s σ) (h10 : n < 10) (hx : x < 2147483648) (hy : y < 2147483648) : ∃ σ', step_add v2 (x : Int) (y : Int) σ = some (1, σ') ∧ omJs σ' := by
  obtain ⟨hok, hc, hT, -⟩ := h
  obtain ⟨A, B, C, D, E, hR, ht⟩ := s_L_tells_eq (σ := σ) h10 hx hy
  obtain ⟨o1, o2, o3, o4, o5⟩ := omP5_own (σ := σ) (j := n) (A := A) (B := B) (C := C) (D := D) (E := E)
  have e54 : omP5 σ n A B C D E 43 54 = n := (omP5_54 h10).trans hT.1
  obtain ⟨q0, q1, q2, q3, q4⟩ := om_p5i h10
  have hex : omEx [43] σ (omsu (omP5 σ n A B C D E) 43 54 ((n : Int) + 1)) := omP5_ex.trans (omEx.su (by simp))
  obtain ⟨τ, a1, a2, a3, a4, a5⟩ := om_addJob2 hok (hc.ex hex (by simp)) h10 hR
  have l0 := om_ixg (Nat.lt_trans h10 (by decide : 10 < 55))
  have l1 := om_lt55 (C := 10) h10 (Nat.le_refl 10) (by decide)
  have l2 := om_lt55 (C := 20) h10 (Nat.le_refl 10) (by decide)
  have l3 := om_lt55 (C := 30) h10 (Nat.le_refl 10) (by decide)
  have l4 := om_lt55 (C := 40) h10 (Nat.le_refl 10) (by decide)
  have i0 : omw (n : Int) = (n : Int) := om_wn (Nat.lt_trans h10 (by decide))
  have hok' := omUp_ok (n' := n + 1) (j := n) hok (om_succ_le h10) (fun i hi hij => om_lt_succ_ne hi hij) hR
  have hT' : omTb (n + 1) (omUp p n A) (omUp d n B) (omUp w n C) (omUp r n D) (omUp f n E) s τ := by
    refine omTb.put hT (om_le10 h10) (om_succ_le h10) h10 (fun i hi hij => om_lt_succ_ne hi hij) ?_ (fun k hk => ?_)
    · rw [a3 43 (by simp), omsu_s]; exact om_succI.symm
    · rw [a3 43 (by simp), omsu_n (Or.inr hk)]
  have r0 : omsu (omP5 σ n A B C D E) 43 54 ((n : Int) + 1) 43 n = A := by rw [omsu_n (Or.inr q0.symm)]; exact o1
  have r1 : omsu (omP5 σ n A B C D E) 43 54 ((n : Int) + 1) 43 (10 + n) = B := by rw [omsu_n (Or.inr q1.symm)]; exact o2
  have r2 : omsu (omP5 σ n A B C D E) 43 54 ((n : Int) + 1) 43 (20 + n) = C := by rw [omsu_n (Or.inr q2.symm)]; exact o3
  have r3 : omsu (omP5 σ n A B C D E) 43 54 ((n : Int) + 1) 43 (30 + n) = D := by rw [omsu_n (Or.inr q3.symm)]; exact o4
  have r4 : omsu (omP5 σ n A B C D E) 43 54 ((n : Int) + 1) 43 (40 + n) = E := by rw [omsu_n (Or.inr q4.symm)]; exact o5
  have e17 : τ 17 0 = (n : Int) + 1 := a2.1.trans om_succI
  refine ⟨τ, ?_, n + 1, _, _, _, _, _, _, hok', a2, hT', fun hz => absurd hz (Nat.succ_ne_zero n)⟩
  unfold step_add
  rw [om_54n, hT.1, ht, om_b0, e54, omg_t om_54, omg_t om_54, om_ix (c := 10) (C := 10) rfl l1, om_ix (c := 20) (C := 20) rfl l2, om_ix (c := 30) (C := 30) rfl l3, om_ix (c := 40) (C := 40) rfl l4, i0, omg_t l0, omg_t (om_ixg l1), omg_t (om_ixg l2), omg_t (om_ixg l3), omg_t (om_ixg l4), Int.toNat_natCast, Int.toNat_natCast, Int.toNat_natCast, Int.toNat_natCast, Int.toNat_natCast, r0, r1, r2, r3, r4, a1, om_b0, Sum.elim_inr]
  dsimp only
  rw [if_pos i0]
  unfold s_X11_jobs
  rw [om_b0, e17, if_pos rfl, om_hasPlan0 a4, om_b0, if_pos om_eq00]
theorem step_setup_eq {x y : Nat} (h : omSj n p d w r f s σ) (hx : x < 2147483648) (hy : y < 2147483648) (h7 : omw ((omw v2).tmod (omw 8)) = omw 7) : ∃ σ', step_rest v2 (x : Int) (y : Int) σ = some (1, σ') ∧ omJs σ' := by
  obtain ⟨hok, hc, hT, h0⟩ := h
  have t4 : (omw (x : Int)).tmod (omw 4) = ((x % 4 : Nat) : Int) := om_tm (by decide) hx
  have t21 : (omw (y : Int)).tmod (omw 21) = ((y % 21 : Nat) : Int) := om_tm (by decide) hy
  have m4 := Nat.mod_lt x (show 0 < 4 by decide)
  have m21 := Nat.mod_lt y (show 0 < 21 by decide)
  have hq : ∀ q, q < 4 → 50 + q < 55 := fun q hq => by omega
  unfold step_rest
  rw [t4, t21]
  generalize x % 4 = q at m4
  generalize y % 21 = v at m21
  have hex : omEx [43] σ (omsu σ 43 (50 + q) (v : Int)) := omEx.su (by simp)
  obtain ⟨τ, a1, a2, a3, a4, a5, a6⟩ := om_setSetup2 (a := (v : Int)) hok (hc.ex hex (by simp)) m4 ⟨Int.natCast_nonneg v, by omega⟩
  have hT' : omTb n p d w r f (omUp s q (v : Int)) τ := by
    have e43 : τ 43 = omsu σ 43 (50 + q) (v : Int) 43 := a3 43 (by simp)
    have hn10 := hok.1
    refine ⟨?_, fun j hj => ?_, fun e he => ?_⟩
    · rw [e43, omsu_n (Or.inr (by omega))]; exact hT.1
    · obtain ⟨b1, b2, b3, b4, b5⟩ := hT.2.1 j hj
      rw [e43]
      exact ⟨by rw [omsu_n (Or.inr (by omega))]; exact b1, by rw [omsu_n (Or.inr (by omega))]; exact b2, by rw [omsu_n (Or.inr (by omega))]; exact b3, by rw [omsu_n (Or.inr (by omega))]; exact b4, by rw [omsu_n (Or.inr (by omega))]; exact b5⟩
    · rw [e43]
      by_cases hee : e = q
      · subst hee; rw [omsu_s, omUp_s]
      · rw [omsu_n (Or.inr (by omega)), omUp_n hee]; exact hT.2.2 e he
  refine ⟨τ, ?_, n, _, _, _, _, _, _, a6, a2, hT', fun _ => ⟨a4, a5⟩⟩
  rw [omg_t (show ¬ omw 8 = 0 by decide), if_pos h7, om_ix (c := 50) (C := 50) rfl (hq q m4), omg_t (show ¬ omw 4 = 0 by decide), omg_t (om_ixg (hq q m4)), omg_t (show ¬ omw 4 = 0 by decide), omg_t (show ¬ omw 21 = 0 by decide), omg_t (om_ixg (hq q m4)), omg_t (show ¬ omw 4 = 0 by decide), omg_t (show ¬ omw 21 = 0 by decide), Int.toNat_natCast, a1, om_b0, Sum.elim_inr]
  dsimp only
  rw [if_pos (show omw (s q) = omw (σ 43 (50 + q)) by rw [hT.2.2 q m4]), om_hasPlan0 a4, om_b0, if_pos om_eq00]
theorem step_none_eq {v3 v4 : Int} (h : omSj 0 p d w r f s σ) (h7 : ¬ omw ((omw v2).tmod (omw 8)) = omw 7) : ∃ σ', step_rest v2 v3 v4 σ = some (1, σ') ∧ omJs σ' := by
  obtain ⟨hok, hc, hT, h0⟩ := h
  obtain ⟨z0, z1⟩ := h0 rfl
  obtain ⟨τ1, a1, a2⟩ := (om_none hok hc).1
  have hc1 := hc.ex a2 (by simp)
  obtain ⟨τ2, b1, b2⟩ := (om_none hok hc1).2
  have hex := a2.trans b2
  refine ⟨τ2, ?_, 0, p, d, w, r, f, s, hok, hc1.ex b2 (by simp), hT.ex hex (by simp), fun _ => by rw [hex 24 (by simp)]; exact ⟨z0, z1⟩⟩
  have e54 : omw (((0 : Nat)) : Int) = 0 := rfl
  unfold step_rest
  rw [omg_t (show ¬ omw 8 = 0 by decide), if_neg h7, om_54n, hT.1, if_pos e54, om_hasPlan0 z0, om_b0, if_pos om_eq00]
  unfold s_X11_pieces
  rw [om_b0, z1, if_pos om_eq00, a1, om_b0, if_pos om_eq00, b1, om_b0, Sum.elim_inr, if_neg om_ne10]
theorem step_change_eq {x y : Nat} (h : omSj n p d w r f s σ) (hn : 0 < n) (hx : x < 2147483648) (hy : y < 2147483648) (h7 : ¬ omw ((omw v2).tmod (omw 8)) = omw 7) (h6 : omw ((omw v2).tmod (omw 8)) = omw 6) : ∃ σ', step_rest v2 (x : Int) (y : Int) σ = some (1, σ') ∧ omJs σ' := by
  obtain ⟨hok, hc, hT, h0⟩ := h
  have hn10 := hok.1
  have wn : omw (n : Int) = (n : Int) := om_wn (by omega)
  have tn : (omw (x : Int)).tmod (omw (n : Int)) = ((x % n : Nat) : Int) := om_tm wn hx
  have nz : ¬ omw (n : Int) = 0 := by rw [wn]; omega
  have hj := Nat.mod_lt x hn
  unfold step_rest
  rw [om_54n, hT.1, tn]
  generalize x % n = j at hj
  have hj10 : j < 10 := by omega
  obtain ⟨A, B, C, D, E, hR, ht⟩ := s_L_tells_eq (σ := σ) hj10 hy hx
  obtain ⟨o1, o2, o3, o4, o5⟩ := omP5_own (σ := σ) (j := j) (A := A) (B := B) (C := C) (D := D) (E := E)
  have hex : omEx [43] σ (omP5 σ j A B C D E) := omP5_ex
  obtain ⟨τ, a1, a2, a3, a4, a5⟩ := om_changeJob7 hok (hc.ex hex (by simp)) hj hR
  have l0 := om_ixg (Nat.lt_trans hj10 (by decide : 10 < 55))
  have l1 := om_lt55 (C := 10) hj10 (Nat.le_refl 10) (by decide)
  have l2 := om_lt55 (C := 20) hj10 (Nat.le_refl 10) (by decide)
  have l3 := om_lt55 (C := 30) hj10 (Nat.le_refl 10) (by decide)
  have l4 := om_lt55 (C := 40) hj10 (Nat.le_refl 10) (by decide)
  have i0 : omw (j : Int) = (j : Int) := om_wn (Nat.lt_trans hj10 (by decide))
  have hT' : omTb n (omUp p j A) (omUp d j B) (omUp w j C) (omUp r j D) (omUp f j E) s τ := by
    refine omTb.put hT hn10 hn10 hj10 (fun i hi hij => hi) ?_ (fun k hk => ?_)
    · rw [a3 43 (by simp)]; exact (omP5_54 hj10).trans hT.1
    · rw [a3 43 (by simp)]
  refine ⟨τ, ?_, n, _, _, _, _, _, _, omUp_ok hok hn10 (fun i hi _ => hi) hR, a2, hT', fun _ => ⟨a4, a5⟩⟩
  rw [omg_t (show ¬ omw 8 = 0 by decide), if_neg h7, if_neg nz, omg_t nz, omg_t (show ¬ omw 8 = 0 by decide), if_pos h6, ht, om_b0, om_ix (c := 10) (C := 10) rfl l1, om_ix (c := 20) (C := 20) rfl l2, om_ix (c := 30) (C := 30) rfl l3, om_ix (c := 40) (C := 40) rfl l4, i0, omg_t l0, omg_t (om_ixg l1), omg_t (om_ixg l2), omg_t (om_ixg l3), omg_t (om_ixg l4), Int.toNat_natCast, Int.toNat_natCast, Int.toNat_natCast, Int.toNat_natCast, Int.toNat_natCast, o1, o2, o3, o4, o5, a1, om_b0, Sum.elim_inr, om_hasPlan0 a4, om_b0, if_pos om_eq00]
  unfold s_X11_jobs
  rw [om_b0, a2.1, if_pos rfl]
theorem step_gone_eq {x y : Nat} (h : omSj n p d w r f s σ) (hn : 0 < n) (hx : x < 2147483648) (h7 : ¬ omw ((omw v2).tmod (omw 8)) = omw 7) (h6 : ¬ omw ((omw v2).tmod (omw 8)) = omw 6) : ∃ σ', step_rest v2 (x : Int) (y : Int) σ = some (1, σ') ∧ omJs σ' := by
  obtain ⟨hok, hc, hT, h0⟩ := h
  have hn10 := hok.1
  have wn : omw (n : Int) = (n : Int) := om_wn (by omega)
  have tn : (omw (x : Int)).tmod (omw (n : Int)) = ((x % n : Nat) : Int) := om_tm wn hx
  have nz : ¬ omw (n : Int) = 0 := by rw [wn]; omega
  have hj := Nat.mod_lt x hn
  unfold step_rest
  rw [om_54n, hT.1, tn]
  generalize x % n = j at hj
  have e1 : (n : Int) - 1 = ((n - 1 : Nat) : Int) := by omega
  obtain ⟨ρ, b1, b2, b3, b4, b5⟩ := l_L_step_301_eq (j := j) (N := n - 1) (v5 := (n : Int)) (v6 := (j : Int)) (G := fun c i => σ 43 (10 * c + i)) (by omega) (n - 1 - j) j FU (omsu σ 43 54 (((n - 1 : Nat) : Int))) (by omega) (Nat.le_refl j) (by rw [FU_eq]; omega) omsu_s (fun c hc i hi => by
    rw [omsu_n (Or.inr (by omega)), omSh_0])
  have hex : omEx [43] σ ρ := (omEx.su (by simp)).trans b2
  obtain ⟨τ, a1, a2, a3, a4, a5⟩ := om_removeJob2 hok (hc.ex hex (by simp)) hj
  have hT' : omTb (n - 1) (omSh j (n - 1) p) (omSh j (n - 1) d) (omSh j (n - 1) w) (omSh j (n - 1) r) (omSh j (n - 1) f) s τ := by
    have e43 : τ 43 = ρ 43 := a3 43 (by simp)
    refine omTb.gone hT hn10 hj (by rw [e43]; exact b3) (fun c hc i hi => by rw [e43]; exact b4 c hc i hi) (fun q hq => ?_)
    rw [e43, b5 q hq, omsu_n (Or.inr (by omega))]
  refine ⟨τ, ?_, n - 1, _, _, _, _, _, _, omSh_ok hok hj, a2, hT', fun _ => ⟨a4, a5⟩⟩
  rw [omg_t (show ¬ omw 8 = 0 by decide), if_neg h7, if_neg nz, omg_t nz, omg_t (show ¬ omw 8 = 0 by decide), if_neg h6, omg_t om_54, omg_t om_54, e1, b1, om_b0, a1, om_b0, Sum.elim_inr]
  dsimp only
  rw [if_pos rfl, om_hasPlan0 a4, om_b0, if_pos om_eq00]
theorem s_L_step_eq {z x y : Nat} (h : omJs σ) (hz : z < 2147483648) (hx : x < 2147483648) (hy : y < 2147483648) : ∃ σ', s_L_step (z : Int) (x : Int) (y : Int) σ = some (1, σ') ∧ omJs σ' := by
  obtain ⟨n, p, d, w, r, f, s, h⟩ := h
  have hn10 := h.1.1
  rw [s_L_step_cut]
  have hrest : ∃ σ', step_rest (z : Int) (x : Int) (y : Int) σ = some (1, σ') ∧ omJs σ' := by
    by_cases h7 : omw ((omw (z : Int)).tmod (omw 8)) = omw 7
    · exact step_setup_eq h hx hy h7
    · by_cases hn : n = 0
      · subst hn
        exact step_none_eq h h7
      · by_cases h6 : omw ((omw (z : Int)).tmod (omw 8)) = omw 6
        · exact step_change_eq h (by omega) hx hy h7 h6
        · exact step_gone_eq h (by omega) hx h7 h6
  by_cases h5 : omw ((omw (z : Int)).tmod (omw 8)) < omw 5
  · rw [if_pos h5]
    by_cases h10 : n < 10
    · rw [if_pos (by rw [h.2.2.1.1]; exact om_lt_w (k := n) (l := 10) h10 (by decide))]
      exact step_add_eq h h10 hx hy
    · rw [if_neg (by
        have : n = 10 := by omega
        rw [h.2.2.1.1, this]
        exact Int.lt_irrefl _)]
      exact hrest
  · rw [if_neg h5]
    exact hrest
end
