/-! ===== p39: the windows, as the law asks for them ===== -/
noncomputable def omWi (n : Nat) (p d r : Nat → Int) : Nat := omBe 1 n p d r (n * n) / n
noncomputable def omWj (n : Nat) (p d r : Nat → Int) : Nat := omBe 1 n p d r (n * n) % n
theorem omWij {n : Nat} {p d w r f s : Nat → Int} (hok : omOk n p d w r f s) (hn : 0 < n) : omWi n p d r < n ∧ omWj n p d r < n ∧ 0 < omWl 1 n p d r (omWi n p d r) (omWj n p d r) ∧ omBst 1 n p d r = r (omWi n p d r) + omWl 1 n p d r (omWi n p d r) (omWj n p d r) - d (omWj n p d r) := by
  obtain ⟨h1, h2⟩ := omBe_ok (v := 1) hok hn (n * n) (Nat.le_refl _)
  obtain ⟨h3, h4⟩ := om_dm hn h1
  have h5 := (omBw_rng (v := 1) hok h3 h4).2 h2
  have h6 := omWl_rng (v := 1) (i := omWi n p d r) (j := omWj n p d r) hok (Nat.le_refl n)
  have h7 : omRl 1 r (omBe 1 n p d r (n * n) / n) = r (omWi n p d r) := if_neg (by decide)
  have h8 := h5.1
  rw [h7] at h8
  have h2' : omWl 1 n p d r (omWi n p d r) (omWj n p d r) ≠ 0 := h2
  exact ⟨h3, h4, by omega, h8⟩
section
variable {n : Nat} {p d w r f s : Nat → Int} {σ : omH}
theorem s_X11_windowBound_eq {v : Nat} (hok : omOk n p d w r f s) (hn : 0 < n) (hc : omCv n p d w r f s σ) (hv : v < 2) : ∃ σ', s_X11_windowBound (v : Int) σ = some (Sum.inr (omBst v n p d r, σ')) ∧ omEx [42] σ σ' := by
  obtain ⟨σ', h1, h2, h3, h4, h5⟩ := s_X10_findGreatest_eq hok hv hn hc
  refine ⟨σ', ?_, h2⟩
  unfold s_X11_windowBound
  rw [(s_X11_needSomeJob_eq hok hc).2 hn, om_b0, Sum.elim_inr, h1, om_b0, h3]
  rfl
theorem s_X11_windowDue_eq (hok : omOk n p d w r f s) (hn : 0 < n) (hc : omCv n p d w r f s σ) : ∃ σ', s_X11_windowDue σ = some (Sum.inr (d (omWj n p d r), σ')) ∧ omEx [42] σ σ' := by
  obtain ⟨σ', h1, h2, h3, h4, h5⟩ := s_X10_findGreatest_eq (v := 1) hok (by decide) hn hc
  refine ⟨σ', ?_, h2⟩
  have h1' : s_X10_findGreatest 1 σ = some σ' := h1
  unfold s_X11_windowDue
  rw [(s_X11_needSomeJob_eq hok hc).2 hn, om_b0, Sum.elim_inr, h1', om_b0, h4]
  rfl
theorem s_X11_windowRelease_eq (hok : omOk n p d w r f s) (hn : 0 < n) (hc : omCv n p d w r f s σ) : ∃ σ', s_X11_windowRelease σ = some (Sum.inr (r (omWi n p d r), σ')) ∧ omEx [42] σ σ' := by
  obtain ⟨σ', h1, h2, h3, h4, h5⟩ := s_X10_findGreatest_eq (v := 1) hok (by decide) hn hc
  refine ⟨σ', ?_, h2⟩
  have h1' : s_X10_findGreatest 1 σ = some σ' := h1
  have h7 : omRl 1 r (omBe 1 n p d r (n * n) / n) = r (omWi n p d r) := if_neg (by decide)
  unfold s_X11_windowRelease
  rw [(s_X11_needSomeJob_eq hok hc).2 hn, om_b0, Sum.elim_inr, h1', om_b0, h5, h7]
end
theorem om_lt_ww {a b : Int} (ha : -1000 ≤ a ∧ a ≤ 1000) (hb : -1000 ≤ b ∧ b ≤ 1000) : omw a < omw b ↔ a < b := by
  rw [om_w_small ha.1 ha.2, om_w_small hb.1 hb.2]
theorem om_sub1000 {a : Int} {B : Int} (hB : B ≤ 1000) (h : 0 ≤ a ∧ a ≤ B) : -1000 ≤ a ∧ a ≤ 1000 := by omega
theorem l_L_isWindow_4_eq {n : Nat} {p d w r f s : Nat → Int} (hok : omOk n p d w r f s) (hn : 0 < n) : ∀ (m k fuel : Nat) (τ : omH), k + m = n → m < fuel → omCv n p d w r f s τ → omTb n p d w r f s τ →
    ∃ τ', l_L_isWindow_4 fuel (omWl 1 k p d r (omWi n p d r) (omWj n p d r)) (k : Int) τ = some (omWl 1 n p d r (omWi n p d r) (omWj n p d r), τ') ∧ omEx [42] τ τ' := by
  have h10 := hok.1
  obtain ⟨wi, wj, _, _⟩ := omWij hok hn
  have hoi := hok.2.1 _ wi
  have hoj := hok.2.1 _ wj
  have ri : -1000 ≤ r (omWi n p d r) ∧ r (omWi n p d r) ≤ 1000 := om_sub1000 (B := 100) (by decide) ⟨hoi.2.2.2.2.2.2.1, hoi.2.2.2.2.2.2.2.1⟩
  have dj : -1000 ≤ d (omWj n p d r) ∧ d (omWj n p d r) ≤ 1000 := om_sub1000 (B := 300) (by decide) ⟨hoj.2.2.1, hoj.2.2.2.1⟩
  intro m
  induction m with
  | zero =>
    intro k fuel τ hk hf hc hT
    obtain ⟨fuel, rfl⟩ : ∃ z, fuel = z + 1 := ⟨fuel - 1, by omega⟩
    have : k = n := by omega
    subst this
    refine ⟨τ, ?_, omEx.rfl'⟩
    rw [l_L_isWindow_4.eq_2, omg_t om_54, om_54n, hT.1, if_neg (Int.lt_irrefl _)]
  | succ m ih =>
    intro k fuel τ hk hf hc hT
    obtain ⟨fuel, rfl⟩ : ∃ z, fuel = z + 1 := ⟨fuel - 1, by omega⟩
    have hkn : k < n := by omega
    have ho := hok.2.1 k hkn
    have rk : -1000 ≤ r k ∧ r k ≤ 1000 := om_sub1000 (B := 100) (by decide) ⟨ho.2.2.2.2.2.2.1, ho.2.2.2.2.2.2.2.1⟩
    have dk : -1000 ≤ d k ∧ d k ≤ 1000 := om_sub1000 (B := 300) (by decide) ⟨ho.2.2.1, ho.2.2.2.1⟩
    have cw : omw (k : Int) < omw (n : Int) := om_lt_w hkn (Nat.le_trans h10 (by decide))
    obtain ⟨τ1, a1, a2⟩ := s_X11_windowRelease_eq hok hn hc
    have hc1 := hc.ex a2 (by simp)
    have hT1 := hT.ex a2 (by simp)
    obtain ⟨τ2, b1, b2⟩ := s_X11_windowDue_eq hok hn hc1
    have hc2 := hc1.ex b2 (by simp)
    have hT2 := hT1.ex b2 (by simp)
    have e1 : ((k + 1 : Nat) : Int) = (k : Int) + 1 := by omega
    have e2 : omWl 1 (k + 1) p d r (omWi n p d r) (omWj n p d r) = omWl 1 k p d r (omWi n p d r) (omWj n p d r) + omWlT 1 p d r (omWi n p d r) (omWj n p d r) k := rfl
    have e3 : ∀ x, omRl 1 r x = r x := fun x => if_neg (by decide)
    have htk := hT.2.1 k hkn
    have htk1 := hT1.2.1 k hkn
    have htk2 := hT2.2.1 k hkn
    by_cases h1 : r k < r (omWi n p d r)
    · obtain ⟨τ', c1, c2⟩ := ih (k + 1) fuel τ1 (by omega) (by omega) hc1 hT1
      refine ⟨τ', ?_, a2.trans c2⟩
      have e4 : omWlT 1 p d r (omWi n p d r) (omWj n p d r) k = 0 := by
        unfold omWlT
        rw [e3, e3, if_pos h1]
      rw [e2, e4, e1] at c1
      rw [l_L_isWindow_4.eq_2, omg_t om_54, om_54n, hT.1, if_pos cw, om_ix (c := 30) (C := 30) rfl (om_lt55 hkn h10 (by decide)), omg_t (om_ixg (om_lt55 hkn h10 (by decide))), Int.toNat_natCast, htk.2.2.2.1, a1, om_b0, Sum.elim_inr, if_pos ((om_lt_ww rk ri).mpr h1), om_b0]
      exact c1
    · obtain ⟨τ', c1, c2⟩ := ih (k + 1) fuel τ2 (by omega) (by omega) hc2 hT2
      refine ⟨τ', ?_, (a2.trans b2).trans c2⟩
      by_cases h2 : d (omWj n p d r) < d k
      · have e4 : omWlT 1 p d r (omWi n p d r) (omWj n p d r) k = 0 := by
          unfold omWlT
          rw [e3, e3, if_neg h1, if_pos h2]
        rw [e2, e4, e1] at c1
        rw [l_L_isWindow_4.eq_2, omg_t om_54, om_54n, hT.1, if_pos cw, om_ix (c := 30) (C := 30) rfl (om_lt55 hkn h10 (by decide)), omg_t (om_ixg (om_lt55 hkn h10 (by decide))), Int.toNat_natCast, htk.2.2.2.1, a1, om_b0, Sum.elim_inr, if_neg (fun h => h1 ((om_lt_ww rk ri).mp h)), om_ix (c := 10) (C := 10) rfl (om_lt55 hkn h10 (by decide)), omg_t (om_ixg (om_lt55 hkn h10 (by decide))), b1, om_b0, Sum.elim_inr, Int.toNat_natCast]
        dsimp only
        rw [if_pos (show omw (d (omWj n p d r)) < omw (τ1 43 (10 + k)) by rw [htk1.2.1]; exact (om_lt_ww dj dk).mpr h2), om_b0]
        exact c1
      · have e4 : omWlT 1 p d r (omWi n p d r) (omWj n p d r) k = p k := by
          unfold omWlT
          rw [e3, e3, if_neg h1, if_neg h2]
        rw [e2, e4, e1] at c1
        rw [l_L_isWindow_4.eq_2, omg_t om_54, om_54n, hT.1, if_pos cw, om_ix (c := 30) (C := 30) rfl (om_lt55 hkn h10 (by decide)), omg_t (om_ixg (om_lt55 hkn h10 (by decide))), Int.toNat_natCast, htk.2.2.2.1, a1, om_b0, Sum.elim_inr, if_neg (fun h => h1 ((om_lt_ww rk ri).mp h)), om_ix (c := 10) (C := 10) rfl (om_lt55 hkn h10 (by decide)), omg_t (om_ixg (om_lt55 hkn h10 (by decide))), b1, om_b0, Sum.elim_inr, Int.toNat_natCast]
        dsimp only
        rw [if_neg (show ¬ omw (d (omWj n p d r)) < omw (τ1 43 (10 + k)) by rw [htk1.2.1]; exact fun h => h2 ((om_lt_ww dj dk).mp h)), om_wk hkn h10, omg_t (om_ixg (om_lt55' hkn h10)), Int.toNat_natCast, htk2.1, om_b0]
        exact c1
theorem s_L_isWindow_eq {n : Nat} {p d w r f s : Nat → Int} {σ : omH} (hok : omOk n p d w r f s) (hn : 0 < n) (hc : omCv n p d w r f s σ) (hT : omTb n p d w r f s σ) : ∃ σ', s_L_isWindow σ = some (1, σ') ∧ omEx [42] σ σ' := by
  obtain ⟨wi, wj, w1, w2⟩ := omWij hok hn
  have hr := omWl_rng (v := 1) (i := omWi n p d r) (j := omWj n p d r) hok (Nat.le_refl n)
  have h10 := hok.1
  obtain ⟨τ, a1, a2⟩ := l_L_isWindow_4_eq hok hn n 0 FU σ (by omega) (by rw [FU_eq]; omega) hc hT
  have a1' : l_L_isWindow_4 FU 0 0 σ = some (omWl 1 n p d r (omWi n p d r) (omWj n p d r), τ) := a1
  have hc0 := hc.ex a2 (by simp)
  obtain ⟨τ1, b1, b2⟩ := s_X11_windowBound_eq (v := 1) hok hn hc0 (by decide)
  have b1' : s_X11_windowBound 1 τ = some (Sum.inr (omBst 1 n p d r, τ1)) := b1
  have hc1 := hc0.ex b2 (by simp)
  obtain ⟨τ2, c1, c2⟩ := s_X11_windowRelease_eq hok hn hc1
  have hc2 := hc1.ex c2 (by simp)
  obtain ⟨τ3, d1, d2⟩ := s_X11_windowDue_eq hok hn hc2
  have hw : omw (omWl 1 n p d r (omWi n p d r) (omWj n p d r)) = omWl 1 n p d r (omWi n p d r) (omWj n p d r) := om_w_small (by omega) (by omega)
  refine ⟨τ3, ?_, ((a2.trans b2).trans c2).trans d2⟩
  unfold s_L_isWindow
  rw [a1', om_b0, hw, if_pos w1, b1', om_b0, Sum.elim_inr, c1, om_b0, Sum.elim_inr, d1, om_b0, Sum.elim_inr, w2, if_pos rfl]
