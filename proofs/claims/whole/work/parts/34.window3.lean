theorem omBe_1 {v n : Nat} {p d r : Nat → Int} : omBe v n p d r 1 = 0 := by
  have hnb : ¬ omBt v n p d r 0 (omBe v n p d r 0) := by
    unfold omBt
    have e0 : omBe v n p d r 0 = 0 := rfl
    rw [e0]
    omega
  rw [omBe_f hnb]
  rfl
set_option maxHeartbeats 4000000 in
theorem l_X12_windowJob_4_eq {n u : Nat} {p d w r f s : Nat → Int} {σ : omH} (hok : omOk n p d w r f s) (hm : omMv n p d w r f s σ) (hn0 : 0 < n) : ∀ (m x fuel : Nat), x + m = n * n → m < fuel → l_X12_windowJob_4 u σ fuel (omBe 1 n p d r x) x = some ((omBe 1 n p d r (n * n) : Nat) : Int) := by
  have hn := hok.1
  have hnn := om_nn hn
  have hmul : (n : Int) * n = ((n * n : Nat) : Int) := by rw [Int.natCast_mul]
  intro m
  induction m with
  | zero =>
    intro x fuel hx hf
    obtain ⟨fuel, rfl⟩ : ∃ z, fuel = z + 1 := ⟨fuel - 1, by omega⟩
    have : x = n * n := by omega
    rw [l_X12_windowJob_4.eq_2, hm.1, hmul, om_wn (show x < 2147483648 by omega), om_wn (show n * n < 2147483648 by omega), if_neg (by omega), this]
  | succ m ih =>
    intro x fuel hx hf
    obtain ⟨fuel, rfl⟩ : ∃ z, fuel = z + 1 := ⟨fuel - 1, by omega⟩
    have hdm := om_dm hn0 (show x < n * n by omega)
    obtain ⟨b1, b2⟩ := omBe_ok (v := 1) hok hn0 x (by omega)
    have hdb := om_dm hn0 b1
    have hB := omBw_rng (v := 1) hok hdm.1 hdm.2
    have hB' : -1000000 ≤ omBw 1 n p d r (x / n) (x % n) ∧ omBw 1 n p d r (x / n) (x % n) ≤ 400 := by
      by_cases hz : omWl 1 n p d r (x / n) (x % n) = 0
      · have := hB.1 hz; omega
      · have := hB.2 hz; omega
    have hBb := (omBw_rng (v := 1) hok hdb.1 hdb.2).2 b2
    have r1 := hok.2.1 _ hdm.1
    have r2 := hok.2.1 _ hdm.2
    have r3 := hok.2.1 _ hdb.1
    have r4 := hok.2.1 _ hdb.2
    have k1 : ∀ i j, i < n → j < n → s_X12_bound (i : Int) (j : Int) 1 σ = some (omBw 1 n p d r i j) := fun i j hi hj => s_X12_bound_eq (v := 1) hok hm (by decide) hi hj
    rw [l_X12_windowJob_4.eq_2, hm.1, hmul, hm.2.2.1, hm.2.2.2.2.1]
    simp only [om_wn (show x < 2147483648 by omega), om_wn (show omBe 1 n p d r x < 2147483648 by omega), om_wn (show n * n < 2147483648 by omega), om_wn (show n < 2147483648 by omega), om_tdiv, om_tmod, om_wn (show x / n < 2147483648 by omega), om_wn (show x % n < 2147483648 by omega), om_wn (show omBe 1 n p d r x / n < 2147483648 by omega), om_wn (show omBe 1 n p d r x % n < 2147483648 by omega), Int.toNat_natCast]
    rw [if_pos (by omega), omg_t (by omega), omg_t (by omega), k1 _ _ hdm.1 hdm.2, om_b0, omg_t (by omega), omg_t (by omega), k1 _ _ hdb.1 hdb.2, om_b0, omg_t (by omega), omg_t ⟨Int.natCast_nonneg _, by omega⟩, omg_t (by omega), omg_t ⟨Int.natCast_nonneg _, by omega⟩, omg_t (by omega), omg_t ⟨Int.natCast_nonneg _, by omega⟩, omg_t (by omega), omg_t ⟨Int.natCast_nonneg _, by omega⟩]
    rw [omw_id (a := omBw 1 n p d r (x / n) (x % n)) (by omega) (by omega), omw_id (a := omBw 1 n p d r (omBe 1 n p d r x / n) (omBe 1 n p d r x % n)) (by omega) (by omega), omw_id (a := d (x % n) - d (omBe 1 n p d r x % n)) (by omega) (by omega), omw_id (a := r (x / n) - r (omBe 1 n p d r x / n)) (by omega) (by omega)]
    have hnext := ih (x + 1) fuel (by omega) (by omega)
    rw [show (((x + 1 : Nat) : Int)) = (x : Int) + 1 by omega] at hnext
    by_cases hb : omBt 1 n p d r x (omBe 1 n p d r x)
    · have hbt := hb
      unfold omBt omRl at hbt
      simp only [show ¬ (1 : Nat) = 0 by decide, if_false] at hbt
      have e2 : (if omBw 1 n p d r (omBe 1 n p d r x / n) (omBe 1 n p d r x % n) < omBw 1 n p d r (x / n) (x % n) then some (1 : Int) else if omBw 1 n p d r (x / n) (x % n) = omBw 1 n p d r (omBe 1 n p d r x / n) (omBe 1 n p d r x % n) then (if d (x % n) - d (omBe 1 n p d r x % n) < 0 then some 1 else if d (x % n) - d (omBe 1 n p d r x % n) = 0 then (if r (x / n) - r (omBe 1 n p d r x / n) < 0 then some 1 else some 0) else some 0) else some 0) = some 1 := by
        split
        · rfl
        · rw [if_pos (by omega)]
          split
          · rfl
          · rw [if_pos (by omega), if_pos (by omega)]
      rw [e2, om_b0, if_neg (by decide), om_b0]
      rw [omBe_t hb] at hnext
      exact hnext
    · have hbt := hb
      unfold omBt omRl at hbt
      simp only [show ¬ (1 : Nat) = 0 by decide, if_false] at hbt
      have e2 : (if omBw 1 n p d r (omBe 1 n p d r x / n) (omBe 1 n p d r x % n) < omBw 1 n p d r (x / n) (x % n) then some (1 : Int) else if omBw 1 n p d r (x / n) (x % n) = omBw 1 n p d r (omBe 1 n p d r x / n) (omBe 1 n p d r x % n) then (if d (x % n) - d (omBe 1 n p d r x % n) < 0 then some 1 else if d (x % n) - d (omBe 1 n p d r x % n) = 0 then (if r (x / n) - r (omBe 1 n p d r x / n) < 0 then some 1 else some 0) else some 0) else some 0) = some 0 := by
        rw [if_neg (by omega)]
        split
        · rw [if_neg (by omega)]
          split
          · rw [if_neg (by omega)]
          · rfl
        · rfl
      rw [e2, om_b0, if_pos (by decide), om_b0]
      rw [omBe_f hb] at hnext
      exact hnext
theorem s_X12_windowJob_eq {n u : Nat} {p d w r f s : Nat → Int} {σ : omH} (hok : omOk n p d w r f s) (hm : omMv n p d w r f s σ) (hn0 : 0 < n) (hu : u < 2) : s_X12_windowJob u σ = some (((if u = 0 then omBe 1 n p d r (n * n) / n else omBe 1 n p d r (n * n) % n : Nat)) : Int) := by
  have hn := hok.1
  have hnn := om_nn hn
  have h0 : 0 < n * n := Nat.mul_pos hn0 hn0
  have h1 := l_X12_windowJob_4_eq (u := u) hok hm hn0 (n * n - 1) 1 FU (by omega) (by rw [FU_eq]; omega)
  rw [omBe_1] at h1
  have h1' : l_X12_windowJob_4 u σ FU 0 1 = _ := h1
  obtain ⟨b1, b2⟩ := omBe_ok (v := 1) hok hn0 (n * n) (Nat.le_refl _)
  unfold s_X12_windowJob
  rw [h1', om_b0, hm.1, om_wn (show n < 2147483648 by omega), om_wn (show omBe 1 n p d r (n * n) < 2147483648 by omega), om_wn (show u < 2147483648 by omega), om_tdiv, om_tmod, omg_t (by omega), omg_t (by omega)]
  by_cases hu0 : u = 0
  · rw [if_pos (by omega), if_pos hu0]
  · rw [if_neg (by omega), if_neg hu0]
theorem omGood.rd2 {σ σ1 : omH} {v : Int} {W : List Nat} {a : Option (Int × omH)} {b : omH → Option (Int × omH)} (hI : omInv σ) (he : omEx W σ σ1) (hW : ∀ o ∈ [17, 18, 19, 20, 21, 22, 23, 24, 25, 26, 27, 28, 43, 44, 45, 46, 47, 48, 49, 50, 51, 52, 53], o ∉ W) (ha : a = some (0, omsu σ1 60 0 (omw v))) (hb : b (omsu σ1 60 0 (omw v)) = some (v, omsu (omsu σ1 60 0 (omw v)) 43 0 0)) : omGood a b :=
  omGood.rd (σ := σ1) (hI.ex he (fun k _ => by rw [he 43 (hW _ (by simp))]) (fun o ho => hW o (by simp at ho ⊢; omega))) ha hb
theorem om_windowBound {σ : omH} {v : Nat} (hvv : v < 2) (hI : omInv σ) : omGood (s_L_windowBound v σ) (s_X12_windowBound v) := by
  obtain ⟨n, p, d, w, r, f, s, h1, h2, h3, h45, h6⟩ := id hI
  have hn := h1.1
  by_cases hz : n = 0
  · refine omGood.th (k := 1) (v := 0) hI (Or.inl rfl) ?_ ?_
    · unfold s_L_windowBound s_X11_windowBound
      rw [(s_X11_needSomeJob_eq h1 h2).1 hz]
      rfl
    · unfold s_X12_windowBound
      rw [(s_X12_hasJobs_eq h1 h3).1 hz, om_b0, if_pos (by show omw 0 = 0; decide)]
  · obtain ⟨τ1, b1, b2, b3, b4, b5⟩ := s_X10_findGreatest_eq (v := v) h1 hvv (by omega) h2
    have hm0 : omMv n p d w r f s (omsu τ1 60 0 (omw (omBw v n p d r (omBe v n p d r (n * n) / n) (omBe v n p d r (n * n) % n)))) := (h3.ex b2 (by simp)).ex (W := [60]) (omEx.su (by simp)) (by simp)
    have hm1 : omMv n p d w r f s (omsu (omsu τ1 60 0 (omw (omBw v n p d r (omBe v n p d r (n * n) / n) (omBe v n p d r (n * n) % n)))) 43 0 0) := hm0.ex2 (W := [43]) (omEx.su (by simp)) (by rw [omsu_n (Or.inr (by decide))]) (by simp)
    have bb : τ1 42 0 = omBw v n p d r (omBe v n p d r (n * n) / n) (omBe v n p d r (n * n) % n) := b3
    refine omGood.rd2 (σ1 := τ1) (v := omBw v n p d r (omBe v n p d r (n * n) / n) (omBe v n p d r (n * n) % n)) hI b2 (by simp) ?_ ?_
    · unfold s_L_windowBound s_X11_windowBound
      rw [(s_X11_needSomeJob_eq h1 h2).2 (by omega), om_b0]
      simp only [Sum.elim_inr]
      rw [(show s_X10_findGreatest v σ = some τ1 from b1), om_b0, om_b0]
      simp only [Sum.elim_inr]
      rw [omg_t (by decide), bb]
      rfl
    · unfold s_X12_windowBound
      rw [(s_X12_hasJobs_eq h1 hm0).2 (by omega), om_b0, if_neg (by show ¬ omw 1 = 0; decide)]
      have hw : l_X12_windowBound_14 v (omsu (omsu τ1 60 0 (omw (omBw v n p d r (omBe v n p d r (n * n) / n) (omBe v n p d r (n * n) % n)))) 43 0 0) FU (-1000000) 0 = some (omWg v n p d r (n * n)) := l_X12_windowBound_14_eq h1 hm1 hvv (by omega) (n * n) 0 FU (by omega) (by rw [FU_eq]; have := om_nn hn; omega)
      have hg : omWg v n p d r (n * n) = omBw v n p d r (omBe v n p d r (n * n) / n) (omBe v n p d r (n * n) % n) := by
        have h0 : 0 < n * n := Nat.mul_pos (by omega) (by omega)
        have := omWg_eq (v := v) h1 (show 0 < n by omega) (n * n - 1) (by omega)
        rw [show n * n - 1 + 1 = n * n by omega] at this
        exact this
      show Option.bind (l_X12_windowBound_14 v (omsu (omsu τ1 60 0 (omw (omBw v n p d r (omBe v n p d r (n * n) / n) (omBe v n p d r (n * n) % n)))) 43 0 0) FU (-1000000) 0) _ = _
      rw [hw, om_b0, hg]
theorem om_windowDue {σ : omH} (hI : omInv σ) : omGood (s_L_windowDue σ) s_X12_windowDue := by
  obtain ⟨n, p, d, w, r, f, s, h1, h2, h3, h45, h6⟩ := id hI
  have hn := h1.1
  by_cases hz : n = 0
  · refine omGood.th (k := 1) (v := 0) hI (Or.inl rfl) ?_ ?_
    · unfold s_L_windowDue s_X11_windowDue
      rw [(s_X11_needSomeJob_eq h1 h2).1 hz]
      rfl
    · unfold s_X12_windowDue
      rw [(s_X12_hasJobs_eq h1 h3).1 hz, om_b0, if_pos (by show omw 0 = 0; decide)]
  · obtain ⟨τ1, b1, b2, b3, b4, b5⟩ := s_X10_findGreatest_eq (v := 1) h1 (by decide) (by omega) h2
    have hm0 : omMv n p d w r f s (omsu τ1 60 0 (omw (d (omBe 1 n p d r (n * n) % n)))) := (h3.ex b2 (by simp)).ex (W := [60]) (omEx.su (by simp)) (by simp)
    have hm1 : omMv n p d w r f s (omsu (omsu τ1 60 0 (omw (d (omBe 1 n p d r (n * n) % n)))) 43 0 0) := hm0.ex2 (W := [43]) (omEx.su (by simp)) (by rw [omsu_n (Or.inr (by decide))]) (by simp)
    have bb : τ1 42 1 = d (omBe 1 n p d r (n * n) % n) := b4
    refine omGood.rd2 (σ1 := τ1) (v := d (omBe 1 n p d r (n * n) % n)) hI b2 (by simp) ?_ ?_
    · unfold s_L_windowDue s_X11_windowDue
      rw [(s_X11_needSomeJob_eq h1 h2).2 (by omega), om_b0]
      simp only [Sum.elim_inr]
      rw [(show s_X10_findGreatest 1 σ = some τ1 from b1), om_b0, om_b0]
      simp only [Sum.elim_inr]
      rw [omg_t (by decide), bb]
      rfl
    · unfold s_X12_windowDue
      rw [(s_X12_hasJobs_eq h1 hm0).2 (by omega), om_b0, if_neg (by show ¬ omw 1 = 0; decide)]
      have hw : s_X12_windowJob 1 (omsu (omsu τ1 60 0 (omw (d (omBe 1 n p d r (n * n) % n)))) 43 0 0) = some (((omBe 1 n p d r (n * n) % n : Nat)) : Int) := s_X12_windowJob_eq (u := 1) h1 hm1 (by omega) (by decide)
      obtain ⟨b01, b02⟩ := omBe_ok (v := 1) h1 (show 0 < n by omega) (n * n) (Nat.le_refl _)
      have hdb := om_dm (show 0 < n by omega) b01
      show Option.bind (s_X12_windowJob 1 (omsu (omsu τ1 60 0 (omw (d (omBe 1 n p d r (n * n) % n)))) 43 0 0)) (fun r2 => omg (0 ≤ omw r2 ∧ omw r2 < 10) (some ((omsu (omsu τ1 60 0 (omw (d (omBe 1 n p d r (n * n) % n)))) 43 0 0) 45 (omw r2).toNat, (omsu (omsu τ1 60 0 (omw (d (omBe 1 n p d r (n * n) % n)))) 43 0 0)))) = _
      rw [hw, om_b0, om_wn (show omBe 1 n p d r (n * n) % n < 2147483648 by omega), omg_t ⟨Int.natCast_nonneg _, by omega⟩, hm1.2.2.1, Int.toNat_natCast]
theorem om_windowRelease {σ : omH} (hI : omInv σ) : omGood (s_L_windowRelease σ) s_X12_windowRelease := by
  obtain ⟨n, p, d, w, r, f, s, h1, h2, h3, h45, h6⟩ := id hI
  have hn := h1.1
  by_cases hz : n = 0
  · refine omGood.th (k := 1) (v := 0) hI (Or.inl rfl) ?_ ?_
    · unfold s_L_windowRelease s_X11_windowRelease
      rw [(s_X11_needSomeJob_eq h1 h2).1 hz]
      rfl
    · unfold s_X12_windowRelease
      rw [(s_X12_hasJobs_eq h1 h3).1 hz, om_b0, if_pos (by show omw 0 = 0; decide)]
  · obtain ⟨τ1, b1, b2, b3, b4, b5⟩ := s_X10_findGreatest_eq (v := 1) h1 (by decide) (by omega) h2
    have hm0 : omMv n p d w r f s (omsu τ1 60 0 (omw (r (omBe 1 n p d r (n * n) / n)))) := (h3.ex b2 (by simp)).ex (W := [60]) (omEx.su (by simp)) (by simp)
    have hm1 : omMv n p d w r f s (omsu (omsu τ1 60 0 (omw (r (omBe 1 n p d r (n * n) / n)))) 43 0 0) := hm0.ex2 (W := [43]) (omEx.su (by simp)) (by rw [omsu_n (Or.inr (by decide))]) (by simp)
    have bb : τ1 42 2 = r (omBe 1 n p d r (n * n) / n) := b5
    refine omGood.rd2 (σ1 := τ1) (v := r (omBe 1 n p d r (n * n) / n)) hI b2 (by simp) ?_ ?_
    · unfold s_L_windowRelease s_X11_windowRelease
      rw [(s_X11_needSomeJob_eq h1 h2).2 (by omega), om_b0]
      simp only [Sum.elim_inr]
      rw [(show s_X10_findGreatest 1 σ = some τ1 from b1), om_b0, om_b0]
      simp only [Sum.elim_inr]
      rw [omg_t (by decide), bb]
      rfl
    · unfold s_X12_windowRelease
      rw [(s_X12_hasJobs_eq h1 hm0).2 (by omega), om_b0, if_neg (by show ¬ omw 1 = 0; decide)]
      have hw : s_X12_windowJob 0 (omsu (omsu τ1 60 0 (omw (r (omBe 1 n p d r (n * n) / n)))) 43 0 0) = some (((omBe 1 n p d r (n * n) / n : Nat)) : Int) := s_X12_windowJob_eq (u := 0) h1 hm1 (by omega) (by decide)
      obtain ⟨b01, b02⟩ := omBe_ok (v := 1) h1 (show 0 < n by omega) (n * n) (Nat.le_refl _)
      have hdb := om_dm (show 0 < n by omega) b01
      show Option.bind (s_X12_windowJob 0 (omsu (omsu τ1 60 0 (omw (r (omBe 1 n p d r (n * n) / n)))) 43 0 0)) (fun r2 => omg (0 ≤ omw r2 ∧ omw r2 < 10) (some ((omsu (omsu τ1 60 0 (omw (r (omBe 1 n p d r (n * n) / n)))) 43 0 0) 47 (omw r2).toNat, (omsu (omsu τ1 60 0 (omw (r (omBe 1 n p d r (n * n) / n)))) 43 0 0)))) = _
      rw [hw, om_b0, om_wn (show omBe 1 n p d r (n * n) / n < 2147483648 by omega), omg_t ⟨Int.natCast_nonneg _, by omega⟩, hm1.2.2.2.2.1, Int.toNat_natCast]
