/-! .. the reference's sequence by families -/
theorem l_X12_planByFamilies_52_eq {n S : Nat} {lim u t z : Int} {p d w r f s : Nat → Int} {P : List omPc} {σ : omH} (hok : omOk n p d w r f s) (hm : omMv n p d w r f s σ) (hS : S < 2 ^ n) (hP : omPM P σ) (hN : omNow P = t) (hu : -1 ≤ u ∧ u ≤ 4) (ht : 0 ≤ t ∧ t ≤ 1000) (hlim : -1000000 ≤ lim ∧ lim ≤ 1000000) (hU : ∀ j, j < n → -1000000 ≤ σ 57 (5 * (S ||| 2 ^ j) + (f j).toNat) ∧ σ 57 (5 * (S ||| 2 ^ j) + (f j).toNat) ≤ 1000000) (hex : ∃ j, j < n ∧ omCd n p d f s (σ 57) lim S u t j) : ∀ (k fuel : Nat) (v : Int), k ≤ n → k < fuel → ((v = -1 ∧ ∀ j, k ≤ j → j < n → ¬ omCd n p d f s (σ 57) lim S u t j) ∨ ∃ j : Nat, v = j ∧ k ≤ j ∧ j < n ∧ omCd n p d f s (σ 57) lim S u t j ∧ ∀ i, k ≤ i → i < j → ¬ omCd n p d f s (σ 57) lim S u t i) →
    ∃ j : Nat, omHf n p d f s (σ 57) lim S u t j ∧ l_X12_planByFamilies_52 lim S u z σ fuel v ((k : Int) - 1) = some (j : Int) := by
  have hn := hok.1
  have hpw := om_pow_le hn
  intro k
  induction k with
  | zero =>
    intro fuel v hk hf hv
    obtain ⟨fuel, rfl⟩ : ∃ z, fuel = z + 1 := ⟨fuel - 1, by omega⟩
    rw [l_X12_planByFamilies_52.eq_2, if_pos (by show omw (0 - 1) < 0; decide)]
    rcases hv with ⟨h1, h2⟩ | ⟨j, h1, h2, h3, h4, h5⟩
    · obtain ⟨j, hj, hcd⟩ := hex
      exact absurd hcd (h2 j (by omega) hj)
    · subst h1
      exact ⟨j, ⟨h3, h4, fun i hi => h5 i (by omega) hi⟩, rfl⟩
  | succ k ih =>
    intro fuel v hk hf hv
    obtain ⟨fuel, rfl⟩ : ∃ z, fuel = z + 1 := ⟨fuel - 1, by omega⟩
    have hkn : k < n := by omega
    have ho := hok.2.1 k hkn
    have hor := om_ins_lt hS hkn
    have htk := omTk_rng hok hkn u
    have hUk := hU k hkn
    have hor2 : S ||| 2 ^ k < 1024 := by omega
    rw [l_X12_planByFamilies_52.eq_2, show (((k + 1 : Nat) : Int) - 1) = (k : Int) by omega, om_wn (show k < 2147483648 by omega), if_neg (by omega), s_X12_now_eq hP, om_b0, s_X12_taken_eq hok hm hkn hu, om_b0, s_X12_isNext_eq hok hm (by omega) hkn, om_b0, hN, Int.toNat_natCast, hm.2.2.1, hm.2.2.2.2.2.1, om_ins (by omega) (by omega), om_idx (by omega), om_idx_w hor2 (by omega), Int.toNat_natCast, show ((k : Int) + (-1)) = (k : Int) - 1 by omega]
    have e1 : (if omw (omIf (omNx n d f S k)) = 0 then some (0 : Int) else omg (0 ≤ (k : Int) ∧ (k : Int) < 10) (if omw lim < omw (t + omTk p f s u k - d k) then some 0 else omg (0 ≤ (k : Int) ∧ (k : Int) < 10) (omg (0 ≤ ((5 * (S ||| 2 ^ k) + (f k).toNat : Nat) : Int) ∧ ((5 * (S ||| 2 ^ k) + (f k).toNat : Nat) : Int) < 5120) (if omw lim < omw (t + omTk p f s u k + σ 57 (5 * (S ||| 2 ^ k) + (f k).toNat)) then some 0 else some 1)))) = some (omIf (omCd n p d f s (σ 57) lim S u t k)) := by
      by_cases hnx : omNx n d f S k
      · rw [om_if0 hnx, omg_t ⟨by omega, by omega⟩, omg_t ⟨by omega, by omega⟩, omg_t (om_idx_g hor2 (by omega)), omw_id (a := lim) (by omega) (by omega), omw_id (a := t + omTk p f s u k - d k) (by omega) (by omega), omw_id (a := t + omTk p f s u k + σ 57 (5 * (S ||| 2 ^ k) + (f k).toNat)) (by omega) (by omega)]
        have hug : omUg p d f s (σ 57) S u k = omTk p f s u k + max (-(d k)) (σ 57 (5 * (S ||| 2 ^ k) + (f k).toNat)) := rfl
        by_cases h1 : lim < t + omTk p f s u k - d k
        · rw [if_pos h1, omIf_f (fun h => by have := h.2; omega)]
        · rw [if_neg h1]
          by_cases h2 : lim < t + omTk p f s u k + σ 57 (5 * (S ||| 2 ^ k) + (f k).toNat)
          · rw [if_pos h2, omIf_f (fun h => by have := h.2; omega)]
          · rw [if_neg h2, omIf_t ⟨hnx, by omega⟩]
      · rw [om_if1 hnx, omIf_f (fun h => hnx h.1)]
    rw [e1, om_b0]
    by_cases hcd : omCd n p d f s (σ 57) lim S u t k
    · rw [om_if0 hcd, om_b0]
      exact ih fuel k (by omega) (by omega) (Or.inr ⟨k, rfl, Nat.le_refl _, hkn, hcd, fun i h1 h2 => by omega⟩)
    · rw [om_if1 hcd, om_b0]
      refine ih fuel v (by omega) (by omega) ?_
      rcases hv with ⟨h1, h2⟩ | ⟨j, h1, h2, h3, h4, h5⟩
      · exact Or.inl ⟨h1, fun j h3 h4 => by
          by_cases hjk : j = k
          · subst hjk; exact hcd
          · exact h2 j (by omega) h4⟩
      · exact Or.inr ⟨j, h1, by omega, h3, h4, fun i h7 h8 => by
          by_cases hik : i = k
          · subst hik; exact hcd
          · exact h5 i (by omega) h8⟩
/-- a setup and a job -/
theorem s_X12_works2_step {n k : Nat} {p d w r f s : Nat → Int} {q : Nat → Nat} {σ : omH} (hok : omOk n p d w r f s) (hq : ∀ i, i < n → q i < n) (hinj : ∀ i k, i < n → k < n → q i = q k → i = k) (hkn : k < n) (hP : omPM (omPl 1 p f s q k).1 σ) (hE : ∀ i, i < k → σ 53 (q i) = omEd 1 p f s q i) :
    ∃ σ1 σ2, s_X12_works 1 (f (q k)) (omSu f s (omPl 1 p f s q k).2 (q k)) σ = some σ1 ∧ s_X12_works 0 (q k : Int) (p (q k)) σ1 = some σ2 ∧ omEx [43, 50, 51, 52, 53] σ σ1 ∧ omPM (omPl 1 p f s q (k + 1)).1 σ2 ∧ omEx [43, 50, 51, 52, 53] σ σ2 ∧ (∀ k, k ≠ 9 → σ2 43 k = σ 43 k) ∧ ∀ i, i < k + 1 → σ2 53 (q i) = omEd 1 p f s q i := by
  have hn := hok.1
  have hj := hq k hkn
  have ho := hok.2.1 (q k) hj
  obtain ⟨o1, o2, o3⟩ := omPl_ok (v := 1) hok k (fun i hi => hq i (by omega))
  have hs := omSu_rng hok hj (omPl 1 p f s q k).2
  obtain ⟨σ1, a1, a2, a3, a4, -, a6⟩ := s_X12_works_eq (e := (1, f (q k), omSu f s (omPl 1 p f s q k).2 (q k))) hP (by omega) (show (0 : Int) ≤ 50 * k ∧ (50 * k : Int) ≤ 100000 by omega) o1 ⟨by show (0 : Int) ≤ 1; decide, by show (1 : Int) ≤ 2; decide⟩ ⟨by show -1 ≤ f (q k); omega, by show f (q k) ≤ 9; omega⟩ (fun h => absurd h (by show ¬ (1 : Int) = 0; decide)) ⟨by show 0 ≤ omSu f s (omPl 1 p f s q k).2 (q k); omega, by show omSu f s (omPl 1 p f s q k).2 (q k) ≤ 100000; omega⟩
  have a1' : s_X12_works 1 (f (q k)) (omSu f s (omPl 1 p f s q k).2 (q k)) σ = some σ1 := a1
  have hlen := omAdd_len (P := (omPl 1 p f s q k).1) (e := (1, f (q k), omSu f s (omPl 1 p f s q k).2 (q k)))
  have hok1 : omPok (50 * k + 20) (omAdd (omPl 1 p f s q k).1 (1, f (q k), omSu f s (omPl 1 p f s q k).2 (q k))) := o1.add (by omega) ⟨by show (0 : Int) ≤ 1; decide, by show (1 : Int) ≤ 2; decide⟩ ⟨by show -1 ≤ f (q k); omega, by show f (q k) ≤ 9; omega⟩ hs
  obtain ⟨σ2, c1, c2, c3, c4, c5, -⟩ := s_X12_works_eq (e := (0, (q k : Int), p (q k))) a2 (by omega) (show (0 : Int) ≤ 50 * k + 20 ∧ (50 * k + 20 : Int) ≤ 100000 by omega) hok1 ⟨Int.le_refl 0, by show (0 : Int) ≤ 2; decide⟩ ⟨by show -1 ≤ ((q k : Nat) : Int); omega, by show ((q k : Nat) : Int) ≤ 9; omega⟩ (fun _ => by show 0 ≤ ((q k : Nat) : Int); omega) ⟨by show 0 ≤ p (q k); omega, by show p (q k) ≤ 100000; omega⟩
  have c1' : s_X12_works 0 (q k : Int) (p (q k)) σ1 = some σ2 := c1
  have hpl : (omPl 1 p f s q (k + 1)).1 = omAdd (omAdd (omPl 1 p f s q k).1 (1, f (q k), omSu f s (omPl 1 p f s q k).2 (q k))) (0, (q k : Int), p (q k)) := by
    show omAdd (if 1 = 0 then _ else _) _ = _
    rw [if_neg (by decide)]
  refine ⟨σ1, σ2, a1', c1', a3, by rw [hpl]; exact c2, a3.trans c3, fun k hk => by rw [c4 k hk, a4 k hk], fun i hi => ?_⟩
  have c5' := c5 rfl
  have a6' := a6 (by show ¬ (1 : Int) = 0; decide)
  rw [c5']
  show omUp (σ1 53) ((q k : Int)).toNat _ (q i) = _
  rw [Int.toNat_natCast, a6']
  show (if q i = q k then _ else σ 53 (q i)) = _
  by_cases hik : i = k
  · subst hik
    rw [if_pos rfl]
    unfold omEd
    rw [hpl]
    exact (omAdd_now (e := (0, (q i : Int), p (q i))) (by show 0 ≤ p (q i); omega)).symm
  · rw [if_neg (fun he => hik (hinj i k (by omega) hkn he))]
    exact hE i (by omega)
theorem l_X12_planByFamilies_32_eq {n : Nat} {lim : Int} {p d w r f s : Nat → Int} {R U : Nat → Int} {q : Nat → Nat} (hok : omOk n p d w r f s) (hU : ∀ S u, u < 5 → S < 2 ^ n → -1000000 ≤ U (5 * S + u) ∧ U (5 * S + u) ≤ 1000000) (hRU : ∀ S u, u < 5 → S < 2 ^ n → omKs n d f S → R (5 * S + u) = U (5 * S + u)) (hlim : lim = R 4) (hl : -1000000 ≤ lim ∧ lim ≤ 1000000) (hq : ∀ i, i < n → omHf n p d f s R lim (omSs q i) (omPl 1 p f s q i).2 (omNow (omPl 1 p f s q i).1) (q i)) : ∀ (m k fuel : Nat) (σ : omH), k + m = n → m < fuel → omMv n p d w r f s σ → σ 57 = U → omPM (omPl 1 p f s q k).1 σ → (∀ i, i < k → σ 53 (q i) = omEd 1 p f s q i) →
    ∃ σ', l_X12_planByFamilies_32 lim fuel (omSs q k : Nat) (omPl 1 p f s q k).2 k σ = some σ' ∧ omPM (omPl 1 p f s q n).1 σ' ∧ omEx [43, 50, 51, 52, 53] σ σ' ∧ (∀ k, k ≠ 9 → σ' 43 k = σ 43 k) ∧ ∀ i, i < n → σ' 53 (q i) = omEd 1 p f s q i := by
  have hn := hok.1
  have hpw := om_pow_le hn
  obtain ⟨hq1, hq2, hq3⟩ := omSs_perm (n := n) (q := q) (fun i hi => ⟨(hq i hi).1, (hq i hi).2.1.1.1⟩)
  intro m
  induction m with
  | zero =>
    intro k fuel σ hk hf hm h57 hP hE
    obtain ⟨fuel, rfl⟩ : ∃ z, fuel = z + 1 := ⟨fuel - 1, by omega⟩
    have : k = n := by omega
    subst this
    rw [l_X12_planByFamilies_32.eq_2, hm.1, if_neg (by omega)]
    exact ⟨σ, rfl, hP, omEx.rfl', fun _ _ => rfl, hE⟩
  | succ m ih =>
    intro k fuel σ hk hf hm h57 hP hE
    obtain ⟨fuel, rfl⟩ : ∃ z, fuel = z + 1 := ⟨fuel - 1, by omega⟩
    have hkn : k < n := by omega
    have hqk := hq1 k hkn
    have ho := hok.2.1 (q k) hqk
    obtain ⟨hK, hS, hun, hin⟩ := omHf_inv hok hlim k (by omega) (fun i hi => hq i (by omega))
    obtain ⟨o1, o2, o3⟩ := omPl_ok (v := 1) (q := q) hok k (fun i hi => hq1 i (by omega))
    have hnow := o1.now (by omega)
    have hRU2 : ∀ i, i < n → omNx n d f (omSs q k) i → R (5 * (omSs q k ||| 2 ^ i) + (f i).toNat) = U (5 * (omSs q k ||| 2 ^ i) + (f i).toNat) := fun i hi hnx => hRU _ _ (by have := hok.2.1 i hi; omega) (om_ins_lt hS hi) (omKs_ins hK hnx)
    have hex : ∃ j, j < n ∧ omCd n p d f s (σ 57) lim (omSs q k) (omPl 1 p f s q k).2 (omNow (omPl 1 p f s q k).1) j := by
      rw [h57]
      have h1 := hq k hkn
      refine ⟨q k, hqk, h1.2.1.1, ?_⟩
      have h2 := h1.2.1.2
      unfold omUg at h2 ⊢
      rw [← hRU2 (q k) hqk h1.2.1.1]
      exact h2
    obtain ⟨j, hj, hl52⟩ := l_X12_planByFamilies_52_eq (z := (k : Int)) hok hm hS hP rfl (by omega) (by omega) hl (fun j hj => by rw [h57]; exact hU _ _ (by have := hok.2.1 j hj; omega) (om_ins_lt hS hj)) hex n FU (-1) (Nat.le_refl _) (by rw [FU_eq]; omega) (Or.inl ⟨rfl, fun j h1 h2 => by omega⟩)
    rw [h57] at hj
    have hjq : q k = j := omHf_uniq hRU2 (hq k hkn) hj
    subst hjq
    rw [l_X12_planByFamilies_32.eq_2, hm.1, om_wn (show k < 2147483648 by omega), om_wn (show n < 2147483648 by omega), if_pos (by omega), hl52, om_b0, om_wn (show q k < 2147483648 by omega), Int.toNat_natCast, hm.2.2.2.2.2.1, hm.2.2.2.2.2.2, omw_id (a := f (q k)) (by omega) (by omega), omw_id (a := (omPl 1 p f s q k).2) (by omega) (by omega), omg_t ⟨by omega, by omega⟩, omg_t ⟨by omega, by omega⟩]
    have e1 : (if f (q k) = (omPl 1 p f s q k).2 then some (0 : Int) else omg (0 ≤ (q k : Int) ∧ (q k : Int) < 10) (omg (0 ≤ f (q k) ∧ f (q k) < 4) (some (s (f (q k)).toNat)))) = some (omSu f s (omPl 1 p f s q k).2 (q k)) := by
      unfold omSu
      by_cases h : f (q k) = (omPl 1 p f s q k).2
      · rw [if_pos h, if_pos h]
      · rw [if_neg h, if_neg h, omg_t ⟨by omega, by omega⟩, omg_t ⟨by omega, by omega⟩]
    obtain ⟨σ1, σ2, y1, y2, y3, y4, y5, y6, y7⟩ := s_X12_works2_step hok hq1 hq2 hkn hP hE
    have e44 : σ1 44 = p := by rw [y3 44 (by simp)]; exact hm.2.1
    have e48 : σ2 48 = f := by rw [y5 48 (by simp)]; exact hm.2.2.2.2.2.1
    rw [e1, om_b0, y1, om_b0, e44, omg_t ⟨by omega, by omega⟩, y2, om_b0, e48, omg_t ⟨by omega, by omega⟩, om_ins (by omega) (by omega), show ((k : Int) + 1) = ((k + 1 : Nat) : Int) by omega]
    have := ih (k + 1) fuel σ2 (by omega) (by omega) (hm.ex2 y5 (y6 1 (by decide)) (by simp)) (by rw [y5 57 (by simp)]; exact h57) y4 y7
    rw [omPl1_fam] at this
    obtain ⟨σ', z1, z2, z3, z4, z5⟩ := this
    exact ⟨σ', z1, z2, y5.trans z3, fun k hk => by rw [z4 k hk, y6 k hk], z5⟩
theorem omKe_uniq {n : Nat} {p d w r f s : Nat → Int} {R U : Nat → Int} (hok : omOk n p d w r f s) (hR : ∀ S u, u < 5 → S < 2 ^ n → omKs n d f S → omKe n p d f s R S u) (hU : ∀ S u, u < 5 → S < 2 ^ n → omUe 1 n p d f s U S u) : ∀ m S u, u < 5 → S < 2 ^ n → omKs n d f S → 2 ^ n - S ≤ m → R (5 * S + u) = U (5 * S + u) := by
  intro m
  induction m with
  | zero => intro S u hu hS hK hm; omega
  | succ m ih =>
    intro S u hu hS hK hm
    rw [(hR S u hu hS hK).1, hU S u hu hS]
    refine omFq_congr n (fun j hj => ⟨fun h => ⟨h.1, Or.inr h⟩, fun h => h.2.elim (fun h0 => absurd h0 (by decide)) id⟩) (fun j hj hP => ?_)
    unfold omUg
    rw [ih (S ||| 2 ^ j) (f j).toNat (by have := hok.2.1 j hj; omega) (om_ins_lt hS hj) (omKs_ins hK hP) (by have := om_or_gt hP.1; omega)]
theorem om_planByFamilies {σ : omH} (hI : omInv σ) : omGood (s_L_planByFamilies σ) s_X12_planByFamilies := by
  obtain ⟨n, p, d, w, r, f, s, h1, h2, h3, h45, h6⟩ := id hI
  have hn := h1.1
  have hpw := om_pow_le hn
  have hp0 : 0 < 2 ^ n := Nat.two_pow_pos n
  by_cases hz : n = 0
  · refine omGood.th (k := 1) (v := 0) hI (Or.inl rfl) ?_ ?_
    · unfold s_L_planByFamilies s_X11_planByFamilies
      rw [(s_X11_needSomeJob_eq h1 h2).1 hz]
      rfl
    · unfold s_X12_planByFamilies
      rw [(s_X12_hasJobs_eq h1 h3).1 hz, om_b0, if_pos (by show omw 0 = 0; decide)]
  · obtain ⟨τ0, q, R, a1, a2, a3, a4, a5⟩ := s_X7_orderByFamilies_eq h1 h2
    obtain ⟨g1, g2, g3⟩ := omSs_perm (n := n) (q := q) (fun i hi => ⟨(a5 i hi).1.1, (a5 i hi).1.2.1.1.1⟩)
    obtain ⟨τ1, b1, b2, b3, b4, b5, b6, b7⟩ := om_followed (v := 1) (c := 0) h1 (by decide) (by decide) g1 g2 g3 (h2.ex a2 (by simp)) (fun i hi => (a5 i hi).2)
    have hex1 : omEx [24, 25, 26, 27, 28, 30, 31, 33, 34] σ τ1 := (a2.mono (by simp)).trans (b5.mono (by simp))
    have hm0 : omMv n p d w r f s (omsu τ1 60 0 (omw (omTot n 0 d w (τ1 28)))) := (h3.ex hex1 (by simp)).ex (W := [60]) (omEx.su (by simp)) (by simp)
    have hm1 : omMv n p d w r f s (omsu (omsu τ1 60 0 (omw (omTot n 0 d w (τ1 28)))) 43 0 0) := hm0.ex2 (W := [43]) (omEx.su (by simp)) (by rw [omsu_n (Or.inr (by decide))]) (by simp)
    obtain ⟨τ2, c1, c2, c3⟩ := s_X12_costsBehind_eq (v := 1) h1 (by decide) hm1
    have hm2 := hm1.ex c2 (by simp)
    have hRU : ∀ S u, u < 5 → S < 2 ^ n → omKs n d f S → R (5 * S + u) = τ2 57 (5 * S + u) := fun S u hu hS hK => omKe_uniq h1 a4 (fun S u hu hS => (c3 S u hu hS).1) (2 ^ n) S u hu hS hK (by omega)
    have hR4 : R 4 = τ2 57 4 := hRU 0 4 (by decide) hp0 omKs_0
    have hR4r : -1000000 ≤ R 4 ∧ R 4 ≤ 1000000 := (a4 0 4 (by decide) hp0 omKs_0).2
    have exb : omEx [43] τ2 (omsu (omsu τ2 43 8 1) 43 9 0) := (omEx.su (by simp)).trans (omEx.su (by simp))
    have hm3 : omMv n p d w r f s (omsu (omsu τ2 43 8 1) 43 9 0) := hm2.ex2 exb (by rw [omsu_n (Or.inr (by decide)), omsu_n (Or.inr (by decide))]) (by simp)
    obtain ⟨τ3, e1, e2, e3, e4, e5⟩ := l_X12_planByFamilies_32_eq (U := τ2 57) h1 (fun S u hu hS => (c3 S u hu hS).2) hRU rfl hR4r (fun i hi => (a5 i hi).1) n 0 FU (omsu (omsu τ2 43 8 1) 43 9 0) (by omega) (by rw [FU_eq]; omega) hm3 (exb 57 (by simp)) ⟨by rw [omsu_s]; rfl, by show 0 ≤ 20; decide, fun i x hx => by simp [omPl] at hx⟩ (fun i hi => by omega)
    have e1' : l_X12_planByFamilies_32 (R 4) FU 0 4 0 (omsu (omsu τ2 43 8 1) 43 9 0) = some τ3 := e1
    have hm4 := hm3.ex2 e3 (e4 1 (by decide)) (by simp)
    have hEr : ∀ i, i < n → 0 ≤ omEd 1 p f s q i ∧ omEd 1 p f s q i ≤ 1000 := fun i hi => by have := omEd_rng (v := 1) h1 g1 hi; omega
    have hval : omTot n 0 d w (τ3 53) = omTot n 0 d w (τ1 28) := omTot_q g3 e5 b7
    refine om_planGood (σ1 := τ1) (σ2 := τ3) (val := omTot n 0 d w (τ1 28)) (W := [43, 50, 51, 52, 53, 57]) h1 b3 ?_ b4 b6 b7 ?_ ?_ (by simp) hm4 e2 ?_ ?_ e5 hEr g3
    · unfold s_L_planByFamilies s_X11_planByFamilies
      rw [(s_X11_needSomeJob_eq h1 h2).2 (by omega), om_b0]
      simp only [Sum.elim_inr]
      have b1' : s_X5_follow 1 τ0 = some τ1 := b1
      rw [a1, om_b0, b1', om_b0, b2, om_b0, om_b0]
      simp only [Sum.elim_inr]
      rw [omg_t (by decide)]
      rfl
    · unfold s_X12_planByFamilies s_X12_begins
      have c1' : s_X12_costsBehind 1 (omsu (omsu τ1 60 0 (omw (omTot n 0 d w (τ1 28)))) 43 0 0) = some τ2 := c1
      rw [(s_X12_hasJobs_eq h1 hm0).2 (by omega), om_b0, if_neg (by show ¬ omw 1 = 0; decide)]
      show Option.bind (s_X12_costsBehind 1 (omsu (omsu τ1 60 0 (omw (omTot n 0 d w (τ1 28)))) 43 0 0)) _ = _
      rw [c1', om_b0, omg_t (by decide), om_b0]
      show Option.bind (l_X12_planByFamilies_32 (τ2 57 4) FU 0 4 0 (omsu (omsu τ2 43 8 1) 43 9 0)) _ = _
      rw [← hR4, e1', om_b0, s_X12_greatest_eq h1 hm4 (omCr_q g3 e5 hEr), om_b0, hval]
    · exact ((omEx.su (by simp)).trans (c2.mono (by simp))).trans ((exb.mono (by simp)).trans (e3.mono (by simp)))
    · rw [e4 8 (by decide), omsu_n (Or.inr (by decide)), omsu_s]
    · rw [e4 0 (by decide), omsu_n (Or.inr (by decide)), omsu_n (Or.inr (by decide)), c2 43 (by simp), omsu_s]
