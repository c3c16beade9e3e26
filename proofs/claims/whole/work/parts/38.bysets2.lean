/-! .. the reference's -/
theorem l_X12_fewestLateBySets_12_eq {n : Nat} {p d : Nat → Int} {q : Nat → Nat} (hn : n ≤ 10) : ∀ (m k fuel : Nat) (σ : omH), k + m = n + 1 → m < fuel → σ 43 1 = n → (∀ i, i < k → σ 58 i = omLe p d q 0 i) →
    ∃ σ', l_X12_fewestLateBySets_12 fuel k σ = some σ' ∧ omEx [58] σ σ' ∧ ∀ i, i ≤ n → σ' 58 i = omLe p d q 0 i := by
  intro m
  induction m with
  | zero =>
    intro k fuel σ hk hf hc hr
    obtain ⟨fuel, rfl⟩ : ∃ z, fuel = z + 1 := ⟨fuel - 1, by omega⟩
    rw [l_X12_fewestLateBySets_12.eq_2, hc, om_wn (show k < 2147483648 by omega), om_wn (show n < 2147483648 by omega), if_pos (by omega)]
    exact ⟨σ, rfl, omEx.rfl', fun i hi => hr i (by omega)⟩
  | succ m ih =>
    intro k fuel σ hk hf hc hr
    obtain ⟨fuel, rfl⟩ : ∃ z, fuel = z + 1 := ⟨fuel - 1, by omega⟩
    rw [l_X12_fewestLateBySets_12.eq_2, hc, om_wn (show k < 2147483648 by omega), om_wn (show n < 2147483648 by omega), if_neg (by omega)]
    have e1 : (if (k : Int) = 0 then some (0 : Int) else some 1000000) = some (omLe p d q 0 k) := by
      unfold omLe
      by_cases h : k = 0
      · rw [if_pos (by omega), if_pos h]
      · rw [if_neg (by omega), if_neg h]
    rw [e1, om_b0, omg_t ⟨by omega, by omega⟩, Int.toNat_natCast, show ((k : Int) + 1) = ((k + 1 : Nat) : Int) by omega]
    have ex1 : omEx [58] σ (omsu σ 58 k (omLe p d q 0 k)) := omEx.su (by simp)
    obtain ⟨σ', z1, z2, z3⟩ := ih (k + 1) fuel (omsu σ 58 k (omLe p d q 0 k)) (by omega) (by omega) (by rw [ex1 43 (by simp)]; exact hc) (fun i hi => by
      by_cases hik : i = k
      · subst hik; rw [omsu_s]
      · rw [omsu_n (Or.inr hik)]; exact hr i (by omega))
    exact ⟨σ', z1, ex1.trans z2, z3⟩
theorem l_X12_fewestLateBySets_64_eq {n m : Nat} {u : Int} {p d w r f s : Nat → Int} {q : Nat → Nat} (hok : omOk n p d w r f s) (hq : ∀ i, i < n → q i < n) (hm : m < n) : ∀ (k fuel : Nat) (σ : omH), k ≤ n → k < fuel → omMv n p d w r f s σ → (∀ i, i ≤ k → σ 58 i = omLe p d q m i) → (∀ i, k < i → i ≤ n → σ 58 i = omLe p d q (m + 1) i) →
    ∃ σ', l_X12_fewestLateBySets_64 u (q m) fuel k σ = some σ' ∧ omEx [58] σ σ' ∧ ∀ i, i ≤ n → σ' 58 i = omLe p d q (m + 1) i := by
  have hn := hok.1
  intro k
  induction k with
  | zero =>
    intro fuel σ hk hf hv h1 h2
    obtain ⟨fuel, rfl⟩ : ∃ z, fuel = z + 1 := ⟨fuel - 1, by omega⟩
    rw [l_X12_fewestLateBySets_64.eq_2, if_neg (by show ¬ (0 : Int) < omw 0; decide)]
    refine ⟨σ, rfl, omEx.rfl', fun i hi => ?_⟩
    by_cases h0 : i = 0
    · subst h0
      rw [h1 0 (Nat.le_refl _)]
      exact (if_pos rfl).symm
    · exact h2 i (by omega) hi
  | succ k ih =>
    intro fuel σ hk hf hv h1 h2
    obtain ⟨fuel, rfl⟩ : ∃ z, fuel = z + 1 := ⟨fuel - 1, by omega⟩
    have hqm := hq m hm
    have ho := hok.2.1 (q m) hqm
    have hr1 := omLe_rng (p := p) (d := d) hok hq m k (by omega)
    have hr2 := omLe_rng (p := p) (d := d) hok hq m (k + 1) (by omega)
    rw [l_X12_fewestLateBySets_64.eq_2, show (((k + 1 : Nat) : Int) - 1) = (k : Int) by omega, show (((k + 1 : Nat) : Int) + (-1)) = (k : Int) by omega, om_wn (show k < 2147483648 by omega), om_wn (show k + 1 < 2147483648 by omega), om_wn (show q m < 2147483648 by omega), if_pos (by omega), omg_t ⟨by omega, by omega⟩, omg_t ⟨by omega, by omega⟩, omg_t ⟨by omega, by omega⟩, omg_t ⟨by omega, by omega⟩, omg_t ⟨by omega, by omega⟩, Int.toNat_natCast, Int.toNat_natCast, Int.toNat_natCast, hv.2.1, hv.2.2.1, h1 k (by omega), h1 (k + 1) (by omega), omw_id (a := d (q m)) (by omega) (by omega), omw_id (a := omLe p d q m k + p (q m)) (by omega) (by omega), omw_id (a := omLe p d q m (k + 1)) (by omega) (by omega)]
    have e1 : (if d (q m) < omLe p d q m k + p (q m) then some (omLe p d q m (k + 1)) else if omLe p d q m k + p (q m) < omLe p d q m (k + 1) then some (omLe p d q m k + p (q m)) else some (omLe p d q m (k + 1))) = some (omLe p d q (m + 1) (k + 1)) := by
      show _ = some (if k + 1 = 0 then omLe p d q m 0 else if d (q m) < omLe p d q m (k + 1 - 1) + p (q m) then omLe p d q m (k + 1) else if omLe p d q m (k + 1 - 1) + p (q m) < omLe p d q m (k + 1) then omLe p d q m (k + 1 - 1) + p (q m) else omLe p d q m (k + 1))
      rw [show k + 1 - 1 = k by omega, if_neg (show ¬ k + 1 = 0 by omega)]
      split
      · rfl
      · split <;> rfl
    rw [e1, om_b0, omg_t ⟨by omega, by omega⟩]
    have ex1 : omEx [58] σ (omsu σ 58 (k + 1) (omLe p d q (m + 1) (k + 1))) := omEx.su (by simp)
    obtain ⟨σ', z1, z2, z3⟩ := ih fuel (omsu σ 58 (k + 1) (omLe p d q (m + 1) (k + 1))) (by omega) (by omega) (hv.ex ex1 (by simp)) (fun i hi => by rw [omsu_n (Or.inr (by omega))]; exact h1 i (by omega)) (fun i hi hi2 => by
      by_cases hik : i = k + 1
      · subst hik; rw [omsu_s]
      · rw [omsu_n (Or.inr hik)]; exact h2 i (by omega) hi2)
    exact ⟨σ', z1, ex1.trans z2, z3⟩
theorem l_X12_fewestLateBySets_44_eq {n : Nat} {p d w r f s : Nat → Int} {q : Nat → Nat} (hok : omOk n p d w r f s) (hq : ∀ i, i < n → q i < n) : ∀ (k m fuel : Nat) (σ : omH), m + k = n → k < fuel → omMv n p d w r f s σ → (∀ i, i < n → σ 54 i = q i) → (∀ i, i ≤ n → σ 58 i = omLe p d q m i) →
    ∃ σ', l_X12_fewestLateBySets_44 fuel m σ = some σ' ∧ omEx [58] σ σ' ∧ ∀ i, i ≤ n → σ' 58 i = omLe p d q n i := by
  have hn := hok.1
  intro k
  induction k with
  | zero =>
    intro m fuel σ hk hf hv hr h1
    obtain ⟨fuel, rfl⟩ : ∃ z, fuel = z + 1 := ⟨fuel - 1, by omega⟩
    have : m = n := by omega
    subst this
    rw [l_X12_fewestLateBySets_44.eq_2, hv.1, if_neg (by omega)]
    exact ⟨σ, rfl, omEx.rfl', h1⟩
  | succ k ih =>
    intro m fuel σ hk hf hv hr h1
    obtain ⟨fuel, rfl⟩ : ∃ z, fuel = z + 1 := ⟨fuel - 1, by omega⟩
    rw [l_X12_fewestLateBySets_44.eq_2, hv.1, om_wn (show m < 2147483648 by omega), om_wn (show n < 2147483648 by omega), if_pos (by omega), omg_t ⟨by omega, by omega⟩, Int.toNat_natCast, hr m (by omega)]
    obtain ⟨τ, x1, x2, x3⟩ := l_X12_fewestLateBySets_64_eq (u := (m : Int)) hok hq (show m < n by omega) n FU σ (Nat.le_refl _) (by rw [FU_eq]; omega) hv h1 (fun i h2 h3 => by omega)
    rw [x1, om_b0, show ((m : Int) + 1) = ((m + 1 : Nat) : Int) by omega]
    obtain ⟨σ', z1, z2, z3⟩ := ih (m + 1) fuel τ (by omega) (by omega) (hv.ex x2 (by simp)) (fun i hi => by rw [x2 54 (by simp)]; exact hr i hi) x3
    exact ⟨σ', z1, x2.trans z2, z3⟩
def omKx (n : Nat) (p d : Nat → Int) (q : Nat → Nat) : Nat → Nat
  | 0 => 0
  | x + 1 => if omLe p d q n x < 1000000 then x else omKx n p d q x
theorem omKx_le {n : Nat} {p d : Nat → Int} {q : Nat → Nat} : ∀ x, omKx n p d q x ≤ x := by
  intro x
  induction x with
  | zero => exact Nat.le_refl _
  | succ x ih => unfold omKx; split <;> omega
theorem omKx_max {n : Nat} {p d : Nat → Int} {q : Nat → Nat} : ∀ x k, k < x → omLe p d q n k < 1000000 → k ≤ omKx n p d q x ∧ omLe p d q n (omKx n p d q x) < 1000000 := by
  intro x
  induction x with
  | zero => intro k hk; omega
  | succ x ih =>
    intro k hk h
    show k ≤ (if omLe p d q n x < 1000000 then x else omKx n p d q x) ∧ omLe p d q n (if omLe p d q n x < 1000000 then x else omKx n p d q x) < 1000000
    by_cases h1 : omLe p d q n x < 1000000
    · rw [if_pos h1]; exact ⟨by omega, h1⟩
    · rw [if_neg h1]
      have : k ≠ x := fun he => h1 (he ▸ h)
      exact ih k (by omega) h
theorem l_X12_fewestLateBySets_140_eq {n : Nat} {p d w r f s : Nat → Int} {q : Nat → Nat} {σ : omH} (hok : omOk n p d w r f s) (hq : ∀ i, i < n → q i < n) (hv : σ 43 1 = n) (h1 : ∀ i, i ≤ n → σ 58 i = omLe p d q n i) : ∀ (m k fuel : Nat), k + m = n + 1 → m < fuel → l_X12_fewestLateBySets_140 σ fuel (omKx n p d q k : Nat) k = some ((omKx n p d q (n + 1) : Nat) : Int) := by
  have hn := hok.1
  intro m
  induction m with
  | zero =>
    intro k fuel hk hf
    obtain ⟨fuel, rfl⟩ : ∃ z, fuel = z + 1 := ⟨fuel - 1, by omega⟩
    have : k = n + 1 := by omega
    subst this
    rw [l_X12_fewestLateBySets_140.eq_2, hv, om_wn (show n + 1 < 2147483648 by omega), om_wn (show n < 2147483648 by omega), if_pos (by omega)]
  | succ m ih =>
    intro k fuel hk hf
    obtain ⟨fuel, rfl⟩ : ∃ z, fuel = z + 1 := ⟨fuel - 1, by omega⟩
    have hr := omLe_rng (p := p) (d := d) hok hq n k (Nat.le_refl _)
    rw [l_X12_fewestLateBySets_140.eq_2, hv, om_wn (show k < 2147483648 by omega), om_wn (show n < 2147483648 by omega), if_neg (by omega), omg_t ⟨by omega, by omega⟩, Int.toNat_natCast, h1 k (by omega), omw_id (a := omLe p d q n k) (by omega) (by omega), show omw 1000000 = 1000000 from rfl]
    have e1 : (if omLe p d q n k < 1000000 then some (k : Int) else some ((omKx n p d q k : Nat) : Int)) = some ((omKx n p d q (k + 1) : Nat) : Int) := by
      show _ = some (((if omLe p d q n k < 1000000 then k else omKx n p d q k : Nat)) : Int)
      split <;> rfl
    rw [e1, om_b0, show ((k : Int) + 1) = ((k + 1 : Nat) : Int) by omega]
    exact ih (k + 1) fuel (by omega) (by omega)
/-- the two maxima are the same -/
theorem om_most {n : Nat} {p d w r f s : Nat → Int} {q : Nat → Nat} (hok : omOk n p d w r f s) (hq : omSt (omBk d) n q) : omMo n p d q (2 ^ n) = (omKx n p d q (n + 1) : Nat) := by
  have hn := hok.1
  have hinj : ∀ i k, i < n → k < n → q i = q k → i = k := fun i k hi hk he => hq.inj (omBk_so n d) hi hk he
  obtain ⟨m1, m2, m3⟩ := omMo_char (n := n) (p := p) (d := d) (q := q) (2 ^ n)
  obtain ⟨S, s1, s2, s3⟩ := m2 (Nat.two_pow_pos n)
  have hl := omLe_low (p := p) (d := d) (q := q) (S := S) n s2
  have hT := omTq_rng (S := S) hok hq.1 (Nat.le_refl n)
  have hct : ∀ m, omCt q S m ≤ m := by
    intro m
    induction m with
    | zero => exact Nat.le_refl _
    | succ m ih => show omCt q S m + (if _ then 1 else 0) ≤ m + 1; split <;> omega
  have hle : omCt q S n ≤ omKx n p d q (n + 1) ∧ omLe p d q n (omKx n p d q (n + 1)) < 1000000 := omKx_max (n + 1) _ (by have := hct n; omega) (by omega)
  obtain ⟨S', t1, t2, t3, t4⟩ := omLe_ex hok hq.1 hinj n _ (Nat.le_refl n) hle.2
  have hS' : S' < 2 ^ n := Nat.lt_pow_two_of_testBit S' (fun i hi => by
    cases hb : S'.testBit i with
    | false => rfl
    | true =>
      obtain ⟨k, hk, hkq⟩ := t1 i hb
      have := hq.1 k hk
      omega)
  have h2 := m1 S' hS' t2
  rw [omPop_ct hn hS' hq.1 hinj hq.2.1, t3] at h2
  rw [omPop_ct hn s1 hq.1 hinj hq.2.1] at s3
  omega
theorem om_op32 {L : Nat} {xs : Nat → Int} {rec : Int → omH → Option ((Int × omH) ⊕ omH)} {x : Int} {σ : omH} (hI : omInv σ) : ∃ σ2, lc_32 L xs rec x σ = rec (x + 7) σ2 ∧ omInv σ2 := by
  obtain ⟨n, p, d, w, r, f, s, h1, h2, h3, h45, h6⟩ := id hI
  have hn := h1.1
  have hpw := om_pow_le hn
  obtain ⟨τ0, q, a1, a2, a3, a4⟩ := s_X2_fillInOrder_eq (c := 5) (a := 41) h1 h2 (by decide) (by decide)
  have a3' : omSt (omBk d) n q := a3
  have b1 := l_X8_mostOnTime_15_eq h1 (h2.ex a2 (by simp)) a3.1 a4 (2 ^ n) 0 FU (by omega) (by rw [FU_eq]; omega)
  have b1' : l_X8_mostOnTime_15 τ0 FU 0 0 = some (omMo n p d q (2 ^ n)) := b1
  have hm0 : omMv n p d w r f s τ0 := h3.ex a2 (by simp)
  have hm1 : omMv n p d w r f s (omsu τ0 43 0 0) := hm0.ex2 (W := [43]) (omEx.su (by simp)) (by rw [omsu_n (Or.inr (by decide))]) (by simp)
  obtain ⟨τ1, c1, c2, c3⟩ := s_X12_laysOrder_eq (v := 1) h1 (by decide) hm1 a3
  have c1' : s_X12_laysOrder 1 (omsu τ0 43 0 0) = some τ1 := c1
  have hm2 := hm1.ex c2 (by simp)
  obtain ⟨τ2, e1, e2, e3⟩ := l_X12_fewestLateBySets_12_eq (p := p) (d := d) (q := q) hn (n + 1) 0 FU τ1 (by omega) (by rw [FU_eq]; omega) hm2.1 (fun i hi => by omega)
  have e1' : l_X12_fewestLateBySets_12 FU 0 τ1 = some τ2 := e1
  have hm3 := hm2.ex e2 (by simp)
  obtain ⟨τ3, g1, g2, g3⟩ := l_X12_fewestLateBySets_44_eq h1 a3.1 n 0 FU τ2 (by omega) (by rw [FU_eq]; omega) hm3 (fun i hi => by rw [e2 54 (by simp)]; exact c3 i hi) e3
  have g1' : l_X12_fewestLateBySets_44 FU 0 τ2 = some τ3 := g1
  have hm4 := hm3.ex g2 (by simp)
  have k1 := l_X12_fewestLateBySets_140_eq h1 a3.1 hm4.1 g3 (n + 1) 0 FU (by omega) (by rw [FU_eq]; omega)
  have k1' : l_X12_fewestLateBySets_140 τ3 FU 0 0 = some ((omKx n p d q (n + 1) : Nat) : Int) := k1
  have hmost := om_most h1 a3'
  refine ⟨τ3, ?_, ?_⟩
  · unfold lc_32 s_X11_fewestLateBySets s_X8_mostOnTime
    rw [a1, om_b0, b1', om_b0, om_b0, om_b0]
    unfold s_X12_fewestLateBySets
    rw [c1', om_b0, e1', om_b0, g1', om_b0, k1', om_b0, om_b0, hm4.1, h2.1, hmost, if_pos rfl]
  · have hex : omEx [43, 54, 58] (omsu τ0 43 0 0) τ3 := ((c2.mono (by simp)).trans (e2.mono (by simp))).trans (g2.mono (by simp))
    have i0 : omInv τ0 := hI.ex a2 (fun k _ => by rw [a2 43 (by simp)]) (by simp)
    exact (i0.thr 0).ex hex (fun k _ => by rw [g2 43 (by simp), e2 43 (by simp), c2 43 (by simp)]) (by simp)
