/-! .. the sequence by families -/
theorem omKe_top {n : Nat} {p d w r f s : Nat → Int} {R : Nat → Int} {qd : Nat → Nat} (hok : omOk n p d w r f s) (hqd : omSt (omBk d) n qd) (h : ∀ S u, u < 5 → S < 2 ^ n → omKs n d f S → omKe n p d f s R S u) : ∀ m S u, u < 5 → S < 2 ^ n → omKs n d f S → 2 ^ n - S ≤ m → R (5 * S + u) ≤ 50 * omUn n S := by
  have hn := hok.1
  intro m
  induction m with
  | zero => intro S u hu hS hK hm; omega
  | succ m ih =>
    intro S u hu hS hK hm
    rw [(h S u hu hS hK).1]
    by_cases hx : ∃ j, j < n ∧ ¬ S.testBit j = true
    · obtain ⟨j, hj, hnx⟩ := omNx_ex (f := f) hqd hx
      have hb := hnx.1
      have ho := hok.2.1 j hj
      have h1 := omFq_low (b := omUb n S) (P := omNx n d f S) (g := omUg p d f s R S (u : Nat)) n j hj hnx
      have h2 := ih (S ||| 2 ^ j) (f j).toNat (by omega) (om_ins_lt hS hj) (omKs_ins hK hnx) (by have := om_or_gt hb; omega)
      have h3 := omUn_ins hj hb
      have h4 := omTk_rng hok hj (u : Nat)
      have h5 := omUn_rng (n := n) (S := S ||| 2 ^ j)
      have h6 : omUg p d f s R S (u : Nat) j = omTk p f s (u : Nat) j + max (-(d j)) (R (5 * (S ||| 2 ^ j) + (f j).toNat)) := rfl
      omega
    · have hall : ∀ j, j < n → S.testBit j = true := fun j hj => Classical.byContradiction (fun hb => hx ⟨j, hj, hb⟩)
      rw [omFq_none n (fun j hj hP => hP.1 (hall j hj))]
      have hun : omUn n S = 0 := omSum_zero (fun j hj => by rw [hall j hj]; rfl)
      have hSf := omUn_full hS hun
      have : omUb n S = -1000000 := by
        unfold omUb
        rw [if_neg (by omega)]
      omega
/-- a job that can be next within a limit -/
def omCd (n : Nat) (p d f s : Nat → Int) (R : Nat → Int) (lim : Int) (S : Nat) (u t : Int) (j : Nat) : Prop := omNx n d f S j ∧ t + omUg p d f s R S u j ≤ lim
def omHf (n : Nat) (p d f s : Nat → Int) (R : Nat → Int) (lim : Int) (S : Nat) (u t : Int) (j : Nat) : Prop := j < n ∧ omCd n p d f s R lim S u t j ∧ ∀ i, i < j → ¬ omCd n p d f s R lim S u t i
theorem omHf_uniq {n S j j' : Nat} {lim u t : Int} {p d f s : Nat → Int} {R U : Nat → Int} (hRU : ∀ i, i < n → omNx n d f S i → R (5 * (S ||| 2 ^ i) + (f i).toNat) = U (5 * (S ||| 2 ^ i) + (f i).toNat)) (h : omHf n p d f s R lim S u t j) (h' : omHf n p d f s U lim S u t j') : j = j' := by
  have e : ∀ i, i < n → (omCd n p d f s R lim S u t i ↔ omCd n p d f s U lim S u t i) := by
    intro i hi
    unfold omCd omUg
    refine ⟨fun hh => ?_, fun hh => ?_⟩
    · rw [← hRU i hi hh.1]; exact hh
    · rw [hRU i hi hh.1]; exact hh
  obtain ⟨a1, a2, a3⟩ := h
  obtain ⟨b1, b2, b3⟩ := h'
  rcases Nat.lt_trichotomy j j' with h | h | h
  · exact absurd ((e j a1).mp a2) (b3 j h)
  · exact h
  · exact absurd ((e j' b1).mpr b2) (a3 j' h)
theorem omSs_un2 {n : Nat} {q : Nat → Nat} : ∀ k, (∀ i, i < k → q i < n ∧ ¬ (omSs q i).testBit (q i) = true) → omUn n (omSs q k) + k = n := by
  intro k
  induction k with
  | zero => intro _; rw [show omSs q 0 = 0 from rfl, omUn_0]; omega
  | succ k ih =>
    intro h
    have h1 := ih (fun i hi => h i (by omega))
    have h2 := omUn_ins (h k (by omega)).1 (h k (by omega)).2
    have e : omSs q (k + 1) = omSs q k ||| 2 ^ (q k) := rfl
    rw [e]
    omega
theorem omSs_perm {n : Nat} {q : Nat → Nat} (h : ∀ i, i < n → q i < n ∧ ¬ (omSs q i).testBit (q i) = true) : (∀ i, i < n → q i < n) ∧ (∀ i k, i < n → k < n → q i = q k → i = k) ∧ ∀ j, j < n → ∃ i, i < n ∧ q i = j := by
  have h1 : ∀ i, i < n → q i < n := fun i hi => (h i hi).1
  have h2 : ∀ i k, i < n → k < n → q i = q k → i = k := by
    intro i k hi hk he
    rcases Nat.lt_trichotomy i k with h3 | h3 | h3
    · exact absurd (omSs_bit (q := q) k i h3) (by rw [he]; exact (h k hk).2)
    · exact h3
    · exact absurd (omSs_bit (q := q) i k h3) (by rw [← he]; exact (h i hi).2)
  exact ⟨h1, h2, om_inj_onto h1 h2⟩
theorem omPl1_fam {p f s : Nat → Int} {q : Nat → Nat} {k : Nat} : (omPl 1 p f s q (k + 1)).2 = f (q k) := by
  show (if 1 = 0 then (omPl 1 p f s q k).2 else f (q k)) = f (q k)
  exact if_neg (by decide)
theorem omPl1_now {n k : Nat} {p d w r f s : Nat → Int} {q : Nat → Nat} (hok : omOk n p d w r f s) (hq : q k < n) : omNow (omPl 1 p f s q (k + 1)).1 = omNow (omPl 1 p f s q k).1 + (omSu f s (omPl 1 p f s q k).2 (q k) + p (q k)) := by
  have h1 := hok.2.1 (q k) hq
  have h2 := omSu_rng hok hq (omPl 1 p f s q k).2
  show omNow (omAdd (if 1 = 0 then (omPl 1 p f s q k).1 else omAdd (omPl 1 p f s q k).1 (1, f (q k), omSu f s (omPl 1 p f s q k).2 (q k))) (0, (q k : Int), p (q k))) = _
  rw [if_neg (by decide), omAdd_now (by show 0 ≤ p (q k); omega), omAdd_now (by show 0 ≤ omSu f s (omPl 1 p f s q k).2 (q k); exact h2.1)]
  show omNow (omPl 1 p f s q k).1 + omSu f s (omPl 1 p f s q k).2 (q k) + p (q k) = _
  omega
/-- along the sequence the limit can be kept -/
theorem omHf_inv {n : Nat} {lim : Int} {p d w r f s : Nat → Int} {R : Nat → Int} {q : Nat → Nat} (hok : omOk n p d w r f s) (hlim : lim = R 4) : ∀ k, k ≤ n → (∀ i, i < k → omHf n p d f s R lim (omSs q i) (omPl 1 p f s q i).2 (omNow (omPl 1 p f s q i).1) (q i)) → omKs n d f (omSs q k) ∧ omSs q k < 2 ^ n ∧ omUn n (omSs q k) + k = n ∧ omNow (omPl 1 p f s q k).1 + R (5 * omSs q k + (omPl 1 p f s q k).2.toNat) ≤ lim := by
  intro k
  cases k with
  | zero =>
    intro _ _
    refine ⟨omKs_0, Nat.two_pow_pos n, ?_, ?_⟩
    · rw [show omSs q 0 = 0 from rfl, omUn_0]; omega
    · show (0 : Int) + R 4 ≤ lim
      omega
  | succ k =>
    intro hk h
    have hK : ∀ m, m ≤ k + 1 → omKs n d f (omSs q m) := by
      intro m
      induction m with
      | zero => intro _; exact omKs_0
      | succ m ih => intro hm; exact omKs_ins (ih (by omega)) (h m (by omega)).2.1.1
    refine ⟨hK (k + 1) (Nat.le_refl _), omSs_lt (k + 1) (fun i hi => (h i hi).1), omSs_un2 (k + 1) (fun i hi => ⟨(h i hi).1, (h i hi).2.1.1.1⟩), ?_⟩
    have hl := h k (by omega)
    have h2 := hl.2.1.2
    rw [omPl1_now hok hl.1, omPl1_fam, show omSs q (k + 1) = omSs q k ||| 2 ^ (q k) from rfl]
    unfold omUg omTk at h2
    omega
theorem l_X7_orderByFamilies_44_eq {n S pl : Nat} {lim u t : Int} {p d w r f s : Nat → Int} {σ : omH} (hok : omOk n p d w r f s) (hc : omCv n p d w r f s σ) (hM : omMd n d f σ) (hS : S < 2 ^ n) (hK : omKs n d f S) (hpl : pl < 10) (hu : -1 ≤ u ∧ u ≤ 4) (ht : 0 ≤ t ∧ t ≤ 1000) (hlim : -1000000 ≤ lim ∧ lim ≤ 1000000) (hR : ∀ S u, u < 5 → S < 2 ^ n → omKs n d f S → omKe n p d f s (σ 34) S u) (hex : ∃ j, j < n ∧ omCd n p d f s (σ 34) lim S u t j) : ∀ (m k fuel : Nat), k + m = n → m < fuel → (∀ i, i < k → ¬ omCd n p d f s (σ 34) lim S u t i) →
    ∃ j : Nat, omHf n p d f s (σ 34) lim S u t j ∧ l_X7_orderByFamilies_44 lim pl fuel S u t k σ = some (((S ||| 2 ^ j : Nat) : Int), f j, t + (omSu f s u j + p j), omsu σ 30 pl (j : Nat)) := by
  have hn := hok.1
  have hpw := om_pow_le hn
  intro m
  induction m with
  | zero =>
    intro k fuel hk hf hno
    obtain ⟨j, hj, hcd⟩ := hex
    exact absurd hcd (hno j (by omega))
  | succ m ih =>
    intro k fuel hk hf hno
    obtain ⟨fuel, rfl⟩ : ∃ z, fuel = z + 1 := ⟨fuel - 1, by omega⟩
    have hkn : k < n := by omega
    have ho := hok.2.1 k hkn
    have hnext : ¬ omCd n p d f s (σ 34) lim S u t k → ∃ j : Nat, omHf n p d f s (σ 34) lim S u t j ∧ l_X7_orderByFamilies_44 lim pl fuel S u t ((k + 1 : Nat) : Int) σ = some (((S ||| 2 ^ j : Nat) : Int), f j, t + (omSu f s u j + p j), omsu σ 30 pl (j : Nat)) := fun hnc => ih (k + 1) fuel (by omega) (by omega) (fun i hi => by
      by_cases hik : i = k
      · subst hik; exact hnc
      · exact hno i (by omega))
    rw [l_X7_orderByFamilies_44.eq_2, hc.1, om_wn (show k < 2147483648 by omega), om_wn (show n < 2147483648 by omega), if_pos (by omega), s_X7_isNext_eq hok hM hS hkn, om_b0, show ((k : Int) + 1) = ((k + 1 : Nat) : Int) by omega]
    by_cases hnx : omNx n d f S k
    · have hrg := (hR (S ||| 2 ^ k) (f k).toNat (by omega) (om_ins_lt hS hkn) (omKs_ins hK hnx)).2
      have hg := omUg_rng (u := u) hok hkn hrg
      rw [om_if0 hnx, s_X7_latenessBy_eq hok hc hS hkn hu hrg, om_b0, omw_id (a := lim) (by omega) (by omega), omw_id (a := t + omUg p d f s (σ 34) S u k) (by omega) (by omega)]
      by_cases hl : lim < t + omUg p d f s (σ 34) S u k
      · rw [if_pos hl]
        exact hnext (fun h => by have := h.2; omega)
      · rw [if_neg hl, om_wn (show pl < 2147483648 by omega), omg_t ⟨by omega, by omega⟩, Int.toNat_natCast]
        have ex1 : omEx [30] σ (omsu σ 30 pl (k : Nat)) := omEx.su (by simp)
        have hc1 := hc.ex ex1 (by simp)
        rw [s_X2_setupBehind_eq hok hc1 hkn hu, om_b0, hc1.2.1, hc1.2.2.2.2.2.1, Int.toNat_natCast, omg_t ⟨by omega, by omega⟩, omg_t ⟨by omega, by omega⟩, om_ins (by omega) (by omega)]
        exact ⟨k, ⟨hkn, ⟨hnx, by omega⟩, hno⟩, rfl⟩
    · rw [om_if1 hnx]
      exact hnext (fun h => hnx h.1)
theorem l_X7_orderByFamilies_32_eq {n : Nat} {lim : Int} {p d w r f s : Nat → Int} {R : Nat → Int} (hok : omOk n p d w r f s) (hR : ∀ S u, u < 5 → S < 2 ^ n → omKs n d f S → omKe n p d f s R S u) (hlim : lim = R 4) (hl2 : lim ≤ 500) : ∀ (m k fuel : Nat) (σ : omH) (q : Nat → Nat), k + m = n → m < fuel → omCv n p d w r f s σ → omMd n d f σ → σ 34 = R → (∀ i, i < k → omHf n p d f s R lim (omSs q i) (omPl 1 p f s q i).2 (omNow (omPl 1 p f s q i).1) (q i) ∧ σ 30 i = q i) →
    ∃ σ' q', l_X7_orderByFamilies_32 lim fuel (omSs q k : Nat) (omPl 1 p f s q k).2 (omNow (omPl 1 p f s q k).1) k σ = some σ' ∧ omEx [30] σ σ' ∧ ∀ i, i < n → omHf n p d f s R lim (omSs q' i) (omPl 1 p f s q' i).2 (omNow (omPl 1 p f s q' i).1) (q' i) ∧ σ' 30 i = q' i := by
  have hn := hok.1
  have hpw := om_pow_le hn
  have hp0 : 0 < 2 ^ n := Nat.two_pow_pos n
  have hl1 : -1000000 ≤ lim := by
    have := (hR 0 4 (by decide) hp0 omKs_0).2.1
    have e : R (5 * 0 + 4) = R 4 := rfl
    omega
  intro m
  induction m with
  | zero =>
    intro k fuel σ q hk hf hc hM h34 hr
    obtain ⟨fuel, rfl⟩ : ∃ z, fuel = z + 1 := ⟨fuel - 1, by omega⟩
    have : k = n := by omega
    subst this
    rw [l_X7_orderByFamilies_32.eq_2, hc.1, if_neg (by omega)]
    exact ⟨σ, q, rfl, omEx.rfl', hr⟩
  | succ m ih =>
    intro k fuel σ q hk hf hc hM h34 hr
    obtain ⟨fuel, rfl⟩ : ∃ z, fuel = z + 1 := ⟨fuel - 1, by omega⟩
    obtain ⟨hK, hS, hun, hin⟩ := omHf_inv hok hlim k (by omega) (fun i hi => (hr i hi).1)
    obtain ⟨o1, o2, o3⟩ := omPl_ok (v := 1) (q := q) hok k (fun i hi => (hr i hi).1.1)
    have hnow := o1.now (by omega)
    have hne : omSs q k ≠ 2 ^ n - 1 := fun he => by
      have := omUn_of_full (n := n)
      rw [← he] at this
      omega
    have hKe := hR (omSs q k) (omPl 1 p f s q k).2.toNat (by omega) hS hK
    have hub : omUb n (omSs q k) = 1000000 := by unfold omUb; rw [if_pos (by omega)]
    have hun2 : (((omPl 1 p f s q k).2.toNat : Nat) : Int) = (omPl 1 p f s q k).2 := by omega
    have hex : ∃ j, j < n ∧ omCd n p d f s (σ 34) lim (omSs q k) (omPl 1 p f s q k).2 (omNow (omPl 1 p f s q k).1) j := by
      rw [h34]
      have h1 := hKe.1
      rw [hub, hun2] at h1
      rcases omFq_att (b := 1000000) (P := omNx n d f (omSs q k)) (g := omUg p d f s R (omSs q k) (omPl 1 p f s q k).2) n with h2 | ⟨j, hj, hP, h2⟩
      · omega
      · exact ⟨j, hj, hP, by omega⟩
    rw [l_X7_orderByFamilies_32.eq_2, hc.1, om_wn (show k < 2147483648 by omega), om_wn (show n < 2147483648 by omega), if_pos (by omega)]
    obtain ⟨j, hj, hl⟩ := l_X7_orderByFamilies_44_eq (pl := k) (lim := lim) hok hc hM hS hK (by omega) (by omega) (by omega) (by omega) (by rw [h34]; exact hR) hex n 0 FU (by omega) (by rw [FU_eq]; omega) (fun i hi => by omega)
    have hl' : l_X7_orderByFamilies_44 lim k FU (omSs q k : Nat) (omPl 1 p f s q k).2 (omNow (omPl 1 p f s q k).1) 0 σ = _ := hl
    rw [h34] at hj
    rw [hl', om_b0, show ((k : Int) + 1) = ((k + 1 : Nat) : Int) by omega]
    obtain ⟨Q, hag, hqk⟩ : ∃ Q : Nat → Nat, (∀ i, i < k → Q i = q i) ∧ Q k = j := ⟨fun i => if i = k then j else q i, fun i hi => if_neg (by omega), if_pos rfl⟩
    have hss : ∀ i, i ≤ k → omSs Q i = omSs q i := fun i hi => omSs_congr i (fun x hx => hag x (by omega))
    have hpl : ∀ i, i ≤ k → omPl 1 p f s Q i = omPl 1 p f s q i := fun i hi => omPl_congr i (fun x hx => hag x (by omega))
    have hk1 : omSs Q (k + 1) = omSs q k ||| 2 ^ j := by
      show omSs Q k ||| 2 ^ (Q k) = _
      rw [hss k (Nat.le_refl _), hqk]
    have hk2 : (omPl 1 p f s Q (k + 1)).2 = f j := by
      rw [omPl1_fam, hqk]
    have hk3 : omNow (omPl 1 p f s Q (k + 1)).1 = omNow (omPl 1 p f s q k).1 + (omSu f s (omPl 1 p f s q k).2 j + p j) := by
      rw [omPl1_now hok (by rw [hqk]; exact hj.1), hpl k (Nat.le_refl _), hqk]
    have ex1 : omEx [30] σ (omsu σ 30 k (j : Nat)) := omEx.su (by simp)
    obtain ⟨σ', q', z1, z2, z3⟩ := ih (k + 1) fuel (omsu σ 30 k (j : Nat)) Q (by omega) (by omega) (hc.ex ex1 (by simp)) (hM.ex ex1 (by simp)) (by rw [ex1 34 (by simp)]; exact h34) (fun i hi => by
      by_cases hik : i = k
      · subst hik
        rw [hss i (Nat.le_refl _), hpl i (Nat.le_refl _), omsu_s, hqk]
        exact ⟨hj, rfl⟩
      · rw [hss i (by omega), hpl i (by omega), omsu_n (Or.inr hik), hag i (by omega)]
        exact hr i (by omega))
    rw [hk1, hk2, hk3] at z1
    exact ⟨σ', q', z1, ex1.trans z2, z3⟩
theorem s_X7_orderByFamilies_eq {n : Nat} {p d w r f s : Nat → Int} {σ : omH} (hok : omOk n p d w r f s) (hc : omCv n p d w r f s σ) : ∃ (σ' : omH) (q : Nat → Nat) (R : Nat → Int), s_X7_orderByFamilies σ = some σ' ∧ omEx [30, 31, 33, 34] σ σ' ∧ R 4 ≤ 500 ∧ (∀ S u, u < 5 → S < 2 ^ n → omKs n d f S → omKe n p d f s R S u) ∧ ∀ i, i < n → omHf n p d f s R (R 4) (omSs q i) (omPl 1 p f s q i).2 (omNow (omPl 1 p f s q i).1) (q i) ∧ σ' 30 i = q i := by
  have hn := hok.1
  have hp0 : 0 < 2 ^ n := Nat.two_pow_pos n
  obtain ⟨τ1, qd, a1, a2, a3, a4⟩ := s_X7_fillMustBeDone_eq hok hc
  have hc1 := hc.ex a2 (by simp)
  obtain ⟨τ2, b1, b2, b3⟩ := s_X7_fillLeastLateness_eq hok hc1 a4
  have hc2 := hc1.ex b2 (by simp)
  have htop := omKe_top hok a3 b3 (2 ^ n) 0 4 (by decide) hp0 omKs_0 (by omega)
  rw [omUn_0] at htop
  have htop' : τ2 34 4 ≤ 50 * (n : Int) := htop
  obtain ⟨σ', q, z1, z2, z3⟩ := l_X7_orderByFamilies_32_eq (lim := τ2 34 4) (R := τ2 34) hok b3 rfl (by omega) n 0 FU τ2 (fun _ => 0) (by omega) (by rw [FU_eq]; omega) hc2 (a4.ex b2 (by simp)) rfl (fun i hi => by omega)
  have z1' : l_X7_orderByFamilies_32 (τ2 34 4) FU 0 4 0 0 τ2 = some σ' := z1
  refine ⟨σ', q, τ2 34, ?_, ((a2.mono (by simp)).trans (b2.mono (by simp))).trans (z2.mono (by simp)), by omega, b3, z3⟩
  unfold s_X7_orderByFamilies s_X7_state
  rw [a1, om_b0, b1, om_b0, om_b0, omg_t (by decide)]
  show Option.bind (l_X7_orderByFamilies_32 (τ2 34 4) FU 0 4 0 0 τ2) _ = _
  rw [z1', om_b0]
