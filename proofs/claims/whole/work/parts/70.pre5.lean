/-! .. units put together to events -/
theorem omAdd_tnow {P : List omPc} {k y : Int} {a : Nat} : omNow (omAdd P (k, y, (a : Int))) = omNow P + a := omAdd_now (by show 0 ≤ (a : Int); omega)
theorem l_X12_worksByTime_43_jobs {n b v j k : Nat} {op : Int} {p d w r f s : Nat → Int} {X : omE3} {σ : omH} (hok : omOk n p d w r f s) (hbv : b + v = 1) (hE : omEk n p r k X) (hk : k < 20) (hm : omMv n p d w r f s σ) (hP : omPM X.1 σ) (hR : ∀ j, j < n → σ 55 j = X.2.1 j) (hch : omCh n (omGk v d X.2.1) r X.2.1 (omNow X.1) j) (hop : X.2.1 j ≤ op ∧ op ≤ 1000) : ∀ a : Nat, (a + 1 : Nat) ≤ omDt n j r X →
    ∃ σ', (∀ fuel, l_X12_worksByTime_43 b (fuel + (a + 1)) op σ = l_X12_worksByTime_43 b fuel (op - (a + 1 : Nat)) σ') ∧ omPM (omAdd X.1 (0, (j : Int), ((a + 1 : Nat) : Int))) σ' ∧ omEx [43, 50, 51, 52, 53, 55] σ σ' ∧ (∀ k, k ≠ 9 → σ' 43 k = σ 43 k) ∧ (∀ i, i < n → σ' 55 i = omUp X.2.1 j (X.2.1 j - (a + 1 : Nat)) i) ∧ σ' 53 = omUp (σ 53) j (omNow X.1 + (a + 1 : Nat)) := by
  have hn := hok.1
  have hj := hch.1
  have hD := omDt_rng hok hE hch
  have hnow := omEk_now hok hE
  obtain ⟨h1, h2, h3, h4, h5, h6⟩ := hE
  have hRj := h3 j hj
  have hoj := hok.2.1 j hj
  intro a
  induction a with
  | zero =>
    intro ha
    obtain ⟨σ', z1, z2, z3, z4, z5, z6⟩ := l_X12_worksByTime_43_job hok hbv hm hP h1 (Or.inl (by omega)) rfl (by omega) h3 hR hch (op := op) (by omega)
    exact ⟨σ', z1, z2, z3, z4, z5, z6⟩
  | succ a ih =>
    intro ha
    obtain ⟨τ, y1, y2, y3, y4, y5, y6⟩ := ih (by omega)
    have hRr2 : omRr n p (omUp X.2.1 j (X.2.1 j - (a + 1 : Nat))) := fun i hi => by
      by_cases hij : i = j
      · subst hij; rw [omUp_s]; omega
      · rw [omUp_n hij]; exact h3 i hi
    have hnow2 : omNow (omAdd X.1 (0, (j : Int), ((a + 1 : Nat) : Int))) = omNow X.1 + (a + 1 : Nat) := omAdd_tnow
    have hPo2 : omPok 1000 (omAdd X.1 (0, (j : Int), ((a + 1 : Nat) : Int))) := h1.add2 ⟨by show (0 : Int) ≤ 0; decide, by show (0 : Int) ≤ 2; decide⟩ ⟨by show -1 ≤ (j : Int); omega, by show (j : Int) ≤ 9; omega⟩ (by show 0 ≤ ((a + 1 : Nat) : Int); omega) (by show omNow X.1 + ((a + 1 : Nat) : Int) ≤ 1000; omega)
    have hch2 : omCh n (omGk v d (omUp X.2.1 j (X.2.1 j - (a + 1 : Nat)))) r (omUp X.2.1 j (X.2.1 j - (a + 1 : Nat))) (omNow X.1 + (a + 1 : Nat)) j := by
      refine ⟨hj, ⟨by rw [omUp_s]; omega, by have := hch.2.1.2; omega⟩, fun i hi hon hne => ?_⟩
      have hon0 : omOn r X.2.1 (omNow X.1) i := by
        refine ⟨by have := hon.1; rw [omUp_n hne] at this; exact this, Int.not_lt.mp (fun hlt => ?_)⟩
        have h7 := omNr_low n i hi hlt
        have h8 := hon.2
        omega
      have hbk := hch.2.2 i hi hon0 hne
      by_cases hv : v = 0
      · have e1 : omGk v d (omUp X.2.1 j (X.2.1 j - (a + 1 : Nat))) = d := if_pos hv
        have e2 : omGk v d X.2.1 = d := if_pos hv
        rw [e1]
        rw [e2] at hbk
        exact hbk
      · have e1 : omGk v d (omUp X.2.1 j (X.2.1 j - (a + 1 : Nat))) = omUp X.2.1 j (X.2.1 j - (a + 1 : Nat)) := if_neg hv
        have e2 : omGk v d X.2.1 = X.2.1 := if_neg hv
        rw [e1]
        rw [e2] at hbk
        unfold omBk at hbk ⊢
        rw [omUp_s, omUp_n hne]
        omega
    obtain ⟨σ', z1, z2, z3, z4, z5, z6⟩ := l_X12_worksByTime_43_job hok hbv (hm.ex2 y3 (y4 1 (by decide)) (by simp)) y2 hPo2 (Or.inr (omAdd_head (by show (0 : Int) < ((a + 1 : Nat) : Int); omega))) hnow2 (by omega) hRr2 y5 hch2 (op := op - (a + 1 : Nat)) (by omega)
    refine ⟨σ', fun fuel => ?_, ?_, y3.trans z3, fun k hk => by rw [z4 k hk, y4 k hk], fun i hi => ?_, ?_⟩
    · rw [show fuel + (a + 1 + 1) = (fuel + 1) + (a + 1) by omega, y1, z1, show op - ((a + 1 : Nat) : Int) - 1 = op - ((a + 1 + 1 : Nat) : Int) by omega]
    · rw [omAdd_add (by omega) (by omega)] at z2
      have e : ((a + 1 : Nat) : Int) + 1 = ((a + 1 + 1 : Nat) : Int) := by omega
      rw [e] at z2
      exact z2
    · rw [z5 i hi, omUp_s, omUp_up]
      congr 1
      omega
    · rw [z6, y6, omUp_up]
      congr 1
      omega
theorem l_X12_worksByTime_43_idles {n b v k : Nat} {op : Int} {p d w r f s : Nat → Int} {X : omE3} {σ : omH} (hok : omOk n p d w r f s) (hbv : b + v = 1) (hE : omEk n p r k X) (hk : k < 20) (hm : omMv n p d w r f s σ) (hP : omPM X.1 σ) (hR : ∀ j, j < n → σ 55 j = X.2.1 j) (hno : ∀ i, i < n → ¬ omOn r X.2.1 (omNow X.1) i) (hop : 1 ≤ op ∧ op ≤ 1000) : ∀ a : Nat, omNow X.1 + (a + 1 : Nat) ≤ omNr r (omNow X.1) n → omNr r (omNow X.1) n ≤ 1000 →
    ∃ σ', (∀ fuel, l_X12_worksByTime_43 b (fuel + (a + 1)) op σ = l_X12_worksByTime_43 b fuel op σ') ∧ omPM (omAdd X.1 (2, -1, ((a + 1 : Nat) : Int))) σ' ∧ omEx [43, 50, 51, 52, 53, 55] σ σ' ∧ (∀ k, k ≠ 9 → σ' 43 k = σ 43 k) ∧ σ' 55 = σ 55 ∧ σ' 53 = σ 53 := by
  have hn := hok.1
  have hnow := omEk_now hok hE
  obtain ⟨h1, h2, h3, h4, h5, h6⟩ := hE
  intro a
  induction a with
  | zero =>
    intro ha hN
    obtain ⟨σ', z1, z2, z3, z4, z5, z6⟩ := l_X12_worksByTime_43_idle hok hbv hm hP h1 (Or.inl (by omega)) rfl (by omega) h3 hR hno (op := op) hop
    exact ⟨σ', z1, z2, z3, z4, z5, z6⟩
  | succ a ih =>
    intro ha hN
    obtain ⟨τ, y1, y2, y3, y4, y5, y6⟩ := ih (by omega) hN
    have hnow2 : omNow (omAdd X.1 (2, -1, ((a + 1 : Nat) : Int))) = omNow X.1 + (a + 1 : Nat) := omAdd_tnow
    have hPo2 : omPok 1000 (omAdd X.1 (2, -1, ((a + 1 : Nat) : Int))) := h1.add2 ⟨by show (0 : Int) ≤ 2; decide, by show (2 : Int) ≤ 2; decide⟩ ⟨by show (-1 : Int) ≤ -1; decide, by show (-1 : Int) ≤ 9; decide⟩ (by show 0 ≤ ((a + 1 : Nat) : Int); omega) (by show omNow X.1 + ((a + 1 : Nat) : Int) ≤ 1000; omega)
    have hno2 : ∀ i, i < n → ¬ omOn r X.2.1 (omNow X.1 + (a + 1 : Nat)) i := fun i hi hon => hno i hi ⟨hon.1, Int.not_lt.mp (fun hlt => by
      have h7 := omNr_low n i hi hlt
      have h8 := hon.2
      omega)⟩
    obtain ⟨σ', z1, z2, z3, z4, z5, z6⟩ := l_X12_worksByTime_43_idle hok hbv (hm.ex2 y3 (y4 1 (by decide)) (by simp)) y2 hPo2 (Or.inr (omAdd_head (by show (0 : Int) < ((a + 1 : Nat) : Int); omega))) hnow2 (by omega) h3 (fun j hj => by rw [y5]; exact hR j hj) hno2 (op := op) hop
    refine ⟨σ', fun fuel => ?_, ?_, y3.trans z3, fun k hk => by rw [z4 k hk, y4 k hk], by rw [z5, y5], by rw [z6, y6]⟩
    · rw [show fuel + (a + 1 + 1) = (fuel + 1) + (a + 1) by omega, y1, z1]
    · rw [omAdd_add (by omega) (by omega)] at z2
      have e : ((a + 1 : Nat) : Int) + 1 = ((a + 1 + 1 : Nat) : Int) := by omega
      rw [e] at z2
      exact z2
/-- who has been worked on is released -/
theorem omEs_rel {v n : Nat} {p d w r f s : Nat → Int} (hok : omOk n p d w r f s) : ∀ k j, j < n → (omEs v n p d r k).2.1 j < p j → r j ≤ omNow (omEs v n p d r k).1 := by
  intro k
  induction k with
  | zero => intro j hj hlt; exact absurd hlt (Int.lt_irrefl _)
  | succ k ih =>
    intro j hj hlt
    have hE := omEs_ok (v := v) (d := d) hok k
    have hS : omEs v n p d r (k + 1) = omEv v n d r (omEs v n p d r k) := rfl
    rw [hS] at hlt ⊢
    generalize omEs v n p d r k = X at hE ih hlt ⊢
    have hnow := omEk_now hok hE
    have hNr := omNr_gt (t := omNow X.1) hok (by omega)
    rcases om_dec (n := n) (r := r) (R := X.2.1) (t := omNow X.1) with hon | hno
    · obtain ⟨i, hch⟩ := omCh_ex (v := v) (d := d) hon
      have hD := omDt_rng hok hE hch
      rw [omEv_job hch] at hlt ⊢
      have hnow2 : omNow (omAdd X.1 (0, (i : Int), omDt n i r X)) = omNow X.1 + omDt n i r X := omAdd_now (by show 0 ≤ omDt n i r X; omega)
      show r j ≤ omNow (omAdd X.1 (0, (i : Int), omDt n i r X))
      rw [hnow2]
      by_cases hji : j = i
      · subst hji
        have := hch.2.1.2
        omega
      · have hlt' : omUp X.2.1 i (X.2.1 i - omDt n i r X) j < p j := hlt
        rw [omUp_n hji] at hlt'
        have := ih j hj hlt'
        omega
    · by_cases hN : omNr r (omNow X.1) n < 1000000
      · rw [omEv_idle hno hN] at hlt ⊢
        have hnow2 : omNow (omAdd X.1 (2, -1, omNr r (omNow X.1) n - omNow X.1)) = omNow X.1 + (omNr r (omNow X.1) n - omNow X.1) := omAdd_now (by show 0 ≤ omNr r (omNow X.1) n - omNow X.1; omega)
        show r j ≤ omNow (omAdd X.1 (2, -1, omNr r (omNow X.1) n - omNow X.1))
        rw [hnow2]
        have := ih j hj hlt
        omega
      · rw [omEv_end hno hN] at hlt ⊢
        exact ih j hj hlt
def omXm (n : Nat) (p : Nat → Int) (X : omE3) (σ : omH) : Prop := omPM X.1 σ ∧ (∀ j, j < n → σ 55 j = X.2.1 j) ∧ ∀ j, j < n → X.2.1 j < p j → σ 53 j = X.2.2 j
theorem l_X12_worksByTime_43_eq {n b v : Nat} {p d w r f s : Nat → Int} (hok : omOk n p d w r f s) (hbv : b + v = 1) : ∀ (m k fuel : Nat) (σ : omH), k + m = 20 → omMv n p d w r f s σ → omXm n p (omEs v n p d r k) σ → 1001 ≤ (fuel : Int) + omNow (omEs v n p d r k).1 →
    ∃ σ', l_X12_worksByTime_43 b fuel (omSum n (omEs v n p d r k).2.1) σ = some σ' ∧ omEx [43, 50, 51, 52, 53, 55] σ σ' ∧ (∀ k, k ≠ 9 → σ' 43 k = σ 43 k) ∧ omXm n p (omEs v n p d r 20) σ' := by
  have hn := hok.1
  intro m
  induction m with
  | zero =>
    intro k fuel σ hk hm hX hf
    have : k = 20 := by omega
    subst this
    have hnow := omEk_now hok (omEs_ok (v := v) (d := d) hok 20)
    obtain ⟨fuel, rfl⟩ : ∃ z, fuel = z + 1 := ⟨fuel - 1, by omega⟩
    have hs : omSum n (omEs v n p d r 20).2.1 = 0 := omSum_zero (fun j hj => omEs_done hok j hj)
    rw [hs, l_X12_worksByTime_43.eq_2, if_neg (by decide)]
    exact ⟨σ, rfl, omEx.rfl', fun _ _ => rfl, hX⟩
  | succ m ih =>
    intro k fuel σ hk hm hX hf
    have hE := omEs_ok (v := v) (d := d) hok k
    have hrel := omEs_rel (v := v) (d := d) hok k
    have hS : omEs v n p d r (k + 1) = omEv v n d r (omEs v n p d r k) := rfl
    have hE2 := omEs_ok (v := v) (d := d) hok (k + 1)
    have hstop := omEs_stop (v := v) (n := n) (k := k) (p := p) (d := d) (r := r)
    have ih' := ih (k + 1)
    rw [hS] at ih' hE2
    generalize omEs v n p d r k = X at hE hE2 hrel hS hstop ih' hX hf ⊢
    have hnow := omEk_now hok hE
    have hnow2 := omEk_now hok hE2
    have hNr := omNr_gt (t := omNow X.1) hok (by omega)
    have hRr := hE.2.2.1
    have hsr := omRr_sum hok hRr
    have hs3 : omSum n X.2.1 ≤ 300 := by
      have h7 := omSum_rng (n := n) (g := X.2.1) (B := 30) (fun j hj => by have := hRr j hj; have := hok.2.1 j hj; omega)
      omega
    by_cases hz : omSum n X.2.1 = 0
    · obtain ⟨fuel, rfl⟩ : ∃ z, fuel = z + 1 := ⟨fuel - 1, by omega⟩
      have hall : ∀ j, j < n → X.2.1 j = 0 := fun j hj => by
        have h7 := omSum_one (n := n) (k := j) (g := X.2.1) (fun i hi => (hRr i hi).1) hj
        have h8 := hRr j hj
        omega
      have hno : ∀ i, i < n → ¬ omOn r X.2.1 (omNow X.1) i := fun i hi hon => by
        have := hon.1
        have := hall i hi
        omega
      have hN : ¬ omNr r (omNow X.1) n < 1000000 := fun hN => by
        obtain ⟨-, i, hi, g1, g2⟩ := hNr.2.1 hN
        have := hall i hi
        have := hok.2.1 i hi
        have := hrel i hi (by omega)
        omega
      have hst := hstop (omEv_end hno hN) (m + 1)
      rw [show k + (m + 1) = 20 by omega] at hst
      rw [hz, hst, l_X12_worksByTime_43.eq_2, if_neg (by decide)]
      exact ⟨σ, rfl, omEx.rfl', fun _ _ => rfl, hX⟩
    · rcases om_dec (n := n) (r := r) (R := X.2.1) (t := omNow X.1) with hon | hno
      · obtain ⟨j, hch⟩ := omCh_ex (v := v) (d := d) hon
        have hj := hch.1
        have hD := omDt_rng hok hE hch
        have hRj := hRr j hj
        have hoj := hok.2.1 j hj
        have hone := omSum_one (n := n) (k := j) (g := X.2.1) (fun i hi => (hRr i hi).1) hj
        obtain ⟨a, ha⟩ : ∃ a : Nat, ((a + 1 : Nat) : Int) = omDt n j r X := ⟨(omDt n j r X - 1).toNat, by omega⟩
        obtain ⟨τ, y1, y2, y3, y4, y5, y6⟩ := l_X12_worksByTime_43_jobs hok hbv hE (by omega) hm hX.1 hX.2.1 hch (op := omSum n X.2.1) (by omega) a (by omega)
        have hev := omEv_job hch
        rw [hev] at ih' hnow2
        have hn2 : omNow (omAdd X.1 (0, (j : Int), omDt n j r X)) = omNow X.1 + omDt n j r X := omAdd_now (by show 0 ≤ omDt n j r X; omega)
        have hs2 : omSum n (omUp X.2.1 j (X.2.1 j - omDt n j r X)) = omSum n X.2.1 - omDt n j r X := by rw [omSum_up hj]; omega
        have hn3 : omNow (omAdd X.1 (0, (j : Int), omDt n j r X)) ≤ 400 := hnow2.2
        obtain ⟨fuel, rfl⟩ : ∃ z, fuel = z + (a + 1) := ⟨fuel - (a + 1), by omega⟩
        rw [y1 fuel, ha]
        rw [ha] at y2 y5 y6
        obtain ⟨σ', z1, z2, z3, z4⟩ := ih' fuel τ (by omega) (hm.ex2 y3 (y4 1 (by decide)) (by simp)) ⟨y2, y5, fun i hi hlt => by
          rw [y6]
          show omUp (σ 53) j (omNow X.1 + omDt n j r X) i = omUp X.2.2 j (omNow X.1 + omDt n j r X) i
          by_cases hij : i = j
          · subst hij; rw [omUp_s, omUp_s]
          · have hlt' : omUp X.2.1 j (X.2.1 j - omDt n j r X) i < p i := hlt
            rw [omUp_n hij] at hlt'
            rw [omUp_n hij, omUp_n hij]
            exact hX.2.2 i hi hlt'⟩ (by
          show 1001 ≤ (fuel : Int) + omNow (omAdd X.1 (0, (j : Int), omDt n j r X))
          rw [hn2]
          omega)
        have z1' : l_X12_worksByTime_43 b fuel (omSum n (omUp X.2.1 j (X.2.1 j - omDt n j r X))) τ = some σ' := z1
        rw [hs2] at z1'
        exact ⟨σ', z1', y3.trans z2, fun k hk => by rw [z3 k hk, y4 k hk], z4⟩
      · by_cases hN : omNr r (omNow X.1) n < 1000000
        · obtain ⟨hN1, i0, hi0, g1, g2⟩ := hNr.2.1 hN
          obtain ⟨a, ha⟩ : ∃ a : Nat, ((a + 1 : Nat) : Int) = omNr r (omNow X.1) n - omNow X.1 := ⟨(omNr r (omNow X.1) n - omNow X.1 - 1).toNat, by omega⟩
          obtain ⟨τ, y1, y2, y3, y4, y5, y6⟩ := l_X12_worksByTime_43_idles hok hbv hE (by omega) hm hX.1 hX.2.1 hno (op := omSum n X.2.1) (by omega) a (by omega) (by omega)
          rw [omEv_idle hno hN] at ih'
          have hn2 : omNow (omAdd X.1 (2, -1, omNr r (omNow X.1) n - omNow X.1)) = omNow X.1 + (omNr r (omNow X.1) n - omNow X.1) := omAdd_now (by show 0 ≤ omNr r (omNow X.1) n - omNow X.1; omega)
          obtain ⟨fuel, rfl⟩ : ∃ z, fuel = z + (a + 1) := ⟨fuel - (a + 1), by omega⟩
          rw [y1 fuel]
          rw [ha] at y2
          obtain ⟨σ', z1, z2, z3, z4⟩ := ih' fuel τ (by omega) (hm.ex2 y3 (y4 1 (by decide)) (by simp)) ⟨y2, fun i hi => by rw [y5]; exact hX.2.1 i hi, fun i hi hlt => by rw [y6]; exact hX.2.2 i hi hlt⟩ (by
            show 1001 ≤ (fuel : Int) + omNow (omAdd X.1 (2, -1, omNr r (omNow X.1) n - omNow X.1))
            rw [hn2]
            omega)
          exact ⟨σ', z1, y3.trans z2, fun k hk => by rw [z3 k hk, y4 k hk], z4⟩
        · have hall : ∀ j, j < n → X.2.1 j = 0 := fun j hj => by
            have h8 := hRr j hj
            refine Classical.byContradiction (fun hne => hno j hj ⟨by omega, Int.not_lt.mp (fun hlt => ?_)⟩)
            have := omNr_low n j hj hlt
            have := hok.2.1 j hj
            omega
          exact absurd (omSum_zero (fun j hj => hall j hj)) hz
theorem l_X12_worksByTime_8_eq {n b : Nat} {p d w r f s : Nat → Int} (hok : omOk n p d w r f s) : ∀ (m k fuel : Nat) (σ : omH), k + m = n → m < fuel → omMv n p d w r f s σ → (∀ j, j < k → σ 55 j = p j) →
    ∃ σ', l_X12_worksByTime_8 b fuel (omSum k p) k σ = some (omSum n p, σ') ∧ omEx [55] σ σ' ∧ ∀ j, j < n → σ' 55 j = p j := by
  have hn := hok.1
  intro m
  induction m with
  | zero =>
    intro k fuel σ hk hf hm h0
    obtain ⟨fuel, rfl⟩ : ∃ z, fuel = z + 1 := ⟨fuel - 1, by omega⟩
    have : k = n := by omega
    subst this
    rw [l_X12_worksByTime_8.eq_2, hm.1, if_neg (by omega)]
    exact ⟨σ, rfl, omEx.rfl', h0⟩
  | succ m ih =>
    intro k fuel σ hk hf hm h0
    obtain ⟨fuel, rfl⟩ : ∃ z, fuel = z + 1 := ⟨fuel - 1, by omega⟩
    have ex1 : omEx [55] σ (omsu σ 55 k (p k)) := omEx.su (by simp)
    have hm1 := hm.ex ex1 (by simp)
    rw [l_X12_worksByTime_8.eq_2, hm.1, om_wn (show k < 2147483648 by omega), om_wn (show n < 2147483648 by omega), if_pos (by omega), Int.toNat_natCast, omg_t ⟨by omega, by omega⟩, omg_t ⟨by omega, by omega⟩, omg_t ⟨by omega, by omega⟩, hm.2.1, hm1.2.1, show ((k : Int) + 1) = ((k + 1 : Nat) : Int) by omega]
    obtain ⟨σ', z1, z2, z3⟩ := ih (k + 1) fuel (omsu σ 55 k (p k)) (by omega) (by omega) hm1 (fun j hj => by
      by_cases hjk : j = k
      · subst hjk; exact omsu_s
      · rw [omsu_n (Or.inr hjk)]; exact h0 j (by omega))
    exact ⟨σ', z1, ex1.trans z2, z3⟩
theorem s_X12_worksByTime_eq {n b v : Nat} {p d w r f s : Nat → Int} {σ : omH} (hok : omOk n p d w r f s) (hbv : b + v = 1) (hm : omMv n p d w r f s σ) : ∃ σ', s_X12_worksByTime b σ = some σ' ∧ omEx [43, 50, 51, 52, 53, 55] σ σ' ∧ σ' 43 8 = 1 ∧ (∀ k, k ≠ 8 → k ≠ 9 → σ' 43 k = σ 43 k) ∧ omXm n p (omEs v n p d r 20) σ' := by
  have hn := hok.1
  have ex1 : omEx [43] σ (omsu (omsu σ 43 8 1) 43 9 0) := (omEx.su (by simp)).trans (omEx.su (by simp))
  have hm1 : omMv n p d w r f s (omsu (omsu σ 43 8 1) 43 9 0) := hm.ex2 ex1 (by rw [omsu_n (Or.inr (by decide)), omsu_n (Or.inr (by decide))]) (by simp)
  obtain ⟨τ, a1, a2, a3⟩ := l_X12_worksByTime_8_eq (b := b) hok n 0 FU (omsu (omsu σ 43 8 1) 43 9 0) (by omega) (by rw [FU_eq]; omega) hm1 (fun j hj => by omega)
  have a1' : l_X12_worksByTime_8 b FU 0 0 (omsu (omsu σ 43 8 1) 43 9 0) = some (omSum n p, τ) := a1
  have hP0 : omPM [] (omsu (omsu σ 43 8 1) 43 9 0) := ⟨by rw [omsu_s]; rfl, by show 0 ≤ 20; decide, fun i x hx => by simp at hx⟩
  obtain ⟨σ', z1, z2, z3, z4⟩ := l_X12_worksByTime_43_eq (v := v) hok hbv 20 0 FU τ (by omega) (hm1.ex a2 (by simp)) ⟨hP0.ex a2 (by rw [a2 43 (by simp)]) (by simp), a3, fun j hj hlt => absurd hlt (Int.lt_irrefl _)⟩ (by
    show 1001 ≤ (FU : Int) + 0
    rw [FU_eq]
    decide)
  have z1' : l_X12_worksByTime_43 b FU (omSum n p) τ = some σ' := z1
  refine ⟨σ', ?_, (ex1.mono (by simp)).trans ((a2.mono (by simp)).trans z2), by rw [z3 8 (by decide), a2 43 (by simp), omsu_n (Or.inr (by decide)), omsu_s], fun k h8 h9 => by rw [z3 k h9, a2 43 (by simp), omsu_n (Or.inr h9), omsu_n (Or.inr h8)], z4⟩
  unfold s_X12_worksByTime s_X12_begins
  rw [om_b0, a1', om_b0]
  show Option.bind (l_X12_worksByTime_43 b FU (omSum n p) τ) _ = _
  rw [z1', om_b0]
