/-! ===== a sequence worked off ===== -/
def omSu (f s : Nat → Int) (u : Int) (j : Nat) : Int := if f j = u then 0 else s (f j).toNat
/-- the pieces (and the family worked last) after k places of a sequence, with setups or without -/
def omPl (v : Nat) (p f s : Nat → Int) (q : Nat → Nat) : Nat → List omPc × Int
  | 0 => ([], 4)
  | k + 1 => (omAdd (if v = 0 then (omPl v p f s q k).1 else omAdd (omPl v p f s q k).1 (1, f (q k), omSu f s (omPl v p f s q k).2 (q k))) (0, (q k : Int), p (q k)), if v = 0 then (omPl v p f s q k).2 else f (q k))
theorem omPl_congr {v : Nat} {p f s : Nat → Int} {q q' : Nat → Nat} : ∀ k, (∀ i, i < k → q i = q' i) → omPl v p f s q k = omPl v p f s q' k := by
  intro k
  induction k with
  | zero => intro _; rfl
  | succ k ih =>
    intro h
    have h1 := ih (fun i hi => h i (by omega))
    have h2 := h k (by omega)
    show (_, _) = (_, _)
    simp only [h1, h2]
theorem omSu_rng {n : Nat} {p d w r f s : Nat → Int} (hok : omOk n p d w r f s) {j : Nat} (hj : j < n) (u : Int) : 0 ≤ omSu f s u j ∧ omSu f s u j ≤ 20 := by
  have h1 := hok.2.1 j hj
  have h2 := hok.2.2 (f j).toNat (by omega)
  unfold omSu
  split <;> omega
theorem omPl_ok {n v : Nat} {p d w r f s : Nat → Int} {q : Nat → Nat} (hok : omOk n p d w r f s) : ∀ k, (∀ i, i < k → q i < n) → omPok (50 * k) (omPl v p f s q k).1 ∧ (omPl v p f s q k).1.length ≤ 2 * k ∧ 0 ≤ (omPl v p f s q k).2 ∧ (omPl v p f s q k).2 ≤ 4 := by
  intro k
  induction k with
  | zero => intro _; exact ⟨fun x hx => absurd hx (by simp [omPl]), Nat.le_refl _, by show (0 : Int) ≤ 4 ∧ (4 : Int) ≤ 4; decide⟩
  | succ k ih =>
    intro hq
    obtain ⟨h1, h2, h3⟩ := ih (fun i hi => hq i (by omega))
    have hj := hq k (by omega)
    have hn := hok.1
    have ho := hok.2.1 (q k) hj
    have hs := omSu_rng hok hj (omPl v p f s q k).2
    have ha : omPok (50 * k + 20) (if v = 0 then (omPl v p f s q k).1 else omAdd (omPl v p f s q k).1 (1, f (q k), omSu f s (omPl v p f s q k).2 (q k))) := by
      split
      · intro x hx
        have := h1 x hx
        omega
      · exact h1.add (by omega) ⟨by show (0 : Int) ≤ 1; decide, by show (1 : Int) ≤ 2; decide⟩ ⟨by show -1 ≤ f (q k); omega, by show f (q k) ≤ 9; omega⟩ hs
    have hl : (if v = 0 then (omPl v p f s q k).1 else omAdd (omPl v p f s q k).1 (1, f (q k), omSu f s (omPl v p f s q k).2 (q k))).length ≤ 2 * k + 1 := by
      split
      · omega
      · have := omAdd_len (P := (omPl v p f s q k).1) (e := (1, f (q k), omSu f s (omPl v p f s q k).2 (q k)))
        omega
    refine ⟨?_, ?_, ?_⟩
    · have hb := ha.add (t := 30) (e := (0, (q k : Int), p (q k))) (by omega) ⟨Int.le_refl 0, by show (0 : Int) ≤ 2; decide⟩ ⟨by show -1 ≤ ((q k : Nat) : Int); omega, by show ((q k : Nat) : Int) ≤ 9; omega⟩ ⟨by show 0 ≤ p (q k); omega, by show p (q k) ≤ 30; omega⟩
      rw [show (50 * (k : Int) + 20 + 30) = 50 * ((k + 1 : Nat) : Int) by omega] at hb
      exact hb
    · have := omAdd_len (P := (if v = 0 then (omPl v p f s q k).1 else omAdd (omPl v p f s q k).1 (1, f (q k), omSu f s (omPl v p f s q k).2 (q k)))) (e := (0, (q k : Int), p (q k)))
      show List.length (omAdd _ _) ≤ _
      omega
    · show 0 ≤ (if v = 0 then (omPl v p f s q k).2 else f (q k)) ∧ (if v = 0 then (omPl v p f s q k).2 else f (q k)) ≤ 4
      split
      · exact h3
      · omega
/-- a place's end -/
def omEd (v : Nat) (p f s : Nat → Int) (q : Nat → Nat) (k : Nat) : Int := omNow (omPl v p f s q (k + 1)).1
theorem omEd_rng {n v k : Nat} {p d w r f s : Nat → Int} {q : Nat → Nat} (hok : omOk n p d w r f s) (hq : ∀ i, i < n → q i < n) (hk : k < n) : 0 ≤ omEd v p f s q k ∧ omEd v p f s q k ≤ 500 := by
  have hn := hok.1
  have h1 := (omPl_ok (v := v) hok (k + 1) (fun i hi => hq i (by omega))).1.now (by omega)
  unfold omEd
  omega
theorem s_X2_setupBehind_eq {n j : Nat} {p d w r f s : Nat → Int} {u : Int} {σ : omH} (hok : omOk n p d w r f s) (hv : omCv n p d w r f s σ) (hj : j < n) (hu : -1 ≤ u ∧ u ≤ 4) : s_X2_setupBehind u j σ = some (omSu f s u j) := by
  obtain ⟨h1, h18, h19, h20, h21, h22, h23⟩ := hv
  have hn := hok.1
  have ho := hok.2.1 j hj
  unfold s_X2_setupBehind omSu
  rw [h22, h23, om_wn (show j < 2147483648 by omega), Int.toNat_natCast, omw_id (a := f j) (by omega) (by omega), omw_id (a := u) (by omega) (by omega), omg_t ⟨by omega, by omega⟩]
  by_cases h : f j = u
  · rw [if_pos h, if_pos h]
  · rw [if_neg h, if_neg h, omg_t ⟨by omega, by omega⟩, omg_t ⟨by omega, by omega⟩]
set_option maxHeartbeats 4000000 in
theorem l_X5_follow_10_eq {n v : Nat} {p d w r f s : Nat → Int} {q : Nat → Nat} (hok : omOk n p d w r f s) (hvv : v < 2) (hq : ∀ i, i < n → q i < n) (hinj : ∀ i k, i < n → k < n → q i = q k → i = k) : ∀ (m k fuel : Nat) (σ : omH), k + m = n → m < fuel → omCv n p d w r f s σ → (∀ i, i < n → σ 30 i = q i) → omPC (omPl v p f s q k).1 σ → (∀ i, i < k → σ 28 (q i) = omEd v p f s q i) →
    ∃ σ', l_X5_follow_10 v fuel (omPl v p f s q k).2 k σ = some σ' ∧ omPC (omPl v p f s q n).1 σ' ∧ omEx [24, 25, 26, 27, 28] σ σ' ∧ σ' 24 0 = σ 24 0 ∧ ∀ i, i < n → σ' 28 (q i) = omEd v p f s q i := by
  have hn := hok.1
  intro m
  induction m with
  | zero =>
    intro k fuel σ hk hf hv hr hP hE
    obtain ⟨fuel, rfl⟩ : ∃ z, fuel = z + 1 := ⟨fuel - 1, by omega⟩
    have : k = n := by omega
    subst this
    rw [l_X5_follow_10.eq_2, hv.1, if_neg (by omega)]
    exact ⟨σ, rfl, hP, omEx.rfl', rfl, hE⟩
  | succ m ih =>
    intro k fuel σ hk hf hv hr hP hE
    obtain ⟨fuel, rfl⟩ : ∃ z, fuel = z + 1 := ⟨fuel - 1, by omega⟩
    have hkn : k < n := by omega
    have hj := hq k hkn
    have ho := hok.2.1 (q k) hj
    obtain ⟨o1, o2, o3⟩ := omPl_ok (v := v) hok k (fun i hi => hq i (by omega))
    rw [l_X5_follow_10.eq_2, hv.1, om_wn (show k < 2147483648 by omega), om_wn (show n < 2147483648 by omega), om_wn (show v < 2147483648 by omega), if_pos (by omega), omg_t ⟨by omega, by omega⟩, Int.toNat_natCast]
    simp only [hr k hkn, om_wn (show q k < 2147483648 by omega), Int.toNat_natCast]
    -- the setup before
    have hset : ∃ σ1, (if (v : Int) = 0 then some ((omPl v p f s q k).2, σ) else omg (0 ≤ ((q k : Nat) : Int) ∧ ((q k : Nat) : Int) < 10) (Option.bind (s_X2_setupBehind (omPl v p f s q k).2 (q k : Int) σ) (fun r7 => Option.bind (s_X5_add 1 (σ 22 (q k)) r7 σ) (fun r8 => omg (0 ≤ ((q k : Nat) : Int) ∧ ((q k : Nat) : Int) < 10) (some (r8 22 (q k), r8)))))) = some ((omPl v p f s q (k + 1)).2, σ1) ∧ omPC (if v = 0 then (omPl v p f s q k).1 else omAdd (omPl v p f s q k).1 (1, f (q k), omSu f s (omPl v p f s q k).2 (q k))) σ1 ∧ omEx [24, 25, 26, 27] σ σ1 ∧ σ1 24 0 = σ 24 0 := by
      by_cases h0 : v = 0
      · subst h0
        rw [if_pos (by decide)]
        exact ⟨σ, rfl, by rw [if_pos rfl]; exact hP, omEx.rfl', rfl⟩
      · rw [if_neg (by omega), omg_t ⟨by omega, by omega⟩, s_X2_setupBehind_eq hok hv hj (by omega), om_b0, if_neg h0]
        have hs := omSu_rng hok hj (omPl v p f s q k).2
        obtain ⟨σ1, a1, a2, a3, a4⟩ := s_X5_add_eq (e := (1, f (q k), omSu f s (omPl v p f s q k).2 (q k))) hP (by omega) (by omega) o1 ⟨by show (0 : Int) ≤ 1; decide, by show (1 : Int) ≤ 2; decide⟩ ⟨by show -1 ≤ f (q k); omega, by show f (q k) ≤ 9; omega⟩ ⟨hs.1, by have := hs.2; show omSu f s (omPl v p f s q k).2 (q k) ≤ 100000; omega⟩
        refine ⟨σ1, ?_, a2, a3, a4⟩
        have a1' : s_X5_add 1 (f (q k)) (omSu f s (omPl v p f s q k).2 (q k)) σ = some σ1 := a1
        rw [hv.2.2.2.2.2.1, a1', om_b0, omg_t ⟨by omega, by omega⟩, a3 22 (by simp), hv.2.2.2.2.2.1]
        show _ = some ((if v = 0 then (omPl v p f s q k).2 else f (q k)), σ1)
        rw [if_neg h0]
    obtain ⟨σ1, b1, b2, b3, b4⟩ := hset
    rw [b1, om_b0, omg_t ⟨by omega, by omega⟩]
    have hl1 : (if v = 0 then (omPl v p f s q k).1 else omAdd (omPl v p f s q k).1 (1, f (q k), omSu f s (omPl v p f s q k).2 (q k))).length < 20 := by
      split
      · omega
      · have := omAdd_len (P := (omPl v p f s q k).1) (e := (1, f (q k), omSu f s (omPl v p f s q k).2 (q k)))
        omega
    have hs := omSu_rng hok hj (omPl v p f s q k).2
    have hok1 : omPok (50 * k + 20) (if v = 0 then (omPl v p f s q k).1 else omAdd (omPl v p f s q k).1 (1, f (q k), omSu f s (omPl v p f s q k).2 (q k))) := by
      split
      · intro x hx
        have := o1 x hx
        omega
      · exact o1.add (by omega) ⟨by show (0 : Int) ≤ 1; decide, by show (1 : Int) ≤ 2; decide⟩ ⟨by show -1 ≤ f (q k); omega, by show f (q k) ≤ 9; omega⟩ hs
    have e18 : σ1 18 = p := by rw [b3 18 (by simp)]; exact hv.2.1
    obtain ⟨σ2, c1, c2, c3, c4, c5⟩ := s_X5_addWork_eq (j := q k) (t := p (q k)) b2 hl1 (by omega) hok1 (by omega) (by omega)
    show ∃ σ', Option.bind (s_X5_addWork (q k : Int) (σ1 18 (q k)) σ1) _ = some σ' ∧ _
    rw [e18, c1, om_b0, show ((k : Int) + 1) = ((k + 1 : Nat) : Int) by omega]
    have hP2 : omPC (omPl v p f s q (k + 1)).1 σ2 := c2
    have ex2 : omEx [24, 25, 26, 27, 28] σ σ2 := (b3.mono (by simp)).trans c3
    have := ih (k + 1) fuel σ2 (by omega) (by omega) (hv.ex ex2 (by simp)) (fun i hi => by rw [ex2 30 (by simp)]; exact hr i hi) hP2 (fun i hi => by
      rw [c5]
      show (if q i = q k then _ else σ1 28 (q i)) = _
      by_cases hik : i = k
      · subst hik
        rw [if_pos rfl]
        unfold omEd
        show _ = omNow (omAdd _ _)
        rw [omAdd_now (by show 0 ≤ p (q i); omega)]
      · rw [if_neg (fun he => hik (hinj i k (by omega) hkn he)), b3 28 (by simp)]
        exact hE i (by omega))
    obtain ⟨σ', z1, z2, z3, z4, z5⟩ := this
    exact ⟨σ', z1, z2, ex2.trans z3, by rw [z4, c4, b4], z5⟩
/-- Plan.follow -/
theorem s_X5_follow_eq {n v : Nat} {p d w r f s : Nat → Int} {q : Nat → Nat} {σ : omH} (hok : omOk n p d w r f s) (hvv : v < 2) (hq : ∀ i, i < n → q i < n) (hinj : ∀ i k, i < n → k < n → q i = q k → i = k) (hv : omCv n p d w r f s σ) (hr : ∀ i, i < n → σ 30 i = q i) :
    ∃ σ', s_X5_follow v σ = some σ' ∧ omPC (omPl v p f s q n).1 σ' ∧ omEx [24, 25, 26, 27, 28] σ σ' ∧ σ' 24 0 = 1 ∧ ∀ i, i < n → σ' 28 (q i) = omEd v p f s q i := by
  have hn := hok.1
  have ex1 : omEx [24, 25, 26, 27, 28] σ (omsu (omsu σ 24 0 1) 24 1 0) := (omEx.su (by simp)).trans (omEx.su (by simp))
  obtain ⟨σ', z1, z2, z3, z4, z5⟩ := l_X5_follow_10_eq hok hvv hq hinj n 0 FU (omsu (omsu σ 24 0 1) 24 1 0) (by omega) (by rw [FU_eq]; omega) (hv.ex ex1 (by simp)) (fun i hi => by rw [ex1 30 (by simp)]; exact hr i hi) ⟨by rw [omsu_s]; rfl, by show 0 ≤ 20; decide, fun i x hx => by simp [omPl] at hx⟩ (fun i hi => by omega)
  refine ⟨σ', ?_, z2, ex1.trans z3, by rw [z4, omsu_n (Or.inr (by decide)), omsu_s], z5⟩
  unfold s_X5_follow s_X5_begin
  rw [om_b0]
  have z1' : l_X5_follow_10 v FU 4 0 (omsu (omsu σ 24 0 1) 24 1 0) = some σ' := z1
  rw [z1']
  rfl
