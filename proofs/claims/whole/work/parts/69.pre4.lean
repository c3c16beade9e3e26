/-! .. the reference's unit steps -/
theorem l_X12_worked_5_eq {n b v : Nat} {t : Int} {p d w r f s R : Nat → Int} {σ : omH} (hok : omOk n p d w r f s) (hbv : b + v = 1) (hm : omMv n p d w r f s σ) (hRr : omRr n p R) (hR : ∀ j, j < n → σ 55 j = R j) (ht : 0 ≤ t ∧ t ≤ 1000) : ∀ (m k fuel : Nat), k + m = n → m < fuel → l_X12_worked_5 t b σ fuel (omWk v d r R t k) k = some (omWk v d r R t n) := by
  have hn := hok.1
  intro m
  induction m with
  | zero =>
    intro k fuel hk hf
    obtain ⟨fuel, rfl⟩ : ∃ z, fuel = z + 1 := ⟨fuel - 1, by omega⟩
    have : k = n := by omega
    subst this
    rw [l_X12_worked_5.eq_2, hm.1, if_neg (by omega)]
  | succ m ih =>
    intro k fuel hk hf
    obtain ⟨fuel, rfl⟩ : ∃ z, fuel = z + 1 := ⟨fuel - 1, by omega⟩
    have hkn : k < n := by omega
    have ho := hok.2.1 k hkn
    have hrk := hRr k hkn
    have hw := omWk_rng (v := v) (k := k) (d := d) (r := r) (R := R) (t := t)
    have ih' := ih (k + 1) fuel (by omega) (by omega)
    rw [l_X12_worked_5.eq_2, hm.1, om_wn (show k < 2147483648 by omega), om_wn (show n < 2147483648 by omega), if_pos (by omega), Int.toNat_natCast, hR k hkn, hm.2.2.2.2.1, omw_id (a := t) (by omega) (by omega), omw_id (a := r k) (by omega) (by omega), omw_id (a := R k) (by omega) (by omega), omg_t ⟨by omega, by omega⟩, show ((k : Int) + 1) = ((k + 1 : Nat) : Int) by omega]
    have e1 : (if t < r k then some (0 : Int) else omg (0 ≤ (k : Int) ∧ (k : Int) < 10) (if 0 < R k then some 1 else some 0)) = some (omIf (omOn r R t k)) := by
      by_cases h1 : t < r k
      · rw [if_pos h1, omIf_f (fun h => by have := h.2; omega)]
      · rw [if_neg h1, omg_t ⟨by omega, by omega⟩]
        by_cases h2 : 0 < R k
        · rw [if_pos h2, omIf_t ⟨h2, by omega⟩]
        · rw [if_neg h2, omIf_f (fun h => h2 h.1)]
    rw [e1, om_b0]
    have e2 : (if omw (omWk v d r R t k) = omw (-1) then some (1 : Int) else (if omw (b : Int) = 0 then omg (0 ≤ (k : Int) ∧ (k : Int) < 10) (omg (0 ≤ omw (omWk v d r R t k) ∧ omw (omWk v d r R t k) < 10) (if R k < omw (σ 55 (omw (omWk v d r R t k)).toNat) then some 1 else some 0)) else Option.bind (s_X12_comesByDue k (omWk v d r R t k) σ) (fun r7 => (if omw r7 = 0 then some 0 else some 1)))) = some (omIf (omWk v d r R t k = -1 ∨ omBk (omGk v d R) k (omWk v d r R t k).toNat)) := by
      rw [show omw (-1) = -1 from rfl, omw_id (a := omWk v d r R t k) (by omega) (by omega)]
      by_cases h1 : omWk v d r R t k = -1
      · rw [if_pos h1, omIf_t (Or.inl h1)]
      · rw [if_neg h1]
        obtain ⟨a, ha⟩ : ∃ a : Nat, omWk v d r R t k = a := ⟨(omWk v d r R t k).toNat, by omega⟩
        rw [ha] at h1 hw ⊢
        have hra := hRr a (by omega)
        have hoa := hok.2.1 a (by omega)
        rw [Int.toNat_natCast]
        by_cases hb : b = 0
        · have hv : v = 1 := by omega
          subst hb hv
          have hg : omGk 1 d R = R := if_neg (by decide)
          rw [if_pos (by decide), omg_t ⟨by omega, by omega⟩, omg_t ⟨by omega, by omega⟩, hR a (by omega), omw_id (a := R a) (by omega) (by omega), hg]
          by_cases h2 : R k < R a
          · rw [if_pos h2, omIf_t (Or.inr ((omBk_R (by omega)).mpr h2))]
          · rw [if_neg h2, omIf_f (fun h => h.elim (fun h => by omega) (fun h => h2 ((omBk_R (by omega)).mp h)))]
        · have hv : v = 0 := by omega
          have hb1 : b = 1 := by omega
          subst hb1 hv
          have hg : omGk 0 d R = d := if_pos rfl
          rw [if_neg (by decide), s_X12_comesByDue_eq hok hm.2.2.1 hkn (by omega), om_b0, hg]
          by_cases h2 : omBk d k a
          · rw [om_if0 h2, omIf_t (Or.inr h2)]
          · rw [om_if1 h2, omIf_f (fun h => h.elim (fun h => by omega) h2)]
    rw [e2, om_b0]
    have e3 : (if omw (omIf (omOn r R t k)) = 0 then some (omWk v d r R t k) else (if omw (omIf (omWk v d r R t k = -1 ∨ omBk (omGk v d R) k (omWk v d r R t k).toNat)) = 0 then some (omWk v d r R t k) else some (k : Int))) = some (omWk v d r R t (k + 1)) := by
      by_cases h1 : omOn r R t k
      · rw [om_if0 h1]
        by_cases h2 : omWk v d r R t k = -1 ∨ omBk (omGk v d R) k (omWk v d r R t k).toNat
        · rw [om_if0 h2, omWk_t ⟨h1, h2⟩]
        · rw [om_if1 h2, omWk_f (fun h => h2 h.2)]
      · rw [om_if1 h1, omWk_f (fun h => h1 h.1)]
    rw [e3, om_b0]
    exact ih'
theorem s_X12_worked_eq {n b v : Nat} {t : Int} {p d w r f s R : Nat → Int} {σ : omH} (hok : omOk n p d w r f s) (hbv : b + v = 1) (hm : omMv n p d w r f s σ) (hRr : omRr n p R) (hR : ∀ j, j < n → σ 55 j = R j) (ht : 0 ≤ t ∧ t ≤ 1000) : s_X12_worked t b σ = some (omWk v d r R t n) := by
  have hn := hok.1
  have h1 := l_X12_worked_5_eq hok hbv hm hRr hR ht n 0 FU (by omega) (by rw [FU_eq]; omega)
  have h1' : l_X12_worked_5 t b σ FU (-1) 0 = _ := h1
  unfold s_X12_worked
  rw [h1', om_b0]
/-- works, where the last piece is made longer -/
theorem s_X12_works_grow {T : List omPc} {x : omPc} {t B : Int} {σ : omH} (hP : omPM (x :: T) σ) (hB : 0 ≤ B ∧ B ≤ 100000) (hok : omPok B (x :: T)) (h20 : x.1 = 0 → 0 ≤ x.2.1) (ht : 1 ≤ t ∧ t ≤ 100000) :
    ∃ σ', s_X12_works x.1 x.2.1 t σ = some σ' ∧ omPM ((x.1, x.2.1, x.2.2 + t) :: T) σ' ∧ omEx [43, 50, 51, 52, 53] σ σ' ∧ (∀ k, k ≠ 9 → σ' 43 k = σ 43 k) ∧ (x.1 = 0 → σ' 53 = omUp (σ 53) x.2.1.toNat (x.2.2 + t)) ∧ (x.1 ≠ 0 → σ' 53 = σ 53) := by
  obtain ⟨c1, c2, c3⟩ := id hP
  have hx := c3 T.length x om_rev_head
  have hxo := hok x List.mem_cons_self
  simp only [List.length_cons] at c1 c2
  have e1 : (((T.length + 1 : Nat) : Int) - 1) = (T.length : Int) := by omega
  have en : omNow (x :: T) = x.2.2 := rfl
  unfold s_X12_works
  rw [s_X12_now_eq hP, om_b0, c1, omw_id (a := t) (by omega) (by omega), if_pos (by omega), if_neg (by rw [om_wn (by omega)]; omega), e1, om_wn (show T.length < 2147483648 by omega), Int.toNat_natCast, hx.1, hx.2.1, if_pos rfl, if_pos rfl, omg_t ⟨by omega, by omega⟩, omg_t ⟨by omega, by omega⟩, om_b0, if_pos (by omega), c1, e1, om_wn (show T.length < 2147483648 by omega), omg_t ⟨by omega, by omega⟩, om_b0, Int.toNat_natCast, en, omw_id (a := x.1) (by omega) (by omega)]
  have g := hP.grow (v := x.2.2 + t)
  by_cases h0 : x.1 = 0
  · have hj := h20 h0
    rw [if_pos h0, omw_id (a := x.2.1) (by omega) (by omega), omg_t ⟨by omega, by omega⟩]
    refine ⟨_, rfl, g.ex (omEx.su (W := [53]) (by simp)) (by rw [omsu_n (Or.inl (by decide))]) (by simp), (omEx.su (by simp)).trans (omEx.su (by simp)), fun k hk => by rw [omsu_n (Or.inl (by decide)), omsu_n (Or.inl (by decide))], fun _ => ?_, fun h => absurd h0 h⟩
    rw [omsu_row, omsu_o (by decide)]
  · rw [if_neg h0]
    exact ⟨_, rfl, g, omEx.su (by simp), fun k hk => by rw [omsu_n (Or.inl (by decide))], fun h => absurd h h0, fun _ => omsu_o (by decide)⟩
theorem s_X12_works_any {P : List omPc} {e : omPc} {B : Int} {σ : omH} (hP : omPM P σ) (hl : P.length < 20 ∨ ∃ x T, P = x :: T ∧ x.1 = e.1 ∧ x.2.1 = e.2.1) (hB : 0 ≤ B ∧ B ≤ 100000) (hok : omPok B P) (h1 : 0 ≤ e.1 ∧ e.1 ≤ 2) (h2 : -1 ≤ e.2.1 ∧ e.2.1 ≤ 9) (h20 : e.1 = 0 → 0 ≤ e.2.1) (h3 : 1 ≤ e.2.2 ∧ e.2.2 ≤ 100000) :
    ∃ σ', s_X12_works e.1 e.2.1 e.2.2 σ = some σ' ∧ omPM (omAdd P e) σ' ∧ omEx [43, 50, 51, 52, 53] σ σ' ∧ (∀ k, k ≠ 9 → σ' 43 k = σ 43 k) ∧ (e.1 = 0 → σ' 53 = omUp (σ 53) e.2.1.toNat (omNow P + e.2.2)) ∧ (e.1 ≠ 0 → σ' 53 = σ 53) := by
  rcases hl with hl | ⟨x, T, rfl, hx1, hx2⟩
  · exact s_X12_works_eq hP hl hB hok h1 h2 h20 ⟨by omega, h3.2⟩
  · have := s_X12_works_grow (t := e.2.2) hP hB hok (by rw [hx1, hx2]; exact h20) h3
    rw [hx1, hx2] at this
    have ea : omAdd (x :: T) e = (e.1, e.2.1, x.2.2 + e.2.2) :: T := by
      show (if x.1 = e.1 ∧ x.2.1 = e.2.1 then (x.1, x.2.1, x.2.2 + e.2.2) :: T else _) = _
      rw [if_pos ⟨hx1, hx2⟩, hx1, hx2]
    rw [ea]
    exact this
theorem omAdd_head {P : List omPc} {e : omPc} (h : 0 < e.2.2) : ∃ x T, omAdd P e = x :: T ∧ x.1 = e.1 ∧ x.2.1 = e.2.1 := by
  cases P with
  | nil => exact ⟨e, [], if_pos h, rfl, rfl⟩
  | cons x T =>
    by_cases hs : x.1 = e.1 ∧ x.2.1 = e.2.1
    · exact ⟨_, T, if_pos hs, hs.1, hs.2⟩
    · refine ⟨(e.1, e.2.1, x.2.2 + e.2.2), x :: T, ?_, rfl, rfl⟩
      show (if x.1 = e.1 ∧ x.2.1 = e.2.1 then _ else if 0 < e.2.2 then _ else _) = _
      rw [if_neg hs, if_pos h]
theorem omAdd_add {P : List omPc} {k y a b : Int} (ha : 0 < a) (hb : 0 ≤ b) : omAdd (omAdd P (k, y, a)) (k, y, b) = omAdd P (k, y, a + b) := by
  cases P with
  | nil =>
    show omAdd (if 0 < a then [(k, y, a)] else []) (k, y, b) = if 0 < a + b then [(k, y, a + b)] else []
    rw [if_pos ha, if_pos (by omega)]
    exact if_pos ⟨rfl, rfl⟩
  | cons x T =>
    by_cases hs : x.1 = k ∧ x.2.1 = y
    · have h1 : omAdd (x :: T) (k, y, a) = (x.1, x.2.1, x.2.2 + a) :: T := if_pos hs
      have h2 : omAdd (x :: T) (k, y, a + b) = (x.1, x.2.1, x.2.2 + (a + b)) :: T := if_pos hs
      have h3 : omAdd ((x.1, x.2.1, x.2.2 + a) :: T) (k, y, b) = (x.1, x.2.1, x.2.2 + a + b) :: T := if_pos hs
      rw [h1, h2, h3, Int.add_assoc]
    · have h1 : omAdd (x :: T) (k, y, a) = (k, y, x.2.2 + a) :: x :: T := by
        show (if x.1 = k ∧ x.2.1 = y then _ else if 0 < a then (k, y, x.2.2 + a) :: x :: T else _) = _
        rw [if_neg hs, if_pos ha]
      have h2 : omAdd (x :: T) (k, y, a + b) = (k, y, x.2.2 + (a + b)) :: x :: T := by
        show (if x.1 = k ∧ x.2.1 = y then _ else if 0 < a + b then (k, y, x.2.2 + (a + b)) :: x :: T else _) = _
        rw [if_neg hs, if_pos (by omega)]
      have h3 : omAdd ((k, y, x.2.2 + a) :: x :: T) (k, y, b) = (k, y, x.2.2 + a + b) :: x :: T := if_pos ⟨rfl, rfl⟩
      rw [h1, h2, h3, Int.add_assoc]
theorem omUp_up {C : Nat → Int} {j : Nat} {v v' : Int} : omUp (omUp C j v) j v' = omUp C j v' := by
  funext i
  by_cases h : i = j
  · subst h; rw [omUp_s, omUp_s]
  · rw [omUp_n h, omUp_n h, omUp_n h]
/-- one unit of work on a job -/
theorem l_X12_worksByTime_43_job {n b v j : Nat} {t op : Int} {p d w r f s R : Nat → Int} {P : List omPc} {σ : omH} (hok : omOk n p d w r f s) (hbv : b + v = 1) (hm : omMv n p d w r f s σ) (hP : omPM P σ) (hPo : omPok 1000 P) (hl : P.length < 20 ∨ ∃ x T, P = x :: T ∧ x.1 = 0 ∧ x.2.1 = (j : Int)) (ht : omNow P = t) (ht2 : 0 ≤ t ∧ t ≤ 1000) (hRr : omRr n p R) (hR : ∀ j, j < n → σ 55 j = R j) (hch : omCh n (omGk v d R) r R t j) (hop : 1 ≤ op ∧ op ≤ 1000) :
    ∃ σ', (∀ fuel, l_X12_worksByTime_43 b (fuel + 1) op σ = l_X12_worksByTime_43 b fuel (op - 1) σ') ∧ omPM (omAdd P (0, (j : Int), 1)) σ' ∧ omEx [43, 50, 51, 52, 53, 55] σ σ' ∧ (∀ k, k ≠ 9 → σ' 43 k = σ 43 k) ∧ (∀ i, i < n → σ' 55 i = omUp R j (R j - 1) i) ∧ σ' 53 = omUp (σ 53) j (t + 1) := by
  have hn := hok.1
  have hj := hch.1
  obtain ⟨τ, a1, a2, a3, a4, a5, -⟩ := s_X12_works_any (e := (0, (j : Int), 1)) hP hl (by decide : (0 : Int) ≤ 1000 ∧ (1000 : Int) ≤ 100000) hPo ⟨by show (0 : Int) ≤ 0; decide, by show (0 : Int) ≤ 2; decide⟩ ⟨by show -1 ≤ (j : Int); omega, by show (j : Int) ≤ 9; omega⟩ (fun _ => by show 0 ≤ (j : Int); omega) ⟨by show (1 : Int) ≤ 1; decide, by show (1 : Int) ≤ 100000; decide⟩
  have a1' : s_X12_works 0 (j : Int) 1 σ = some τ := a1
  refine ⟨omsu τ 55 j (R j - 1), fun fuel => ?_, a2.ex (omEx.su (W := [55]) (by simp)) (by rw [omsu_n (Or.inl (by decide))]) (by simp), (a3.mono (by simp)).trans (omEx.su (by simp)), fun k hk => by rw [omsu_n (Or.inl (by decide))]; exact a4 k hk, fun i hi => ?_, ?_⟩
  · rw [l_X12_worksByTime_43.eq_2, omw_id (a := op) (by omega) (by omega), if_pos (by omega), s_X12_now_eq hP, om_b0, ht, s_X12_worked_eq hok hbv hm hRr hR ht2, om_b0, omWk_of hch, om_wn (show j < 2147483648 by omega), show omw (-1) = -1 from rfl, if_neg (by omega), om_b0, a1', om_b0, if_neg (by omega), omg_t ⟨by omega, by omega⟩, omg_t ⟨by omega, by omega⟩, Int.toNat_natCast, a3 55 (by simp), hR j hj, show op + (-1) = op - 1 by omega]
  · by_cases hij : i = j
    · subst hij; rw [omsu_s, omUp_s]
    · rw [omsu_n (Or.inr hij), omUp_n hij, a3 55 (by simp)]; exact hR i hi
  · rw [omsu_o (by decide), a5 rfl]
    show omUp (σ 53) ((j : Int)).toNat (omNow P + 1) = _
    rw [Int.toNat_natCast, ht]
/-- one unit of idleness -/
theorem l_X12_worksByTime_43_idle {n b v : Nat} {t op : Int} {p d w r f s R : Nat → Int} {P : List omPc} {σ : omH} (hok : omOk n p d w r f s) (hbv : b + v = 1) (hm : omMv n p d w r f s σ) (hP : omPM P σ) (hPo : omPok 1000 P) (hl : P.length < 20 ∨ ∃ x T, P = x :: T ∧ x.1 = 2 ∧ x.2.1 = -1) (ht : omNow P = t) (ht2 : 0 ≤ t ∧ t ≤ 1000) (hRr : omRr n p R) (hR : ∀ j, j < n → σ 55 j = R j) (hno : ∀ i, i < n → ¬ omOn r R t i) (hop : 1 ≤ op ∧ op ≤ 1000) :
    ∃ σ', (∀ fuel, l_X12_worksByTime_43 b (fuel + 1) op σ = l_X12_worksByTime_43 b fuel op σ') ∧ omPM (omAdd P (2, -1, 1)) σ' ∧ omEx [43, 50, 51, 52, 53, 55] σ σ' ∧ (∀ k, k ≠ 9 → σ' 43 k = σ 43 k) ∧ σ' 55 = σ 55 ∧ σ' 53 = σ 53 := by
  obtain ⟨τ, a1, a2, a3, a4, -, a5⟩ := s_X12_works_any (e := (2, -1, 1)) hP hl (by decide : (0 : Int) ≤ 1000 ∧ (1000 : Int) ≤ 100000) hPo ⟨by show (0 : Int) ≤ 2; decide, by show (2 : Int) ≤ 2; decide⟩ ⟨by show (-1 : Int) ≤ -1; decide, by show (-1 : Int) ≤ 9; decide⟩ (fun h => absurd h (by show ¬ (2 : Int) = 0; decide)) ⟨by show (1 : Int) ≤ 1; decide, by show (1 : Int) ≤ 100000; decide⟩
  have a1' : s_X12_works 2 (-1) 1 σ = some τ := a1
  refine ⟨τ, fun fuel => ?_, a2, a3.mono (by simp), a4, a3 55 (by simp), a5 (by show ¬ (2 : Int) = 0; decide)⟩
  rw [l_X12_worksByTime_43.eq_2, omw_id (a := op) (by omega) (by omega), if_pos (by omega), s_X12_now_eq hP, om_b0, ht, s_X12_worked_eq hok hbv hm hRr hR ht2, om_b0, omWk_no hno, if_pos rfl, om_b0, a1', om_b0, if_pos rfl]
