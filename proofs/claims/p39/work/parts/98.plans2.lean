/-! ===== p39: a plan as the law looks at it; the seven rules ===== -/
/-- a plan lies, of these pieces, by a rule -/
def omPg (u n : Nat) (p d w r f s : Nat → Int) (P : List omPc) (σ : omH) : Prop := omCv n p d w r f s σ ∧ omTb n p d w r f s σ ∧ omPC P σ ∧ σ 24 0 = 1 ∧ omCr n (σ 28) ∧ n ≤ P.length ∧ omPok 1000 P ∧ omGp u n r f s P ∧ (∀ x T, P = x :: T → x.1 ≠ 1) ∧ ∀ j, j < n → omSm (j : Int) P = p j ∧ omLa (j : Int) P = σ 28 j
theorem omPg.ex {u n : Nat} {p d w r f s : Nat → Int} {P : List omPc} {W : List Nat} {σ σ' : omH} (h : omPg u n p d w r f s P σ) (he : omEx W σ σ') (hW : ∀ o ∈ [17, 18, 19, 20, 21, 22, 23, 24, 25, 26, 27, 28, 43], o ∉ W) : omPg u n p d w r f s P σ' := by
  obtain ⟨h1, h2, h3, h4, h5, h6, h7, h8, h9, h10⟩ := h
  have e24 := he 24 (hW 24 (by simp))
  have e28 := he 28 (hW 28 (by simp))
  refine ⟨h1.ex he (fun o ho => hW o (by simp at ho ⊢; omega)), h2.ex he (hW 43 (by simp)), h3.ex he (fun o ho => hW o (by simp at ho ⊢; omega)), by rw [e24]; exact h4, by rw [e28]; exact h5, h6, h7, h8, h9, fun j hj => by rw [e28]; exact h10 j hj⟩
/-- each job has a piece -/
theorem omSm_cnt {n : Nat} : ∀ P : List omPc, omCnt n (fun j => omSm (j : Int) P ≠ 0) ≤ P.length := by
  intro P
  induction P with
  | nil =>
    have h : omCnt n (fun j => omSm (j : Int) ([] : List omPc) ≠ 0) = 0 := omSum_zero (fun j _ => omIf_f (fun h => h rfl))
    rw [h]
    exact Int.le_refl _
  | cons x T ih =>
    have h1 : omCnt n (fun j => omSm (j : Int) (x :: T) ≠ 0) ≤ omSum n (fun j => omIf (omSm (j : Int) T ≠ 0) + (if (j : Int) = x.2.1 then 1 else 0)) := omSum_le (fun j _ => by
      by_cases hx : x.1 = 0 ∧ x.2.1 = (j : Int)
      · rw [if_pos hx.2.symm]
        have a1 := @omIf_bit (omSm (j : Int) (x :: T) ≠ 0)
        have a2 := @omIf_bit (omSm (j : Int) T ≠ 0)
        show omIf (omSm (j : Int) (x :: T) ≠ 0) ≤ _
        omega
      · have e : omSm (j : Int) (x :: T) = omSm (j : Int) T := by
          show omSm (j : Int) T + (if x.1 = 0 ∧ x.2.1 = (j : Int) then x.2.2 - omNow T else 0) = _
          rw [if_neg hx]
          omega
        show omIf (omSm (j : Int) (x :: T) ≠ 0) ≤ _
        rw [e]
        split <;> omega)
    rw [omSum_add] at h1
    have h2 : omSum n (fun j => if (j : Int) = x.2.1 then (1 : Int) else 0) ≤ 1 := by
      by_cases hex : ∃ j, j < n ∧ (j : Int) = x.2.1
      · obtain ⟨j, hj, he⟩ := hex
        rw [omSum_single (j := j) hj (fun i _ hne => if_neg (fun h => hne (by omega))), if_pos he]
        exact Int.le_refl _
      · rw [omSum_zero (fun j hj => if_neg (fun h => hex ⟨j, hj, h⟩))]
        decide
    have h3 : omSum n (fun j => omIf (omSm (j : Int) T ≠ 0)) = omCnt n (fun j => omSm (j : Int) T ≠ 0) := rfl
    have h4 : ((x :: T).length : Int) = (T.length : Int) + 1 := by
      rw [List.length_cons]; omega
    omega
theorem omSm_len {n : Nat} {P : List omPc} (h : ∀ j, j < n → 0 < omSm (j : Int) P) : n ≤ P.length := by
  have h1 := omSm_cnt (n := n) P
  have h2 : omCnt n (fun j => omSm (j : Int) P ≠ 0) = omCnt n (fun _ => True) := omCnt_congr (fun j hj => ⟨fun _ => trivial, fun _ => by have := h j hj; omega⟩)
  rw [h2, omCnt_all] at h1
  omega
theorem omPok.mono {B B' : Int} {P : List omPc} (h : omPok B P) (hB : B ≤ B') : omPok B' P := fun x hx => by
  have := h x hx
  omega
section
variable {u n : Nat} {p d w r f s : Nat → Int} {q : Nat → Nat} {τ : omH}
theorem omPg_row (hok : omOk n p d w r f s) (hu : u < 4) (hq : ∀ i, i < n → q i < n) (hinj : ∀ i k, i < n → k < n → q i = q k → i = k) (hs : ∀ j, j < n → ∃ i, i < n ∧ q i = j) (hc : omCv n p d w r f s τ) (hT : omTb n p d w r f s τ) (hP : omPC (omPl 0 p f s q n).1 τ) (h24 : τ 24 0 = 1) (h28 : ∀ i, i < n → τ 28 (q i) = omEd 0 p f s q i) : omPg u n p d w r f s (omPl 0 p f s q n).1 τ := by
  have hn := hok.1
  obtain ⟨g1, g2, g3, _⟩ := omPl0_gp hok hu hq hinj n (Nat.le_refl n)
  have hS : ∀ j, j < n → omSm (j : Int) (omPl 0 p f s q n).1 = p j ∧ omLa (j : Int) (omPl 0 p f s q n).1 = τ 28 j := fun j hj => by
    obtain ⟨i, hi, rfl⟩ := hs j hj
    obtain ⟨a, b⟩ := g3 i hi
    exact ⟨a, by rw [b, h28 i hi]⟩
  refine ⟨hc, hT, hP, h24, omCr_q hs h28 (fun i hi => ?_), omSm_len (fun j hj => ?_), (omPl_ok hok n hq).1.mono (by omega), g1, fun x T he => ?_, hS⟩
  · have := omEd_rng (v := 0) hok hq hi
    omega
  · have := hok.2.1 j hj
    rw [(hS j hj).1]; omega
  · have := (g2 x T he).1
    omega
theorem omPg_fam (hok : omOk n p d w r f s) (hq : ∀ i, i < n → q i < n) (hinj : ∀ i k, i < n → k < n → q i = q k → i = k) (hs : ∀ j, j < n → ∃ i, i < n ∧ q i = j) (hc : omCv n p d w r f s τ) (hT : omTb n p d w r f s τ) (hP : omPC (omPl 1 p f s q n).1 τ) (h24 : τ 24 0 = 1) (h28 : ∀ i, i < n → τ 28 (q i) = omEd 1 p f s q i) : omPg 4 n p d w r f s (omPl 1 p f s q n).1 τ := by
  have hn := hok.1
  obtain ⟨g1, g2, ⟨g3, _⟩, _⟩ := omPl1_gp hok hq hinj n (Nat.le_refl n)
  have hS : ∀ j, j < n → omSm (j : Int) (omPl 1 p f s q n).1 = p j ∧ omLa (j : Int) (omPl 1 p f s q n).1 = τ 28 j := fun j hj => by
    obtain ⟨i, hi, rfl⟩ := hs j hj
    obtain ⟨a, b⟩ := g3 i hi
    exact ⟨a, by rw [b, h28 i hi]⟩
  refine ⟨hc, hT, hP, h24, omCr_q hs h28 (fun i hi => ?_), omSm_len (fun j hj => ?_), (omPl_ok hok n hq).1.mono (by omega), g1, fun x T he => ?_, hS⟩
  · have := omEd_rng (v := 1) hok hq hi
    omega
  · have := hok.2.1 j hj
    rw [(hS j hj).1]; omega
  · have := (g2 x T he).1
    omega
theorem omPg_pre {v : Nat} (hok : omOk n p d w r f s) (hu : 4 < u) (hc : omCv n p d w r f s τ) (hT : omTb n p d w r f s τ) (h24 : τ 24 0 = 1) (hX : omXc n p (omEs v n p d r 20) τ) : omPg u n p d w r f s (omEs v n p d r 20).1 τ ∧ ∀ j, j < n → τ 28 j = (omEs v n p d r 20).2.2 j := by
  obtain ⟨x1, x2, x3⟩ := hX
  obtain ⟨g1, g2, g3⟩ := omEs_gp (u := u) (v := v) hok hu 20
  have hE := omEs_ok (v := v) hok 20
  have hlt : ∀ j, j < n → (omEs v n p d r 20).2.1 j < p j := fun j hj => by
    rw [omEs_done hok j hj]
    have := hok.2.1 j hj
    omega
  have h28 : ∀ j, j < n → τ 28 j = (omEs v n p d r 20).2.2 j := fun j hj => x3 j hj (hlt j hj)
  have hS : ∀ j, j < n → omSm (j : Int) (omEs v n p d r 20).1 = p j ∧ omLa (j : Int) (omEs v n p d r 20).1 = τ 28 j := fun j hj => by
    obtain ⟨a, b⟩ := g3 j hj
    have h0 := omEs_done (v := v) hok j hj
    exact ⟨by omega, by rw [b (hlt j hj), h28 j hj]⟩
  refine ⟨⟨hc, hT, x1, h24, fun j hj => ?_, omSm_len (fun j hj => ?_), hE.1, g1, g2, hS⟩, h28⟩
  · rw [h28 j hj]
    exact hE.2.2.2.2.1 j hj (hlt j hj)
  · have := hok.2.1 j hj
    rw [(hS j hj).1]; omega
end
section
variable {n : Nat} {p d w r f s : Nat → Int} {σ : omH}
theorem om_least8 {c : Nat} (hok : omOk n p d w r f s) (hn7 : n ≤ 7) (hcc : c < 5) (hc : omCv n p d w r f s σ) : ∃ σ1, s_X4_least 8 c σ = some (min 1000000 (omVl n c d w f (fun _ _ t j => t + p j) n 0 4 0 (omA0 c)), σ1) ∧ omEx [38, 39] σ σ1 :=
  s_X4_least_eq (c2 := 8) (E := fun _ _ t j => t + p j) (Bd := fun k => 100 + 50 * (k : Int)) hok hn7 hcc (by decide) hc (fun k hk => by show 0 ≤ 100 + 50 * (k : Int) ∧ 100 + 50 * (k : Int) ≤ 1000; omega) (fun k S u t j ht1 ht2 hj => by
    have ht2' : t ≤ 100 + 50 * (k : Int) := ht2
    have := hok.2.1 j hj
    show 0 ≤ t + p j ∧ t + p j ≤ 100 + 50 * ((k + 1 : Nat) : Int)
    omega) (fun τ q S u t j g1 g2 g3 g4 g5 g6 g7 g8 g9 g10 g11 => s_X4_endBehind_8 hok g1 g2 g6)
theorem om_least9 {c : Nat} (hok : omOk n p d w r f s) (hn7 : n ≤ 7) (hcc : c < 5) (hc : omCv n p d w r f s σ) : ∃ σ1, s_X4_least 9 c σ = some (min 1000000 (omVl n c d w f (omE9 p f s) n 0 4 0 (omA0 c)), σ1) ∧ omEx [38, 39] σ σ1 :=
  s_X4_least_eq (c2 := 9) (E := omE9 p f s) (Bd := fun k => 100 + 50 * (k : Int)) hok hn7 hcc (by decide) hc (fun k hk => by show 0 ≤ 100 + 50 * (k : Int) ∧ 100 + 50 * (k : Int) ≤ 1000; omega) (fun k S u t j ht1 ht2 hj => by
    have ht2' : t ≤ 100 + 50 * (k : Int) := ht2
    have h7 := hok.2.1 j hj
    have h8 := omSu_rng hok hj u
    show 0 ≤ t + omSu f s u j + p j ∧ t + omSu f s u j + p j ≤ 100 + 50 * ((k + 1 : Nat) : Int)
    omega) (fun τ q S u t j g1 g2 g3 g4 g5 g6 g7 g8 g9 g10 g11 => s_X4_endBehind_9 hok g1 g2 g6 ⟨g8, g9⟩)
theorem om_least10 {c : Nat} (hok : omOk n p d w r f s) (hn7 : n ≤ 7) (hcc : c < 5) (hc : omCv n p d w r f s σ) : ∃ σ1, s_X4_least 10 c σ = some (min 1000000 (omVl n c d w f (fun S _ _ j => ((omTe n p r S j : Nat) : Int)) n 0 4 0 (omA0 c)), σ1) ∧ omEx [38, 39] σ σ1 := by
  have hpw := om_pow_le hok.1
  exact s_X4_least_eq (c2 := 10) (E := fun S _ _ j => ((omTe n p r S j : Nat) : Int)) (Bd := fun _ => 1000) hok hn7 hcc (by decide) hc (fun k hk => by show (0 : Int) ≤ 1000 ∧ (1000 : Int) ≤ 1000; decide) (fun k S u t j ht1 ht2 hj => by
    have hT := (omTe_ok (S := S) hok hj).1
    show 0 ≤ ((omTe n p r S j : Nat) : Int) ∧ ((omTe n p r S j : Nat) : Int) ≤ 1000
    omega) (fun τ q S u t j g1 g2 g3 g4 g5 g6 g7 g8 g9 g10 g11 => s_X4_endBehind_10 hok g1 g2 g3 g4 (by omega) g6)
theorem s_X11_fewestLateBySets_eq (hok : omOk n p d w r f s) (hc : omCv n p d w r f s σ) : ∃ (σ1 : omH) (q : Nat → Nat), s_X11_fewestLateBySets σ = some ((n : Int) - omMo n p d q (2 ^ n), σ1) ∧ omEx [41] σ σ1 ∧ omSt (omBk d) n q := by
  have hpw := om_pow_le hok.1
  obtain ⟨τ0, q, a1, a2, a3, a4⟩ := s_X2_fillInOrder_eq (c := 5) (a := 41) hok hc (by decide) (by decide)
  have b1 := l_X8_mostOnTime_15_eq hok (hc.ex a2 (by simp)) a3.1 a4 (2 ^ n) 0 FU (by omega) (by rw [FU_eq]; omega)
  have b1' : l_X8_mostOnTime_15 τ0 FU 0 0 = some (omMo n p d q (2 ^ n)) := b1
  refine ⟨τ0, q, ?_, a2, a3⟩
  unfold s_X11_fewestLateBySets s_X8_mostOnTime
  rw [a1, om_b0, b1', om_b0, om_b0, hc.1]
end
