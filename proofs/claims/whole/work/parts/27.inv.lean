/-! ===== what holds between two operations ===== -/
def omPln (n : Nat) (σ : omH) : Prop := (∃ P : List omPc, omPC P σ ∧ omPM P σ) ∧ ((σ 24 0 = 0 ∧ σ 43 8 = 0) ∨ (σ 24 0 = 1 ∧ σ 43 8 = 1 ∧ ∀ j, j < n → σ 28 j = σ 53 j ∧ 0 ≤ σ 28 j ∧ σ 28 j ≤ 1000))
def omInv (σ : omH) : Prop := ∃ (n : Nat) (p d w r f s : Nat → Int), omOk n p d w r f s ∧ omCv n p d w r f s σ ∧ omMv n p d w r f s σ ∧ omPln n σ
theorem omPln.ex {n : Nat} {W : List Nat} {σ σ' : omH} (h : omPln n σ) (he : omEx W σ σ') (h43 : ∀ k, k ≠ 0 → σ' 43 k = σ 43 k) (hW : ∀ o ∈ [24, 25, 26, 27, 28, 50, 51, 52, 53], o ∉ W) : omPln n σ' := by
  obtain ⟨⟨P, h1, h2⟩, h3⟩ := h
  refine ⟨⟨P, h1.ex he (fun o ho => hW o (by simp at ho ⊢; omega)), h2.ex he (h43 9 (by decide)) (fun o ho => hW o (by simp at ho ⊢; omega))⟩, ?_⟩
  rw [he 24 (hW _ (by simp)), he 28 (hW _ (by simp)), he 53 (hW _ (by simp)), h43 8 (by decide)]
  exact h3
theorem omInv.ex {W : List Nat} {σ σ' : omH} (h : omInv σ) (he : omEx W σ σ') (h43 : ∀ k, k ≠ 0 → σ' 43 k = σ 43 k) (hW : ∀ o ∈ [17, 18, 19, 20, 21, 22, 23, 24, 25, 26, 27, 28, 44, 45, 46, 47, 48, 49, 50, 51, 52, 53], o ∉ W) : omInv σ' := by
  obtain ⟨n, p, d, w, r, f, s, h1, h2, h3, h4⟩ := h
  exact ⟨n, p, d, w, r, f, s, h1, h2.ex he (fun o ho => hW o (by simp at ho ⊢; omega)), h3.ex2 he (h43 1 (by decide)) (fun o ho => hW o (by simp at ho ⊢; omega)), h4.ex he h43 (fun o ho => hW o (by simp at ho ⊢; omega))⟩
theorem omInv.thr {σ : omH} (h : omInv σ) (v : Int) : omInv (omsu σ 43 0 v) := h.ex (W := [43]) (omEx.su (by simp)) (fun k hk => omsu_n (Or.inr hk)) (by simp)
theorem omInv.out {σ : omH} (h : omInv σ) (v : Int) : omInv (omsu σ 60 0 v) := h.ex (W := [60]) (omEx.su (by simp)) (fun k hk => omsu_n (Or.inl (by decide))) (by simp)
/-- the two answers agree -/
def omGood (a : Option (Int × omH)) (b : omH → Option (Int × omH)) : Prop := ∃ k σ1 v σ2, a = some (k, σ1) ∧ b σ1 = some (v, σ2) ∧ σ2 43 0 = k ∧ 0 ≤ k ∧ k ≤ 2 ∧ (k = 0 → σ2 60 0 = omw v) ∧ omInv σ2
theorem omcmp_self (a : Int) : omcmp a a = 0 := by unfold omcmp; simp
theorem om_tail {k v : Int} {σ2 : omH} {rec : Int → omH → Option ((Int × omH) ⊕ omH)} {x : Int} (h1 : σ2 43 0 = k) (h2 : 0 ≤ k) (h3 : k ≤ 2) (h4 : k = 0 → σ2 60 0 = omw v) :
    Option.bind (s_X12_thrown σ2) (fun r35 => (if omw r35 = omw k then (if omw k = 0 then omg (0 ≤ omw 0 ∧ omw 0 < 1) ((if omw (omcmp (σ2 60 (omw 0).toNat) (omw v)) = 0 then rec x σ2 else some (Sum.inl ((0, σ2))))) else rec x σ2) else some (Sum.inl ((0, σ2))))) = rec x σ2 := by
  unfold s_X12_thrown
  rw [om_b0, h1, if_pos rfl]
  by_cases hk : k = 0
  · subst hk
    rw [if_pos (by decide), omg_t ⟨by decide, by decide⟩]
    have h5 : σ2 60 (omw 0).toNat = omw v := h4 rfl
    rw [h5, omcmp_self, if_pos (by decide)]
  · rw [if_neg (by rw [omw_id (by omega) (by omega)]; exact hk)]
theorem s_X11_isWithin_eq {v a b : Int} {σ : omH} (hv : -2147483648 ≤ v ∧ v < 2147483648) (ha : -2147483648 ≤ a ∧ a < 2147483648) (hb : -2147483648 ≤ b ∧ b < 2147483648) : s_X11_isWithin v a b σ = some (omIf (a ≤ v ∧ v ≤ b)) := by
  unfold s_X11_isWithin
  rw [omw_id hv.1 hv.2, omw_id ha.1 ha.2, omw_id hb.1 hb.2]
  by_cases h : a ≤ v ∧ v ≤ b
  · rw [omIf_t h, if_neg (by omega), if_neg (by omega)]
  · rw [omIf_f h]
    split
    · rfl
    · rw [if_pos (by omega)]
theorem om_if0 {P : Prop} {α : Type} {a b : α} (h : P) : (if omw (omIf P) = 0 then a else b) = b := by rw [omIf_t h, if_neg (by decide)]
theorem om_if1 {P : Prop} {α : Type} {a b : α} (h : ¬ P) : (if omw (omIf P) = 0 then a else b) = a := by rw [omIf_f h, if_pos (by decide)]
theorem s_X11_needJob_eq {n : Nat} {p d w r f s : Nat → Int} {v : Int} {σ : omH} (hok : omOk n p d w r f s) (hc : omCv n p d w r f s σ) (hv : -2147483648 ≤ v ∧ v < 2147483648) : (0 ≤ v ∧ v < n → s_X11_needJob v σ = some (Sum.inr ())) ∧ (¬ (0 ≤ v ∧ v < n) → s_X11_needJob v σ = some (Sum.inl 3)) := by
  have hn := hok.1
  unfold s_X11_needJob
  rw [hc.1, s_X11_isWithin_eq hv (by decide) (by omega), om_b0]
  exact ⟨fun h => om_if0 (by omega), fun h => om_if1 (by omega)⟩
theorem s_X12_isJob_eq {n : Nat} {p d w r f s : Nat → Int} {v : Int} {σ : omH} (hok : omOk n p d w r f s) (hm : omMv n p d w r f s σ) (hv : -2147483648 ≤ v ∧ v < 2147483648) : s_X12_isJob v σ = some (omIf (0 ≤ v ∧ v < n)) := by
  have hn := hok.1
  unfold s_X12_isJob
  rw [hm.1, omw_id hv.1 hv.2, om_wn (by omega)]
  by_cases h : 0 ≤ v ∧ v < n
  · rw [omIf_t h, if_neg (by omega), if_pos (by omega)]
  · rw [omIf_f h]
    split
    · rfl
    · rw [if_neg (by omega)]
theorem s_X12_holds0 {σ : omH} : s_X12_holds 0 σ = some (1, omsu σ 43 0 0) := by unfold s_X12_holds; rw [if_pos (by decide)]
theorem s_X12_holds1 {σ : omH} : s_X12_holds 1 σ = some (0, omsu σ 43 0 1) := by unfold s_X12_holds; rw [if_neg (by decide)]
theorem s_X12_holds2 {σ : omH} : s_X12_holds 2 σ = some (0, omsu σ 43 0 2) := by unfold s_X12_holds; rw [if_neg (by decide)]
/-! .. the counts -/
theorem om_op4 {L : Nat} {xs : Nat → Int} {rec : Int → omH → Option ((Int × omH) ⊕ omH)} {x : Int} {σ : omH} (hI : omInv σ) : ∃ σ2, lc_4 L xs rec x σ = rec (x + 7) σ2 ∧ omInv σ2 := by
  refine ⟨omsu σ 43 0 0, ?_, hI.thr 0⟩
  obtain ⟨n, p, d, w, r, f, s, h1, h2, h3, h4⟩ := hI
  unfold lc_4 s_X11_jobs s_X12_jobs
  rw [om_b0, om_b0, h2.1, omsu_n (Or.inr (by decide)), h3.1, if_pos rfl]
theorem om_op12 {L : Nat} {xs : Nat → Int} {rec : Int → omH → Option ((Int × omH) ⊕ omH)} {x : Int} {σ : omH} (hI : omInv σ) : ∃ σ2, lc_12 L xs rec x σ = rec (x + 7) σ2 ∧ omInv σ2 := by
  refine ⟨omsu σ 43 0 0, ?_, hI.thr 0⟩
  obtain ⟨n, p, d, w, r, f, s, h1, h2, h3, h4⟩ := hI
  unfold lc_12 s_X11_hasPlan s_X12_hasPlan
  have h5 : σ 24 0 = σ 43 8 ∧ (σ 43 8 = 0 ∨ σ 43 8 = 1) := by rcases h4.2 with h | h <;> omega
  rw [omsu_n (Or.inr (by decide)), omg_t (by omega), omg_t h5.2, om_b0, om_b0, if_pos (by rw [h5.1])]
theorem om_op13 {L : Nat} {xs : Nat → Int} {rec : Int → omH → Option ((Int × omH) ⊕ omH)} {x : Int} {σ : omH} (hI : omInv σ) : ∃ σ2, lc_13 L xs rec x σ = rec (x + 7) σ2 ∧ omInv σ2 := by
  refine ⟨omsu σ 43 0 0, ?_, hI.thr 0⟩
  obtain ⟨n, p, d, w, r, f, s, h1, h2, h3, ⟨P, h4, h5⟩, h6⟩ := hI
  unfold lc_13 s_X11_pieces s_X12_pieces
  rw [om_b0, om_b0, omsu_n (Or.inr (by decide)), h4.1, h5.1, if_pos rfl]
/-! .. the pieces -/
theorem s_X11_needPiece_eq {P : List omPc} {v : Int} {σ : omH} (hP : omPC P σ) (hv : -2147483648 ≤ v ∧ v < 2147483648) : (0 ≤ v ∧ v < P.length → s_X11_needPiece v σ = some (Sum.inr ())) ∧ (¬ (0 ≤ v ∧ v < P.length) → s_X11_needPiece v σ = some (Sum.inl 3)) := by
  have hl := hP.2.1
  unfold s_X11_needPiece
  rw [hP.1, s_X11_isWithin_eq hv (by decide) (by omega), om_b0]
  exact ⟨fun h => om_if0 (by omega), fun h => om_if1 (by omega)⟩
theorem s_X12_isPiece_eq {P : List omPc} {v : Int} {σ : omH} (hP : omPM P σ) (hv : -2147483648 ≤ v ∧ v < 2147483648) : (0 ≤ v ∧ v < P.length → s_X12_isPiece v σ = some (1, omsu σ 43 0 0)) ∧ (¬ (0 ≤ v ∧ v < P.length) → s_X12_isPiece v σ = some (0, omsu σ 43 0 1)) := by
  have hl := hP.2.1
  unfold s_X12_isPiece
  rw [hP.1, omw_id hv.1 hv.2, om_wn (by omega)]
  refine ⟨fun h => ?_, fun h => ?_⟩
  · rw [if_neg (by omega), if_pos (by omega), om_b0, s_X12_holds0, om_b0, omg_t (Or.inr rfl)]
  · have e : (if v < 0 then some (1 : Int) else if v < ((P.length : Nat) : Int) then some 0 else some 1) = some 1 := by
      split
      · rfl
      · rw [if_neg (by omega)]
    rw [e, om_b0, s_X12_holds1, om_b0, omg_t (Or.inl rfl)]
theorem om_piece {P : List omPc} {σ : omH} {v : Int} (hP : omPC P σ) (hQ : omPM P σ) (h : 0 ≤ v ∧ v < P.length) : ∃ x : omPc, (σ 25 v.toNat = x.1 ∧ σ 26 v.toNat = x.2.1 ∧ σ 27 v.toNat = x.2.2) ∧ σ 50 v.toNat = x.1 ∧ σ 51 v.toNat = x.2.1 ∧ σ 52 v.toNat = x.2.2 := by
  have hi : v.toNat < P.reverse.length := by rw [List.length_reverse]; omega
  have e := List.getElem?_eq_getElem hi
  exact ⟨P.reverse[v.toNat], hP.2.2 _ _ e, hQ.2.2 _ _ e⟩
theorem omGood.rd {σ : omH} {v : Int} {a : Option (Int × omH)} {b : omH → Option (Int × omH)} (hI : omInv σ) (ha : a = some (0, omsu σ 60 0 (omw v))) (hb : b (omsu σ 60 0 (omw v)) = some (v, omsu (omsu σ 60 0 (omw v)) 43 0 0)) : omGood a b :=
  ⟨0, _, v, _, ha, hb, omsu_s, by decide, by decide, fun _ => by rw [omsu_n (Or.inl (by decide)), omsu_s], (hI.out (omw v)).thr 0⟩
theorem omGood.th {σ : omH} {k v : Int} {a : Option (Int × omH)} {b : omH → Option (Int × omH)} (hI : omInv σ) (hk : k = 1 ∨ k = 2) (ha : a = some (k, σ)) (hb : b σ = some (v, omsu σ 43 0 k)) : omGood a b :=
  ⟨k, _, v, _, ha, hb, omsu_s, by omega, by omega, fun h => by omega, hI.thr k⟩
theorem om_kindOf {σ : omH} (hI : omInv σ) {v : Int} (hv : -2147483648 ≤ v ∧ v < 2147483648) : omGood (s_L_kindOf v σ) (s_X12_kindOf v) := by
  obtain ⟨n, p, d, w, r, f, s, h1, h2, h3, ⟨P, h4, h5⟩, h6⟩ := id hI
  have hl := h4.2.1
  by_cases h : 0 ≤ v ∧ v < P.length
  · obtain ⟨x, hx, hy⟩ := om_piece h4 h5 h
    refine omGood.rd (v := x.1) hI ?_ ?_
    · unfold s_L_kindOf s_X11_kindOf
      rw [(s_X11_needPiece_eq h4 hv).1 h, om_b0, omw_id hv.1 hv.2]
      simp only [Sum.elim_inr]
      rw [omg_t ⟨by omega, by omega⟩, om_b0]
      simp only [Sum.elim_inr]
      rw [omg_t (by decide), hx.1]
      rfl
    · unfold s_X12_kindOf
      rw [(s_X12_isPiece_eq (h5.ex (σ' := omsu σ 60 0 (omw x.1)) (W := [60]) (omEx.su (by simp)) (omsu_n (Or.inl (by decide))) (by simp)) hv).1 h, om_b0, if_neg (by show ¬ omw 1 = 0; decide), omw_id hv.1 hv.2, omg_t ⟨by omega, by omega⟩]
      show some ((omsu (omsu σ 60 0 (omw x.1)) 43 0 0) 50 v.toNat, _) = _
      rw [omsu_n (Or.inl (by decide)), omsu_n (Or.inl (by decide)), hy.1]
  · refine omGood.th (k := 1) (v := 0) hI (Or.inl rfl) ?_ ?_
    · unfold s_L_kindOf s_X11_kindOf
      rw [(s_X11_needPiece_eq h4 hv).2 h, om_b0]
      rfl
    · unfold s_X12_kindOf
      rw [(s_X12_isPiece_eq h5 hv).2 h, om_b0, if_pos (by show omw 0 = 0; decide)]
theorem om_whoseIs {σ : omH} (hI : omInv σ) {v : Int} (hv : -2147483648 ≤ v ∧ v < 2147483648) : omGood (s_L_whoseIs v σ) (s_X12_whoseIs v) := by
  obtain ⟨n, p, d, w, r, f, s, h1, h2, h3, ⟨P, h4, h5⟩, h6⟩ := id hI
  have hl := h4.2.1
  by_cases h : 0 ≤ v ∧ v < P.length
  · obtain ⟨x, hx, hy⟩ := om_piece h4 h5 h
    refine omGood.rd (v := x.2.1) hI ?_ ?_
    · unfold s_L_whoseIs s_X11_whoseIs
      rw [(s_X11_needPiece_eq h4 hv).1 h, om_b0, omw_id hv.1 hv.2]
      simp only [Sum.elim_inr]
      rw [omg_t ⟨by omega, by omega⟩, om_b0]
      simp only [Sum.elim_inr]
      rw [omg_t (by decide), hx.2.1]
      rfl
    · unfold s_X12_whoseIs
      rw [(s_X12_isPiece_eq (h5.ex (σ' := omsu σ 60 0 (omw x.2.1)) (W := [60]) (omEx.su (by simp)) (omsu_n (Or.inl (by decide))) (by simp)) hv).1 h, om_b0, if_neg (by show ¬ omw 1 = 0; decide), omw_id hv.1 hv.2, omg_t ⟨by omega, by omega⟩]
      show some ((omsu (omsu σ 60 0 (omw x.2.1)) 43 0 0) 51 v.toNat, _) = _
      rw [omsu_n (Or.inl (by decide)), omsu_n (Or.inl (by decide)), hy.2.1]
  · refine omGood.th (k := 1) (v := 0) hI (Or.inl rfl) ?_ ?_
    · unfold s_L_whoseIs s_X11_whoseIs
      rw [(s_X11_needPiece_eq h4 hv).2 h, om_b0]
      rfl
    · unfold s_X12_whoseIs
      rw [(s_X12_isPiece_eq h5 hv).2 h, om_b0, if_pos (by show omw 0 = 0; decide)]
theorem om_endOf {σ : omH} (hI : omInv σ) {v : Int} (hv : -2147483648 ≤ v ∧ v < 2147483648) : omGood (s_L_endOf v σ) (s_X12_endOf v) := by
  obtain ⟨n, p, d, w, r, f, s, h1, h2, h3, ⟨P, h4, h5⟩, h6⟩ := id hI
  have hl := h4.2.1
  by_cases h : 0 ≤ v ∧ v < P.length
  · obtain ⟨x, hx, hy⟩ := om_piece h4 h5 h
    refine omGood.rd (v := x.2.2) hI ?_ ?_
    · unfold s_L_endOf s_X11_endOf
      rw [(s_X11_needPiece_eq h4 hv).1 h, om_b0, omw_id hv.1 hv.2]
      simp only [Sum.elim_inr]
      rw [omg_t ⟨by omega, by omega⟩, om_b0]
      simp only [Sum.elim_inr]
      rw [omg_t (by decide), hx.2.2]
      rfl
    · unfold s_X12_endOf
      rw [(s_X12_isPiece_eq (h5.ex (σ' := omsu σ 60 0 (omw x.2.2)) (W := [60]) (omEx.su (by simp)) (omsu_n (Or.inl (by decide))) (by simp)) hv).1 h, om_b0, if_neg (by show ¬ omw 1 = 0; decide), omw_id hv.1 hv.2, omg_t ⟨by omega, by omega⟩]
      show some ((omsu (omsu σ 60 0 (omw x.2.2)) 43 0 0) 52 v.toNat, _) = _
      rw [omsu_n (Or.inl (by decide)), omsu_n (Or.inl (by decide)), hy.2.2]
  · refine omGood.th (k := 1) (v := 0) hI (Or.inl rfl) ?_ ?_
    · unfold s_L_endOf s_X11_endOf
      rw [(s_X11_needPiece_eq h4 hv).2 h, om_b0]
      rfl
    · unfold s_X12_endOf
      rw [(s_X12_isPiece_eq h5 hv).2 h, om_b0, if_pos (by show omw 0 = 0; decide)]
theorem om_startOf {σ : omH} (hI : omInv σ) {v : Int} (hv : -2147483648 ≤ v ∧ v < 2147483648) : omGood (s_L_startOf v σ) (s_X12_startOf v) := by
  obtain ⟨n, p, d, w, r, f, s, h1, h2, h3, ⟨P, h4, h5⟩, h6⟩ := id hI
  have hl := h4.2.1
  by_cases h : 0 ≤ v ∧ v < P.length
  · by_cases h0 : v = 0
    · subst h0
      refine omGood.rd (v := 0) hI ?_ ?_
      · unfold s_L_startOf s_X11_startOf
        rw [(s_X11_needPiece_eq h4 hv).1 h, om_b0]
        simp only [Sum.elim_inr]
        rw [if_pos (by decide), om_b0]
        rfl
      · unfold s_X12_startOf
        rw [(s_X12_isPiece_eq (h5.ex (σ' := omsu σ 60 0 (omw 0)) (W := [60]) (omEx.su (by simp)) (omsu_n (Or.inl (by decide))) (by simp)) hv).1 h, om_b0, if_neg (by show ¬ omw 1 = 0; decide), if_neg (by decide)]
    · obtain ⟨x, hx, hy⟩ := om_piece (v := v - 1) h4 h5 (by omega)
      refine omGood.rd (v := x.2.2) hI ?_ ?_
      · unfold s_L_startOf s_X11_startOf
        rw [(s_X11_needPiece_eq h4 hv).1 h, om_b0]
        simp only [Sum.elim_inr]
        rw [omw_id (a := v) hv.1 hv.2, omw_id (a := v - 1) (by omega) (by omega), if_neg h0, omg_t ⟨by omega, by omega⟩, om_b0]
        simp only [Sum.elim_inr]
        rw [omg_t (by decide), hx.2.2]
        rfl
      · unfold s_X12_startOf
        rw [(s_X12_isPiece_eq (h5.ex (σ' := omsu σ 60 0 (omw x.2.2)) (W := [60]) (omEx.su (by simp)) (omsu_n (Or.inl (by decide))) (by simp)) hv).1 h, om_b0, if_neg (by show ¬ omw 1 = 0; decide), omw_id (a := v) hv.1 hv.2, omw_id (a := v - 1) (by omega) (by omega), if_pos (by omega), omg_t ⟨by omega, by omega⟩]
        show some ((omsu (omsu σ 60 0 (omw x.2.2)) 43 0 0) 52 (v - 1).toNat, _) = _
        rw [omsu_n (Or.inl (by decide)), omsu_n (Or.inl (by decide)), hy.2.2]
  · refine omGood.th (k := 1) (v := 0) hI (Or.inl rfl) ?_ ?_
    · unfold s_L_startOf s_X11_startOf
      rw [(s_X11_needPiece_eq h4 hv).2 h, om_b0]
      rfl
    · unfold s_X12_startOf
      rw [(s_X12_isPiece_eq h5 hv).2 h, om_b0, if_pos (by show omw 0 = 0; decide)]
/-! .. the completions -/
theorem s_X12_isPlanned_eq {n : Nat} {p d w r f s : Nat → Int} {v : Int} {σ : omH} (hok : omOk n p d w r f s) (hm : omMv n p d w r f s σ) (hv : -2147483648 ≤ v ∧ v < 2147483648) : (¬ (0 ≤ v ∧ v < n) → s_X12_isPlanned v σ = some (0, omsu σ 43 0 1)) ∧ ((0 ≤ v ∧ v < n) → σ 43 8 = 0 → s_X12_isPlanned v σ = some (0, omsu σ 43 0 2)) ∧ ((0 ≤ v ∧ v < n) → σ 43 8 = 1 → s_X12_isPlanned v σ = some (1, omsu σ 43 0 0)) := by
  unfold s_X12_isPlanned
  rw [s_X12_isJob_eq hok hm hv, om_b0]
  refine ⟨fun h => ?_, fun h h8 => ?_, fun h h8 => ?_⟩
  · rw [om_if1 h, om_b0, s_X12_holds1, om_b0, omg_t (Or.inl rfl)]
  · rw [om_if0 h, h8, if_pos (by decide), om_b0, s_X12_holds2, om_b0, omg_t (Or.inl rfl)]
  · rw [om_if0 h, h8, if_neg (by decide), om_b0, s_X12_holds0, om_b0, omg_t (Or.inr rfl)]
theorem s_X11_needPlan_eq {σ : omH} : (σ 24 0 = 0 → s_X11_needPlan σ = some (Sum.inl 2)) ∧ (σ 24 0 = 1 → s_X11_needPlan σ = some (Sum.inr ())) := by
  unfold s_X11_needPlan
  exact ⟨fun h => by rw [h, if_pos (by decide)], fun h => by rw [h, if_neg (by decide)]⟩
theorem om_completion {σ : omH} (hI : omInv σ) {v : Int} (hv : -2147483648 ≤ v ∧ v < 2147483648) : omGood (s_L_completion v σ) (s_X12_completion v) := by
  obtain ⟨n, p, d, w, r, f, s, h1, h2, h3, h45, h6⟩ := id hI
  have hn := h1.1
  by_cases h : 0 ≤ v ∧ v < n
  · rcases h6 with ⟨a1, a2⟩ | ⟨a1, a2, a3⟩
    · refine omGood.th (k := 2) (v := 0) hI (Or.inr rfl) ?_ ?_
      · unfold s_L_completion s_X11_completion
        rw [(s_X11_needJob_eq h1 h2 hv).1 h, om_b0]
        simp only [Sum.elim_inr]
        rw [s_X11_needPlan_eq.1 a1]
        rfl
      · unfold s_X12_completion
        rw [(s_X12_isPlanned_eq h1 h3 hv).2.1 h a2, om_b0, if_pos (by show omw 0 = 0; decide)]
    · refine omGood.rd (v := σ 53 v.toNat) hI ?_ ?_
      · have a4 := a3 v.toNat (by omega)
        unfold s_L_completion s_X11_completion
        rw [(s_X11_needJob_eq h1 h2 hv).1 h, om_b0]
        simp only [Sum.elim_inr]
        rw [s_X11_needPlan_eq.2 a1, om_b0]
        simp only [Sum.elim_inr]
        rw [omw_id (a := v) hv.1 hv.2, omg_t ⟨by omega, by omega⟩, om_b0]
        simp only [Sum.elim_inr]
        rw [omg_t (by decide), a4.1]
        rfl
      · have hm : omMv n p d w r f s (omsu σ 60 0 (omw (σ 53 v.toNat))) := h3.ex (W := [60]) (omEx.su (by simp)) (by simp)
        unfold s_X12_completion
        rw [(s_X12_isPlanned_eq h1 hm hv).2.2 h (by rw [omsu_n (Or.inl (by decide))]; exact a2), om_b0, if_neg (by show ¬ omw 1 = 0; decide), omw_id (a := v) hv.1 hv.2, omg_t ⟨by omega, by omega⟩]
        show some ((omsu (omsu σ 60 0 (omw (σ 53 v.toNat))) 43 0 0) 53 v.toNat, _) = _
        rw [omsu_n (Or.inl (by decide)), omsu_n (Or.inl (by decide))]
  · refine omGood.th (k := 1) (v := 0) hI (Or.inl rfl) ?_ ?_
    · unfold s_L_completion s_X11_completion
      rw [(s_X11_needJob_eq h1 h2 hv).2 h, om_b0]
      rfl
    · unfold s_X12_completion
      rw [(s_X12_isPlanned_eq h1 h3 hv).1 h, om_b0, if_pos (by show omw 0 = 0; decide)]
theorem om_lateness {σ : omH} (hI : omInv σ) {v : Int} (hv : -2147483648 ≤ v ∧ v < 2147483648) : omGood (s_L_lateness v σ) (s_X12_lateness v) := by
  obtain ⟨n, p, d, w, r, f, s, h1, h2, h3, h45, h6⟩ := id hI
  have hn := h1.1
  by_cases h : 0 ≤ v ∧ v < n
  · rcases h6 with ⟨a1, a2⟩ | ⟨a1, a2, a3⟩
    · refine omGood.th (k := 2) (v := 0) hI (Or.inr rfl) ?_ ?_
      · unfold s_L_lateness s_X11_lateness
        rw [(s_X11_needJob_eq h1 h2 hv).1 h, om_b0]
        simp only [Sum.elim_inr]
        rw [s_X11_needPlan_eq.1 a1]
        rfl
      · unfold s_X12_lateness
        rw [(s_X12_isPlanned_eq h1 h3 hv).2.1 h a2, om_b0, if_pos (by show omw 0 = 0; decide)]
    · refine omGood.rd (v := σ 53 v.toNat - σ 45 v.toNat) hI ?_ ?_
      · have a4 := a3 v.toNat (by omega)
        unfold s_L_lateness s_X11_lateness
        rw [(s_X11_needJob_eq h1 h2 hv).1 h, om_b0]
        simp only [Sum.elim_inr]
        rw [s_X11_needPlan_eq.2 a1, om_b0]
        simp only [Sum.elim_inr]
        rw [omw_id (a := v) hv.1 hv.2, omg_t ⟨by omega, by omega⟩, omg_t ⟨by omega, by omega⟩, om_b0]
        simp only [Sum.elim_inr]
        rw [omg_t (by decide), a4.1, h2.2.2.1, ← h3.2.2.1]
        rfl
      · have hm : omMv n p d w r f s (omsu σ 60 0 (omw (σ 53 v.toNat - σ 45 v.toNat))) := h3.ex (W := [60]) (omEx.su (by simp)) (by simp)
        unfold s_X12_lateness
        rw [(s_X12_isPlanned_eq h1 hm hv).2.2 h (by rw [omsu_n (Or.inl (by decide))]; exact a2), om_b0, if_neg (by show ¬ omw 1 = 0; decide), omw_id (a := v) hv.1 hv.2, omg_t ⟨by omega, by omega⟩, omg_t ⟨by omega, by omega⟩]
        show some ((omsu (omsu σ 60 0 (omw (σ 53 v.toNat - σ 45 v.toNat))) 43 0 0) 53 v.toNat - (omsu (omsu σ 60 0 (omw (σ 53 v.toNat - σ 45 v.toNat))) 43 0 0) 45 v.toNat, _) = _
        rw [omsu_n (Or.inl (by decide)), omsu_n (Or.inl (by decide)), omsu_n (Or.inl (by decide)), omsu_n (Or.inl (by decide))]
  · refine omGood.th (k := 1) (v := 0) hI (Or.inl rfl) ?_ ?_
    · unfold s_L_lateness s_X11_lateness
      rw [(s_X11_needJob_eq h1 h2 hv).2 h, om_b0]
      rfl
    · unfold s_X12_lateness
      rw [(s_X12_isPlanned_eq h1 h3 hv).1 h, om_b0, if_pos (by show omw 0 = 0; decide)]
theorem om_maxLateness {σ : omH} (hI : omInv σ) : omGood (s_L_maxLateness σ) s_X12_maxLateness := by
  obtain ⟨n, p, d, w, r, f, s, h1, h2, h3, h45, h6⟩ := id hI
  have hn := h1.1
  rcases h6 with ⟨a1, a2⟩ | ⟨a1, a2, a3⟩
  · refine omGood.th (k := 1) (v := 0) hI (Or.inl rfl) ?_ ?_
    · unfold s_L_maxLateness s_X11_maxLateness
      rw [s_X11_needPlan_eq.1 a1]
      rfl
    · unfold s_X12_maxLateness
      rw [a2, if_pos (by decide), om_b0, s_X12_holds1, om_b0, if_pos (by show omw 0 = 0; decide)]
  · refine omGood.rd (v := omTot n 0 d w (σ 53)) hI ?_ ?_
    · unfold s_L_maxLateness s_X11_maxLateness
      rw [s_X11_needPlan_eq.2 a1, om_b0]
      simp only [Sum.elim_inr]
      rw [show s_X5_total 0 σ = some (omTot n 0 d w (σ 28)) from s_X5_total_eq h1 h2 (by decide) (fun j hj => (a3 j hj).2), om_b0, omTot_congr (fun j hj => (a3 j hj).1)]
      rfl
    · have hm : omMv n p d w r f s (omsu (omsu σ 60 0 (omw (omTot n 0 d w (σ 53)))) 43 0 0) := h3.ex2 (W := [60, 43]) ((omEx.su (by simp)).trans (omEx.su (by simp))) (by rw [omsu_n (Or.inr (by decide)), omsu_n (Or.inl (by decide))]) (by simp)
      have e53 : (omsu (omsu σ 60 0 (omw (omTot n 0 d w (σ 53)))) 43 0 0) 53 = σ 53 := by rw [omsu_o (by decide), omsu_o (by decide)]
      have hC : omCr n ((omsu (omsu σ 60 0 (omw (omTot n 0 d w (σ 53)))) 43 0 0) 53) := by
        rw [e53]
        intro j hj
        have := a3 j hj
        omega
      unfold s_X12_maxLateness
      rw [omsu_n (Or.inl (by decide)), a2, if_neg (by decide), om_b0, s_X12_holds0, om_b0, if_neg (by show ¬ omw 1 = 0; decide), s_X12_greatest_eq h1 hm hC, om_b0, e53]
theorem om_lateJobs {σ : omH} (hI : omInv σ) : omGood (s_L_lateJobs σ) s_X12_lateJobs := by
  obtain ⟨n, p, d, w, r, f, s, h1, h2, h3, h45, h6⟩ := id hI
  have hn := h1.1
  rcases h6 with ⟨a1, a2⟩ | ⟨a1, a2, a3⟩
  · refine omGood.th (k := 1) (v := 0) hI (Or.inl rfl) ?_ ?_
    · unfold s_L_lateJobs s_X11_lateJobs
      rw [s_X11_needPlan_eq.1 a1]
      rfl
    · unfold s_X12_lateJobs
      rw [a2, if_pos (by decide), om_b0, s_X12_holds1, om_b0, if_pos (by show omw 0 = 0; decide)]
  · refine omGood.rd (v := omTot n 1 d w (σ 53)) hI ?_ ?_
    · unfold s_L_lateJobs s_X11_lateJobs
      rw [s_X11_needPlan_eq.2 a1, om_b0]
      simp only [Sum.elim_inr]
      rw [show s_X5_total 1 σ = some (omTot n 1 d w (σ 28)) from s_X5_total_eq h1 h2 (by decide) (fun j hj => (a3 j hj).2), om_b0, omTot_congr (fun j hj => (a3 j hj).1)]
      rfl
    · have hm : omMv n p d w r f s (omsu (omsu σ 60 0 (omw (omTot n 1 d w (σ 53)))) 43 0 0) := h3.ex2 (W := [60, 43]) ((omEx.su (by simp)).trans (omEx.su (by simp))) (by rw [omsu_n (Or.inr (by decide)), omsu_n (Or.inl (by decide))]) (by simp)
      have e53 : (omsu (omsu σ 60 0 (omw (omTot n 1 d w (σ 53)))) 43 0 0) 53 = σ 53 := by rw [omsu_o (by decide), omsu_o (by decide)]
      have hC : omCr n ((omsu (omsu σ 60 0 (omw (omTot n 1 d w (σ 53)))) 43 0 0) 53) := by
        rw [e53]
        intro j hj
        have := a3 j hj
        omega
      unfold s_X12_lateJobs
      rw [omsu_n (Or.inl (by decide)), a2, if_neg (by decide), om_b0, s_X12_holds0, om_b0, if_neg (by show ¬ omw 1 = 0; decide), show s_X12_sum 0 _ = some (omTot n 1 d w _) from s_X12_sum_eq (y := 0) h1 hm hC (by decide), om_b0, e53]
theorem om_completions {σ : omH} (hI : omInv σ) : omGood (s_L_completions σ) s_X12_completions := by
  obtain ⟨n, p, d, w, r, f, s, h1, h2, h3, h45, h6⟩ := id hI
  have hn := h1.1
  rcases h6 with ⟨a1, a2⟩ | ⟨a1, a2, a3⟩
  · refine omGood.th (k := 1) (v := 0) hI (Or.inl rfl) ?_ ?_
    · unfold s_L_completions s_X11_completions
      rw [s_X11_needPlan_eq.1 a1]
      rfl
    · unfold s_X12_completions
      rw [a2, if_pos (by decide), om_b0, s_X12_holds1, om_b0, if_pos (by show omw 0 = 0; decide)]
  · refine omGood.rd (v := omTot n 2 d w (σ 53)) hI ?_ ?_
    · unfold s_L_completions s_X11_completions
      rw [s_X11_needPlan_eq.2 a1, om_b0]
      simp only [Sum.elim_inr]
      rw [show s_X5_total 2 σ = some (omTot n 2 d w (σ 28)) from s_X5_total_eq h1 h2 (by decide) (fun j hj => (a3 j hj).2), om_b0, omTot_congr (fun j hj => (a3 j hj).1)]
      rfl
    · have hm : omMv n p d w r f s (omsu (omsu σ 60 0 (omw (omTot n 2 d w (σ 53)))) 43 0 0) := h3.ex2 (W := [60, 43]) ((omEx.su (by simp)).trans (omEx.su (by simp))) (by rw [omsu_n (Or.inr (by decide)), omsu_n (Or.inl (by decide))]) (by simp)
      have e53 : (omsu (omsu σ 60 0 (omw (omTot n 2 d w (σ 53)))) 43 0 0) 53 = σ 53 := by rw [omsu_o (by decide), omsu_o (by decide)]
      have hC : omCr n ((omsu (omsu σ 60 0 (omw (omTot n 2 d w (σ 53)))) 43 0 0) 53) := by
        rw [e53]
        intro j hj
        have := a3 j hj
        omega
      unfold s_X12_completions
      rw [omsu_n (Or.inl (by decide)), a2, if_neg (by decide), om_b0, s_X12_holds0, om_b0, if_neg (by show ¬ omw 1 = 0; decide), show s_X12_sum 1 _ = some (omTot n 2 d w _) from s_X12_sum_eq (y := 1) h1 hm hC (by decide), om_b0, e53]
theorem om_weightedCompletions {σ : omH} (hI : omInv σ) : omGood (s_L_weightedCompletions σ) s_X12_weightedCompletions := by
  obtain ⟨n, p, d, w, r, f, s, h1, h2, h3, h45, h6⟩ := id hI
  have hn := h1.1
  rcases h6 with ⟨a1, a2⟩ | ⟨a1, a2, a3⟩
  · refine omGood.th (k := 1) (v := 0) hI (Or.inl rfl) ?_ ?_
    · unfold s_L_weightedCompletions s_X11_weightedCompletions
      rw [s_X11_needPlan_eq.1 a1]
      rfl
    · unfold s_X12_weightedCompletions
      rw [a2, if_pos (by decide), om_b0, s_X12_holds1, om_b0, if_pos (by show omw 0 = 0; decide)]
  · refine omGood.rd (v := omTot n 3 d w (σ 53)) hI ?_ ?_
    · unfold s_L_weightedCompletions s_X11_weightedCompletions
      rw [s_X11_needPlan_eq.2 a1, om_b0]
      simp only [Sum.elim_inr]
      rw [show s_X5_total 3 σ = some (omTot n 3 d w (σ 28)) from s_X5_total_eq h1 h2 (by decide) (fun j hj => (a3 j hj).2), om_b0, omTot_congr (fun j hj => (a3 j hj).1)]
      rfl
    · have hm : omMv n p d w r f s (omsu (omsu σ 60 0 (omw (omTot n 3 d w (σ 53)))) 43 0 0) := h3.ex2 (W := [60, 43]) ((omEx.su (by simp)).trans (omEx.su (by simp))) (by rw [omsu_n (Or.inr (by decide)), omsu_n (Or.inl (by decide))]) (by simp)
      have e53 : (omsu (omsu σ 60 0 (omw (omTot n 3 d w (σ 53)))) 43 0 0) 53 = σ 53 := by rw [omsu_o (by decide), omsu_o (by decide)]
      have hC : omCr n ((omsu (omsu σ 60 0 (omw (omTot n 3 d w (σ 53)))) 43 0 0) 53) := by
        rw [e53]
        intro j hj
        have := a3 j hj
        omega
      unfold s_X12_weightedCompletions
      rw [omsu_n (Or.inl (by decide)), a2, if_neg (by decide), om_b0, s_X12_holds0, om_b0, if_neg (by show ¬ omw 1 = 0; decide), show s_X12_sum 2 _ = some (omTot n 3 d w _) from s_X12_sum_eq (y := 2) h1 hm hC (by decide), om_b0, e53]
theorem om_weightedTardiness {σ : omH} (hI : omInv σ) : omGood (s_L_weightedTardiness σ) s_X12_weightedTardiness := by
  obtain ⟨n, p, d, w, r, f, s, h1, h2, h3, h45, h6⟩ := id hI
  have hn := h1.1
  rcases h6 with ⟨a1, a2⟩ | ⟨a1, a2, a3⟩
  · refine omGood.th (k := 1) (v := 0) hI (Or.inl rfl) ?_ ?_
    · unfold s_L_weightedTardiness s_X11_weightedTardiness
      rw [s_X11_needPlan_eq.1 a1]
      rfl
    · unfold s_X12_weightedTardiness
      rw [a2, if_pos (by decide), om_b0, s_X12_holds1, om_b0, if_pos (by show omw 0 = 0; decide)]
  · refine omGood.rd (v := omTot n 4 d w (σ 53)) hI ?_ ?_
    · unfold s_L_weightedTardiness s_X11_weightedTardiness
      rw [s_X11_needPlan_eq.2 a1, om_b0]
      simp only [Sum.elim_inr]
      rw [show s_X5_total 4 σ = some (omTot n 4 d w (σ 28)) from s_X5_total_eq h1 h2 (by decide) (fun j hj => (a3 j hj).2), om_b0, omTot_congr (fun j hj => (a3 j hj).1)]
      rfl
    · have hm : omMv n p d w r f s (omsu (omsu σ 60 0 (omw (omTot n 4 d w (σ 53)))) 43 0 0) := h3.ex2 (W := [60, 43]) ((omEx.su (by simp)).trans (omEx.su (by simp))) (by rw [omsu_n (Or.inr (by decide)), omsu_n (Or.inl (by decide))]) (by simp)
      have e53 : (omsu (omsu σ 60 0 (omw (omTot n 4 d w (σ 53)))) 43 0 0) 53 = σ 53 := by rw [omsu_o (by decide), omsu_o (by decide)]
      have hC : omCr n ((omsu (omsu σ 60 0 (omw (omTot n 4 d w (σ 53)))) 43 0 0) 53) := by
        rw [e53]
        intro j hj
        have := a3 j hj
        omega
      unfold s_X12_weightedTardiness
      rw [omsu_n (Or.inl (by decide)), a2, if_neg (by decide), om_b0, s_X12_holds0, om_b0, if_neg (by show ¬ omw 1 = 0; decide), show s_X12_sum 3 _ = some (omTot n 4 d w _) from s_X12_sum_eq (y := 3) h1 hm hC (by decide), om_b0, e53]
