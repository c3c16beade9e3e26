/-! ===== p39: the law's table, the pieces as they are read ===== -/
/-- the law's own table -/
def omTb (n : Nat) (p d w r f s : Nat → Int) (σ : omH) : Prop := σ 43 54 = n ∧ (∀ j, j < n → σ 43 j = p j ∧ σ 43 (10 + j) = d j ∧ σ 43 (20 + j) = w j ∧ σ 43 (30 + j) = r j ∧ σ 43 (40 + j) = f j) ∧ ∀ q, q < 4 → σ 43 (50 + q) = s q
theorem omTb.ex {n : Nat} {p d w r f s : Nat → Int} {W : List Nat} {σ σ' : omH} (h : omTb n p d w r f s σ) (he : omEx W σ σ') (hW : 43 ∉ W) : omTb n p d w r f s σ' := by
  have e := he 43 hW
  unfold omTb
  rw [e]
  exact h
theorem om_cut {P : List omPc} {k m : Nat} (h : k + (m + 1) = P.length) : ∃ x, P.drop m = x :: P.drop (m + 1) ∧ P.reverse[k]? = some x := by
  have hm : m < P.length := by omega
  refine ⟨P[m], List.drop_eq_getElem_cons hm, ?_⟩
  rw [List.getElem?_reverse (by omega), show P.length - 1 - k = m by omega]
  exact List.getElem?_eq_getElem hm
theorem om_drop_nil {P : List omPc} {m : Nat} (h : m = P.length) : P.drop m = [] := by
  subst h
  exact List.drop_length
section
variable {P : List omPc} {σ : omH} {k m : Nat} {x : omPc}
theorem om_pc_lt (hk : P.reverse[k]? = some x) : k < P.length := by
  have := (List.getElem?_eq_some_iff.mp hk).1
  rw [List.length_reverse] at this
  exact this
theorem s_X11_kindOf_v {v : Int} (hP : omPC P σ) (h : 0 ≤ v ∧ v < P.length) : s_X11_kindOf v σ = some (Sum.inr (σ 25 v.toNat)) := by
  have h20 := hP.2.1
  unfold s_X11_kindOf
  rw [(s_X11_needPiece_eq hP ⟨by omega, by omega⟩).1 h, om_b0, omw_id (by omega) (by omega)]
  simp only [Sum.elim_inr]
  rw [omg_t ⟨by omega, by omega⟩]
theorem s_X11_whoseIs_v {v : Int} (hP : omPC P σ) (h : 0 ≤ v ∧ v < P.length) : s_X11_whoseIs v σ = some (Sum.inr (σ 26 v.toNat)) := by
  have h20 := hP.2.1
  unfold s_X11_whoseIs
  rw [(s_X11_needPiece_eq hP ⟨by omega, by omega⟩).1 h, om_b0, omw_id (by omega) (by omega)]
  simp only [Sum.elim_inr]
  rw [omg_t ⟨by omega, by omega⟩]
theorem s_X11_endOf_v {v : Int} (hP : omPC P σ) (h : 0 ≤ v ∧ v < P.length) : s_X11_endOf v σ = some (Sum.inr (σ 27 v.toNat)) := by
  have h20 := hP.2.1
  unfold s_X11_endOf
  rw [(s_X11_needPiece_eq hP ⟨by omega, by omega⟩).1 h, om_b0, omw_id (by omega) (by omega)]
  simp only [Sum.elim_inr]
  rw [omg_t ⟨by omega, by omega⟩]
theorem s_X11_startOf_v {v : Int} (hP : omPC P σ) (h : 0 ≤ v ∧ v < P.length) : s_X11_startOf v σ = some (Sum.inr (if v = 0 then 0 else σ 27 (v - 1).toNat)) := by
  have h20 := hP.2.1
  unfold s_X11_startOf
  rw [(s_X11_needPiece_eq hP ⟨by omega, by omega⟩).1 h, om_b0, omw_id (a := v) (by omega) (by omega), omw_id (a := v - 1) (by omega) (by omega)]
  simp only [Sum.elim_inr]
  by_cases h0 : v = 0
  · rw [if_pos h0, if_pos h0]
  · rw [if_neg h0, if_neg h0, omg_t ⟨by omega, by omega⟩]
theorem om_pc_v (hk : P.reverse[k]? = some x) : (0 : Int) ≤ (k : Int) ∧ (k : Int) < P.length := ⟨Int.natCast_nonneg k, Int.ofNat_lt.mpr (om_pc_lt hk)⟩
theorem s_X11_kindOf_at (hP : omPC P σ) (hk : P.reverse[k]? = some x) : s_X11_kindOf (k : Int) σ = some (Sum.inr x.1) := by
  rw [s_X11_kindOf_v hP (om_pc_v hk), Int.toNat_natCast, (hP.2.2 k x hk).1]
theorem s_X11_whoseIs_at (hP : omPC P σ) (hk : P.reverse[k]? = some x) : s_X11_whoseIs (k : Int) σ = some (Sum.inr x.2.1) := by
  rw [s_X11_whoseIs_v hP (om_pc_v hk), Int.toNat_natCast, (hP.2.2 k x hk).2.1]
theorem s_X11_endOf_at (hP : omPC P σ) (hk : P.reverse[k]? = some x) : s_X11_endOf (k : Int) σ = some (Sum.inr x.2.2) := by
  rw [s_X11_endOf_v hP (om_pc_v hk), Int.toNat_natCast, (hP.2.2 k x hk).2.2]
/-- the end of the pieces ahead -/
theorem om_prev (hP : omPC P σ) (h : k + (m + 1) = P.length) : (if (k : Int) = 0 then 0 else σ 27 ((k : Int) - 1).toNat) = omNow (P.drop (m + 1)) := by
  by_cases h0 : k = 0
  · rw [if_pos (by omega), om_drop_nil (by omega)]
    rfl
  · obtain ⟨k', rfl⟩ : ∃ z, k = z + 1 := ⟨k - 1, by omega⟩
    rw [if_neg (by omega), show (((k' + 1 : Nat) : Int) - 1).toNat = k' by omega]
    obtain ⟨y, h1, h2⟩ := om_cut (P := P) (k := k') (m := m + 1) (by omega)
    rw [(hP.2.2 k' y h2).2.2, h1]
    rfl
theorem s_X11_startOf_at (hP : omPC P σ) (hk : P.reverse[k]? = some x) (h : k + (m + 1) = P.length) : s_X11_startOf (k : Int) σ = some (Sum.inr (omNow (P.drop (m + 1)))) := by
  rw [s_X11_startOf_v hP (om_pc_v hk), om_prev hP h]
theorem om_ite_some {c : Prop} [Decidable c] {a b : Int} : (if c then some a else some b) = some (if c then a else b) := by
  split <;> rfl
theorem s_X11_prev_v {v : Int} (hP : omPC P σ) (h : 0 ≤ v ∧ v < P.length) : (if omw v = 0 then some (0 : Int) else Option.bind (s_X11_endOf (v - 1) σ) (fun r45 => Sum.elim (fun u46 => none) (fun u46 => some (u46)) r45)) = some (if v = 0 then 0 else σ 27 (v - 1).toNat) := by
  have h20 := hP.2.1
  rw [omw_id (a := v) (by omega) (by omega)]
  by_cases h0 : v = 0
  · rw [if_pos h0, if_pos h0]
  · rw [if_neg h0, if_neg h0, s_X11_endOf_v hP ⟨by omega, by omega⟩, om_b0]
    rfl
theorem s_X11_prev_at (hP : omPC P σ) (hk : P.reverse[k]? = some x) (h : k + (m + 1) = P.length) : (if omw (k : Int) = 0 then some (0 : Int) else Option.bind (s_X11_endOf ((k : Int) - 1) σ) (fun r45 => Sum.elim (fun u46 => none) (fun u46 => some (u46)) r45)) = some (omNow (P.drop (m + 1))) := by
  rw [s_X11_prev_v hP (om_pc_v hk), om_prev hP h]
end
theorem omGp.drop {u n : Nat} {r f s : Nat → Int} : ∀ (m : Nat) (P : List omPc), omGp u n r f s P → omGp u n r f s (P.drop m) := by
  intro m
  induction m with
  | zero => intro P h; exact h
  | succ m ih =>
    intro P h
    cases P with
    | nil => exact h
    | cons x T => exact ih T h.2
theorem omPok.drop {B : Int} {P : List omPc} (m : Nat) (h : omPok B P) : omPok B (P.drop m) := fun x hx => h x (List.mem_of_mem_drop hx)
