/-! ===== plans: the pieces, the last one first, and the completions ===== -/
abbrev omPc : Type := Int × Int × Int
def omNow : List omPc → Int
  | [] => 0
  | x :: _ => x.2.2
/-- a piece of a kind, somebody's, of some time, behind the others -/
def omAdd (P : List omPc) (e : omPc) : List omPc := match P with
  | [] => if 0 < e.2.2 then [e] else []
  | x :: T => if x.1 = e.1 ∧ x.2.1 = e.2.1 then (x.1, x.2.1, x.2.2 + e.2.2) :: T else if 0 < e.2.2 then (e.1, e.2.1, x.2.2 + e.2.2) :: x :: T else x :: T
theorem omAdd_now {P : List omPc} {e : omPc} (h : 0 ≤ e.2.2) : omNow (omAdd P e) = omNow P + e.2.2 := by
  unfold omAdd
  split
  · split
    · show e.2.2 = 0 + e.2.2; omega
    · show (0 : Int) = 0 + e.2.2; omega
  · split
    · rfl
    · split
      · rfl
      · rename_i x T _ _; show x.2.2 = x.2.2 + e.2.2; omega
theorem omAdd_len {P : List omPc} {e : omPc} : (omAdd P e).length ≤ P.length + 1 := by
  unfold omAdd
  split
  · split <;> simp
  · split
    · simp
    · split <;> simp
def omPok (B : Int) (P : List omPc) : Prop := ∀ x ∈ P, 0 ≤ x.1 ∧ x.1 ≤ 2 ∧ -1 ≤ x.2.1 ∧ x.2.1 ≤ 9 ∧ 0 ≤ x.2.2 ∧ x.2.2 ≤ B
theorem omPok.now {B : Int} {P : List omPc} (hB : 0 ≤ B) (h : omPok B P) : 0 ≤ omNow P ∧ omNow P ≤ B := by
  cases P with
  | nil => exact ⟨Int.le_refl _, hB⟩
  | cons x T => exact ⟨(h x List.mem_cons_self).2.2.2.2.1, (h x List.mem_cons_self).2.2.2.2.2⟩
theorem omPok.add {B t : Int} {P : List omPc} {e : omPc} (hB : 0 ≤ B) (h : omPok B P) (h1 : 0 ≤ e.1 ∧ e.1 ≤ 2) (h2 : -1 ≤ e.2.1 ∧ e.2.1 ≤ 9) (h3 : 0 ≤ e.2.2 ∧ e.2.2 ≤ t) : omPok (B + t) (omAdd P e) := by
  have hup : omPok (B + t) P := fun x hx => by have := h x hx; omega
  unfold omAdd
  split
  · split
    · intro x hx; rw [List.mem_singleton.mp hx]; omega
    · intro x hx; cases hx
  · rename_i x T
    have hx0 := h x List.mem_cons_self
    split
    · intro y hy
      rcases List.mem_cons.mp hy with rfl | hy
      · show 0 ≤ x.1 ∧ x.1 ≤ 2 ∧ -1 ≤ x.2.1 ∧ x.2.1 ≤ 9 ∧ 0 ≤ x.2.2 + e.2.2 ∧ x.2.2 + e.2.2 ≤ B + t
        omega
      · exact hup y (List.mem_cons_of_mem _ hy)
    · split
      · intro y hy
        rcases List.mem_cons.mp hy with rfl | hy
        · show 0 ≤ e.1 ∧ e.1 ≤ 2 ∧ -1 ≤ e.2.1 ∧ e.2.1 ≤ 9 ∧ 0 ≤ x.2.2 + e.2.2 ∧ x.2.2 + e.2.2 ≤ B + t
          omega
        · exact hup y hy
      · exact hup
/-- the pieces in the class's rows -/
def omPC (P : List omPc) (σ : omH) : Prop := σ 24 1 = (P.length : Nat) ∧ P.length ≤ 20 ∧ ∀ (i : Nat) (x : omPc), P.reverse[i]? = some x → σ 25 i = x.1 ∧ σ 26 i = x.2.1 ∧ σ 27 i = x.2.2
theorem om_rev_head {x : omPc} {T : List omPc} : (x :: T).reverse[T.length]? = some x := by
  rw [List.reverse_cons, List.getElem?_append_right (by simp)]
  simp
theorem om_rev_lt {x y : omPc} {T : List omPc} {i : Nat} (hi : i < T.length) (h : (x :: T).reverse[i]? = some y) : T.reverse[i]? = some y := by
  rw [List.reverse_cons, List.getElem?_append_left (by simpa using hi)] at h
  exact h
theorem om_rev_cases {x y : omPc} {T : List omPc} {i : Nat} (h : (x :: T).reverse[i]? = some y) : (i = T.length ∧ y = x) ∨ (i < T.length ∧ T.reverse[i]? = some y) := by
  have hl := (List.getElem?_eq_some_iff.mp h).1
  simp only [List.length_reverse, List.length_cons] at hl
  rcases Nat.lt_or_ge i T.length with hi | hi
  · exact Or.inr ⟨hi, om_rev_lt hi h⟩
  · have : i = T.length := by omega
    subst this
    rw [om_rev_head] at h
    exact Or.inl ⟨rfl, (Option.some.inj h).symm⟩
theorem s_X5_now_eq {P : List omPc} {σ : omH} (h : omPC P σ) : s_X5_now σ = some (omNow P) := by
  obtain ⟨h1, h2, h3⟩ := h
  unfold s_X5_now
  rw [h1]
  cases P with
  | nil => rfl
  | cons x T =>
    have hx := h3 T.length x om_rev_head
    simp only [List.length_cons] at h2 ⊢
    have e1 : (((T.length + 1 : Nat) : Int) - 1) = (T.length : Int) := by omega
    rw [if_neg (by rw [om_wn (by omega)]; omega)]
    simp only [e1, om_wn (show T.length < 2147483648 by omega), Int.toNat_natCast]
    rw [omg_t ⟨by omega, by omega⟩, hx.2.2]
    rfl
/-- a piece appended at the rows' end -/
theorem omPC.push {P : List omPc} {σ σ' : omH} {x : omPc} (h : omPC P σ) (hl : P.length < 20) (h1 : σ' 24 1 = ((P.length + 1 : Nat) : Int)) (h2 : σ' 25 P.length = x.1 ∧ σ' 26 P.length = x.2.1 ∧ σ' 27 P.length = x.2.2) (h3 : ∀ i, i < P.length → σ' 25 i = σ 25 i ∧ σ' 26 i = σ 26 i ∧ σ' 27 i = σ 27 i) : omPC (x :: P) σ' := by
  refine ⟨h1, hl, fun i y hy => ?_⟩
  rcases om_rev_cases hy with ⟨rfl, rfl⟩ | ⟨hi, hy⟩
  · exact h2
  · obtain ⟨e1, e2, e3⟩ := h3 i hi
    rw [e1, e2, e3]
    exact h.2.2 i y hy
/-- the last piece made longer -/
theorem omPC.grow {T : List omPc} {σ : omH} {x : omPc} {v : Int} (h : omPC (x :: T) σ) : omPC ((x.1, x.2.1, v) :: T) (omsu σ 27 T.length v) := by
  obtain ⟨h1, h2, h3⟩ := h
  refine ⟨by rw [omsu_n (Or.inl (by decide))]; exact h1, h2, fun i y hy => ?_⟩
  rcases om_rev_cases hy with ⟨rfl, rfl⟩ | ⟨hi, hy⟩
  · have := h3 _ x om_rev_head
    rw [omsu_n (Or.inl (by decide)), omsu_n (Or.inl (by decide)), omsu_s]
    exact ⟨this.1, this.2.1, rfl⟩
  · have := h3 i y (by rw [List.reverse_cons, List.getElem?_append_left (by simpa using hi)]; exact hy)
    rw [omsu_n (Or.inl (by decide)), omsu_n (Or.inl (by decide)), omsu_n (Or.inr (by omega))]
    exact this
set_option maxHeartbeats 4000000 in
/-- Plan.add -/
theorem s_X5_add_eq {P : List omPc} {σ : omH} {e : omPc} {B : Int} (hP : omPC P σ) (hl : P.length < 20) (hB : 0 ≤ B ∧ B ≤ 100000) (hok : omPok B P) (h1 : 0 ≤ e.1 ∧ e.1 ≤ 2) (h2 : -1 ≤ e.2.1 ∧ e.2.1 ≤ 9) (h3 : 0 ≤ e.2.2 ∧ e.2.2 ≤ 100000) :
    ∃ σ', s_X5_add e.1 e.2.1 e.2.2 σ = some σ' ∧ omPC (omAdd P e) σ' ∧ omEx [24, 25, 26, 27] σ σ' ∧ σ' 24 0 = σ 24 0 := by
  unfold s_X5_add
  rw [s_X5_now_eq hP, om_b0]
  have hnow := hok.now hB.1
  obtain ⟨c1, c2, c3⟩ := id hP
  rw [c1]
  have ex1 : ∀ v u : Int, ∀ i : Nat, omEx [24, 25, 26, 27] σ (omsu σ 27 i v) := fun v u i => omEx.su (by simp)
  have happ : (∃ σ', (if 0 < omw e.2.2 then (if omw ((P.length : Nat) : Int) < omw 20 then omg (0 ≤ omw ((P.length : Nat) : Int) ∧ omw ((P.length : Nat) : Int) < 20) (omg (0 ≤ omw ((omsu σ 25 (omw ((P.length : Nat) : Int)).toNat e.1) 24 1) ∧ omw ((omsu σ 25 (omw ((P.length : Nat) : Int)).toNat e.1) 24 1) < 20) (omg (0 ≤ omw ((omsu (omsu σ 25 (omw ((P.length : Nat) : Int)).toNat e.1) 26 (omw ((omsu σ 25 (omw ((P.length : Nat) : Int)).toNat e.1) 24 1)).toNat e.2.1) 24 1) ∧ omw ((omsu (omsu σ 25 (omw ((P.length : Nat) : Int)).toNat e.1) 26 (omw ((omsu σ 25 (omw ((P.length : Nat) : Int)).toNat e.1) 24 1)).toNat e.2.1) 24 1) < 20) (some (omsu (omsu (omsu (omsu σ 25 (omw ((P.length : Nat) : Int)).toNat e.1) 26 (omw ((omsu σ 25 (omw ((P.length : Nat) : Int)).toNat e.1) 24 1)).toNat e.2.1) 27 (omw ((omsu (omsu σ 25 (omw ((P.length : Nat) : Int)).toNat e.1) 26 (omw ((omsu σ 25 (omw ((P.length : Nat) : Int)).toNat e.1) 24 1)).toNat e.2.1) 24 1)).toNat (omNow P + e.2.2)) 24 1 (((omsu (omsu (omsu σ 25 (omw ((P.length : Nat) : Int)).toNat e.1) 26 (omw ((omsu σ 25 (omw ((P.length : Nat) : Int)).toNat e.1) 24 1)).toNat e.2.1) 27 (omw ((omsu (omsu σ 25 (omw ((P.length : Nat) : Int)).toNat e.1) 26 (omw ((omsu σ 25 (omw ((P.length : Nat) : Int)).toNat e.1) 24 1)).toNat e.2.1) 24 1)).toNat (omNow P + e.2.2)) 24 1) + 1))))) else some σ) else some σ) = some σ' ∧ omPC (if 0 < e.2.2 then (e.1, e.2.1, omNow P + e.2.2) :: P else P) σ' ∧ omEx [24, 25, 26, 27] σ σ' ∧ σ' 24 0 = σ 24 0) := by
    have d1 : ∀ (τ : omH) (i : Nat) (v : Int), omsu τ 25 i v 24 1 = τ 24 1 := fun τ i v => omsu_n (Or.inl (by decide))
    have d2 : ∀ (τ : omH) (i : Nat) (v : Int), omsu τ 26 i v 24 1 = τ 24 1 := fun τ i v => omsu_n (Or.inl (by decide))
    have d3 : ∀ (τ : omH) (i : Nat) (v : Int), omsu τ 27 i v 24 1 = τ 24 1 := fun τ i v => omsu_n (Or.inl (by decide))
    simp only [d1, d2, d3, c1]
    rw [omw_id (a := e.2.2) (by omega) (by omega), om_wn (show P.length < 2147483648 by omega), show omw 20 = 20 from rfl, Int.toNat_natCast]
    by_cases ht : 0 < e.2.2
    · rw [if_pos ht, if_pos (by omega), omg_t ⟨by omega, by omega⟩, omg_t ⟨by omega, by omega⟩, omg_t ⟨by omega, by omega⟩, if_pos ht]
      refine ⟨_, rfl, ?_, ?_, ?_⟩
      · refine hP.push hl ?_ ?_ ?_
        · rw [omsu_s]; omega
        · refine ⟨?_, ?_, ?_⟩
          · rw [omsu_n (Or.inl (by decide)), omsu_n (Or.inl (by decide)), omsu_n (Or.inl (by decide)), omsu_s]
          · rw [omsu_n (Or.inl (by decide)), omsu_n (Or.inl (by decide)), omsu_s]
          · rw [omsu_n (Or.inl (by decide)), omsu_s]
        · intro i hi
          refine ⟨?_, ?_, ?_⟩
          · rw [omsu_n (Or.inl (by decide)), omsu_n (Or.inl (by decide)), omsu_n (Or.inl (by decide)), omsu_n (Or.inr (by omega))]
          · rw [omsu_n (Or.inl (by decide)), omsu_n (Or.inl (by decide)), omsu_n (Or.inr (by omega)), omsu_n (Or.inl (by decide))]
          · rw [omsu_n (Or.inl (by decide)), omsu_n (Or.inr (by omega)), omsu_n (Or.inl (by decide)), omsu_n (Or.inl (by decide))]
      · exact (((omEx.su (by simp)).trans (omEx.su (by simp))).trans (omEx.su (by simp))).trans (omEx.su (by simp))
      · rw [omsu_n (Or.inr (by decide)), omsu_n (Or.inl (by decide)), omsu_n (Or.inl (by decide)), omsu_n (Or.inl (by decide))]
    · rw [if_neg ht, if_neg ht]
      exact ⟨σ, rfl, hP, omEx.rfl', rfl⟩
  cases P with
  | nil =>
    rw [if_neg (by decide), om_b0, if_pos (show omw 0 = 0 from rfl)]
    obtain ⟨σ', a1, a2, a3⟩ := happ
    refine ⟨σ', a1, ?_, a3⟩
    show omPC (if 0 < e.2.2 then [e] else []) σ'
    have e0 : (e.1, e.2.1, omNow [] + e.2.2) = e := by
      show (e.1, e.2.1, 0 + e.2.2) = e
      rw [Int.zero_add]
    rw [e0] at a2
    exact a2
  | cons x T =>
    have hx := c3 T.length x om_rev_head
    have hxo := hok x List.mem_cons_self
    simp only [List.length_cons] at hl c1 happ ⊢
    have e1 : (((T.length + 1 : Nat) : Int) - 1) = (T.length : Int) := by omega
    rw [if_pos (by rw [om_wn (by omega)]; omega)]
    simp only [e1, om_wn (show T.length < 2147483648 by omega), Int.toNat_natCast]
    rw [omg_t ⟨by omega, by omega⟩, omg_t ⟨by omega, by omega⟩, hx.1, hx.2.1, omw_id (a := x.1) (by omega) (by omega), omw_id (a := e.1) (by omega) (by omega), omw_id (a := x.2.1) (by omega) (by omega), omw_id (a := e.2.1) (by omega) (by omega)]
    by_cases hs : x.1 = e.1 ∧ x.2.1 = e.2.1
    · rw [if_pos hs.1, if_pos hs.2, om_b0, if_neg (by decide), omg_t ⟨by omega, by omega⟩]
      refine ⟨_, rfl, ?_, omEx.su (by simp), by rw [omsu_n (Or.inl (by decide))]⟩
      unfold omAdd
      simp only [hs, and_self, if_true]
      have := hP.grow (v := omNow (x :: T) + e.2.2)
      rw [← hs.1, ← hs.2]
      exact this
    · have hz : (if x.1 = e.1 then (if x.2.1 = e.2.1 then some (1 : Int) else some 0) else some 0) = some 0 := by
        split
        · rename_i ha
          rw [if_neg (fun hb => hs ⟨ha, hb⟩)]
        · rfl
      rw [hz, om_b0, if_pos (show omw 0 = 0 from rfl)]
      obtain ⟨σ', a1, a2, a3⟩ := happ
      refine ⟨σ', a1, ?_, a3⟩
      show omPC (if x.1 = e.1 ∧ x.2.1 = e.2.1 then _ else _) σ'
      rw [if_neg hs]
      exact a2
