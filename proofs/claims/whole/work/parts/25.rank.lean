/-! ===== the reference's orders ===== -/
noncomputable def omIf (P : Prop) : Int := @ite Int P (Classical.propDecidable P) 1 0
theorem omIf_t {P : Prop} (h : P) : omIf P = 1 := if_pos h
theorem omIf_f {P : Prop} (h : ¬ P) : omIf P = 0 := if_neg h
/-- how many below n -/
noncomputable def omCnt (n : Nat) (P : Nat → Prop) : Int := omSum n (fun i => omIf (P i))
theorem omCnt_succ {n : Nat} {P : Nat → Prop} : omCnt (n + 1) P = omCnt n P + omIf (P n) := rfl
theorem omCnt_le {n : Nat} {P Q : Nat → Prop} (h : ∀ i, i < n → P i → Q i) : omCnt n P ≤ omCnt n Q := by
  induction n with
  | zero => exact Int.le_refl _
  | succ n ih =>
    have h1 := ih (fun i hi => h i (by omega))
    rw [omCnt_succ, omCnt_succ]
    by_cases hp : P n
    · rw [omIf_t hp, omIf_t (h n (by omega) hp)]; omega
    · rw [omIf_f hp]
      by_cases hq : Q n
      · rw [omIf_t hq]; omega
      · rw [omIf_f hq]; omega
theorem omCnt_lt {n x : Nat} {P Q : Nat → Prop} (h : ∀ i, i < n → P i → Q i) (hx : x < n) (h1 : ¬ P x) (h2 : Q x) : omCnt n P < omCnt n Q := by
  induction n with
  | zero => omega
  | succ n ih =>
    rw [omCnt_succ, omCnt_succ]
    by_cases hxn : x = n
    · subst hxn
      have := omCnt_le (n := x) (fun i hi => h i (by omega))
      rw [omIf_f h1, omIf_t h2]; omega
    · have h3 := ih (fun i hi => h i (by omega)) (by omega)
      by_cases hp : P n
      · rw [omIf_t hp, omIf_t (h n (by omega) hp)]; omega
      · rw [omIf_f hp]
        by_cases hq : Q n
        · rw [omIf_t hq]; omega
        · rw [omIf_f hq]; omega
theorem omCnt_all {n : Nat} : omCnt n (fun _ => True) = n := by
  induction n with
  | zero => rfl
  | succ n ih => rw [omCnt_succ, ih, omIf_t trivial]; omega
theorem omCnt_0 {n : Nat} {P : Nat → Prop} : 0 ≤ omCnt n P := by
  induction n with
  | zero => exact Int.le_refl _
  | succ n ih =>
    rw [omCnt_succ]
    by_cases hp : P n
    · rw [omIf_t hp]; omega
    · rw [omIf_f hp]; omega
theorem omCnt_congr {n : Nat} {P Q : Nat → Prop} (h : ∀ i, i < n → (P i ↔ Q i)) : omCnt n P = omCnt n Q :=
  Int.le_antisymm (omCnt_le fun i hi => (h i hi).1) (omCnt_le fun i hi => (h i hi).2)
/-- a job's rank in an order -/
noncomputable def omRk (n : Nat) (b : Nat → Nat → Prop) (j : Nat) : Int := omCnt n (fun i => b i j)
theorem omRk_lt {n i j : Nat} {b : Nat → Nat → Prop} (hb : omSO n b) (hi : i < n) (hj : j < n) (h : b i j) : omRk n b i < omRk n b j :=
  omCnt_lt (fun x hx hxi => hb.2.1 x i j hx hi hj hxi h) hi (hb.1 i hi) h
theorem omRk_n {n j : Nat} {b : Nat → Nat → Prop} (hb : omSO n b) (hj : j < n) : 0 ≤ omRk n b j ∧ omRk n b j < n := by
  refine ⟨omCnt_0, ?_⟩
  have := omCnt_lt (n := n) (P := fun i => b i j) (Q := fun _ => True) (fun _ _ _ => trivial) hj (hb.1 j hj) trivial
  rw [omCnt_all] at this
  exact this
theorem omRk_ne {n i j : Nat} {b : Nat → Nat → Prop} (hb : omSO n b) (hi : i < n) (hj : j < n) (h : i ≠ j) : omRk n b i ≠ omRk n b j := by
  rcases hb.2.2 i j hi hj h with h | h
  · have := omRk_lt hb hi hj h; omega
  · have := omRk_lt hb hj hi h; omega
theorem omRk_q {n k : Nat} {b : Nat → Nat → Prop} {q : Nat → Nat} (hb : omSO n b) (hq : omSt b n q) (hk : k < n) : omRk n b (q k) = k := by
  have h1 : ∀ m k, k + m < n → omRk n b (q k) + m ≤ omRk n b (q (k + m)) := by
    intro m
    induction m with
    | zero => intro k _; simp
    | succ m ih =>
      intro k hk
      have h2 := ih k (by omega)
      have h3 := omRk_lt hb (hq.1 (k + m) (by omega)) (hq.1 (k + (m + 1)) hk) (hq.2.2 (k + m) (k + (m + 1)) (by omega) hk)
      omega
  have a1 := h1 k 0 (by omega)
  rw [Nat.zero_add] at a1
  have a2 := (omRk_n hb (hq.1 0 (by omega))).1
  have a3 := h1 (n - 1 - k) k (by omega)
  have a4 := (omRk_n hb (hq.1 (k + (n - 1 - k)) (by omega))).2
  omega
theorem s_X12_comesByDue_eq {n i j : Nat} {p d w r f s : Nat → Int} {σ : omH} (hok : omOk n p d w r f s) (hd : σ 45 = d) (hi : i < n) (hj : j < n) : s_X12_comesByDue i j σ = some (omIf (omBk d i j)) := by
  have hn := hok.1
  have hoi := hok.2.1 i hi
  have hoj := hok.2.1 j hj
  unfold s_X12_comesByDue
  rw [hd, om_wn (show i < 2147483648 by omega), om_wn (show j < 2147483648 by omega), Int.toNat_natCast, Int.toNat_natCast, omw_id (a := d i) (by omega) (by omega), omw_id (a := d j) (by omega) (by omega), omg_t ⟨by omega, by omega⟩, omg_t ⟨by omega, by omega⟩, omg_t ⟨by omega, by omega⟩, omg_t ⟨by omega, by omega⟩]
  by_cases h : omBk d i j
  · rw [omIf_t h]
    unfold omBk at h
    split
    · rfl
    · rw [if_pos (by omega), if_pos (by omega)]
  · rw [omIf_f h]
    unfold omBk at h
    rw [if_neg (by omega)]
    split
    · rw [if_neg (by omega)]
    · rfl
theorem s_X12_comesByRatio_eq {n i j : Nat} {p d w r f s : Nat → Int} {σ : omH} (hok : omOk n p d w r f s) (hv : omMv n p d w r f s σ) (hi : i < n) (hj : j < n) : s_X12_comesByRatio i j σ = some (omIf (omBr w p i j)) := by
  obtain ⟨h1, h44, h45, h46, h47, h48, h49⟩ := hv
  have hn := hok.1
  have hoi := hok.2.1 i hi
  have hoj := hok.2.1 j hj
  have m1 := om_mul_rng (a := w i) (A := 20) (b := p j) (B := 30) (by omega) (by omega)
  have m2 := om_mul_rng (a := w j) (A := 20) (b := p i) (B := 30) (by omega) (by omega)
  unfold s_X12_comesByRatio
  rw [h44, h46, om_wn (show i < 2147483648 by omega), om_wn (show j < 2147483648 by omega), Int.toNat_natCast, Int.toNat_natCast, omw_id (a := w i * p j) (by omega) (by omega), omw_id (a := w j * p i) (by omega) (by omega), omg_t ⟨by omega, by omega⟩, omg_t ⟨by omega, by omega⟩, omg_t ⟨by omega, by omega⟩, omg_t ⟨by omega, by omega⟩]
  by_cases h : omBr w p i j
  · rw [omIf_t h]
    unfold omBr at h
    split
    · rfl
    · rw [if_pos (by omega), if_pos (by omega)]
  · rw [omIf_f h]
    unfold omBr at h
    rw [if_neg (by omega)]
    split
    · rw [if_neg (by omega)]
    · rfl
/-- the key of the reference's flag -/
def omKf (v : Nat) : Nat := if v = 0 then 7 else 5
theorem l_X12_laysOrder_15_eq {n j v : Nat} {p d w r f s : Nat → Int} {σ : omH} (hok : omOk n p d w r f s) (hv : omMv n p d w r f s σ) (hvv : v < 2) (hj : j < n) : ∀ (m k fuel : Nat), k + m = n → m < fuel → l_X12_laysOrder_15 v j σ fuel (omCnt k (fun i => omKb (omKf v) p d w r i j)) k = some (omRk n (omKb (omKf v) p d w r) j) := by
  have hn := hok.1
  have hso := omKb_so (c := omKf v) hok
  intro m
  induction m with
  | zero =>
    intro k fuel hk hf
    obtain ⟨fuel, rfl⟩ : ∃ z, fuel = z + 1 := ⟨fuel - 1, by omega⟩
    have : k = n := by omega
    subst this
    rw [l_X12_laysOrder_15.eq_2, hv.1, if_neg (by omega)]
    rfl
  | succ m ih =>
    intro k fuel hk hf
    obtain ⟨fuel, rfl⟩ : ∃ z, fuel = z + 1 := ⟨fuel - 1, by omega⟩
    rw [l_X12_laysOrder_15.eq_2, hv.1, om_wn (show k < 2147483648 by omega), om_wn (show n < 2147483648 by omega), om_wn (show j < 2147483648 by omega), if_pos (by omega)]
    have e1 : (if omw (v : Int) = 0 then Option.bind (s_X12_comesByRatio k j σ) (fun r3 => some r3) else Option.bind (s_X12_comesByDue k j σ) (fun r4 => some r4)) = some (omIf (omKb (omKf v) p d w r k j)) := by
      rw [om_wn (show v < 2147483648 by omega), s_X12_comesByRatio_eq hok hv (by omega) hj, s_X12_comesByDue_eq hok hv.2.2.1 (by omega) hj]
      have hcs : v = 0 ∨ v = 1 := by omega
      rcases hcs with rfl | rfl
      · rw [if_pos (by decide)]; rfl
      · rw [if_neg (by decide)]; rfl
    rw [e1, om_b0]
    have e2 : (if (k : Int) = j then some (0 : Int) else (if omw (omIf (omKb (omKf v) p d w r k j)) = 0 then some 0 else some 1)) = some (omIf (omKb (omKf v) p d w r k j)) := by
      by_cases hkj : k = j
      · rw [if_pos (by omega)]
        subst hkj
        rw [omIf_f (hso.1 k hj)]
      · rw [if_neg (by omega)]
        by_cases hb : omKb (omKf v) p d w r k j
        · rw [omIf_t hb, if_neg (by decide)]
        · rw [omIf_f hb, if_pos (by decide)]
    rw [e2, om_b0, show ((k : Int) + 1) = ((k + 1 : Nat) : Int) by omega]
    exact ih (k + 1) fuel (by omega) (by omega)
theorem l_X12_laysOrder_2_eq {n v : Nat} {p d w r f s : Nat → Int} (hok : omOk n p d w r f s) (hvv : v < 2) : ∀ (m j fuel : Nat) (σ : omH), j + m = n → m < fuel → omMv n p d w r f s σ → (∀ i, i < j → σ 54 (omRk n (omKb (omKf v) p d w r) i).toNat = i) →
    ∃ σ', l_X12_laysOrder_2 v fuel j σ = some σ' ∧ omEx [54] σ σ' ∧ ∀ i, i < n → σ' 54 (omRk n (omKb (omKf v) p d w r) i).toNat = i := by
  have hn := hok.1
  have hso := omKb_so (c := omKf v) hok
  intro m
  induction m with
  | zero =>
    intro j fuel σ hj hf hv hr
    obtain ⟨fuel, rfl⟩ : ∃ z, fuel = z + 1 := ⟨fuel - 1, by omega⟩
    have : j = n := by omega
    subst this
    rw [l_X12_laysOrder_2.eq_2, hv.1, if_neg (by omega)]
    exact ⟨σ, rfl, omEx.rfl', hr⟩
  | succ m ih =>
    intro j fuel σ hj hf hv hr
    obtain ⟨fuel, rfl⟩ : ∃ z, fuel = z + 1 := ⟨fuel - 1, by omega⟩
    rw [l_X12_laysOrder_2.eq_2, hv.1, om_wn (show j < 2147483648 by omega), om_wn (show n < 2147483648 by omega), if_pos (by omega)]
    have h1 : l_X12_laysOrder_15 v j σ FU 0 0 = _ := l_X12_laysOrder_15_eq hok hv hvv (by omega) n 0 FU (by omega) (by rw [FU_eq]; omega)
    rw [h1, om_b0]
    have hR := omRk_n hso (show j < n by omega)
    rw [omw_id (a := omRk n (omKb (omKf v) p d w r) j) (by omega) (by omega), omg_t ⟨by omega, by omega⟩, show ((j : Int) + 1) = ((j + 1 : Nat) : Int) by omega]
    have ex1 : omEx [54] σ (omsu σ 54 (omRk n (omKb (omKf v) p d w r) j).toNat j) := omEx.su (by simp)
    obtain ⟨σ', z1, z2, z3⟩ := ih (j + 1) fuel (omsu σ 54 (omRk n (omKb (omKf v) p d w r) j).toNat j) (by omega) (by omega) (hv.ex ex1 (by simp)) (fun i hi => by
      by_cases hij : i = j
      · subst hij; rw [omsu_s]
      · have h2 := omRk_ne hso (show i < n by omega) (show j < n by omega) hij
        have h3 := omRk_n hso (show i < n by omega)
        rw [omsu_n (Or.inr (by omega))]
        exact hr i (by omega))
    exact ⟨σ', z1, ex1.trans z2, z3⟩
/-- the reference's laysOrder: the same order -/
theorem s_X12_laysOrder_eq {n v : Nat} {p d w r f s : Nat → Int} {σ : omH} {q : Nat → Nat} (hok : omOk n p d w r f s) (hvv : v < 2) (hv : omMv n p d w r f s σ) (hq : omSt (omKb (omKf v) p d w r) n q) : ∃ σ', s_X12_laysOrder v σ = some σ' ∧ omEx [54] σ σ' ∧ ∀ k, k < n → σ' 54 k = q k := by
  have hn := hok.1
  have hso := omKb_so (c := omKf v) hok
  obtain ⟨σ', z1, z2, z3⟩ := l_X12_laysOrder_2_eq hok hvv n 0 FU σ (by omega) (by rw [FU_eq]; omega) hv (fun i hi => by omega)
  refine ⟨σ', ?_, z2, fun k hk => ?_⟩
  · unfold s_X12_laysOrder
    have z1' : l_X12_laysOrder_2 v FU 0 σ = some σ' := z1
    rw [z1']
    rfl
  · have := z3 (q k) (hq.1 k hk)
    rw [omRk_q hso hq hk, Int.toNat_natCast] at this
    exact this
