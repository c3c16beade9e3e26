/-! ===== what completions cost ===== -/
def omMx : Nat → (Nat → Int) → Int
  | 0, _ => -1000000
  | n + 1, g => max (omMx n g) (g n)
def omTd (d w C : Nat → Int) (j : Nat) : Int := w j * max 0 (C j - d j)
/-- by 0 the greatest lateness, 1 how many are late, 2 the completions, 3 weighted, 4 weighted tardiness -/
def omCs (c : Nat) (d w C : Nat → Int) (j : Nat) : Int := if c = 0 then C j - d j else if c = 1 then (if 0 < C j - d j then 1 else 0) else if c = 2 then C j else if c = 3 then w j * C j else omTd d w C j
def omTot (n c : Nat) (d w C : Nat → Int) : Int := if c = 0 then omMx n (omCs 0 d w C) else omSum n (omCs c d w C)
theorem omMx_congr {n : Nat} {g g' : Nat → Int} (h : ∀ j, j < n → g j = g' j) : omMx n g = omMx n g' := by
  induction n with
  | zero => rfl
  | succ n ih =>
    show max (omMx n g) (g n) = max (omMx n g') (g' n)
    rw [ih (fun j hj => h j (by omega)), h n (by omega)]
theorem omSum_congr {n : Nat} {g g' : Nat → Int} (h : ∀ j, j < n → g j = g' j) : omSum n g = omSum n g' := by
  induction n with
  | zero => rfl
  | succ n ih =>
    show omSum n g + g n = omSum n g' + g' n
    rw [ih (fun j hj => h j (by omega)), h n (by omega)]
theorem omCs_congr {c : Nat} {d w C C' : Nat → Int} {j : Nat} (h : C j = C' j) : omCs c d w C j = omCs c d w C' j := by
  unfold omCs omTd
  rw [h]
theorem omTot_congr {n c : Nat} {d w C C' : Nat → Int} (h : ∀ j, j < n → C j = C' j) : omTot n c d w C = omTot n c d w C' := by
  unfold omTot
  split
  · exact omMx_congr (fun j hj => omCs_congr (h j hj))
  · exact omSum_congr (fun j hj => omCs_congr (h j hj))
theorem omMx_rng {n : Nat} {g : Nat → Int} {B : Int} (hB : -1000000 ≤ B) (h : ∀ j, j < n → -1000000 ≤ g j ∧ g j ≤ B) : -1000000 ≤ omMx n g ∧ omMx n g ≤ B := by
  induction n with
  | zero => exact ⟨Int.le_refl _, hB⟩
  | succ n ih =>
    have h1 := ih (fun j hj => h j (by omega))
    have h2 := h n (by omega)
    show -1000000 ≤ max (omMx n g) (g n) ∧ max (omMx n g) (g n) ≤ B
    omega
theorem omSum_rng {n : Nat} {g : Nat → Int} {B : Int} (h : ∀ j, j < n → 0 ≤ g j ∧ g j ≤ B) : 0 ≤ omSum n g ∧ omSum n g ≤ n * B := by
  induction n with
  | zero => exact ⟨Int.le_refl _, by show (0 : Int) ≤ 0 * B; omega⟩
  | succ n ih =>
    have h1 := ih (fun j hj => h j (by omega))
    have h2 := h n (by omega)
    show 0 ≤ omSum n g + g n ∧ omSum n g + g n ≤ ((n + 1 : Nat) : Int) * B
    rw [Int.natCast_add, Int.add_mul]
    omega
theorem om_mul_rng {a b A B : Int} (ha : 0 ≤ a ∧ a ≤ A) (hb : 0 ≤ b ∧ b ≤ B) : 0 ≤ a * b ∧ a * b ≤ A * B := by
  refine ⟨Int.mul_nonneg ha.1 hb.1, ?_⟩
  calc a * b ≤ A * b := Int.mul_le_mul_of_nonneg_right ha.2 hb.1
    _ ≤ A * B := Int.mul_le_mul_of_nonneg_left hb.2 (by omega)
/-- completions in their range -/
def omCr (n : Nat) (C : Nat → Int) : Prop := ∀ j, j < n → 0 ≤ C j ∧ C j ≤ 1000
theorem omCs_rng {n c : Nat} {p d w r f s C : Nat → Int} (hok : omOk n p d w r f s) (hc : c ≠ 0) {j : Nat} (hj : j < n) (hC : 0 ≤ C j ∧ C j ≤ 1000) : 0 ≤ omCs c d w C j ∧ omCs c d w C j ≤ 20000 := by
  have ho := hok.2.1 j hj
  unfold omCs omTd
  rw [if_neg hc]
  split
  · split <;> omega
  · split
    · omega
    · split
      · have := om_mul_rng (a := w j) (A := 20) (by omega) hC
        omega
      · have := om_mul_rng (a := w j) (A := 20) (b := max 0 (C j - d j)) (B := 1000) (by omega) (by omega)
        omega
theorem omTot_rng {n c : Nat} {p d w r f s C : Nat → Int} (hok : omOk n p d w r f s) (hC : omCr n C) : -1000000 ≤ omTot n c d w C ∧ omTot n c d w C ≤ 200000 := by
  have hn := hok.1
  unfold omTot
  split
  · exact omMx_rng (by decide) (fun j hj => by
      have := hok.2.1 j hj
      have := hC j hj
      unfold omCs
      rw [if_pos rfl]
      omega)
  · rename_i hc
    have := omSum_rng (g := omCs c d w C) (B := 20000) (fun j hj => omCs_rng (c := c) hok hc hj (hC j hj))
    omega
theorem s_X1_with_eq {n : Nat} {p d w r f s C : Nat → Int} {σ : omH} (hok : omOk n p d w r f s) (hv : omCv n p d w r f s σ) {c j : Nat} {a : Int} (hc : c < 5) (hj : j < n) (hC : 0 ≤ C j ∧ C j ≤ 1000) (ha : -1000000 ≤ a ∧ a ≤ 1200000) : s_X1_with c a j (C j) σ = some (if c = 0 then max a (omCs 0 d w C j) else a + omCs c d w C j) := by
  obtain ⟨h17, h18, h19, h20, h21, h22, h23⟩ := hv
  have hn := hok.1
  have ho := hok.2.1 j hj
  unfold s_X1_with
  rw [h19, h20, om_wn (by omega), omg_t ⟨by omega, by omega⟩, omg_t ⟨by omega, by omega⟩, Int.toNat_natCast]
  have hcs : c = 0 ∨ c = 1 ∨ c = 2 ∨ c = 3 ∨ c = 4 := by omega
  rcases hcs with rfl | rfl | rfl | rfl | rfl
  · rw [omg_t (by decide), if_pos (by decide), if_pos rfl, omw_id (a := a) (by omega) (by omega), omw_id (a := C j - d j) (by omega) (by omega)]
    rfl
  · rw [omg_t (by decide), if_neg (by decide), if_pos (by decide), omw_id (a := C j - d j) (by omega) (by omega)]
    show (if 0 < C j - d j then some (a + 1) else some a) = some (a + if 0 < C j - d j then 1 else 0)
    split <;> simp
  · rw [omg_t (by decide), if_neg (by decide), if_neg (by decide), if_pos (by decide), if_neg (by decide)]
    rfl
  · rw [omg_t (by decide), if_neg (by decide), if_neg (by decide), if_neg (by decide), if_pos (by decide), if_neg (by decide), omg_t ⟨by omega, by omega⟩]
    rfl
  · rw [omg_t (by decide), if_neg (by decide), if_neg (by decide), if_neg (by decide), if_neg (by decide), if_pos (by decide), if_neg (by decide), omg_t ⟨by omega, by omega⟩, om_w0, omw_id (a := C j - d j) (by omega) (by omega)]
    rfl
theorem l_X5_total_8_eq {n : Nat} {p d w r f s : Nat → Int} {σ : omH} (hok : omOk n p d w r f s) (hv : omCv n p d w r f s σ) {c : Nat} (hc : c < 5) (hC : omCr n (σ 28)) : ∀ (m k fuel : Nat), k + m = n → m < fuel → l_X5_total_8 c σ fuel (if c = 0 then omMx k (omCs 0 d w (σ 28)) else omSum k (omCs c d w (σ 28))) k = some (omTot n c d w (σ 28)) := by
  have hn := hok.1
  have h17 := hv.1
  intro m
  induction m with
  | zero =>
    intro k fuel hk hf
    obtain ⟨fuel, rfl⟩ : ∃ z, fuel = z + 1 := ⟨fuel - 1, by omega⟩
    have : k = n := by omega
    subst this
    rw [l_X5_total_8.eq_2, h17, if_neg (by omega)]
    rfl
  | succ m ih =>
    intro k fuel hk hf
    obtain ⟨fuel, rfl⟩ : ∃ z, fuel = z + 1 := ⟨fuel - 1, by omega⟩
    have hacc : -1000000 ≤ (if c = 0 then omMx k (omCs 0 d w (σ 28)) else omSum k (omCs c d w (σ 28))) ∧ (if c = 0 then omMx k (omCs 0 d w (σ 28)) else omSum k (omCs c d w (σ 28))) ≤ 1200000 := by
      have := omTot_rng (n := k) (c := c) (C := σ 28) (p := p) (d := d) (w := w) (r := r) (f := f) (s := s) ⟨by omega, fun j hj => hok.2.1 j (by omega), hok.2.2⟩ (fun j hj => hC j (by omega))
      unfold omTot at this
      omega
    rw [l_X5_total_8.eq_2, h17, om_wn (show k < 2147483648 by omega), om_wn (show n < 2147483648 by omega), if_pos (by omega), omg_t ⟨by omega, by omega⟩, omg_t ⟨by omega, hc⟩, Int.toNat_natCast, s_X1_with_eq hok hv hc (by omega) (hC k (by omega)) hacc, om_b0, show ((k : Int) + 1) = ((k + 1 : Nat) : Int) by omega]
    rw [← ih (k + 1) fuel (by omega) (by omega)]
    congr 1
    by_cases h0 : c = 0
    · simp only [if_pos h0]; rfl
    · simp only [if_neg h0]; rfl
theorem s_X5_total_eq {n : Nat} {p d w r f s : Nat → Int} {σ : omH} (hok : omOk n p d w r f s) (hv : omCv n p d w r f s σ) {c : Nat} (hc : c < 5) (hC : omCr n (σ 28)) : s_X5_total c σ = some (omTot n c d w (σ 28)) := by
  have hn := hok.1
  unfold s_X5_total s_X1_ofNoJob
  rw [omg_t ⟨by omega, hc⟩, omg_t ⟨by omega, hc⟩, omg_t ⟨by omega, hc⟩]
  have := l_X5_total_8_eq hok hv hc hC n 0 FU (by omega) (by rw [FU_eq]; omega)
  by_cases h0 : c = 0
  · rw [if_pos h0, om_b0]
    rw [if_pos h0] at this
    have h1 : l_X5_total_8 c σ FU (-1000000) 0 = some (omTot n c d w (σ 28)) := this
    rw [h1]
    rfl
  · rw [if_neg h0, om_b0]
    rw [if_neg h0] at this
    have h1 : l_X5_total_8 c σ FU 0 0 = some (omTot n c d w (σ 28)) := this
    rw [h1]
    rfl
