/-! ===== pure facts: registers, bits, states ===== -/
theorem om_wn {k : Nat} (h : k < 2147483648) : omw (k : Int) = k := omw_id (by omega) (by omega)
theorem om_w0 : omw 0 = 0 := rfl
theorem om_w1 : omw 1 = 1 := rfl
theorem om_wm1 : omw (-1) = -1 := rfl
theorem omand_nat {a b : Nat} (ha : a < 2147483648) (hb : b < 2147483648) : omand (a : Int) (b : Int) = ((a &&& b : Nat) : Int) := by
  unfold omand
  have e : ∀ c : Nat, c < 2147483648 → (omi (c : Int)).toBitVec.toNat = c := by
    intro c hc
    rw [omi_nat]
    omega
  have h1 : ((omi (a : Int)) &&& (omi (b : Int))).toBitVec.toNat = a &&& b := by
    rw [Int32.toBitVec_and, BitVec.toNat_and, e a ha, e b hb]
  have h2 : a &&& b < 2147483648 := Nat.lt_of_le_of_lt Nat.and_le_left ha
  show (BitVec.toInt _) = _
  rw [BitVec.toInt_eq_toNat_of_lt (by rw [h1]; omega), h1]
theorem omor_nat {a b : Nat} (ha : a < 2147483648) (hb : b < 2147483648) : omor (a : Int) (b : Int) = ((a ||| b : Nat) : Int) := by
  unfold omor
  have e : ∀ c : Nat, c < 2147483648 → (omi (c : Int)).toBitVec.toNat = c := by
    intro c hc
    rw [omi_nat]
    omega
  have h1 : ((omi (a : Int)) ||| (omi (b : Int))).toBitVec.toNat = a ||| b := by
    rw [Int32.toBitVec_or, BitVec.toNat_or, e a ha, e b hb]
  have h2 : a ||| b < 2 ^ 31 := Nat.or_lt_two_pow ha hb
  show (BitVec.toInt _) = _
  rw [BitVec.toInt_eq_toNat_of_lt (by rw [h1]; omega), h1]
theorem omshl_one {j : Nat} (hj : j < 31) : omshl 1 (j : Int) = ((2 ^ j : Nat) : Int) := by
  unfold omshl
  rw [show ((j : Int) % 32).toNat = j by omega, Int.one_mul, Int.natCast_pow]
  rfl
theorem omshr_nat {a j : Nat} (ha : a < 2147483648) (hj : j < 32) : omshr (a : Int) (j : Int) = ((a >>> j : Nat) : Int) := by
  unfold omshr
  rw [om_wn ha, show ((j : Int) % 32).toNat = j by omega, Nat.shiftRight_eq_div_pow, Int.natCast_ediv, Int.natCast_pow]
  rfl
/-- the bit of a job in a set -/
theorem om_bit {S j : Nat} (hS : S < 2147483648) (hj : j < 32) : omand (omshr (S : Int) (j : Int)) 1 = if S.testBit j then 1 else 0 := by
  rw [omshr_nat hS hj]
  have h1 : S >>> j < 2147483648 := Nat.lt_of_le_of_lt (Nat.shiftRight_le _ _) hS
  rw [show (1 : Int) = ((1 : Nat) : Int) from rfl, omand_nat h1 (by decide)]
  unfold Nat.testBit
  rw [Nat.and_comm 1 (S >>> j), Nat.and_one_is_mod]
  have h2 : S >>> j % 2 = 0 ∨ S >>> j % 2 = 1 := by omega
  rcases h2 with h2 | h2 <;> rw [h2] <;> rfl
theorem om_ins {S j : Nat} (hS : S < 2147483648) (hj : j < 31) : omor (S : Int) (omshl 1 (j : Int)) = ((S ||| 2 ^ j : Nat) : Int) := by
  rw [omshl_one hj]
  refine omor_nat hS ?_
  calc 2 ^ j ≤ 2 ^ 30 := Nat.pow_le_pow_right (by decide) (by omega)
    _ < 2147483648 := by decide
theorem om_ins_lt {S j n : Nat} (hS : S < 2 ^ n) (hj : j < n) : S ||| 2 ^ j < 2 ^ n := Nat.or_lt_two_pow hS (Nat.pow_lt_pow_right (by decide) hj)
theorem om_ins_bit {S j i : Nat} : (S ||| 2 ^ j).testBit i = (S.testBit i || decide (j = i)) := by
  rw [Nat.testBit_or, Nat.testBit_two_pow]
/-- states that agree but for some objects -/
def omEx (W : List Nat) (σ σ' : omH) : Prop := ∀ o, o ∉ W → σ' o = σ o
theorem omEx.rfl' {W : List Nat} {σ : omH} : omEx W σ σ := fun _ _ => rfl
theorem omEx.trans {W : List Nat} {a b c : omH} (h1 : omEx W a b) (h2 : omEx W b c) : omEx W a c := fun o ho => (h2 o ho).trans (h1 o ho)
theorem omEx.mono {W W' : List Nat} {a b : omH} (h : omEx W a b) (hw : ∀ o ∈ W, o ∈ W') : omEx W' a b := fun o ho => h o (fun q => ho (hw o q))
theorem omEx.su {W : List Nat} {σ : omH} {o j : Nat} {v : Int} (ho : o ∈ W) : omEx W σ (omsu σ o j v) := by
  intro o' ho'
  funext j'
  unfold omsu
  have hne : o' ≠ o := fun e => ho' (by rw [e]; exact ho)
  rw [if_neg (fun e => hne e.1)]
theorem omsu_s {σ : omH} {o j : Nat} {v : Int} : omsu σ o j v o j = v := by unfold omsu; rw [if_pos ⟨rfl, rfl⟩]
theorem omsu_n {σ : omH} {o j o' j' : Nat} {v : Int} (h : o' ≠ o ∨ j' ≠ j) : omsu σ o j v o' j' = σ o' j' := by
  unfold omsu
  rw [if_neg]
  rintro ⟨rfl, rfl⟩
  rcases h with h | h <;> exact h rfl
theorem omsu_o {σ : omH} {o j o' : Nat} {v : Int} (h : o' ≠ o) : omsu σ o j v o' = σ o' := by
  funext j'
  exact omsu_n (Or.inl h)
/-- the jobs' data -/
def omOk (n : Nat) (p d w r f s : Nat → Int) : Prop := n ≤ 10 ∧ (∀ j, j < n → 1 ≤ p j ∧ p j ≤ 30 ∧ 0 ≤ d j ∧ d j ≤ 300 ∧ 1 ≤ w j ∧ w j ≤ 20 ∧ 0 ≤ r j ∧ r j ≤ 100 ∧ 0 ≤ f j ∧ f j ≤ 3) ∧ ∀ q, q < 4 → 0 ≤ s q ∧ s q ≤ 20
/-- .. as the class holds them -/
def omCv (n : Nat) (p d w r f s : Nat → Int) (σ : omH) : Prop := σ 17 0 = n ∧ σ 18 = p ∧ σ 19 = d ∧ σ 20 = w ∧ σ 21 = r ∧ σ 22 = f ∧ σ 23 = s
theorem omCv.ex {n : Nat} {p d w r f s : Nat → Int} {W : List Nat} {σ σ' : omH} (h : omCv n p d w r f s σ) (he : omEx W σ σ') (hW : ∀ o ∈ [17, 18, 19, 20, 21, 22, 23], o ∉ W) : omCv n p d w r f s σ' := by
  obtain ⟨h1, h2, h3, h4, h5, h6, h7⟩ := h
  refine ⟨by rw [he 17 (hW _ (by simp))]; exact h1, ?_, ?_, ?_, ?_, ?_, ?_⟩
  · rw [he 18 (hW _ (by simp))]; exact h2
  · rw [he 19 (hW _ (by simp))]; exact h3
  · rw [he 20 (hW _ (by simp))]; exact h4
  · rw [he 21 (hW _ (by simp))]; exact h5
  · rw [he 22 (hW _ (by simp))]; exact h6
  · rw [he 23 (hW _ (by simp))]; exact h7
theorem FU_eq : FU = 10000 := rfl
theorem om_b0 {α β : Type} {a : α} {f : α → Option β} : Option.bind (some a) f = f a := rfl
/-- a sum over the numbers below n -/
def omSum : Nat → (Nat → Int) → Int
  | 0, _ => 0
  | n + 1, g => omSum n g + g n
theorem s_X2_isIn_eq {S j : Nat} {σ : omH} (hS : S < 2147483648) (hj : j < 32) : s_X2_isIn S j σ = some (if S.testBit j then 1 else 0) := by
  unfold s_X2_isIn
  rw [om_bit hS hj]
  cases S.testBit j <;> rfl
theorem l_X2_lengthOfSet_eq {S n : Nat} {σ : omH} (hS : S < 1024) (hn : n ≤ 10) (h17 : σ 17 0 = n) : ∀ (m k fuel : Nat) (a : Int), k + m = n → m < fuel → l_X2_lengthOfSet_4 S σ fuel a k = some (a + (omSum n (fun j => if S.testBit j then σ 18 j else 0) - omSum k (fun j => if S.testBit j then σ 18 j else 0))) := by
  intro m
  induction m with
  | zero =>
    intro k fuel a hk hf
    obtain ⟨fuel, rfl⟩ : ∃ z, fuel = z + 1 := ⟨fuel - 1, by omega⟩
    have : k = n := by omega
    subst this
    rw [l_X2_lengthOfSet_4.eq_2, h17, if_neg (by omega)]
    congr 1
    omega
  | succ m ih =>
    intro k fuel a hk hf
    obtain ⟨fuel, rfl⟩ : ∃ z, fuel = z + 1 := ⟨fuel - 1, by omega⟩
    rw [l_X2_lengthOfSet_4.eq_2, h17]
    simp (disch := omega) only [om_wn, if_pos, s_X2_isIn_eq, om_b0, Int.toNat_natCast, omg_t]
    have e : ∀ g : Nat → Int, omSum (k + 1) g = omSum k g + g k := fun _ => rfl
    cases hb : S.testBit k
    · simp only [hb, Bool.false_eq_true, if_false, om_w0, if_true]
      rw [show ((k : Int) + 1) = ((k + 1 : Nat) : Int) by omega, ih (k + 1) fuel a (by omega) (by omega), e]
      simp only [hb, Bool.false_eq_true, if_false]
      congr 1
      omega
    · simp only [hb, if_true, om_w1]
      rw [if_neg (by decide), show ((k : Int) + 1) = ((k + 1 : Nat) : Int) by omega, ih (k + 1) fuel _ (by omega) (by omega), e]
      simp only [hb, if_true]
      congr 1
      omega
