/-! ===== by families: the class's rows ===== -/
def omSb (a S : Nat) : Prop := ∀ i, a.testBit i = true → S.testBit i = true
theorem om_without {a S : Nat} (ha : a < 1024) (hS : S < 1024) : omand (a : Int) (omxor (S : Int) (-1)) = ((a ^^^ (a &&& S) : Nat) : Int) := by
  have e0 : omi (omxor (S : Int) (-1)) = omi (S : Int) ^^^ omi (-1) := Int32.ofInt_toInt _
  unfold omand
  rw [e0]
  have e : ∀ c : Nat, c < 2147483648 → (omi (c : Int)).toBitVec.toNat = c := by
    intro c hc
    rw [omi_nat]
    omega
  have em : (omi (-1)).toBitVec.toNat = 2 ^ 32 - 1 := by decide
  have h1 : ((omi (a : Int)) &&& ((omi (S : Int)) ^^^ omi (-1))).toBitVec.toNat = a ^^^ (a &&& S) := by
    rw [Int32.toBitVec_and, BitVec.toNat_and, Int32.toBitVec_xor, BitVec.toNat_xor, e a (by omega), e S (by omega), em]
    refine Nat.eq_of_testBit_eq (fun i => ?_)
    rw [Nat.testBit_and, Nat.testBit_xor, Nat.testBit_xor, Nat.testBit_and, Nat.testBit_two_pow_sub_one]
    by_cases hi : i < 32
    · simp only [hi, decide_true]
      cases a.testBit i <;> cases S.testBit i <;> rfl
    · have : a.testBit i = false := Nat.testBit_lt_two_pow (Nat.lt_of_lt_of_le (show a < 2 ^ 10 from ha) (Nat.pow_le_pow_right (by decide) (by omega)))
      rw [this]
      rfl
  have h2 : a ^^^ (a &&& S) < 2 ^ 10 := Nat.xor_lt_two_pow ha (Nat.lt_of_le_of_lt Nat.and_le_left ha)
  show (BitVec.toInt _) = _
  rw [BitVec.toInt_eq_toNat_of_lt (by rw [h1]; omega), h1]
theorem omSb_iff {a S : Nat} : a ^^^ (a &&& S) = 0 ↔ omSb a S := by
  refine ⟨fun h i hi => ?_, fun h => Nat.eq_of_testBit_eq (fun i => ?_)⟩
  · have h1 : (a ^^^ (a &&& S)).testBit i = false := by rw [h]; exact Nat.zero_testBit i
    rw [Nat.testBit_xor, Nat.testBit_and, hi] at h1
    cases hS : S.testBit i
    · rw [hS] at h1; cases h1
    · rfl
  · rw [Nat.zero_testBit, Nat.testBit_xor, Nat.testBit_and]
    cases ha : a.testBit i
    · rfl
    · rw [h i ha]; rfl
theorem om_without_if {a S : Nat} {α : Type} {x y : α} (ha : a < 1024) (hS : S < 1024) : (omSb a S → (if omw (omand (a : Int) (omxor (S : Int) (-1))) = 0 then x else y) = x) ∧ (¬ omSb a S → (if omw (omand (a : Int) (omxor (S : Int) (-1))) = 0 then x else y) = y) := by
  have h2 : a ^^^ (a &&& S) < 2 ^ 10 := Nat.xor_lt_two_pow ha (Nat.lt_of_le_of_lt Nat.and_le_left ha)
  rw [om_without ha hS, om_wn (by omega)]
  refine ⟨fun h => if_pos (by rw [omSb_iff.mpr h]; rfl), fun h => if_neg (fun h0 => h (omSb_iff.mp ?_))⟩
  omega
/-- the sets that must be done ahead, in the class's row -/
def omMd (n : Nat) (d f : Nat → Int) (σ : omH) : Prop := ∀ j, j < n → ∃ a : Nat, σ 33 j = (a : Int) ∧ a < 2 ^ n ∧ ∀ i, a.testBit i = true ↔ (i < n ∧ f i = f j ∧ omBk d i j)
theorem omMd.ex {n : Nat} {d f : Nat → Int} {W : List Nat} {σ σ' : omH} (h : omMd n d f σ) (he : omEx W σ σ') (hW : 33 ∉ W) : omMd n d f σ' := by
  intro j hj
  rw [he 33 hW]
  exact h j hj
theorem omBk_irr {d : Nat → Int} {j : Nat} : ¬ omBk d j j := by unfold omBk; omega
/-- a set that keeps the order in each family -/
def omKs (n : Nat) (d f : Nat → Int) (S : Nat) : Prop := ∀ j, j < n → S.testBit j = true → ∀ i, i < n → f i = f j → omBk d i j → S.testBit i = true
theorem omNx_iff {n S j : Nat} {d f : Nat → Int} {a : Nat} (ha : ∀ i, a.testBit i = true ↔ (i < n ∧ f i = f j ∧ omBk d i j)) : omNx n d f S j ↔ ¬ S.testBit j = true ∧ omSb a S := by
  unfold omNx omSb
  refine ⟨fun h => ⟨h.1, fun i hi => ?_⟩, fun h => ⟨h.1, fun i hi h1 h2 h3 h4 => h3 (h.2 i ((ha i).mpr ⟨hi, h2, h4⟩))⟩⟩
  obtain ⟨h1, h2, h3⟩ := (ha i).mp hi
  refine Classical.byContradiction (fun hb => h.2 i h1 (fun he => ?_) h2 hb h3)
  subst he
  exact omBk_irr h3
theorem omKs_ins {n S j : Nat} {d f : Nat → Int} (h : omKs n d f S) (hj : omNx n d f S j) : omKs n d f (S ||| 2 ^ j) := by
  intro x hx hb i hi hf hbk
  rw [om_ins_bit] at hb ⊢
  by_cases hxj : j = x
  · subst hxj
    cases hS : S.testBit i
    · exact absurd hbk (hj.2 i hi (fun he => by subst he; exact omBk_irr hbk) hf (by rw [hS]; decide))
    · rfl
  · have hb' : S.testBit x = true := by simpa [hxj] using hb
    rw [h x hx hb' i hi hf hbk]; rfl
theorem omKs_0 {n : Nat} {d f : Nat → Int} : omKs n d f 0 := fun j hj hb => by rw [Nat.zero_testBit] at hb; cases hb
theorem omKs_full {n : Nat} {d f : Nat → Int} : omKs n d f (2 ^ n - 1) := fun j hj hb i hi _ _ => om_full_bit hi
/-- who can be next, if not all are done -/
theorem omNx_ex {n S : Nat} {d f : Nat → Int} {q : Nat → Nat} (hq : omSt (omBk d) n q) (h : ∃ j, j < n ∧ ¬ S.testBit j = true) : ∃ j, j < n ∧ omNx n d f S j := by
  have hso := omBk_so n d
  have key : ∀ k, k ≤ n → (∀ i, i < k → S.testBit (q i) = true) ∨ ∃ j, j < n ∧ omNx n d f S j := by
    intro k
    induction k with
    | zero => intro _; exact Or.inl (fun i hi => by omega)
    | succ k ih =>
      intro hk
      rcases ih (by omega) with h1 | h1
      · by_cases hb : S.testBit (q k) = true
        · exact Or.inl (fun i hi => by
            by_cases hik : i = k
            · subst hik; exact hb
            · exact h1 i (by omega))
        · refine Or.inr ⟨q k, hq.1 k (by omega), hb, fun i hi hne _ hbi hbk => ?_⟩
          obtain ⟨x, hx, hxi⟩ := hq.2.1 i hi
          rcases Nat.lt_trichotomy x k with h2 | h2 | h2
          · exact hbi (by rw [← hxi]; exact h1 x h2)
          · subst h2; exact hne hxi.symm
          · have := hq.2.2 k x h2 hx
            rw [hxi] at this
            exact hso.asym (hq.1 k (by omega)) hi this hbk
      · exact Or.inr h1
  rcases key n (Nat.le_refl n) with h1 | h1
  · obtain ⟨j, hj, hb⟩ := h
    obtain ⟨x, hx, hxj⟩ := hq.2.1 j hj
    exact absurd (h1 x hx) (by rw [hxj]; exact hb)
  · exact h1
/-- the set that is filled in for a place's job -/
def omMb (f : Nat → Int) (q : Nat → Nat) (k : Nat) : Nat → Nat
  | 0 => 0
  | m + 1 => if f (q m) = f (q k) then omMb f q k m ||| 2 ^ (q m) else omMb f q k m
theorem omMb_lt {n k : Nat} {f : Nat → Int} {q : Nat → Nat} (hq : ∀ i, i < n → q i < n) : ∀ m, m ≤ n → omMb f q k m < 2 ^ n := by
  intro m
  induction m with
  | zero => intro _; exact Nat.two_pow_pos n
  | succ m ih =>
    intro hm
    show (if f (q m) = f (q k) then omMb f q k m ||| 2 ^ (q m) else omMb f q k m) < 2 ^ n
    split
    · exact om_ins_lt (ih (by omega)) (hq m (by omega))
    · exact ih (by omega)
theorem omMb_bit {f : Nat → Int} {q : Nat → Nat} {k b : Nat} : ∀ m, (omMb f q k m).testBit b = true ↔ ∃ i, i < m ∧ q i = b ∧ f (q i) = f (q k) := by
  intro m
  induction m with
  | zero =>
    refine ⟨fun h => ?_, fun ⟨i, hi, _⟩ => by omega⟩
    have : (0 : Nat).testBit b = true := h
    rw [Nat.zero_testBit] at this; cases this
  | succ m ih =>
    have e0 : omMb f q k (m + 1) = if f (q m) = f (q k) then omMb f q k m ||| 2 ^ (q m) else omMb f q k m := rfl
    by_cases hf : f (q m) = f (q k)
    · rw [e0, if_pos hf, om_ins_bit]
      refine ⟨fun h => ?_, fun ⟨i, hi, h1, h2⟩ => ?_⟩
      · by_cases hb : q m = b
        · exact ⟨m, by omega, hb, hf⟩
        · have h' : (omMb f q k m).testBit b = true := by simpa [hb] using h
          obtain ⟨i, hi, h2⟩ := ih.mp h'
          exact ⟨i, by omega, h2⟩
      · by_cases him : i = m
        · subst him; simp [h1]
        · rw [ih.mpr ⟨i, by omega, h1, h2⟩]; rfl
    · rw [e0, if_neg hf, ih]
      refine ⟨fun ⟨i, hi, h⟩ => ⟨i, by omega, h⟩, fun ⟨i, hi, h1, h2⟩ => ⟨i, ?_, h1, h2⟩⟩
      by_cases him : i = m
      · subst him; exact absurd h2 hf
      · omega
theorem l_X7_fillMustBeDone_38_eq {n k : Nat} {p d w r f s : Nat → Int} {q : Nat → Nat} (hok : omOk n p d w r f s) (hq : ∀ i, i < n → q i < n) (hk : k < n) : ∀ (l m fuel : Nat) (σ : omH), m + l = k → l < fuel → omCv n p d w r f s σ → (∀ i, i < n → σ 31 i = q i) → σ 33 (q k) = (omMb f q k m : Nat) →
    ∃ σ', l_X7_fillMustBeDone_38 k (q k) fuel m σ = some σ' ∧ omEx [33] σ σ' ∧ (∀ i, i ≠ q k → σ' 33 i = σ 33 i) ∧ σ' 33 (q k) = (omMb f q k k : Nat) := by
  have hn := hok.1
  have hpw := om_pow_le hn
  have hqk := hq k hk
  have hok2 := hok.2.1 (q k) hqk
  intro l
  induction l with
  | zero =>
    intro m fuel σ hm hf hc hr h0
    obtain ⟨fuel, rfl⟩ : ∃ z, fuel = z + 1 := ⟨fuel - 1, by omega⟩
    have : m = k := by omega
    subst this
    rw [l_X7_fillMustBeDone_38.eq_2, if_neg (Int.lt_irrefl _)]
    exact ⟨σ, rfl, omEx.rfl', fun _ _ => rfl, h0⟩
  | succ l ih =>
    intro m fuel σ hm hf hc hr h0
    obtain ⟨fuel, rfl⟩ : ∃ z, fuel = z + 1 := ⟨fuel - 1, by omega⟩
    have hqm := hq m (by omega)
    have hok1 := hok.2.1 (q m) hqm
    have hlt := omMb_lt (f := f) (k := k) hq m (by omega)
    have e0 : omMb f q k (m + 1) = if f (q m) = f (q k) then omMb f q k m ||| 2 ^ (q m) else omMb f q k m := rfl
    rw [l_X7_fillMustBeDone_38.eq_2, om_wn (show m < 2147483648 by omega), om_wn (show k < 2147483648 by omega), if_pos (by omega), Int.toNat_natCast, hr m (by omega), om_wn (show q m < 2147483648 by omega), om_wn (show q k < 2147483648 by omega), Int.toNat_natCast, Int.toNat_natCast, hc.2.2.2.2.2.1, omw_id (a := f (q m)) (by omega) (by omega), omw_id (a := f (q k)) (by omega) (by omega), omg_t ⟨by omega, by omega⟩, omg_t ⟨by omega, by omega⟩, omg_t ⟨by omega, by omega⟩, h0, om_ins (by omega) (by omega), show ((m : Int) + 1) = ((m + 1 : Nat) : Int) by omega]
    by_cases hfe : f (q m) = f (q k)
    · rw [if_pos hfe] at e0
      rw [if_pos hfe, omg_t ⟨by omega, by omega⟩, omg_t ⟨by omega, by omega⟩, omg_t ⟨by omega, by omega⟩, ← e0]
      have ex1 : omEx [33] σ (omsu σ 33 (q k) (omMb f q k (m + 1) : Nat)) := omEx.su (by simp)
      obtain ⟨σ', z1, z2, z3, z4⟩ := ih (m + 1) fuel (omsu σ 33 (q k) (omMb f q k (m + 1) : Nat)) (by omega) (by omega) (hc.ex ex1 (by simp)) (fun i hi => by rw [ex1 31 (by simp)]; exact hr i hi) omsu_s
      exact ⟨σ', z1, ex1.trans z2, fun i hi => by rw [z3 i hi, omsu_n (Or.inr hi)], z4⟩
    · rw [if_neg hfe] at e0
      rw [if_neg hfe]
      exact ih (m + 1) fuel σ (by omega) (by omega) hc hr (by rw [e0]; exact h0)
theorem l_X7_fillMustBeDone_13_eq {n : Nat} {p d w r f s : Nat → Int} {q : Nat → Nat} (hok : omOk n p d w r f s) (hq : ∀ i, i < n → q i < n) (hinj : ∀ i k, i < n → k < n → q i = q k → i = k) : ∀ (l k fuel : Nat) (σ : omH), k + l = n → l < fuel → omCv n p d w r f s σ → (∀ i, i < n → σ 31 i = q i) → (∀ i, i < k → σ 33 (q i) = (omMb f q i i : Nat)) →
    ∃ σ', l_X7_fillMustBeDone_13 fuel k σ = some σ' ∧ omEx [33] σ σ' ∧ ∀ i, i < n → σ' 33 (q i) = (omMb f q i i : Nat) := by
  have hn := hok.1
  intro l
  induction l with
  | zero =>
    intro k fuel σ hk hf hc hr h0
    obtain ⟨fuel, rfl⟩ : ∃ z, fuel = z + 1 := ⟨fuel - 1, by omega⟩
    have : k = n := by omega
    subst this
    rw [l_X7_fillMustBeDone_13.eq_2, hc.1, if_neg (by omega)]
    exact ⟨σ, rfl, omEx.rfl', h0⟩
  | succ l ih =>
    intro k fuel σ hk hf hc hr h0
    obtain ⟨fuel, rfl⟩ : ∃ z, fuel = z + 1 := ⟨fuel - 1, by omega⟩
    have hkn : k < n := by omega
    have hqk := hq k hkn
    rw [l_X7_fillMustBeDone_13.eq_2, hc.1, om_wn (show k < 2147483648 by omega), om_wn (show n < 2147483648 by omega), if_pos (by omega), Int.toNat_natCast, hr k hkn, om_wn (show q k < 2147483648 by omega), Int.toNat_natCast, omg_t ⟨by omega, by omega⟩, omg_t ⟨by omega, by omega⟩]
    have ex1 : omEx [33] σ (omsu σ 33 (q k) 0) := omEx.su (by simp)
    obtain ⟨τ, x1, x2, x3, x4⟩ := l_X7_fillMustBeDone_38_eq hok hq hkn k 0 FU (omsu σ 33 (q k) 0) (by omega) (by rw [FU_eq]; omega) (hc.ex ex1 (by simp)) (fun i hi => by rw [ex1 31 (by simp)]; exact hr i hi) (by rw [omsu_s]; rfl)
    have x1' : l_X7_fillMustBeDone_38 k (q k) FU 0 (omsu σ 33 (q k) 0) = some τ := x1
    have ex2 : omEx [33] σ τ := ex1.trans x2
    rw [x1', om_b0, show ((k : Int) + 1) = ((k + 1 : Nat) : Int) by omega]
    obtain ⟨σ', z1, z2, z3⟩ := ih (k + 1) fuel τ (by omega) (by omega) (hc.ex ex2 (by simp)) (fun i hi => by rw [ex2 31 (by simp)]; exact hr i hi) (fun i hi => by
      by_cases hik : i = k
      · subst hik; exact x4
      · have hne : q i ≠ q k := fun he => hik (hinj i k (by omega) hkn he)
        rw [x3 _ hne, omsu_n (Or.inr hne)]
        exact h0 i (by omega))
    exact ⟨σ', z1, ex2.trans z2, z3⟩
theorem s_X7_fillMustBeDone_eq {n : Nat} {p d w r f s : Nat → Int} {σ : omH} (hok : omOk n p d w r f s) (hc : omCv n p d w r f s σ) : ∃ (σ' : omH) (q : Nat → Nat), s_X7_fillMustBeDone σ = some σ' ∧ omEx [31, 33] σ σ' ∧ omSt (omBk d) n q ∧ omMd n d f σ' := by
  have hn := hok.1
  obtain ⟨τ0, q, a1, a2, a3, a4⟩ := s_X2_fillInOrder_eq (c := 5) (a := 31) hok hc (by decide) (by decide)
  have a3' : omSt (omBk d) n q := a3
  have hso := omBk_so n d
  have hinj : ∀ i k, i < n → k < n → q i = q k → i = k := fun i k hi hk he => a3'.inj hso hi hk he
  obtain ⟨σ', z1, z2, z3⟩ := l_X7_fillMustBeDone_13_eq hok a3'.1 hinj n 0 FU τ0 (by omega) (by rw [FU_eq]; omega) (hc.ex a2 (by simp)) a4 (fun i hi => by omega)
  have z1' : l_X7_fillMustBeDone_13 FU 0 τ0 = some σ' := z1
  refine ⟨σ', q, ?_, (a2.mono (by simp)).trans (z2.mono (by simp)), a3', fun j hj => ?_⟩
  · unfold s_X7_fillMustBeDone
    rw [a1, om_b0, z1', om_b0]
  · obtain ⟨k, hk, rfl⟩ := a3'.2.1 j hj
    refine ⟨omMb f q k k, z3 k hk, omMb_lt a3'.1 k (by omega), fun b => ?_⟩
    rw [omMb_bit]
    refine ⟨fun ⟨i, hi, h1, h2⟩ => ?_, fun ⟨h1, h2, h3⟩ => ?_⟩
    · subst h1
      exact ⟨a3'.1 i (by omega), h2, a3'.2.2 i k hi hk⟩
    · obtain ⟨i, hi, rfl⟩ := a3'.2.1 b h1
      refine ⟨i, ?_, rfl, h2⟩
      rcases Nat.lt_trichotomy i k with h4 | h4 | h4
      · exact h4
      · subst h4; exact absurd h3 omBk_irr
      · exact absurd h3 (hso.asym (a3'.1 k hk) h1 (a3'.2.2 k i h4 hi))
