/-! ===== the abstract state: a row of whole numbers for each object, by the object's number ===== -/
abbrev omH : Type := Nat → Nat → Int
abbrev omi (a : Int) : Int32 := Int32.ofInt a
/-- the value of an int register that holds a number mod 2^32 -/
def omw (a : Int) : Int := (a + 2147483648) % 4294967296 - 2147483648
/-- the same of 64 bits -/
def omwl (a : Int) : Int := (a + 9223372036854775808) % 18446744073709551616 - 9223372036854775808
theorem omw_eq (a : Int) : (Int32.ofInt a).toInt = omw a := by
  rw [Int32.toInt_ofInt]
  unfold omw
  rw [show Int32.size = 4294967296 from rfl, Int.bmod_def]
  split <;> omega
theorem omwl_eq (a : Int) : (Int64.ofInt a).toInt = omwl a := by
  rw [Int64.toInt_ofInt]
  unfold omwl
  rw [show Int64.size = 18446744073709551616 from rfl, Int.bmod_def]
  split <;> omega
theorem omw_id {a : Int} (h1 : -2147483648 ≤ a) (h2 : a < 2147483648) : omw a = a := by unfold omw; omega
theorem omi_w (a : Int) : omi (omw a) = omi a := by
  rw [← omw_eq]; exact Int32.ofInt_toInt _
theorem omi_inj {a b : Int} : omi a = omi b ↔ omw a = omw b := by
  rw [← omw_eq, ← omw_eq]
  exact ⟨fun h => by rw [show Int32.ofInt a = Int32.ofInt b from h], fun h => Int32.toInt_inj.mp h⟩
def omsu (σ : omH) (o j : Nat) (v : Int) : omH := fun o' j' => if o' = o ∧ j' = j then v else σ o' j'
/-- the objects' numbers and kinds: an array (0 int, 1 long, 2 boolean) and its length, or a class (its place in vwCl) and its fields: none a number, some r the object r, some 999 any object -/
abbrev omD : Type := (Nat × Nat) ⊕ (Nat × List (Option Nat))
def omT : List (Nat × omD) := [
  (16, .inr (7, [some 17, some 24, some 29, some 35, some 38, some 40, some 42])),
  (17, .inr (0, [none, some 18, some 19, some 20, some 21, some 22, some 23])),
  (18, .inl (0, 10)), (19, .inl (0, 10)), (20, .inl (0, 10)), (21, .inl (0, 10)), (22, .inl (0, 10)), (23, .inl (0, 4)),
  (24, .inr (2, [none, none, some 25, some 26, some 27, some 28])),
  (25, .inl (0, 20)), (26, .inl (0, 20)), (27, .inl (0, 20)), (28, .inl (0, 10)),
  (29, .inr (4, [some 30, some 31, some 32, some 33, some 34])),
  (30, .inl (0, 10)), (31, .inl (0, 10)), (32, .inl (0, 10)), (33, .inl (0, 10)), (34, .inl (0, 5120)),
  (35, .inr (3, [some 36, some 37])), (36, .inl (0, 10)), (37, .inl (0, 10)),
  (38, .inr (1, [some 39, some 999, some 999, none])), (39, .inl (0, 10)),
  (40, .inr (5, [some 41])), (41, .inl (0, 10)),
  (42, .inr (6, [none, none, none])),
  (43, .inl (0, 55))]
/-- addresses; the tables' classes; the array classes of int, long, boolean; the script; the texts; the launch -/
abbrev omG : Type := (Nat → Nat) × va_G × (ClassId × ClassId × ClassId) × (Nat × (Nat → Int32)) × (Nat → Nat) × Launch
def omfv (G : omG) (row : Nat → Int) (k : Nat) (d : Option Nat) : Value := match d with
  | none => .int (omi (row k))
  | some r => .ref (G.1 (if r = 999 then (row k).toNat else r))
def omfs (G : omG) (row : Nat → Int) : List (Option Nat) → Nat → List Value
  | [], _ => []
  | d :: t, k => omfv G row k d :: omfs G row t (k + 1)
def oment (G : omG) (row : Nat → Int) (d : omD) : va_E := match d with
  | .inl (_, n) => .inl (G.2.2.1.1, n, .inl (fun j => omi (row j)))
  | .inr (ci, fds) => .inr (ci, omfs G row fds 0)
def omW (G : omG) (σ : omH) : va_W := omT.map (fun e => (G.1 e.1, oment G (σ e.1) e.2))
theorem omW_get {G : omG} {σ : omH} {q o : Nat} {d : omD} (h : omT[q]? = some (o, d)) : (omW G σ)[q]? = some (G.1 o, oment G (σ o) d) := by
  unfold omW
  rw [List.getElem?_map, h]; rfl
theorem omT_nd : ∀ i < omT.length, ∀ j < omT.length, (omT[i]?).map (·.1) = (omT[j]?).map (·.1) → i = j := by decide +kernel
theorem omT_key {i j : Nat} {p q : Nat × omD} (hi : omT[i]? = some p) (hj : omT[j]? = some q) (h : p.1 = q.1) : i = j :=
  omT_nd i (List.getElem?_eq_some_iff.mp hi).1 j (List.getElem?_eq_some_iff.mp hj).1 (by rw [hi, hj]; simp [h])
theorem omW_set {G : omG} {σ : omH} {q o j : Nat} {v : Int} {d : omD} (h : omT[q]? = some (o, d)) {e : va_E} (he : e = oment G (omsu σ o j v o) d) : (omW G σ).set q (G.1 o, e) = omW G (omsu σ o j v) := by
  subst he
  apply List.ext_getElem?
  intro i
  rw [List.getElem?_set]
  split
  · rename_i hq
    subst hq
    have hlt : q < omT.length := (List.getElem?_eq_some_iff.mp h).1
    rw [if_pos (by unfold omW; rw [List.length_map]; exact hlt), omW_get h]
  · rename_i hq
    unfold omW
    rw [List.getElem?_map, List.getElem?_map]
    cases hi : omT[i]? with
    | none => rfl
    | some p =>
      obtain ⟨o', d'⟩ := p
      have hne : o' ≠ o := fun e => hq (omT_key h hi e.symm)
      show some (G.1 o', oment G (σ o') d') = some (G.1 o', oment G (omsu σ o j v o') d')
      have : omsu σ o j v o' = σ o' := by funext j'; simp [omsu, hne]
      rw [this]
/-- the objects lie apart and may be written -/
def omDj (G : omG) (A : Nat → Prop) : Prop := (∀ (i j : Nat) (p q : Nat × omD), omT[i]? = some p → omT[j]? = some q → G.1 p.1 = G.1 q.1 → i = j) ∧ ∀ (k : Nat) (q : Nat × omD), omT[k]? = some q → A (G.1 q.1)
theorem omDj.D {G : omG} {A : Nat → Prop} (h : omDj G A) (σ : omH) : va_D A (omW G σ) := by
  have hs : ∀ (k : Nat) (q : Nat × va_E), (omW G σ)[k]? = some q → ∃ p, omT[k]? = some p ∧ q.1 = G.1 p.1 := by
    intro k q hq
    unfold omW at hq
    rw [List.getElem?_map] at hq
    cases hk : omT[k]? with
    | none => rw [hk] at hq; cases hq
    | some p => rw [hk] at hq; exact ⟨p, rfl, by rw [← Option.some.inj hq]⟩
  refine ⟨fun i j p q hp hq e => ?_, fun k q hq => ?_⟩
  · obtain ⟨p', h1, h2⟩ := hs i p hp
    obtain ⟨q', h3, h4⟩ := hs j q hq
    exact h.1 i j p' q' h1 h3 (by rw [← h2, ← h4]; exact e)
  · obtain ⟨p', h1, h2⟩ := hs k q hq
    rw [h2]; exact h.2 k p' h1
def omA (G : omG) (sz : Nat) : Nat → Prop := fun q => (∃ (k : Nat) (e : Nat × omD), omT[k]? = some e ∧ q = G.1 e.1) ∨ sz ≤ q
abbrev omTys (G : omG) : List (ClassId × FieldType) := [(G.2.2.1.1, .int)]
def omTB : List Cond := lw_tbl.filter goodWord
theorem omTB_in {i : Nat} {w : Cond} (h : lw_tbl[i]? = some w) (hg : goodWord w = true) : w ∈ omTB := List.mem_filter.mpr ⟨List.mem_of_getElem? h, hg⟩
theorem omTB_good : ∀ w ∈ omTB, goodWord w = true := fun _ h => (List.mem_filter.mp h).2
abbrev omCostN : List String := ["GREATEST_LATENESS", "LATE_JOBS", "COMPLETIONS", "WEIGHTED_COMPLETIONS", "WEIGHTED_TARDINESS"]
abbrev omKeyN : List String := ["DUE", "RELEASE", "RATIO"]
abbrev omWayN : List String := ["IN_A_ROW", "WITH_SETUPS", "AS_PRIORITIES"]
abbrev omOrd : List (String × String × String × List Int32) := [("java/lang/Enum", "ordinal", "I", [0, 1, 2, 3, 4])]
/-- a class of exceptions is assignable to itself -/
def omCa (E : String) (U : State) : Prop := ∃ c : ClassId, U.vm.findClass E = some c ∧ U.vm.assignable c c = true
theorem omCa.moved {E : String} {u U : State} (hvm : u.vm.Alike U.vm) (h : omCa E u) : omCa E U := by
  obtain ⟨c, h1, h3⟩ := h
  exact ⟨c, by rw [hvm.findClass]; exact h1, by rw [hvm.assignable]; exact h3⟩
theorem omCa.of {args : Array Value} {s : State} {E : String} (h : (Cond.castable E E).before args s = true) : omCa E s := by
  simp only [Cond.before, Cond.holds, Cond.value] at h
  cases h1 : s.vm.findClass E with
  | none => simp [h1] at h
  | some c =>
    simp [h1] at h
    exact ⟨c, h1, h⟩
theorem omCa.word {args : Array Value} {s : State} {E : String} (h : omCa E s) : (Cond.castable E E).before args s = true := by
  obtain ⟨c, h1, h3⟩ := h
  simp [Cond.before, Cond.holds, Cond.value, h1, h3]
/-- what nobody writes: the enums' constants, the switches' tables, the script, two statics of Throwable's, the texts -/
def omRO (G : omG) (A : Nat → Prop) (U : State) (H : Heap) : Prop :=
  va_En RX1 "LOneMachine$Cost;" omCostN omOrd (fun i => G.1 (0 + i)) A U H ∧
  va_En RX3 "LOneMachine$Key;" omKeyN omOrd (fun i => G.1 (5 + i)) A U H ∧
  va_En RX9 "LOneMachine$Way;" omWayN omOrd (fun i => G.1 (8 + i)) A U H ∧
  (va_Z RX0 "$SwitchMap$OneMachine$Cost" "[I" (.ref (G.1 11)) A U H ∧ va_T .int (G.1 11) 5 (fun j => .int (omi (j + 1))) A U H) ∧
  (va_Z RX0 "$SwitchMap$OneMachine$Key" "[I" (.ref (G.1 12)) A U H ∧ va_T .int (G.1 12) 3 (fun j => .int (omi (j + 1))) A U H) ∧
  (va_Z RX0 "$SwitchMap$OneMachine$Way" "[I" (.ref (G.1 13)) A U H ∧ va_T .int (G.1 13) 3 (fun j => .int (omi (j + 1))) A U H) ∧
  va_T .int (G.1 14) G.2.2.2.1.1 (fun j => .int (G.2.2.2.1.2 j)) A U H ∧
  vx_Zq Bundle.tN "UNASSIGNED_STACK" Bundle.steD A U H ∧ vx_Zq Bundle.tN "SUPPRESSED_SENTINEL" Bundle.listD A U H ∧
  omCa "java/lang/IllegalArgumentException" U ∧ omCa "java/lang/IllegalStateException" U ∧ omCa "java/lang/IndexOutOfBoundsException" U
theorem omRO.moved {G : omG} {A : Nat → Prop} {u U : State} {H : Heap} (hvm : u.vm.Alike U.vm) (h : omRO G A u H) : omRO G A U H := by
  obtain ⟨h1, h2, h3, ⟨h4, h4'⟩, ⟨h5, h5'⟩, ⟨h6, h6'⟩, h7, h8, h9, h13, h14, h15⟩ := h
  exact ⟨h1.moved hvm, h2.moved hvm, h3.moved hvm, ⟨h4.moved hvm, h4'.moved hvm⟩, ⟨h5.moved hvm, h5'.moved hvm⟩, ⟨h6.moved hvm, h6'.moved hvm⟩, h7.moved hvm, h8.moved hvm, h9.moved hvm, h13.moved hvm, h14.moved hvm, h15.moved hvm⟩
theorem omRO.kept {G : omG} {A : Nat → Prop} {U : State} {H H1 : Heap} (h : omRO G A U H) (hq : ∀ a : Nat, a < H.size → ¬ A a → H1[a]? = H[a]?) : omRO G A U H1 := by
  obtain ⟨h1, h2, h3, ⟨h4, h4'⟩, ⟨h5, h5'⟩, ⟨h6, h6'⟩, h7, h8, h9, h13, h14, h15⟩ := h
  exact ⟨h1.kept hq, h2.kept hq, h3.kept hq, ⟨h4.kept hq, h4'.kept hq⟩, ⟨h5.kept hq, h5'.kept hq⟩, ⟨h6.kept hq, h6'.kept hq⟩, h7.kept hq, h8.kept hq, h9.kept hq, h13, h14, h15⟩
theorem omRO.narrow {G : omG} {A B : Nat → Prop} {U : State} {H : Heap} (h : omRO G A U H) (hAB : ∀ q, B q → A q) : omRO G B U H := by
  obtain ⟨h1, h2, h3, ⟨h4, h4'⟩, ⟨h5, h5'⟩, ⟨h6, h6'⟩, h7, h8, h9, h13, h14, h15⟩ := h
  exact ⟨h1.narrow hAB, h2.narrow hAB, h3.narrow hAB, ⟨h4.narrow hAB, h4'.narrow hAB⟩, ⟨h5.narrow hAB, h5'.narrow hAB⟩, ⟨h6.narrow hAB, h6'.narrow hAB⟩, h7.narrow hAB, h8.narrow hAB, h9.narrow hAB, h13, h14, h15⟩
/-- the exceptions' classes by number -/
def omE : Nat → String := fun n => match n with
  | 1 => "java/lang/IllegalArgumentException"
  | 2 => "java/lang/IllegalStateException"
  | _ => "java/lang/IndexOutOfBoundsException"
theorem omRO.ca {G : omG} {A : Nat → Prop} {U : State} {H : Heap} (h : omRO G A U H) (n : Nat) : omCa (omE n) U := by
  obtain ⟨-, -, -, -, -, -, -, -, -, h13, h14, h15⟩ := h
  unfold omE
  split
  · exact h13
  · exact h14
  · exact h15
