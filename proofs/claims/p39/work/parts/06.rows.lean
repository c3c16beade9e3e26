/-! ===== rows: one instruction each, over the abstract state ===== -/
abbrev omX : Type := Program × Launch × Env × Room × State × MethodId × Array Value × List Frame × Method × Code × (State → Prop) × (Nat → Prop) × Nat × Nat
def omL (la : Array Slot) (nL : Nat) (ls : List (Nat × Value)) : Prop := lv_has la nL ls ∧ ∀ q ∈ ls, q.2.category = 1
/-- from here the method comes to its end -/
def omV (G : omG) (x : omX) (nL pc : Nat) (ls : List (Nat × Value)) (st : List Value) (σ : omH) (k : Nat) : Prop := match x with
  | (p, l, e, R, s, m, args, below, meth, c, Q, A, c0, s0) => ∀ (H : Heap) (locs : List Loc) (la : Array Slot), omL la nL ls → va_P G.2.1 vwCl (omW G σ) H → va_S A s.heap H locs → W p l e R s m args below meth c H locs (c0 + k) (s0 + 8 * k) Q (F0 m pc la st)
def omTexts : List (Nat × String) := [(68, "there are 10 jobs"), (93, "there is no such family"), (98, "time is out of range"), (207, "set is below 0 or has a bit of no job"), (228, "length, due, weight, release or family is out of range"), (230, "there is no such job"), (232, "there is no such piece"), (234, "there is no plan"), (236, "there is no job"), (238, "there is no job, or there are more than 7")]
def omTX (G : omG) (U : State) : Prop := ∀ t ∈ omTexts, vk_R RX11 t.1 t.2 (G.2.2.2.2.1 t.1) U
/-- what holds all along a method's body -/
def omC (G : omG) (x : omX) (own : String) (cc : ByteArray) (nL h kc : Nat) : Prop := match x with
  | (p, l, _, R, s, m, args, _, meth, c, _, A, c0, s0) => p.tables.exec = Jvm.exec ∧ c.code = cc ∧ c.maxLocals = nL ∧ s.vm.findClass own = some m.cls ∧ meth.locks = false ∧ (∀ w ∈ omTB, w.before args s = true) ∧ va_K G.2.1 vwCl (omTys G) s ∧ omRO G A s s.heap ∧ omTX G s ∧ omDj G A ∧ (∀ q : Nat, s.heap.size ≤ q → A q) ∧ (l = G.2.2.2.2.2 ∧ l.stackTraces = false) ∧ 8 + h ≤ R.frames ∧ 200 + 40 * h ≤ R.locals ∧ c0 + kc ≤ R.cells ∧ s0 + 8 * kc ≤ R.slots
def omput : List (Nat × Value) → Nat → Value → List (Nat × Value)
  | [], i, v => [(i, v)]
  | q :: t, i, v => bif Nat.beq q.1 i then (i, v) :: t.filter (fun q => !(Nat.beq q.1 i)) else q :: omput t i v
theorem omput_in {l : List (Nat × Value)} {i : Nat} {v : Value} : ∀ q ∈ omput l i v, q = (i, v) ∨ (q ∈ l ∧ q.1 ≠ i) := by
  induction l with
  | nil => intro q h; exact Or.inl (List.mem_singleton.mp h)
  | cons a t ih =>
    intro q h
    unfold omput at h
    cases hb : Nat.beq a.1 i with
    | true =>
      rw [hb] at h
      rcases List.mem_cons.mp h with h | h
      · exact Or.inl h
      · obtain ⟨h1, h2⟩ := List.mem_filter.mp h
        refine Or.inr ⟨List.mem_cons_of_mem _ h1, fun e => ?_⟩
        rw [e] at h2
        simp at h2
    | false =>
      rw [hb] at h
      rcases List.mem_cons.mp h with h | h
      · subst h
        exact Or.inr ⟨List.mem_cons_self, fun e => by rw [e] at hb; simp at hb⟩
      · rcases ih q h with h | ⟨h1, h2⟩
        · exact Or.inl h
        · exact Or.inr ⟨List.mem_cons_of_mem _ h1, h2⟩
theorem omL_put {la : Array Slot} {nL i : Nat} {ls : List (Nat × Value)} {v : Value} (hv : v.category = 1) (h0 : ∀ q ∈ ls, q.2.category = 1) (h : lv_has la nL ((i, v) :: ls.filter (fun q => !(q.1 == i) && !(q.1 + 1 == i && q.2.category == 2)))) : omL la nL (omput ls i v) := by
  refine ⟨⟨h.1, h.2.1, fun q hq => ?_⟩, fun q hq => ?_⟩
  · rcases omput_in q hq with rfl | ⟨h1, h2⟩
    · exact h.2.2 _ List.mem_cons_self
    · refine h.2.2 _ (List.mem_cons_of_mem _ (List.mem_filter.mpr ⟨h1, ?_⟩))
      have := h0 q h1
      simp [h2, this]
  · rcases omput_in q hq with rfl | ⟨h1, -⟩
    · exact hv
    · exact h0 q h1
theorem omL_at {la : Array Slot} {nL : Nat} {ls : List (Nat × Value)} (h : omL la nL ls) {q i : Nat} {v : Value} (hk : ls[q]? = some (i, v)) : la[i]? = some (.val v) := lv_at h.1 q hk
theorem omL_sub {la : Array Slot} {nL : Nat} {ls ls' : List (Nat × Value)} (h : omL la nL ls) (hs : ∀ q ∈ ls', q ∈ ls) : omL la nL ls' := ⟨⟨h.1.1, h.1.2.1, fun q hq => h.1.2.2 q (hs q hq)⟩, fun q hq => h.2 q (hs q hq)⟩
theorem omi_add (a b : Int) : omi a + omi b = omi (a + b) := (Int32.ofInt_add a b).symm
theorem omi_sub (a b : Int) : omi a - omi b = omi (a - b) := (Int32.ofInt_sub a b).symm
theorem omi_mul (a b : Int) : omi a * omi b = omi (a * b) := (Int32.ofInt_mul a b).symm
theorem omi_neg (a : Int) : -omi a = omi (-a) := (Int32.ofInt_neg a).symm
theorem omi_of {x : Int32} {a : Int} (h : x.toInt = omw a) : x = omi a := Int32.toInt_inj.mp (h.trans (omw_eq a).symm)
theorem omi_of2 {x : Int32} {a : Int} (h : x.toInt = a) : x = omi a := by rw [← h]; exact (Int32.ofInt_toInt x).symm
theorem omw_bm (z : Int) : z.bmod 4294967296 = omw z := by
  unfold omw
  rw [Int.bmod_def]
  split <;> omega
theorem omi_div (a b : Int) : omi a / omi b = omi ((omw a).tdiv (omw b)) := by
  apply omi_of
  rw [Int32.toInt_div, omw_eq, omw_eq]
  exact omw_bm _
theorem omi_rem (a b : Int) : omi a - omi a / omi b * omi b = omi ((omw a).tmod (omw b)) := by
  rw [omi_div, Int.tmod_def, ← omi_sub, omi_w, Int.mul_comm, ← omi_mul, omi_w]
theorem omi_0 {b : Int} : omi b = 0 ↔ omw b = 0 := by
  rw [show (0 : Int32) = omi 0 from rfl, omi_inj]
  rfl
theorem omi_lt {a b : Int} : omi a < omi b ↔ omw a < omw b := by rw [Int32.lt_iff_toInt_lt, omw_eq, omw_eq]
theorem omi_le {a b : Int} : omi a ≤ omi b ↔ ¬ omw b < omw a := by rw [Int32.le_iff_toInt_le, omw_eq, omw_eq]; omega
/-- shifts, by the places' last five bits -/
def omshl (a b : Int) : Int := a * 2 ^ (b % 32).toNat
def omshr (a b : Int) : Int := omw a / 2 ^ (b % 32).toNat
def omand (a b : Int) : Int := (omi a &&& omi b).toInt
def omor (a b : Int) : Int := (omi a ||| omi b).toInt
def omxor (a b : Int) : Int := (omi a ^^^ omi b).toInt
theorem omi_nat (b : Int) : (omi b).toBitVec.toNat = (b % 4294967296).toNat := by
  show (BitVec.ofInt 32 b).toNat = _
  rw [BitVec.toNat_ofInt]; rfl
theorem om_s32 : ∀ j : Nat, j < 32 → ((nI j).toBitVec.smod 32).toNat = j := by decide +kernel
theorem om_s31 (b : Int) : ((omi b &&& 31).toBitVec.smod 32).toNat = (b % 32).toNat := by
  rw [pk_and (omi b) (m := 31) 5 (by decide), om_s32 _ (Nat.mod_lt _ (by decide)), omi_nat]
  omega
theorem omi_shl (a b : Int) : omi a <<< (omi b &&& 31) = omi (omshl a b) := by
  apply Int32.toBitVec_inj.mp
  apply BitVec.eq_of_toNat_eq
  rw [pk_shl _ _ _ (om_s31 b), omi_nat, omi_nat]
  unfold omshl
  generalize (b % 32).toNat = n
  have hp : (0 : Int) < 2 ^ n := Int.pow_pos (by decide)
  have e1 : (((a % 4294967296).toNat * 2 ^ n % 2 ^ 32 : Nat) : Int) = ((a * 2 ^ n) % 4294967296) := by
    rw [Int.natCast_emod, Int.natCast_mul, Int.toNat_of_nonneg (by omega), Int.natCast_pow]
    show (a % 4294967296 * (2:Int) ^ n) % 4294967296 = _
    rw [Int.mul_emod, Int.emod_emod_of_dvd _ (Int.dvd_refl _), ← Int.mul_emod]
  omega
theorem omi_shr (a b : Int) : omi a >>> (omi b &&& 31) = omi (omshr a b) := by
  apply omi_of2
  rw [pk_shr _ _ _ (om_s31 b), omw_eq, Int.shiftRight_eq_div_pow]
  rfl
theorem omi_and (a b : Int) : omi a &&& omi b = omi (omand a b) := (Int32.ofInt_toInt _).symm
theorem omi_or (a b : Int) : omi a ||| omi b = omi (omor a b) := (Int32.ofInt_toInt _).symm
theorem omi_xor (a b : Int) : omi a ^^^ omi b = omi (omxor a b) := (Int32.ofInt_toInt _).symm
def omcmp (a b : Int) : Int := if omwl b < omwl a then 1 else if omwl a = omwl b then 0 else -1

section OMR
variable {G : omG} {x : omX} {own : String} {cc : ByteArray} {nL h kc pc : Nat} {ls : List (Nat × Value)} {st : List Value} {σ : omH} {k : Nat}
theorem v_sub {ls' : List (Nat × Value)} (hs : ∀ q ∈ ls', q ∈ ls) (kk : omV G x nL pc ls' st σ k) : omV G x nL pc ls st σ k := by
  obtain ⟨p, l, e, R, s, m, args, below, meth, c, Q, A, c0, s0⟩ := x
  exact fun H locs la hl hP hS => kk H locs la (omL_sub hl hs) hP hS
theorem v_widen {k' : Nat} (hk : k ≤ k') (kk : omV G x nL pc ls st σ k') : omV G x nL pc ls st σ k := by
  obtain ⟨p, l, e, R, s, m, args, below, meth, c, Q, A, c0, s0⟩ := x
  exact fun H locs la hl hP hS => W.widen (k := c0 + k') (n := s0 + 8 * k') (by omega) (by omega) (kk H locs la hl hP hS)
theorem v_iload (C : omC G x own cc nL h kc) {i q : Nat} {v : Int32} (hk : ls[q]? = some (i, .int v)) (d : decode cc pc = .ok (.iload i, 2)) (kk : omV G x nL (pc + 2) ls (.int v :: st) σ k) : omV G x nL pc ls (st) σ k := by
  obtain ⟨p, l, e, R, s, m, args, below, meth, c, Q, A, c0, s0⟩ := x
  obtain ⟨hx, hb, hml, hown, hlk, hts, hK, hRO, hTX, hDj, hA, hst, hRf, hRl, hRc, hRs⟩ := C
  intro H locs la hl hP hS
  refine lv_iload hx hb d (omL_at hl hk) ?_
  exact kk H locs la hl hP hS
theorem v_iload_n (C : omC G x own cc nL h kc) {j : Fin 4} {i q : Nat} {v : Int32} (hi : (j : Nat) = i) (hk : ls[q]? = some (i, .int v)) (d : decode cc pc = .ok (.iload_n j, 1)) (kk : omV G x nL (pc + 1) ls (.int v :: st) σ k) : omV G x nL pc ls (st) σ k := by
  obtain ⟨p, l, e, R, s, m, args, below, meth, c, Q, A, c0, s0⟩ := x
  obtain ⟨hx, hb, hml, hown, hlk, hts, hK, hRO, hTX, hDj, hA, hst, hRf, hRl, hRc, hRs⟩ := C
  intro H locs la hl hP hS
  refine lv_iload_n hx hb d hi (omL_at hl hk) ?_
  exact kk H locs la hl hP hS
theorem v_aload (C : omC G x own cc nL h kc) {i q : Nat} {v : Nat} (hk : ls[q]? = some (i, .ref v)) (d : decode cc pc = .ok (.aload i, 2)) (kk : omV G x nL (pc + 2) ls (.ref v :: st) σ k) : omV G x nL pc ls (st) σ k := by
  obtain ⟨p, l, e, R, s, m, args, below, meth, c, Q, A, c0, s0⟩ := x
  obtain ⟨hx, hb, hml, hown, hlk, hts, hK, hRO, hTX, hDj, hA, hst, hRf, hRl, hRc, hRs⟩ := C
  intro H locs la hl hP hS
  refine lv_aload hx hb d (omL_at hl hk) ?_
  exact kk H locs la hl hP hS
theorem v_aload_n (C : omC G x own cc nL h kc) {j : Fin 4} {i q : Nat} {v : Nat} (hi : (j : Nat) = i) (hk : ls[q]? = some (i, .ref v)) (d : decode cc pc = .ok (.aload_n j, 1)) (kk : omV G x nL (pc + 1) ls (.ref v :: st) σ k) : omV G x nL pc ls (st) σ k := by
  obtain ⟨p, l, e, R, s, m, args, below, meth, c, Q, A, c0, s0⟩ := x
  obtain ⟨hx, hb, hml, hown, hlk, hts, hK, hRO, hTX, hDj, hA, hst, hRf, hRl, hRc, hRs⟩ := C
  intro H locs la hl hP hS
  refine lv_aload_n hx hb d hi (omL_at hl hk) ?_
  exact kk H locs la hl hP hS
theorem v_istore (C : omC G x own cc nL h kc) {ls' : List (Nat × Value)} {i : Nat} {v : Int32} (hn : i < nL) (hl' : omput ls i (.int v) = ls') (d : decode cc pc = .ok (.istore i, 2)) (kk : omV G x nL (pc + 2) ls' st σ k) : omV G x nL pc ls (.int v :: st) σ k := by
  obtain ⟨p, l, e, R, s, m, args, below, meth, c, Q, A, c0, s0⟩ := x
  obtain ⟨hx, hb, hml, hown, hlk, hts, hK, hRO, hTX, hDj, hA, hst, hRf, hRl, hRc, hRs⟩ := C
  intro H locs la hl hP hS
  subst hl'
  refine lv_istore hx hb d hl.1 hn rfl (fun la' hl2 => ?_)
  exact kk H locs la' (omL_put rfl hl.2 hl2) hP hS
theorem v_istore_n (C : omC G x own cc nL h kc) {ls' : List (Nat × Value)} {j : Fin 4} {i : Nat} {v : Int32} (hi : (j : Nat) = i) (hn : i < nL) (hl' : omput ls i (.int v) = ls') (d : decode cc pc = .ok (.istore_n j, 1)) (kk : omV G x nL (pc + 1) ls' st σ k) : omV G x nL pc ls (.int v :: st) σ k := by
  obtain ⟨p, l, e, R, s, m, args, below, meth, c, Q, A, c0, s0⟩ := x
  obtain ⟨hx, hb, hml, hown, hlk, hts, hK, hRO, hTX, hDj, hA, hst, hRf, hRl, hRc, hRs⟩ := C
  intro H locs la hl hP hS
  subst hl'
  refine lv_istore_n hx hb d hi hl.1 hn rfl (fun la' hl2 => ?_)
  exact kk H locs la' (omL_put rfl hl.2 hl2) hP hS
theorem v_astore (C : omC G x own cc nL h kc) {ls' : List (Nat × Value)} {i : Nat} {v : Nat} (hn : i < nL) (hl' : omput ls i (.ref v) = ls') (d : decode cc pc = .ok (.astore i, 2)) (kk : omV G x nL (pc + 2) ls' st σ k) : omV G x nL pc ls (.ref v :: st) σ k := by
  obtain ⟨p, l, e, R, s, m, args, below, meth, c, Q, A, c0, s0⟩ := x
  obtain ⟨hx, hb, hml, hown, hlk, hts, hK, hRO, hTX, hDj, hA, hst, hRf, hRl, hRc, hRs⟩ := C
  intro H locs la hl hP hS
  subst hl'
  refine lv_astore hx hb d hl.1 hn rfl (fun la' hl2 => ?_)
  exact kk H locs la' (omL_put rfl hl.2 hl2) hP hS
theorem v_astore_n (C : omC G x own cc nL h kc) {ls' : List (Nat × Value)} {j : Fin 4} {i : Nat} {v : Nat} (hi : (j : Nat) = i) (hn : i < nL) (hl' : omput ls i (.ref v) = ls') (d : decode cc pc = .ok (.astore_n j, 1)) (kk : omV G x nL (pc + 1) ls' st σ k) : omV G x nL pc ls (.ref v :: st) σ k := by
  obtain ⟨p, l, e, R, s, m, args, below, meth, c, Q, A, c0, s0⟩ := x
  obtain ⟨hx, hb, hml, hown, hlk, hts, hK, hRO, hTX, hDj, hA, hst, hRf, hRl, hRc, hRs⟩ := C
  intro H locs la hl hP hS
  subst hl'
  refine lv_astore_n hx hb d hi hl.1 hn rfl (fun la' hl2 => ?_)
  exact kk H locs la' (omL_put rfl hl.2 hl2) hP hS
theorem v_iinc (C : omC G x own cc nL h kc) {ls' : List (Nat × Value)} {i q : Nat} {a b n : Int} (hk : ls[q]? = some (i, .int (omi a))) (hn : i < nL) (hb' : a + n = b) (hl' : omput ls i (.int (omi b)) = ls') (d : decode cc pc = .ok (.iinc i n, 3)) (kk : omV G x nL (pc + 3) ls' st σ k) : omV G x nL pc ls st σ k := by
  obtain ⟨p, l, e, R, s, m, args, below, meth, c, Q, A, c0, s0⟩ := x
  obtain ⟨hx, hb, hml, hown, hlk, hts, hK, hRO, hTX, hDj, hA, hst, hRf, hRl, hRc, hRs⟩ := C
  intro H locs la hl hP hS
  subst hl'
  subst hb'
  refine lv_iinc hx hb d hl.1 hk (v := omi (a + n)) (omi_add a n) hn rfl (fun la' hl2 => ?_)
  exact kk H locs la' (omL_put rfl hl.2 hl2) hP hS
theorem v_iconst (C : omC G x own cc nL h kc) {n : Int} (d : decode cc pc = .ok (.iconst n, 1)) (kk : omV G x nL (pc + 1) ls (.int (omi n) :: st) σ k) : omV G x nL pc ls (st) σ k := by
  obtain ⟨p, l, e, R, s, m, args, below, meth, c, Q, A, c0, s0⟩ := x
  obtain ⟨hx, hb, hml, hown, hlk, hts, hK, hRO, hTX, hDj, hA, hst, hRf, hRl, hRc, hRs⟩ := C
  intro H locs la hl hP hS
  refine lv_iconst hx hb d rfl ?_
  exact kk H locs la hl hP hS
theorem v_bipush (C : omC G x own cc nL h kc) {n a : Int} (ha : (Int8.ofInt n).toInt32 = omi a) (d : decode cc pc = .ok (.bipush n, 2)) (kk : omV G x nL (pc + 2) ls (.int (omi a) :: st) σ k) : omV G x nL pc ls (st) σ k := by
  obtain ⟨p, l, e, R, s, m, args, below, meth, c, Q, A, c0, s0⟩ := x
  obtain ⟨hx, hb, hml, hown, hlk, hts, hK, hRO, hTX, hDj, hA, hst, hRf, hRl, hRc, hRs⟩ := C
  intro H locs la hl hP hS
  refine lv_bipush hx hb d ha ?_
  exact kk H locs la hl hP hS
theorem v_sipush (C : omC G x own cc nL h kc) {n a : Int} (ha : (Int16.ofInt n).toInt32 = omi a) (d : decode cc pc = .ok (.sipush n, 3)) (kk : omV G x nL (pc + 3) ls (.int (omi a) :: st) σ k) : omV G x nL pc ls (st) σ k := by
  obtain ⟨p, l, e, R, s, m, args, below, meth, c, Q, A, c0, s0⟩ := x
  obtain ⟨hx, hb, hml, hown, hlk, hts, hK, hRO, hTX, hDj, hA, hst, hRf, hRl, hRc, hRs⟩ := C
  intro H locs la hl hP hS
  refine lv_sipush hx hb d ha ?_
  exact kk H locs la hl hP hS
theorem v_ldc (C : omC G x own cc nL h kc) {i : Nat} {a : Int} (hc : Cond.constant own i (omi a) ∈ omTB) (d : decode cc pc = .ok (.ldc i, 2)) (kk : omV G x nL (pc + 2) ls (.int (omi a) :: st) σ k) : omV G x nL pc ls (st) σ k := by
  obtain ⟨p, l, e, R, s, m, args, below, meth, c, Q, A, c0, s0⟩ := x
  obtain ⟨hx, hb, hml, hown, hlk, hts, hK, hRO, hTX, hDj, hA, hst, hRf, hRl, hRc, hRs⟩ := C
  intro H locs la hl hP hS
  refine lv_ldc hx hb hown (hts _ hc) d ?_
  exact kk H locs la hl hP hS
theorem v_lconst (C : omC G x own cc nL h kc) {n : Fin 2} {a : Int} (ha : Int64.ofNat (n : Nat) = Int64.ofInt a) (d : decode cc pc = .ok (.lconst n, 1)) (kk : omV G x nL (pc + 1) ls (.long (Int64.ofInt a) :: st) σ k) : omV G x nL pc ls (st) σ k := by
  obtain ⟨p, l, e, R, s, m, args, below, meth, c, Q, A, c0, s0⟩ := x
  obtain ⟨hx, hb, hml, hown, hlk, hts, hK, hRO, hTX, hDj, hA, hst, hRf, hRl, hRc, hRs⟩ := C
  intro H locs la hl hP hS
  refine lv_lconst hx hb d ha ?_
  exact kk H locs la hl hP hS
theorem v_iadd (C : omC G x own cc nL h kc) {a b : Int} (d : decode cc pc = .ok (.iadd, 1)) (kk : omV G x nL (pc + 1) ls (.int (omi (a + b)) :: st) σ k) : omV G x nL pc ls (.int (omi b) :: .int (omi a) :: st) σ k := by
  obtain ⟨p, l, e, R, s, m, args, below, meth, c, Q, A, c0, s0⟩ := x
  obtain ⟨hx, hb, hml, hown, hlk, hts, hK, hRO, hTX, hDj, hA, hst, hRf, hRl, hRc, hRs⟩ := C
  intro H locs la hl hP hS
  refine lv_iadd hx hb d ?_
  rw [omi_add]
  exact kk H locs la hl hP hS
theorem v_isub (C : omC G x own cc nL h kc) {a b : Int} (d : decode cc pc = .ok (.isub, 1)) (kk : omV G x nL (pc + 1) ls (.int (omi (a - b)) :: st) σ k) : omV G x nL pc ls (.int (omi b) :: .int (omi a) :: st) σ k := by
  obtain ⟨p, l, e, R, s, m, args, below, meth, c, Q, A, c0, s0⟩ := x
  obtain ⟨hx, hb, hml, hown, hlk, hts, hK, hRO, hTX, hDj, hA, hst, hRf, hRl, hRc, hRs⟩ := C
  intro H locs la hl hP hS
  refine lv_isub hx hb d ?_
  rw [omi_sub]
  exact kk H locs la hl hP hS
theorem v_imul (C : omC G x own cc nL h kc) {a b : Int} (d : decode cc pc = .ok (.imul, 1)) (kk : omV G x nL (pc + 1) ls (.int (omi (a * b)) :: st) σ k) : omV G x nL pc ls (.int (omi b) :: .int (omi a) :: st) σ k := by
  obtain ⟨p, l, e, R, s, m, args, below, meth, c, Q, A, c0, s0⟩ := x
  obtain ⟨hx, hb, hml, hown, hlk, hts, hK, hRO, hTX, hDj, hA, hst, hRf, hRl, hRc, hRs⟩ := C
  intro H locs la hl hP hS
  refine lv_imul hx hb d ?_
  rw [omi_mul]
  exact kk H locs la hl hP hS
theorem v_iand (C : omC G x own cc nL h kc) {a b : Int} (d : decode cc pc = .ok (.iand, 1)) (kk : omV G x nL (pc + 1) ls (.int (omi (omand a b)) :: st) σ k) : omV G x nL pc ls (.int (omi b) :: .int (omi a) :: st) σ k := by
  obtain ⟨p, l, e, R, s, m, args, below, meth, c, Q, A, c0, s0⟩ := x
  obtain ⟨hx, hb, hml, hown, hlk, hts, hK, hRO, hTX, hDj, hA, hst, hRf, hRl, hRc, hRs⟩ := C
  intro H locs la hl hP hS
  refine lv_iand hx hb d ?_
  rw [omi_and]
  exact kk H locs la hl hP hS
theorem v_ior (C : omC G x own cc nL h kc) {a b : Int} (d : decode cc pc = .ok (.ior, 1)) (kk : omV G x nL (pc + 1) ls (.int (omi (omor a b)) :: st) σ k) : omV G x nL pc ls (.int (omi b) :: .int (omi a) :: st) σ k := by
  obtain ⟨p, l, e, R, s, m, args, below, meth, c, Q, A, c0, s0⟩ := x
  obtain ⟨hx, hb, hml, hown, hlk, hts, hK, hRO, hTX, hDj, hA, hst, hRf, hRl, hRc, hRs⟩ := C
  intro H locs la hl hP hS
  refine lv_ior hx hb d ?_
  rw [omi_or]
  exact kk H locs la hl hP hS
theorem v_ixor (C : omC G x own cc nL h kc) {a b : Int} (d : decode cc pc = .ok (.ixor, 1)) (kk : omV G x nL (pc + 1) ls (.int (omi (omxor a b)) :: st) σ k) : omV G x nL pc ls (.int (omi b) :: .int (omi a) :: st) σ k := by
  obtain ⟨p, l, e, R, s, m, args, below, meth, c, Q, A, c0, s0⟩ := x
  obtain ⟨hx, hb, hml, hown, hlk, hts, hK, hRO, hTX, hDj, hA, hst, hRf, hRl, hRc, hRs⟩ := C
  intro H locs la hl hP hS
  refine lv_ixor hx hb d ?_
  rw [omi_xor]
  exact kk H locs la hl hP hS
theorem v_ishl (C : omC G x own cc nL h kc) {a b : Int} (d : decode cc pc = .ok (.ishl, 1)) (kk : omV G x nL (pc + 1) ls (.int (omi (omshl a b)) :: st) σ k) : omV G x nL pc ls (.int (omi b) :: .int (omi a) :: st) σ k := by
  obtain ⟨p, l, e, R, s, m, args, below, meth, c, Q, A, c0, s0⟩ := x
  obtain ⟨hx, hb, hml, hown, hlk, hts, hK, hRO, hTX, hDj, hA, hst, hRf, hRl, hRc, hRs⟩ := C
  intro H locs la hl hP hS
  refine lv_ishl hx hb d ?_
  rw [omi_shl]
  exact kk H locs la hl hP hS
theorem v_ishr (C : omC G x own cc nL h kc) {a b : Int} (d : decode cc pc = .ok (.ishr, 1)) (kk : omV G x nL (pc + 1) ls (.int (omi (omshr a b)) :: st) σ k) : omV G x nL pc ls (.int (omi b) :: .int (omi a) :: st) σ k := by
  obtain ⟨p, l, e, R, s, m, args, below, meth, c, Q, A, c0, s0⟩ := x
  obtain ⟨hx, hb, hml, hown, hlk, hts, hK, hRO, hTX, hDj, hA, hst, hRf, hRl, hRc, hRs⟩ := C
  intro H locs la hl hP hS
  refine lv_ishr hx hb d ?_
  rw [omi_shr]
  exact kk H locs la hl hP hS
theorem v_idiv (C : omC G x own cc nL h kc) {a b : Int} (hn : ¬ omw b = 0) (d : decode cc pc = .ok (.idiv, 1)) (kk : omV G x nL (pc + 1) ls (.int (omi ((omw a).tdiv (omw b))) :: st) σ k) : omV G x nL pc ls (.int (omi b) :: .int (omi a) :: st) σ k := by
  obtain ⟨p, l, e, R, s, m, args, below, meth, c, Q, A, c0, s0⟩ := x
  obtain ⟨hx, hb, hml, hown, hlk, hts, hK, hRO, hTX, hDj, hA, hst, hRf, hRl, hRc, hRs⟩ := C
  intro H locs la hl hP hS
  refine lv_idiv hx hb d (fun e => hn (omi_0.mp e)) ?_
  rw [omi_div]
  exact kk H locs la hl hP hS
theorem v_irem (C : omC G x own cc nL h kc) {a b : Int} (hn : ¬ omw b = 0) (d : decode cc pc = .ok (.irem, 1)) (kk : omV G x nL (pc + 1) ls (.int (omi ((omw a).tmod (omw b))) :: st) σ k) : omV G x nL pc ls (.int (omi b) :: .int (omi a) :: st) σ k := by
  obtain ⟨p, l, e, R, s, m, args, below, meth, c, Q, A, c0, s0⟩ := x
  obtain ⟨hx, hb, hml, hown, hlk, hts, hK, hRO, hTX, hDj, hA, hst, hRf, hRl, hRc, hRs⟩ := C
  intro H locs la hl hP hS
  refine lv_irem hx hb d (fun e => hn (omi_0.mp e)) ?_
  rw [omi_rem]
  exact kk H locs la hl hP hS
theorem v_ineg (C : omC G x own cc nL h kc) {a : Int} (d : decode cc pc = .ok (.ineg, 1)) (kk : omV G x nL (pc + 1) ls (.int (omi (-a)) :: st) σ k) : omV G x nL pc ls (.int (omi a) :: st) σ k := by
  obtain ⟨p, l, e, R, s, m, args, below, meth, c, Q, A, c0, s0⟩ := x
  obtain ⟨hx, hb, hml, hown, hlk, hts, hK, hRO, hTX, hDj, hA, hst, hRf, hRl, hRc, hRs⟩ := C
  intro H locs la hl hP hS
  refine lv_ineg hx hb d ?_
  rw [omi_neg]
  exact kk H locs la hl hP hS
theorem om_i2l (a : Int) : (omi a).toInt64 = Int64.ofInt (omw a) := by
  apply Int64.toInt_inj.mp
  rw [Int32.toInt_toInt64, omw_eq, omwl_eq]
  unfold omw omwl
  omega
theorem om_cmp (a b : Int) : lg_cmp (Int64.ofInt a) (Int64.ofInt b) = omi (omcmp a b) := by
  unfold lg_cmp omcmp
  simp only [gt_iff_lt, Int64.lt_iff_toInt_lt, ← Int64.toInt_inj, omwl_eq]
  by_cases h1 : omwl b < omwl a
  · rw [if_pos h1, if_pos h1]; rfl
  · rw [if_neg h1, if_neg h1]
    by_cases h2 : omwl a = omwl b
    · rw [if_pos h2, if_pos h2]; rfl
    · rw [if_neg h2, if_neg h2]; rfl
theorem v_i2l (C : omC G x own cc nL h kc) {a : Int} (d : decode cc pc = .ok (.i2l, 1)) (kk : omV G x nL (pc + 1) ls (.long (Int64.ofInt (omw a)) :: st) σ k) : omV G x nL pc ls (.int (omi a) :: st) σ k := by
  obtain ⟨p, l, e, R, s, m, args, below, meth, c, Q, A, c0, s0⟩ := x
  obtain ⟨hx, hb, hml, hown, hlk, hts, hK, hRO, hTX, hDj, hA, hst, hRf, hRl, hRc, hRs⟩ := C
  intro H locs la hl hP hS
  refine lv_i2l hx hb d (om_i2l a) ?_
  exact kk H locs la hl hP hS
theorem v_lcmp (C : omC G x own cc nL h kc) {a b : Int} (d : decode cc pc = .ok (.lcmp, 1)) (kk : omV G x nL (pc + 1) ls (.int (omi (omcmp a b)) :: st) σ k) : omV G x nL pc ls (.long (Int64.ofInt b) :: .long (Int64.ofInt a) :: st) σ k := by
  obtain ⟨p, l, e, R, s, m, args, below, meth, c, Q, A, c0, s0⟩ := x
  obtain ⟨hx, hb, hml, hown, hlk, hts, hK, hRO, hTX, hDj, hA, hst, hRf, hRl, hRc, hRs⟩ := C
  intro H locs la hl hP hS
  refine W.lcmp hx hb d ?_
  rw [om_cmp]
  exact kk H locs la hl hP hS
theorem v_dup (C : omC G x own cc nL h kc) {v : Value} (hv : v.category = 1) (d : decode cc pc = .ok (.dup, 1)) (kk : omV G x nL (pc + 1) ls (v :: v :: st) σ k) : omV G x nL pc ls (v :: st) σ k := by
  obtain ⟨p, l, e, R, s, m, args, below, meth, c, Q, A, c0, s0⟩ := x
  obtain ⟨hx, hb, hml, hown, hlk, hts, hK, hRO, hTX, hDj, hA, hst, hRf, hRl, hRc, hRs⟩ := C
  intro H locs la hl hP hS
  refine lv_dup hx hb d hv ?_
  exact kk H locs la hl hP hS
theorem v_dup2 (C : omC G x own cc nL h kc) {v u : Value} (hv : v.category = 1) (hu : u.category = 1) (d : decode cc pc = .ok (.dup2, 1)) (kk : omV G x nL (pc + 1) ls (v :: u :: v :: u :: st) σ k) : omV G x nL pc ls (v :: u :: st) σ k := by
  obtain ⟨p, l, e, R, s, m, args, below, meth, c, Q, A, c0, s0⟩ := x
  obtain ⟨hx, hb, hml, hown, hlk, hts, hK, hRO, hTX, hDj, hA, hst, hRf, hRl, hRc, hRs⟩ := C
  intro H locs la hl hP hS
  refine lv_dup2_11 hx hb d (by first | exact hv | exact hu) (by first | exact hu | exact hv) ?_
  exact kk H locs la hl hP hS
theorem v_goto (C : omC G x own cc nL h kc) {off : Int} {tgt : Nat} (d : decode cc pc = .ok (.goto off, 3)) (ht : (pc : Int) + off = (tgt : Int)) (kk : omV G x nL tgt ls st σ k) : omV G x nL pc ls st σ k := by
  obtain ⟨p, l, e, R, s, m, args, below, meth, c, Q, A, c0, s0⟩ := x
  obtain ⟨hx, hb, hml, hown, hlk, hts, hK, hRO, hTX, hDj, hA, hst, hRf, hRl, hRc, hRs⟩ := C
  intro H locs la hl hP hS
  exact lv_goto hx hb d ht (kk H locs la hl hP hS)
theorem v_icmp_eq (C : omC G x own cc nL h kc) {a b off : Int} {tgt : Nat} (d : decode cc pc = .ok (.if_icmp .eq off, 3)) (ht : (pc : Int) + off = (tgt : Int)) (kt : omw a = omw b → omV G x nL tgt ls st σ k) (kf : ¬ omw a = omw b → omV G x nL (pc + 3) ls st σ k) : omV G x nL pc ls (.int (omi b) :: .int (omi a) :: st) σ k := by
  obtain ⟨p, l, e, R, s, m, args, below, meth, c, Q, A, c0, s0⟩ := x
  obtain ⟨hx, hb, hml, hown, hlk, hts, hK, hRO, hTX, hDj, hA, hst, hRf, hRl, hRc, hRs⟩ := C
  intro H locs la hl hP hS
  exact lv_icmp_eq hx hb d ht (fun hh => kt (omi_inj.mp hh) H locs la hl hP hS) (fun hh => kf (fun e => hh (omi_inj.mpr e)) H locs la hl hP hS)
theorem v_if_eq (C : omC G x own cc nL h kc) {a off : Int} {tgt : Nat} (d : decode cc pc = .ok (.ifCond .eq off, 3)) (ht : (pc : Int) + off = (tgt : Int)) (kt : omw a = 0 → omV G x nL tgt ls st σ k) (kf : ¬ omw a = 0 → omV G x nL (pc + 3) ls st σ k) : omV G x nL pc ls (.int (omi a) :: st) σ k := by
  obtain ⟨p, l, e, R, s, m, args, below, meth, c, Q, A, c0, s0⟩ := x
  obtain ⟨hx, hb, hml, hown, hlk, hts, hK, hRO, hTX, hDj, hA, hst, hRf, hRl, hRc, hRs⟩ := C
  intro H locs la hl hP hS
  have b0 : omw 0 = 0 := rfl
  refine lv_if_eq hx hb d ht (fun hh => kt ?_ H locs la hl hP hS) (fun hh => kf ?_ H locs la hl hP hS)
  · rw [show (0 : Int32) = omi 0 from rfl] at hh
    have := omi_inj.mp hh
    rw [b0] at this
    exact this
  · rw [show (0 : Int32) = omi 0 from rfl] at hh
    have := show (¬ omw a = omw 0) from fun e => hh (omi_inj.mpr e)
    rw [b0] at this
    exact this
theorem v_icmp_ne (C : omC G x own cc nL h kc) {a b off : Int} {tgt : Nat} (d : decode cc pc = .ok (.if_icmp .ne off, 3)) (ht : (pc : Int) + off = (tgt : Int)) (kt : ¬ omw a = omw b → omV G x nL tgt ls st σ k) (kf : omw a = omw b → omV G x nL (pc + 3) ls st σ k) : omV G x nL pc ls (.int (omi b) :: .int (omi a) :: st) σ k := by
  obtain ⟨p, l, e, R, s, m, args, below, meth, c, Q, A, c0, s0⟩ := x
  obtain ⟨hx, hb, hml, hown, hlk, hts, hK, hRO, hTX, hDj, hA, hst, hRf, hRl, hRc, hRs⟩ := C
  intro H locs la hl hP hS
  exact lv_icmp_ne hx hb d ht (fun hh => kt (fun e => hh (omi_inj.mpr e)) H locs la hl hP hS) (fun hh => kf (omi_inj.mp hh) H locs la hl hP hS)
theorem v_if_ne (C : omC G x own cc nL h kc) {a off : Int} {tgt : Nat} (d : decode cc pc = .ok (.ifCond .ne off, 3)) (ht : (pc : Int) + off = (tgt : Int)) (kt : ¬ omw a = 0 → omV G x nL tgt ls st σ k) (kf : omw a = 0 → omV G x nL (pc + 3) ls st σ k) : omV G x nL pc ls (.int (omi a) :: st) σ k := by
  obtain ⟨p, l, e, R, s, m, args, below, meth, c, Q, A, c0, s0⟩ := x
  obtain ⟨hx, hb, hml, hown, hlk, hts, hK, hRO, hTX, hDj, hA, hst, hRf, hRl, hRc, hRs⟩ := C
  intro H locs la hl hP hS
  have b0 : omw 0 = 0 := rfl
  refine lv_if_ne hx hb d ht (fun hh => kt ?_ H locs la hl hP hS) (fun hh => kf ?_ H locs la hl hP hS)
  · rw [show (0 : Int32) = omi 0 from rfl] at hh
    have := fun e => hh (omi_inj.mpr e)
    rw [b0] at this
    exact this
  · rw [show (0 : Int32) = omi 0 from rfl] at hh
    have := show (omw a = omw 0) from omi_inj.mp hh
    rw [b0] at this
    exact this
theorem v_icmp_lt (C : omC G x own cc nL h kc) {a b off : Int} {tgt : Nat} (d : decode cc pc = .ok (.if_icmp .lt off, 3)) (ht : (pc : Int) + off = (tgt : Int)) (kt : omw a < omw b → omV G x nL tgt ls st σ k) (kf : ¬ omw a < omw b → omV G x nL (pc + 3) ls st σ k) : omV G x nL pc ls (.int (omi b) :: .int (omi a) :: st) σ k := by
  obtain ⟨p, l, e, R, s, m, args, below, meth, c, Q, A, c0, s0⟩ := x
  obtain ⟨hx, hb, hml, hown, hlk, hts, hK, hRO, hTX, hDj, hA, hst, hRf, hRl, hRc, hRs⟩ := C
  intro H locs la hl hP hS
  exact lv_icmp_lt hx hb d ht (fun hh => kt (omi_lt.mp hh) H locs la hl hP hS) (fun hh => kf (fun e => hh (omi_lt.mpr e)) H locs la hl hP hS)
theorem v_if_lt (C : omC G x own cc nL h kc) {a off : Int} {tgt : Nat} (d : decode cc pc = .ok (.ifCond .lt off, 3)) (ht : (pc : Int) + off = (tgt : Int)) (kt : omw a < 0 → omV G x nL tgt ls st σ k) (kf : ¬ omw a < 0 → omV G x nL (pc + 3) ls st σ k) : omV G x nL pc ls (.int (omi a) :: st) σ k := by
  obtain ⟨p, l, e, R, s, m, args, below, meth, c, Q, A, c0, s0⟩ := x
  obtain ⟨hx, hb, hml, hown, hlk, hts, hK, hRO, hTX, hDj, hA, hst, hRf, hRl, hRc, hRs⟩ := C
  intro H locs la hl hP hS
  have b0 : omw 0 = 0 := rfl
  refine lv_if_lt hx hb d ht (fun hh => kt ?_ H locs la hl hP hS) (fun hh => kf ?_ H locs la hl hP hS)
  · rw [show (0 : Int32) = omi 0 from rfl] at hh
    have := omi_lt.mp hh
    rw [b0] at this
    exact this
  · rw [show (0 : Int32) = omi 0 from rfl] at hh
    have := show (¬ omw a < omw 0) from fun e => hh (omi_lt.mpr e)
    rw [b0] at this
    exact this
theorem v_icmp_ge (C : omC G x own cc nL h kc) {a b off : Int} {tgt : Nat} (d : decode cc pc = .ok (.if_icmp .ge off, 3)) (ht : (pc : Int) + off = (tgt : Int)) (kt : ¬ omw a < omw b → omV G x nL tgt ls st σ k) (kf : omw a < omw b → omV G x nL (pc + 3) ls st σ k) : omV G x nL pc ls (.int (omi b) :: .int (omi a) :: st) σ k := by
  obtain ⟨p, l, e, R, s, m, args, below, meth, c, Q, A, c0, s0⟩ := x
  obtain ⟨hx, hb, hml, hown, hlk, hts, hK, hRO, hTX, hDj, hA, hst, hRf, hRl, hRc, hRs⟩ := C
  intro H locs la hl hP hS
  exact lv_icmp_ge hx hb d ht (fun hh => kt (omi_le.mp hh) H locs la hl hP hS) (fun hh => kf (Decidable.not_not.mp (fun e => hh (omi_le.mpr e))) H locs la hl hP hS)
theorem v_if_ge (C : omC G x own cc nL h kc) {a off : Int} {tgt : Nat} (d : decode cc pc = .ok (.ifCond .ge off, 3)) (ht : (pc : Int) + off = (tgt : Int)) (kt : ¬ omw a < 0 → omV G x nL tgt ls st σ k) (kf : omw a < 0 → omV G x nL (pc + 3) ls st σ k) : omV G x nL pc ls (.int (omi a) :: st) σ k := by
  obtain ⟨p, l, e, R, s, m, args, below, meth, c, Q, A, c0, s0⟩ := x
  obtain ⟨hx, hb, hml, hown, hlk, hts, hK, hRO, hTX, hDj, hA, hst, hRf, hRl, hRc, hRs⟩ := C
  intro H locs la hl hP hS
  have b0 : omw 0 = 0 := rfl
  refine lv_if_ge hx hb d ht (fun hh => kt ?_ H locs la hl hP hS) (fun hh => kf ?_ H locs la hl hP hS)
  · rw [show (0 : Int32) = omi 0 from rfl] at hh
    have := omi_le.mp hh
    rw [b0] at this
    exact this
  · rw [show (0 : Int32) = omi 0 from rfl] at hh
    have := show (omw a < omw 0) from Decidable.not_not.mp (fun e => hh (omi_le.mpr e))
    rw [b0] at this
    exact this
theorem v_icmp_gt (C : omC G x own cc nL h kc) {a b off : Int} {tgt : Nat} (d : decode cc pc = .ok (.if_icmp .gt off, 3)) (ht : (pc : Int) + off = (tgt : Int)) (kt : omw b < omw a → omV G x nL tgt ls st σ k) (kf : ¬ omw b < omw a → omV G x nL (pc + 3) ls st σ k) : omV G x nL pc ls (.int (omi b) :: .int (omi a) :: st) σ k := by
  obtain ⟨p, l, e, R, s, m, args, below, meth, c, Q, A, c0, s0⟩ := x
  obtain ⟨hx, hb, hml, hown, hlk, hts, hK, hRO, hTX, hDj, hA, hst, hRf, hRl, hRc, hRs⟩ := C
  intro H locs la hl hP hS
  exact lv_icmp_gt hx hb d ht (fun hh => kt (omi_lt.mp hh) H locs la hl hP hS) (fun hh => kf (fun e => hh (omi_lt.mpr e)) H locs la hl hP hS)
theorem v_if_gt (C : omC G x own cc nL h kc) {a off : Int} {tgt : Nat} (d : decode cc pc = .ok (.ifCond .gt off, 3)) (ht : (pc : Int) + off = (tgt : Int)) (kt : 0 < omw a → omV G x nL tgt ls st σ k) (kf : ¬ 0 < omw a → omV G x nL (pc + 3) ls st σ k) : omV G x nL pc ls (.int (omi a) :: st) σ k := by
  obtain ⟨p, l, e, R, s, m, args, below, meth, c, Q, A, c0, s0⟩ := x
  obtain ⟨hx, hb, hml, hown, hlk, hts, hK, hRO, hTX, hDj, hA, hst, hRf, hRl, hRc, hRs⟩ := C
  intro H locs la hl hP hS
  have b0 : omw 0 = 0 := rfl
  refine lv_if_gt hx hb d ht (fun hh => kt ?_ H locs la hl hP hS) (fun hh => kf ?_ H locs la hl hP hS)
  · rw [show (0 : Int32) = omi 0 from rfl] at hh
    have := omi_lt.mp hh
    rw [b0] at this
    exact this
  · rw [show (0 : Int32) = omi 0 from rfl] at hh
    have := show (¬ omw 0 < omw a) from fun e => hh (omi_lt.mpr e)
    rw [b0] at this
    exact this
theorem v_icmp_le (C : omC G x own cc nL h kc) {a b off : Int} {tgt : Nat} (d : decode cc pc = .ok (.if_icmp .le off, 3)) (ht : (pc : Int) + off = (tgt : Int)) (kt : ¬ omw b < omw a → omV G x nL tgt ls st σ k) (kf : omw b < omw a → omV G x nL (pc + 3) ls st σ k) : omV G x nL pc ls (.int (omi b) :: .int (omi a) :: st) σ k := by
  obtain ⟨p, l, e, R, s, m, args, below, meth, c, Q, A, c0, s0⟩ := x
  obtain ⟨hx, hb, hml, hown, hlk, hts, hK, hRO, hTX, hDj, hA, hst, hRf, hRl, hRc, hRs⟩ := C
  intro H locs la hl hP hS
  exact lv_icmp_le hx hb d ht (fun hh => kt (omi_le.mp hh) H locs la hl hP hS) (fun hh => kf (Decidable.not_not.mp (fun e => hh (omi_le.mpr e))) H locs la hl hP hS)
theorem v_if_le (C : omC G x own cc nL h kc) {a off : Int} {tgt : Nat} (d : decode cc pc = .ok (.ifCond .le off, 3)) (ht : (pc : Int) + off = (tgt : Int)) (kt : ¬ 0 < omw a → omV G x nL tgt ls st σ k) (kf : 0 < omw a → omV G x nL (pc + 3) ls st σ k) : omV G x nL pc ls (.int (omi a) :: st) σ k := by
  obtain ⟨p, l, e, R, s, m, args, below, meth, c, Q, A, c0, s0⟩ := x
  obtain ⟨hx, hb, hml, hown, hlk, hts, hK, hRO, hTX, hDj, hA, hst, hRf, hRl, hRc, hRs⟩ := C
  intro H locs la hl hP hS
  have b0 : omw 0 = 0 := rfl
  refine lv_if_le hx hb d ht (fun hh => kt ?_ H locs la hl hP hS) (fun hh => kf ?_ H locs la hl hP hS)
  · rw [show (0 : Int32) = omi 0 from rfl] at hh
    have := omi_le.mp hh
    rw [b0] at this
    exact this
  · rw [show (0 : Int32) = omi 0 from rfl] at hh
    have := show (omw 0 < omw a) from Decidable.not_not.mp (fun e => hh (omi_le.mpr e))
    rw [b0] at this
    exact this
theorem v_tabIn (C : omC G x own cc nL h kc) {a cv dflt lo hi off : Int} {offs : Array Int} {len tgt : Nat} (d : decode cc pc = .ok (.tableswitch dflt lo hi offs, len)) (hc : omw a = cv) (h1 : ¬ cv < lo) (h2 : ¬ hi < cv) (ho : offs[(cv - lo).toNat]? = some off) (ht : (pc : Int) + off = (tgt : Int)) (kk : omV G x nL tgt ls st σ k) : omV G x nL pc ls (.int (omi a) :: st) σ k := by
  obtain ⟨p, l, e, R, s, m, args, below, meth, c, Q, A, c0, s0⟩ := x
  obtain ⟨hx, hb, hml, hown, hlk, hts, hK, hRO, hTX, hDj, hA, hst, hRf, hRl, hRc, hRs⟩ := C
  intro H locs la hl hP hS
  have e : (omi a).toInt = cv := (omw_eq a).trans hc
  exact lv_tableIn hx hb d (by rw [e]; exact h1) (by rw [e]; exact h2) (by rw [e]; exact ho) ht (kk H locs la hl hP hS)
theorem v_tabOut (C : omC G x own cc nL h kc) {a dflt lo hi : Int} {offs : Array Int} {len tgt : Nat} (d : decode cc pc = .ok (.tableswitch dflt lo hi offs, len)) (hc : omw a < lo ∨ hi < omw a) (ht : (pc : Int) + dflt = (tgt : Int)) (kk : omV G x nL tgt ls st σ k) : omV G x nL pc ls (.int (omi a) :: st) σ k := by
  obtain ⟨p, l, e, R, s, m, args, below, meth, c, Q, A, c0, s0⟩ := x
  obtain ⟨hx, hb, hml, hown, hlk, hts, hK, hRO, hTX, hDj, hA, hst, hRf, hRl, hRc, hRs⟩ := C
  intro H locs la hl hP hS
  exact lv_tableOut hx hb d (by rw [omw_eq]; exact hc) ht (kk H locs la hl hP hS)
theorem omfs_get {G : omG} {row : Nat → Int} : ∀ (fds : List (Option Nat)) (k0 i : Nat), (omfs G row fds k0)[i]? = (fds[i]?).map (omfv G row (k0 + i))
  | [], _, i => by simp [omfs]
  | d :: t, k0, 0 => by simp [omfs]
  | d :: t, k0, i + 1 => by
    show (omfs G row t (k0 + 1))[i]? = _
    rw [omfs_get t (k0 + 1) i, show k0 + 1 + i = k0 + (i + 1) by omega]
    rfl
theorem omfs_len {G : omG} {row : Nat → Int} : ∀ (fds : List (Option Nat)) (k0 : Nat), (omfs G row fds k0).length = fds.length
  | [], _ => rfl
  | _ :: t, k0 => by show (omfs G row t (k0 + 1)).length + 1 = _; rw [omfs_len t]; rfl
theorem omfs_set {G : omG} {σ : omH} {o kf : Nat} {v : Int} {fds : List (Option Nat)} {d : Option Nat} (hf : fds[kf]? = some d) {u : Value} (hu : u = omfv G (omsu σ o kf v o) kf d) : (omfs G (σ o) fds 0).set kf u = omfs G (omsu σ o kf v o) fds 0 := by
  subst hu
  apply List.ext_getElem?
  intro i
  rw [List.getElem?_set, omfs_get, omfs_get, omfs_len]
  split
  · rename_i e
    subst e
    rw [hf, if_pos (List.getElem?_eq_some_iff.mp hf).1]
    simp
  · rename_i e
    cases hi : fds[i]? with
    | none => rfl
    | some d' =>
      simp only [Option.map_some, Nat.zero_add]
      congr 1
      have hr : omsu σ o kf v o i = σ o i := by simp [omsu, Ne.symm e]
      unfold omfv
      rw [hr]
/-- a field by its pool number: place of the class, of the field -/
def omFI (own : String) (idx ci kf : Nat) : Prop := ∃ (Cn : String) (T : u_T) (N : Nat), vwCl[ci]? = some (Cn, T, N) ∧ kf < N ∧ (∀ w ∈ u_ws Cn T N, w ∈ omTB) ∧ Cond.fieldLink own idx Cn (T kf).2.1 (T kf).2.2.1 ∈ omTB ∧ (T kf).1 = Cn
/-- .. that may be written, of that type -/
def omFP (own : String) (idx ci kf : Nat) (ty : FieldType) : Prop := ∃ (Cn : String) (T : u_T) (N : Nat) (tyT : Nat → FieldType), vwCl[ci]? = some (Cn, T, N) ∧ kf < N ∧ (∀ w ∈ u_ws Cn T N, w ∈ omTB) ∧ Cond.fieldLink own idx Cn (T kf).2.1 (T kf).2.2.1 ∈ omTB ∧ (T kf).1 = Cn ∧ (∀ k, k < N → parseFieldDescriptor (T k).2.2.1 = some (tyT k)) ∧ (∀ a, a < N → ∀ b, b < N → a ≠ b → (T a).2.1 ≠ (T b).2.1) ∧ (T kf).2.2.2 = false ∧ tyT kf = ty
theorem v_geti (C : omC G x own cc nL h kc) {idx ci kf q o : Nat} {fds : List (Option Nat)} (hf : omFI own idx ci kf) (ho : omT[q]? = some (o, .inr (ci, fds))) (hd : fds[kf]? = some none) (d : decode cc pc = .ok (.getfield idx, 3)) (kk : omV G x nL (pc + 3) ls (.int (omi (σ o kf)) :: st) σ k) : omV G x nL pc ls (.ref (G.1 o) :: st) σ k := by
  obtain ⟨p, l, e, R, s, m, args, below, meth, c, Q, A, c0, s0⟩ := x
  obtain ⟨hx, hb, hml, hown, hlk, hts, hK, hRO, hTX, hDj, hA, hst, hRf, hRl, hRc, hRs⟩ := C
  intro H locs la hl hP hS
  obtain ⟨Cn, T, N, e1, e2, e3, e4, e5⟩ := hf
  refine va_get (D := G.2.1) (v := .int (omi (σ o kf))) hx hb hts e3 hown hK hP q (omW_get ho) e1 kf e2 (hts _ e4) (fun _ h9 => by rw [e5] at h9; exact h9) (by rw [omfs_get, hd]; simp [omfv]) d ?_
  exact kk H locs la hl hP hS
theorem v_getr (C : omC G x own cc nL h kc) {idx ci kf q o : Nat} {fds : List (Option Nat)} (hf : omFI own idx ci kf) (ho : omT[q]? = some (o, .inr (ci, fds))) {r : Nat} (hd : fds[kf]? = some (some r)) (hr : Nat.beq r 999 = false) (d : decode cc pc = .ok (.getfield idx, 3)) (kk : omV G x nL (pc + 3) ls (.ref (G.1 r) :: st) σ k) : omV G x nL pc ls (.ref (G.1 o) :: st) σ k := by
  obtain ⟨p, l, e, R, s, m, args, below, meth, c, Q, A, c0, s0⟩ := x
  obtain ⟨hx, hb, hml, hown, hlk, hts, hK, hRO, hTX, hDj, hA, hst, hRf, hRl, hRc, hRs⟩ := C
  intro H locs la hl hP hS
  have hr9 : r ≠ 999 := fun e => by rw [e] at hr; cases hr
  obtain ⟨Cn, T, N, e1, e2, e3, e4, e5⟩ := hf
  refine va_get (D := G.2.1) (v := .ref (G.1 r)) hx hb hts e3 hown hK hP q (omW_get ho) e1 kf e2 (hts _ e4) (fun _ h9 => by rw [e5] at h9; exact h9) (by rw [omfs_get, hd]; simp [omfv, hr9]) d ?_
  exact kk H locs la hl hP hS
theorem v_getd (C : omC G x own cc nL h kc) {idx ci kf q o : Nat} {fds : List (Option Nat)} (hf : omFI own idx ci kf) (ho : omT[q]? = some (o, .inr (ci, fds))) (hd : fds[kf]? = some (some 999)) (d : decode cc pc = .ok (.getfield idx, 3)) (kk : omV G x nL (pc + 3) ls (.ref (G.1 (σ o kf).toNat) :: st) σ k) : omV G x nL pc ls (.ref (G.1 o) :: st) σ k := by
  obtain ⟨p, l, e, R, s, m, args, below, meth, c, Q, A, c0, s0⟩ := x
  obtain ⟨hx, hb, hml, hown, hlk, hts, hK, hRO, hTX, hDj, hA, hst, hRf, hRl, hRc, hRs⟩ := C
  intro H locs la hl hP hS
  obtain ⟨Cn, T, N, e1, e2, e3, e4, e5⟩ := hf
  refine va_get (D := G.2.1) (v := .ref (G.1 (σ o kf).toNat)) hx hb hts e3 hown hK hP q (omW_get ho) e1 kf e2 (hts _ e4) (fun _ h9 => by rw [e5] at h9; exact h9) (by rw [omfs_get, hd]; simp [omfv]) d ?_
  exact kk H locs la hl hP hS
abbrev va_E_inr9 (G : omG) (ci : Nat) (row : Nat → Int) (fds : List (Option Nat)) : va_E := .inr (ci, omfs G row fds 0)
theorem v_puti (C : omC G x own cc nL h kc) {idx ci kf q o : Nat} {fds : List (Option Nat)} {v : Int} (hf : omFP own idx ci kf .int) (ho : omT[q]? = some (o, .inr (ci, fds))) (hd : fds[kf]? = some (none)) (d : decode cc pc = .ok (.putfield idx, 3)) (kk : omV G x nL (pc + 3) ls st (omsu σ o kf v) k) : omV G x nL pc ls (.int (omi v) :: .ref (G.1 o) :: st) σ k := by
  obtain ⟨p, l, e, R, s, m, args, below, meth, c, Q, A, c0, s0⟩ := x
  obtain ⟨hx, hb, hml, hown, hlk, hts, hK, hRO, hTX, hDj, hA, hst, hRf, hRl, hRc, hRs⟩ := C
  intro H locs la hl hP hS
  obtain ⟨Cn, T, N, tyT, e1, e2, e3, e4, e5, e6, e7, e8, e9⟩ := hf
  refine va_put (D := G.2.1) (v := .int (omi v)) (ty := .int) hx hb hts e3 tyT e6 e7 hown hK hP (hDj.D σ) hS q (omW_get ho) e1 kf e2 (hts _ e4) (fun _ h9 => by rw [e5] at h9; exact h9) e8 (by rw [e6 kf e2, e9]) rfl rfl (by rw [omfs_len]; exact (List.getElem?_eq_some_iff.mp hd).1) d (fun H1 locs1 hP1 hD1 hS1 => ?_)
  have he : (omW G σ).set q (G.1 o, .inr (ci, (omfs G (σ o) fds 0).set kf (.int (omi v)))) = omW G (omsu σ o kf v) := omW_set ho (by
    show _ = va_E_inr9 G ci (omsu σ o kf v o) fds
    unfold va_E_inr9
    rw [omfs_set hd (v := v) (by simp [omfv, omsu])])
  rw [he] at hP1
  exact kk H1 locs1 la hl hP1 hS1
theorem v_putz (C : omC G x own cc nL h kc) {idx ci kf q o : Nat} {fds : List (Option Nat)} {v : Int} (hf : omFP own idx ci kf .boolean) (hv : v = 0 ∨ v = 1) (ho : omT[q]? = some (o, .inr (ci, fds))) (hd : fds[kf]? = some (none)) (d : decode cc pc = .ok (.putfield idx, 3)) (kk : omV G x nL (pc + 3) ls st (omsu σ o kf v) k) : omV G x nL pc ls (.int (omi v) :: .ref (G.1 o) :: st) σ k := by
  obtain ⟨p, l, e, R, s, m, args, below, meth, c, Q, A, c0, s0⟩ := x
  obtain ⟨hx, hb, hml, hown, hlk, hts, hK, hRO, hTX, hDj, hA, hst, hRf, hRl, hRc, hRs⟩ := C
  intro H locs la hl hP hS
  obtain ⟨Cn, T, N, tyT, e1, e2, e3, e4, e5, e6, e7, e8, e9⟩ := hf
  refine va_put (D := G.2.1) (v := .int (omi v)) (ty := .boolean) hx hb hts e3 tyT e6 e7 hown hK hP (hDj.D σ) hS q (omW_get ho) e1 kf e2 (hts _ e4) (fun _ h9 => by rw [e5] at h9; exact h9) e8 (by rw [e6 kf e2, e9]) (by rcases hv with rfl | rfl <;> rfl) (by rcases hv with rfl | rfl <;> rfl) (by rw [omfs_len]; exact (List.getElem?_eq_some_iff.mp hd).1) d (fun H1 locs1 hP1 hD1 hS1 => ?_)
  have he : (omW G σ).set q (G.1 o, .inr (ci, (omfs G (σ o) fds 0).set kf (.int (omi v)))) = omW G (omsu σ o kf v) := omW_set ho (by
    show _ = va_E_inr9 G ci (omsu σ o kf v o) fds
    unfold va_E_inr9
    rw [omfs_set hd (v := v) (by simp [omfv, omsu])])
  rw [he] at hP1
  exact kk H1 locs1 la hl hP1 hS1
theorem v_putr (C : omC G x own cc nL h kc) {idx ci kf q o : Nat} {fds : List (Option Nat)} {r : Nat} {cn : String} (hf : omFP own idx ci kf (.object cn)) (ho : omT[q]? = some (o, .inr (ci, fds))) (hd : fds[kf]? = some (some 999)) (d : decode cc pc = .ok (.putfield idx, 3)) (kk : omV G x nL (pc + 3) ls st (omsu σ o kf r) k) : omV G x nL pc ls (.ref (G.1 r) :: .ref (G.1 o) :: st) σ k := by
  obtain ⟨p, l, e, R, s, m, args, below, meth, c, Q, A, c0, s0⟩ := x
  obtain ⟨hx, hb, hml, hown, hlk, hts, hK, hRO, hTX, hDj, hA, hst, hRf, hRl, hRc, hRs⟩ := C
  intro H locs la hl hP hS
  obtain ⟨Cn, T, N, tyT, e1, e2, e3, e4, e5, e6, e7, e8, e9⟩ := hf
  refine va_put (D := G.2.1) (v := .ref (G.1 r)) (ty := .object cn) hx hb hts e3 tyT e6 e7 hown hK hP (hDj.D σ) hS q (omW_get ho) e1 kf e2 (hts _ e4) (fun _ h9 => by rw [e5] at h9; exact h9) e8 (by rw [e6 kf e2, e9]) rfl rfl (by rw [omfs_len]; exact (List.getElem?_eq_some_iff.mp hd).1) d (fun H1 locs1 hP1 hD1 hS1 => ?_)
  have he : (omW G σ).set q (G.1 o, .inr (ci, (omfs G (σ o) fds 0).set kf (.ref (G.1 r)))) = omW G (omsu σ o kf r) := omW_set ho (by
    show _ = va_E_inr9 G ci (omsu σ o kf r o) fds
    unfold va_E_inr9
    rw [omfs_set hd (v := r) (by simp [omfv, omsu])])
  rw [he] at hP1
  exact kk H1 locs1 la hl hP1 hS1
theorem om_in {j : Int} {n : Nat} (h0 : 0 ≤ omw j) (hj : omw j < n) : vp_in (omi j) n := by
  intro hh
  rcases hh with hh | hh
  · rw [Int32.lt_iff_toInt_lt, omw_eq] at hh
    have : (0 : Int32).toInt = 0 := rfl
    omega
  · have : (omi j).toNatClampNeg = (omw j).toNat := by
      show (Int32.ofInt j).toInt.toNat = _
      rw [omw_eq]
    omega
theorem om_cl (j : Int) : (omi j).toNatClampNeg = (omw j).toNat := by
  show (Int32.ofInt j).toInt.toNat = _
  rw [omw_eq]
theorem v_iald (C : omC G x own cc nL h kc) {q o n : Nat} {j : Int} (ho : omT[q]? = some (o, .inl (0, n))) (hj : 0 ≤ omw j ∧ omw j < n) (d : decode cc pc = .ok (.iaload, 1)) (kk : omV G x nL (pc + 1) ls (.int (omi (σ o (omw j).toNat)) :: st) σ k) : omV G x nL pc ls (.int (omi j) :: .ref (G.1 o) :: st) σ k := by
  obtain ⟨p, l, e, R, s, m, args, below, meth, c, Q, A, c0, s0⟩ := x
  obtain ⟨hx, hb, hml, hown, hlk, hts, hK, hRO, hTX, hDj, hA, hst, hRf, hRl, hRc, hRs⟩ := C
  intro H locs la hl hP hS
  refine va_iald hx hb hK hP q 0 (omW_get ho) rfl (om_in hj.1 hj.2) d ?_
  rw [om_cl]
  exact kk H locs la hl hP hS
theorem v_iast (C : omC G x own cc nL h kc) {q o n : Nat} {j : Int} (ho : omT[q]? = some (o, .inl (0, n))) (hj : 0 ≤ omw j ∧ omw j < n) {v : Int} (d : decode cc pc = .ok (.iastore, 1)) (kk : omV G x nL (pc + 1) ls st (omsu σ o (omw j).toNat v) k) : omV G x nL pc ls (.int (omi v) :: .int (omi j) :: .ref (G.1 o) :: st) σ k := by
  obtain ⟨p, l, e, R, s, m, args, below, meth, c, Q, A, c0, s0⟩ := x
  obtain ⟨hx, hb, hml, hown, hlk, hts, hK, hRO, hTX, hDj, hA, hst, hRf, hRl, hRc, hRs⟩ := C
  intro H locs la hl hP hS
  refine va_iast hx hb hK hP (hDj.D σ) hS q 0 (omW_get ho) rfl (om_in hj.1 hj.2) d (fun H1 locs1 hP1 hD1 hS1 => ?_)
  have he : (omW G σ).set q (G.1 o, .inl (G.2.2.1.1, n, .inl (upd (fun i => omi (σ o i)) (omi j).toNatClampNeg (omi v)))) = omW G (omsu σ o (omw j).toNat v) := omW_set ho (by
    show _ = (.inl (G.2.2.1.1, n, .inl (fun i => omi (omsu σ o (omw j).toNat v o i))) : va_E)
    congr 1; congr 1; congr 1
    first
      | (funext i; rw [om_cl]; unfold upd omsu; by_cases hi : i = (omw j).toNat <;> simp [hi])
      | (congr 1; congr 1; funext i; rw [om_cl]; unfold upd omsu; by_cases hi : i = (omw j).toNat <;> simp [hi]))
  rw [he] at hP1
  exact kk H1 locs1 la hl hP1 hS1
end OMR
