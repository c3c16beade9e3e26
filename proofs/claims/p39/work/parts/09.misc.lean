/-! ===== rows: constants' objects, tables, the script, members of the library ===== -/
def omushr (a b : Int) : Int := (((omi a).toUInt32 >>> ((omi b).toUInt32 &&& Int32.toUInt32 31)).toInt32).toInt
/-- an enum's constants: their objects' numbers are b, b + 1 .. below b + n -/
def omEn (E d : String) (nm : List String) (b : Nat) : Prop := ∀ (G : omG) (A : Nat → Prop) (U : State) (H : Heap), omRO G A U H → va_En E d nm omOrd (fun i => G.1 (b + i)) A U H
theorem omEn_Cost : omEn RX1 "LOneMachine$Cost;" omCostN 0 := fun _ _ _ _ h => h.1
theorem omEn_Key : omEn RX3 "LOneMachine$Key;" omKeyN 5 := fun _ _ _ _ h => h.2.1
theorem omEn_Way : omEn RX9 "LOneMachine$Way;" omWayN 8 := fun _ _ _ _ h => h.2.2.1
def omSw (f : String) (o n : Nat) : Prop := ∀ (G : omG) (A : Nat → Prop) (U : State) (H : Heap), omRO G A U H → va_Z RX0 f "[I" (.ref (G.1 o)) A U H ∧ va_T .int (G.1 o) n (fun j => .int (omi (j + 1))) A U H
theorem omSw_Cost : omSw "$SwitchMap$OneMachine$Cost" 11 5 := fun _ _ _ _ h => h.2.2.2.1
theorem omSw_Key : omSw "$SwitchMap$OneMachine$Key" 12 3 := fun _ _ _ _ h => h.2.2.2.2.1
theorem omSw_Way : omSw "$SwitchMap$OneMachine$Way" 13 3 := fun _ _ _ _ h => h.2.2.2.2.2.1
def omscr (G : omG) (j : Nat) : Int := (G.2.2.2.1.2 j).toInt
/-- the rows' arrays that orders are laid into -/
def omI10 (o : Nat) : Prop := o = 30 ∨ o = 31 ∨ o = 36 ∨ o = 39 ∨ o = 41
theorem omI10_at {o : Nat} (h : omI10 o) : ∃ q : Nat, omT[q]? = some ((o, .inl (0, 10)) : Nat × omD) := by
  rcases h with rfl | rfl | rfl | rfl | rfl
  · exact ⟨14, rfl⟩
  · exact ⟨15, rfl⟩
  · exact ⟨20, rfl⟩
  · exact ⟨23, rfl⟩
  · exact ⟨25, rfl⟩
section OMS
variable {G : omG} {x : omX} {own : String} {cc : ByteArray} {nL h kc pc : Nat} {ls : List (Nat × Value)} {st : List Value} {σ : omH} {k : Nat}
theorem v_gste (C : omC G x own cc nL h kc) {E d : String} {nm : List String} {b i cn idx : Nat} (hE : omEn E d nm b) (hi : i < nm.length) (hc : b + i = cn) (hlink : Cond.fieldLink own idx E (nm.getD i "") d ∈ omTB) (dd : decode cc pc = .ok (.getstatic idx, 3)) (kk : omV G x nL (pc + 3) ls (.ref (G.1 cn) :: st) σ k) : omV G x nL pc ls st σ k := by
  obtain ⟨p, l, e, R, s, m, args, below, meth, c, Q, A, c0, s0⟩ := x
  obtain ⟨hx, hb, hml, hown, hlk, hts, hK, hRO, hTX, hDj, hA, hst, hRf, hRl, hRc, hRs⟩ := C
  intro H locs la hl hP hS
  subst hc
  exact va_gets hx hb ((hE G A s s.heap hRO).1 i hi).1 hS hown (hts _ hlink) (fun _ h9 => h9) dd (kk H locs la hl hP hS)
theorem v_gsts (C : omC G x own cc nL h kc) {f : String} {o n idx : Nat} (hE : omSw f o n) (hlink : Cond.fieldLink own idx RX0 f "[I" ∈ omTB) (dd : decode cc pc = .ok (.getstatic idx, 3)) (kk : omV G x nL (pc + 3) ls (.ref (G.1 o) :: st) σ k) : omV G x nL pc ls st σ k := by
  obtain ⟨p, l, e, R, s, m, args, below, meth, c, Q, A, c0, s0⟩ := x
  obtain ⟨hx, hb, hml, hown, hlk, hts, hK, hRO, hTX, hDj, hA, hst, hRf, hRl, hRc, hRs⟩ := C
  intro H locs la hl hP hS
  exact va_gets hx hb (hE G A s s.heap hRO).1 hS hown (hts _ hlink) (fun _ h9 => h9) dd (kk H locs la hl hP hS)
theorem v_swld (C : omC G x own cc nL h kc) {f : String} {o n : Nat} {j : Int} (hE : omSw f o n) (hj : 0 ≤ omw j ∧ omw j < n) (dd : decode cc pc = .ok (.iaload, 1)) (kk : omV G x nL (pc + 1) ls (.int (omi (omw j + 1)) :: st) σ k) : omV G x nL pc ls (.int (omi j) :: .ref (G.1 o) :: st) σ k := by
  obtain ⟨p, l, e, R, s, m, args, below, meth, c, Q, A, c0, s0⟩ := x
  obtain ⟨hx, hb, hml, hown, hlk, hts, hK, hRO, hTX, hDj, hA, hst, hRf, hRl, hRc, hRs⟩ := C
  intro H locs la hl hP hS
  refine va_ti hx hb (hE G A s s.heap hRO).2 hS (om_in hj.1 hj.2) (v := .int (omi (omw j + 1))) ?_ dd (kk H locs la hl hP hS)
  rw [om_cl, Int.toNat_of_nonneg hj.1]
theorem v_scrld (C : omC G x own cc nL h kc) {j : Int} (hj : 0 ≤ omw j ∧ omw j < G.2.2.2.1.1) (dd : decode cc pc = .ok (.iaload, 1)) (kk : omV G x nL (pc + 1) ls (.int (omi (omscr G (omw j).toNat)) :: st) σ k) : omV G x nL pc ls (.int (omi j) :: .ref (G.1 14) :: st) σ k := by
  obtain ⟨p, l, e, R, s, m, args, below, meth, c, Q, A, c0, s0⟩ := x
  obtain ⟨hx, hb, hml, hown, hlk, hts, hK, hRO, hTX, hDj, hA, hst, hRf, hRl, hRc, hRs⟩ := C
  intro H locs la hl hP hS
  refine va_ti hx hb hRO.2.2.2.2.2.2.1 hS (om_in hj.1 hj.2) (v := .int (omi (omscr G (omw j).toNat))) ?_ dd (kk H locs la hl hP hS)
  rw [om_cl]
  unfold omscr
  exact congrArg Value.int (Int32.ofInt_toInt _).symm
theorem v_scrlen (C : omC G x own cc nL h kc) (dd : decode cc pc = .ok (.arraylength, 1)) (kk : omV G x nL (pc + 1) ls (.int (omi (G.2.2.2.1.1 : Int)) :: st) σ k) : omV G x nL pc ls (.ref (G.1 14) :: st) σ k := by
  obtain ⟨p, l, e, R, s, m, args, below, meth, c, Q, A, c0, s0⟩ := x
  obtain ⟨hx, hb, hml, hown, hlk, hts, hK, hRO, hTX, hDj, hA, hst, hRf, hRl, hRc, hRs⟩ := C
  intro H locs la hl hP hS
  exact va_tlen hx hb hRO.2.2.2.2.2.2.1 hS (v := omi (G.2.2.2.1.1 : Int)) (by first | exact (Int32.ofInt_eq_ofNat).symm | simp) dd (kk H locs la hl hP hS)
theorem v_ordf (C : omC G x own cc nL h kc) {E d : String} {nm : List String} {b cn idx : Nat} {ov : Int} (hE : omEn E d nm b) (hb1 : b ≤ cn) (hb2 : cn < b + nm.length) (hnm : nm.length ≤ 5) (ho : ((cn - b : Nat) : Int) = ov) (hlink : Cond.fieldLink own idx "java/lang/Enum" "ordinal" "I" ∈ omTB) (dd : decode cc pc = .ok (.getfield idx, 3)) (kk : omV G x nL (pc + 3) ls (.int (omi ov) :: st) σ k) : omV G x nL pc ls (.ref (G.1 cn) :: st) σ k := by
  obtain ⟨p, l, e, R, s, m, args, below, meth, c, Q, A, c0, s0⟩ := x
  obtain ⟨hx, hb, hml, hown, hlk, hts, hK, hRO, hTX, hDj, hA, hst, hRf, hRl, hRc, hRs⟩ := C
  intro H locs la hl hP hS
  have hEn := hE G A s s.heap hRO
  have kk' := kk H locs la hl hP hS
  have e1 : G.1 cn = (fun i => G.1 (b + i)) (cn - b) := congrArg G.1 (show cn = b + (cn - b) by omega)
  rw [e1]
  refine va_getE hx hb hEn (i := cn - b) (by omega) hS hown (q := ("java/lang/Enum", "ordinal", "I", [0, 1, 2, 3, 4])) List.mem_cons_self (hts _ hlink) (fun _ h9 => h9) dd ?_
  have e2 : ∀ i : Nat, i < 5 → ([0, 1, 2, 3, 4] : List Int32).getD i 0 = omi (i : Int) := by decide +kernel
  show W _ _ _ _ _ _ _ _ _ _ _ _ _ _ _ (F0 _ _ _ (.int (([0, 1, 2, 3, 4] : List Int32).getD (cn - b) 0) :: _))
  rw [e2 _ (by omega), ho]
  exact kk'
theorem v_acmpne (C : omC G x own cc nL h kc) {a b : Nat} {off : Int} {tgt : Nat} (ha : a < 5) (hb5 : b < 5) (d : decode cc pc = .ok (.if_acmp .ne off, 3)) (ht : (pc : Int) + off = (tgt : Int)) (kt : ¬ a = b → omV G x nL tgt ls st σ k) (kf : a = b → omV G x nL (pc + 3) ls st σ k) : omV G x nL pc ls (.ref (G.1 b) :: .ref (G.1 a) :: st) σ k := by
  obtain ⟨p, l, e, R, s, m, args, below, meth, c, Q, A, c0, s0⟩ := x
  obtain ⟨hx, hb, hml, hown, hlk, hts, hK, hRO, hTX, hDj, hA, hst, hRf, hRl, hRc, hRs⟩ := C
  intro H locs la hl hP hS
  refine lv_acmp_ne (rx := some (G.1 a)) (ry := some (G.1 b)) hx hb d ht (fun hh => kt (fun e => hh (by rw [e])) H locs la hl hP hS) (fun hh => kf ?_ H locs la hl hP hS)
  have hE := (omEn_Cost G A s s.heap hRO).2 a b (by show a < 5; exact ha) (by show b < 5; exact hb5)
  exact hE (by show G.1 (0 + a) = G.1 (0 + b); rw [Nat.zero_add, Nat.zero_add]; exact Option.some.inj hh)
theorem v_iushr (C : omC G x own cc nL h kc) {a b : Int} (d : decode cc pc = .ok (.iushr, 1)) (kk : omV G x nL (pc + 1) ls (.int (omi (omushr a b)) :: st) σ k) : omV G x nL pc ls (.int (omi b) :: .int (omi a) :: st) σ k := by
  obtain ⟨p, l, e, R, s, m, args, below, meth, c, Q, A, c0, s0⟩ := x
  obtain ⟨hx, hb, hml, hown, hlk, hts, hK, hRO, hTX, hDj, hA, hst, hRf, hRl, hRc, hRs⟩ := C
  intro H locs la hl hP hS
  exact lv_iushr hx hb d (Int32.ofInt_toInt _).symm (kk H locs la hl hP hS)
theorem v_ldcw (C : omC G x own cc nL h kc) {i : Nat} {a : Int} (hc : Cond.constant own i (omi a) ∈ omTB) (d : decode cc pc = .ok (.ldc_w i, 3)) (kk : omV G x nL (pc + 3) ls (.int (omi a) :: st) σ k) : omV G x nL pc ls st σ k := by
  obtain ⟨p, l, e, R, s, m, args, below, meth, c, Q, A, c0, s0⟩ := x
  obtain ⟨hx, hb, hml, hown, hlk, hts, hK, hRO, hTX, hDj, hA, hst, hRf, hRl, hRc, hRs⟩ := C
  intro H locs la hl hP hS
  exact lv_ldcw hx hb hown (hts _ hc) d (kk H locs la hl hP hS)
theorem v_mmax (C : omC G x own cc nL h kc) {a b : Int} {idx : Nat} (h1 : Cond.methodLink own idx Lib.Math.max.name ∈ omTB) (h2 : Cond.static Lib.Math.max.name ∈ omTB) (h3 : Cond.initialized "java/lang/Math" ∈ omTB) (h4 : Cond.code Lib.Math.max.name Lib.Math.max.code 2 (some .int) ∈ omTB) (hcat : (st.map fun v => v.category).sum ≤ 8) (hkc : k ≤ kc) (d : decode cc pc = .ok (.invokestatic idx, 3)) (kk : omV G x nL (pc + 3) ls (.int (omi (max (omw a) (omw b))) :: st) σ k) : omV G x nL pc ls (.int (omi b) :: .int (omi a) :: st) σ k := by
  obtain ⟨p, l, e, R, s, m, args, below, meth, c, Q, A, c0, s0⟩ := x
  obtain ⟨hx, hb, hml, hown, hlk, hts, hK, hRO, hTX, hDj, hA, hst, hRf, hRl, hRc, hRs⟩ := C
  intro H locs la hl hP hS
  have kk' := kk H locs la hl hP hS
  refine va_mmax hx hb (hml.trans hl.1.1.symm) hown (hts _ h1) (hts _ h2) (hts _ h3) (hts _ h4) (by omega) (by omega) (by omega) (by omega) d ?_
  have e : (if omi a < omi b then omi b else omi a) = omi (max (omw a) (omw b)) := by
    by_cases hh : omw a < omw b
    · rw [if_pos (omi_lt.mpr hh), show max (omw a) (omw b) = omw b by omega, omi_w]
    · rw [if_neg (fun q => hh (omi_lt.mp q)), show max (omw a) (omw b) = omw a by omega, omi_w]
  rw [e]
  exact kk'

theorem v_mmin (C : omC G x own cc nL h kc) {a b : Int} {idx : Nat} (h1 : Cond.methodLink own idx Lib.Math.min.name ∈ omTB) (h2 : Cond.static Lib.Math.min.name ∈ omTB) (h3 : Cond.initialized "java/lang/Math" ∈ omTB) (h4 : Cond.code Lib.Math.min.name Lib.Math.min.code 2 (some .int) ∈ omTB) (hcat : (st.map fun v => v.category).sum ≤ 8) (hkc : k ≤ kc) (d : decode cc pc = .ok (.invokestatic idx, 3)) (kk : omV G x nL (pc + 3) ls (.int (omi (min (omw a) (omw b))) :: st) σ k) : omV G x nL pc ls (.int (omi b) :: .int (omi a) :: st) σ k := by
  obtain ⟨p, l, e, R, s, m, args, below, meth, c, Q, A, c0, s0⟩ := x
  obtain ⟨hx, hb, hml, hown, hlk, hts, hK, hRO, hTX, hDj, hA, hst, hRf, hRl, hRc, hRs⟩ := C
  intro H locs la hl hP hS
  have kk' := kk H locs la hl hP hS
  refine va_mmin hx hb (hml.trans hl.1.1.symm) hown (hts _ h1) (hts _ h2) (hts _ h3) (hts _ h4) (by omega) (by omega) (by omega) (by omega) d ?_
  have e : (if omi b < omi a then omi b else omi a) = omi (min (omw a) (omw b)) := by
    by_cases hh : omw b < omw a
    · rw [if_pos (omi_lt.mpr hh), show min (omw a) (omw b) = omw b by omega, omi_w]
    · rw [if_neg (fun q => hh (omi_lt.mp q)), show min (omw a) (omw b) = omw a by omega, omi_w]
  rw [e]
  exact kk'

def omcpy (σ : omH) : omH := fun o j => if o = 37 ∧ j < 10 then σ 18 j else σ o j
theorem v_acopy (C : omC G x own cc nL h kc) {idx : Nat} (h1 : Cond.methodLink own idx arraycopyName ∈ omTB) (h2 : Cond.native arraycopyName ∈ omTB) (h3 : Cond.static arraycopyName ∈ omTB) (h4 : Cond.initialized "java/lang/System" ∈ omTB) (hcat : (st.map fun v => v.category).sum ≤ 8) (d : decode cc pc = .ok (.invokestatic idx, 3)) (kk : omV G x nL (pc + 3) ls st (omcpy σ) k) : omV G x nL pc ls (.int (omi 10) :: .int (omi 0) :: .ref (G.1 37) :: .int (omi 0) :: .ref (G.1 18) :: st) σ k := by
  obtain ⟨p, l, e, R, s, m, args, below, meth, c, Q, A, c0, s0⟩ := x
  obtain ⟨hx, hb, hml, hown, hlk, hts, hK, hRO, hTX, hDj, hA, hst, hRf, hRl, hRc, hRs⟩ := C
  intro H locs la hl hP hS
  have hnw : nativeFrameWords "java/lang/System" "arraycopy" 5 + 11 ≤ 100 := by decide +kernel
  refine va_copyi hx hb (hml.trans hl.1.1.symm) hown (hts _ h1) (hts _ h2) (hts _ h3) (hts _ h4) hK hP (hDj.D σ) hS 2 21 0 0 (omW_get (o := 18) (d := .inl (0, 10)) rfl) (omW_get (o := 37) (d := .inl (0, 10)) rfl) rfl rfl rfl (by decide) (by decide) (by decide) (by decide) (by decide) (fun _ _ => rfl) (by omega) (by omega) d (fun H1 locs1 hP1 hD1 hS1 => ?_)
  have he : (omW G σ).set 21 (G.1 37, .inl (G.2.2.1.1, 10, .inl (va_cpy (fun j => omi (σ 18 j)) (fun j => omi (σ 37 j)) (omi 0).toNatClampNeg (omi 0).toNatClampNeg (omi 10).toNatClampNeg))) = omW G (omcpy σ) := by
    apply List.ext_getElem?
    intro i
    rw [List.getElem?_set]
    split
    · rename_i hq
      subst hq
      rw [if_pos (by unfold omW; rw [List.length_map]; decide : 21 < (omW G σ).length), omW_get (σ := omcpy σ) (o := 37) (d := .inl (0, 10)) rfl]
      congr 1; congr 1
      show (_ : va_E) = .inl (G.2.2.1.1, 10, .inl (fun j => omi (omcpy σ 37 j)))
      congr 1; congr 1; congr 1
      congr 1
      funext j
      have e0 : (omi 0).toNatClampNeg = 0 := rfl
      have e1 : (omi 10).toNatClampNeg = 10 := by decide +kernel
      rw [e0, e1]
      unfold omcpy
      by_cases hj : j < 10
      · rw [pk_cpy_in (by omega) (by omega), if_pos ⟨rfl, hj⟩]; simp
      · rw [pk_cpy_out (by omega), if_neg (fun q => hj q.2)]
    · rename_i hq
      unfold omW
      rw [List.getElem?_map, List.getElem?_map]
      cases hi : omT[i]? with
      | none => rfl
      | some p9 =>
        obtain ⟨o', d'⟩ := p9
        have hne : o' ≠ 37 := fun e => hq (omT_key (i := 21) (p := (37, .inl (0, 10))) rfl hi e.symm)
        show some (G.1 o', oment G (σ o') d') = some (G.1 o', oment G (omcpy σ o') d')
        have : omcpy σ o' = σ o' := by funext j'; simp [omcpy, hne]
        rw [this]
  rw [he] at hP1
  exact kk H1 locs1 la hl hP1 hS1
end OMS
