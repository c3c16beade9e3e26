/-! ===== contracts over the abstract state, calls, ends ===== -/
abbrev omO : Type := String ⊕ Option Value
def omRm (h kc : Nat) : Room := { frames := 8 + h, cells := kc, slots := 8 * kc, locals := 200 + 40 * h }
def omPre (G : omG) (sz : Nat) (σ : omH) (args : List Value) : Array Value → State → Prop := va_Pc args (fun U => U.heap.size = sz ∧ va_P G.2.1 vwCl (omW G σ) U.heap ∧ va_K G.2.1 vwCl (omTys G) U ∧ omRO G (omA G sz) U U.heap ∧ omTX G U ∧ omDj G (omA G sz))
def omQ (G : omG) (sz : Nat) (out : omO) (σ : omH) : Array Value → State → Outcome → State → Prop := fun _ st o t => (∃ v, out = .inr v ∧ o = .returned v) ∧ va_P G.2.1 vwCl (omW G σ) t.heap ∧ va_F (omA G sz) st t
def omXC (G : omG) (sz : Nat) (out : omO) (σ : omH) : String → State → State → Prop := fun E st t => out = .inl E ∧ va_P G.2.1 vwCl (omW G σ) t.heap ∧ va_F (omA G sz) st t
/-- a method's contract: at these arguments and this state it comes to this outcome and that state -/
def omM (G : omG) (y : MethodName) (cd : Cond) (h kc : Nat) (args : List Value) (σ : omH) (out : omO) (σ' : omH) : Prop := G.2.2.2.2.2.stackTraces = false → ∀ sz : Nat, vx_Met G.2.2.2.2.2 y (cd :: omTB) (omRm h kc) (omPre G sz σ args) (omQ G sz out σ') (omXC G sz out σ') kc (8 * kc) (omA G sz)
theorem om_blind {G : omG} {sz : Nat} {σ : omH} {args : List Value} : FrameBlind (omPre G sz σ args) := by
  intro a U g mk q
  obtain ⟨q0, q1, q2, q3, q4, q5, q6⟩ := q
  exact ⟨q0, q1, q2, va_K.moved (u := U) (U := U.calling g mk a) (Vm.Alike.refl U.vm) q3, omRO.moved (u := U) (U := U.calling g mk a) (Vm.Alike.refl U.vm) q4, fun t ht => vk_R.same (u := U) (U := U.calling g mk a) rfl (q5 t ht), q6⟩
/-- what a method's end must be -/
def omF (G : omG) (x : omX) (ret : Option FieldType) (kc : Nat) (hh : List (Nat × Nat × Nat × Nat)) (out : omO) (σ : omH) : Prop := match x with
  | (_, _, _, _, s, _, args, below, meth, c, Q, A, c0, s0) => meth.sig.returnType = ret ∧ c0 = 0 ∧ s0 = 0 ∧ A = omA G s.heap.size ∧ Q = vx_MQ below (omQ G s.heap.size out σ) (omXC G s.heap.size out σ) args s kc (8 * kc) (omA G s.heap.size) ∧ c.exceptionTable.toList = tableOf hh
def omLs (args : List Value) : List (Nat × Value) := lv_args 0 args
theorem om_head {G : omG} {y : MethodName} {own : String} {cc : ByteArray} {nL h kc : Nat} {ret : Option FieldType} {args : List Value} {σ σ' : omH} {out : omO} {ls : List (Nat × Value)} (hy : plainName y.cls = true) (hown : y.cls = own) (hl : (lg_sl args).length ≤ nL) (hcat : lv_args 0 args = ls) (hc1 : ∀ q ∈ ls, q.2.category = 1)
    (body : ∀ x, omC G x own cc nL h kc → omF G x ret kc [] out σ' → omV G x nL 0 ls [] σ 0) : omM G y (.code y cc nL ret) h kc args σ out σ' := by
  intro hst sz
  subst hown
  subst hcat
  refine vx_ofW (cc := cc) (maxL := nL) (ret := ret) hy rfl ?_
  intro p e s m args' below meth c s₁ B hml htab hP
  obtain ⟨rfl, hsz, hPw, hK, hRO, hTX, hDj⟩ := hP
  subst hsz
  have hts := atoms_spec (ws := .code y cc nL ret :: omTB) B.pre
  have ht : c.exceptionTable.toList = tableOf [] := by
    cases hq : c.exceptionTable.toList with
    | nil => rfl
    | cons z t => exact (htab z (by rw [hq]; exact List.mem_cons_self)).elim
  have hC : omC G (p, G.2.2.2.2.2, e, omRm h kc, s, m, args.toArray, below, meth, c, vx_MQ below (omQ G s.heap.size out σ') (omXC G s.heap.size out σ') args.toArray s kc (8 * kc) (omA G s.heap.size), omA G s.heap.size, 0, 0) y.cls cc nL h kc :=
    ⟨B.exec, B.bytes, hml, findClass_of_methodNamed B.named, B.notSynchronized, fun w hw => hts w (List.mem_cons_of_mem _ hw), hK, hRO, hTX, hDj, fun q hq => Or.inr hq, ⟨rfl, hst⟩, Nat.le_refl _, Nat.le_refl _, by show 0 + kc ≤ kc; omega, by show 0 + 8 * kc ≤ 8 * kc; omega⟩
  have hV := body _ hC ⟨B.returns, rfl, rfl, rfl, rfl, ht⟩
  have := hV s.heap [] _ ⟨lv_entry args hl, hc1⟩ hPw va_S.rf
  rw [lg_entry_eq]
  exact this
/-- .. of a method with handlers -/
theorem om_headH {G : omG} {y : MethodName} {own : String} {cc : ByteArray} {nL h kc : Nat} {ret : Option FieldType} {hh : List (Nat × Nat × Nat × Nat)} {args : List Value} {σ σ' : omH} {out : omO} {ls : List (Nat × Value)} (hy : plainName y.cls = true) (hown : y.cls = own) (hl : (lg_sl args).length ≤ nL) (hcat : lv_args 0 args = ls) (hc1 : ∀ q ∈ ls, q.2.category = 1)
    (body : ∀ x, omC G x own cc nL h kc → omF G x ret kc hh out σ' → omV G x nL 0 ls [] σ 0) : omM G y (.codeWith y cc nL ret hh) h kc args σ out σ' := by
  intro hst sz
  subst hown
  subst hcat
  refine vx_ofWH (cc := cc) (maxL := nL) (ret := ret) (hh := hh) hy rfl ?_
  intro p e s m args' below meth c s₁ B hml hP
  obtain ⟨rfl, hsz, hPw, hK, hRO, hTX, hDj⟩ := hP
  subst hsz
  have hts := atoms_spec (ws := .codeWith y cc nL ret hh :: omTB) B.pre
  have ht : c.exceptionTable.toList = tableOf hh := vx_table (x := y) B (hts _ List.mem_cons_self)
  have hC : omC G (p, G.2.2.2.2.2, e, omRm h kc, s, m, args.toArray, below, meth, c, vx_MQ below (omQ G s.heap.size out σ') (omXC G s.heap.size out σ') args.toArray s kc (8 * kc) (omA G s.heap.size), omA G s.heap.size, 0, 0) y.cls cc nL h kc :=
    ⟨B.exec, B.bytes, hml, findClass_of_methodNamed B.named, B.notSynchronized, fun w hw => hts w (List.mem_cons_of_mem _ hw), hK, hRO, hTX, hDj, fun q hq => Or.inr hq, ⟨rfl, hst⟩, Nat.le_refl _, Nat.le_refl _, by show 0 + kc ≤ kc; omega, by show 0 + 8 * kc ≤ 8 * kc; omega⟩
  have hV := body _ hC ⟨B.returns, rfl, rfl, rfl, rfl, ht⟩
  have := hV s.heap [] _ ⟨lv_entry args hl, hc1⟩ hPw va_S.rf
  rw [lg_entry_eq]
  exact this
section OME
variable {G : omG} {x : omX} {own : String} {cc : ByteArray} {nL h kc pc : Nat} {ls : List (Nat × Value)} {st : List Value} {σ σ' : omH} {k : Nat} {hh : List (Nat × Nat × Nat × Nat)}
theorem v_iret (C : omC G x own cc nL h kc) {r : Int} (F : omF G x (some .int) kc hh (.inr (some (.int (omi r)))) σ) (d : decode cc pc = .ok (.ireturn, 1)) (hk : k ≤ kc) : omV G x nL pc ls [.int (omi r)] σ k := by
  obtain ⟨p, l, e, R, s, m, args, below, meth, c, Q, A, c0, s0⟩ := x
  obtain ⟨hx, hb, hml, hown, hlk, hts, hK, hRO, hTX, hDj, hA, hst, hRf, hRl, hRc, hRs⟩ := C
  obtain ⟨hr, rfl, rfl, rfl, rfl, htb⟩ := F
  intro H locs la hl hP hS
  refine vx_ret (W.widen (k := kc) (n := 8 * kc) (by omega) (by omega) ?_)
  exact W.iret hx hb hr (fun t ht hW => ⟨⟨_, rfl, rfl⟩, by rw [ht]; exact hP, hS.F ht⟩) hS.2.2 d
theorem v_zret (C : omC G x own cc nL h kc) {r : Int} (hr01 : r = 0 ∨ r = 1) (F : omF G x (some .boolean) kc hh (.inr (some (.int (omi r)))) σ) (d : decode cc pc = .ok (.ireturn, 1)) (hk : k ≤ kc) : omV G x nL pc ls [.int (omi r)] σ k := by
  obtain ⟨p, l, e, R, s, m, args, below, meth, c, Q, A, c0, s0⟩ := x
  obtain ⟨hx, hb, hml, hown, hlk, hts, hK, hRO, hTX, hDj, hA, hst, hRf, hRl, hRc, hRs⟩ := C
  obtain ⟨hr, rfl, rfl, rfl, rfl, htb⟩ := F
  intro H locs la hl hP hS
  refine vx_ret (W.widen (k := kc) (n := 8 * kc) (by omega) (by omega) ?_)
  exact W.zret hx hb hr (by rcases hr01 with rfl | rfl <;> rfl) (fun t ht hW => ⟨⟨_, rfl, rfl⟩, by rw [ht]; exact hP, hS.F ht⟩) hS.2.2 d
theorem v_vret (C : omC G x own cc nL h kc) (F : omF G x none kc hh (.inr none) σ) (d : decode cc pc = .ok (.return_, 1)) (hk : k ≤ kc) : omV G x nL pc ls [] σ k := by
  obtain ⟨p, l, e, R, s, m, args, below, meth, c, Q, A, c0, s0⟩ := x
  obtain ⟨hx, hb, hml, hown, hlk, hts, hK, hRO, hTX, hDj, hA, hst, hRf, hRl, hRc, hRs⟩ := C
  obtain ⟨hr, rfl, rfl, rfl, rfl, htb⟩ := F
  intro H locs la hl hP hS
  refine vx_ret (W.widen (k := kc) (n := 8 * kc) (by omega) (by omega) ?_)
  exact W.vret hx hb hr (fun t ht hW => ⟨⟨_, rfl, rfl⟩, by rw [ht]; exact hP, hS.F ht⟩) hS.2.2 d
theorem om_decl {args : Array Value} {s : State} {y : MethodName} (hts : ∀ w ∈ omTB, w.before args s = true) (h : ∃ (b : ByteArray) (mm : Nat) (rr : Option FieldType), Cond.instanceMethod y ∈ omTB ∧ Cond.code y b mm rr ∈ omTB) : (Cond.declares y).before args s = true := by
  obtain ⟨b, mm, rr, h1, h2⟩ := h
  obtain ⟨r0, r, e1, e2, e3, e4⟩ := va_Decl.of (hts _ h1) (hts _ h2)
  simp [Cond.before, Cond.holds, Cond.value, e1, e2, e3, e4]
/-- 'throw new E("text")' in a method of OneMachine's that catches nothing -/
theorem v_throw (C : omC G x RX11 cc nL h kc) {ret : Option FieldType} {cls : String} {ik is ic : Nat} {text : String} (F : omF G x ret kc [] (.inl cls) σ)
    (hcls : Bundle.fit cls = true) (hk : Cond.classLink RX11 ik cls ∈ omTB) (hini : Cond.initialized cls ∈ omTB) (htx : (is, text) ∈ omTexts) {en : Nat} (hen : omE en = cls) (hat : ∀ w ∈ (vx_atS RX11 ic cls ["java/lang/RuntimeException", "java/lang/Exception"]).filter goodWord, w ∈ omTB) (hat2 : ∀ w ∈ (vx_atS RX11 ic cls ["java/lang/RuntimeException", "java/lang/Exception"]).filter (fun w => !goodWord w), w ∈ [Cond.castable cls cls, Cond.declares (Bundle.initS "java/lang/RuntimeException"), Cond.declares (Bundle.initS "java/lang/Exception"), Cond.declares (Bundle.initS "java/lang/Throwable")]) (hdec : ∀ y ∈ [Bundle.initS "java/lang/RuntimeException", Bundle.initS "java/lang/Exception", Bundle.initS "java/lang/Throwable"], ∃ (b : ByteArray) (mm : Nat) (rr : Option FieldType), Cond.instanceMethod y ∈ omTB ∧ Cond.code y b mm rr ∈ omTB)
    (hgood : ∀ w ∈ Cond.classLink RX11 ik cls :: Cond.initialized cls :: vx_atS RX11 ic cls ["java/lang/RuntimeException", "java/lang/Exception"], vx_ot w = true)
    (d0 : decode cc pc = .ok (.new ik, 3)) (d3 : decode cc (pc + 3) = .ok (.dup, 1)) (d4 : decode cc (pc + 4) = .ok (.ldc is, 2)) (d6 : decode cc (pc + 6) = .ok (.invokespecial ic, 3)) (d9 : decode cc (pc + 9) = .ok (.athrow, 1)) (hkc : k + 1 ≤ kc) : omV G x nL pc ls [] σ k := by
  obtain ⟨p, l, e, R, s, m, args, below, meth, c, Q, A, c0, s0⟩ := x
  obtain ⟨hx, hb, hml, hown, hlk, hts, hK, hRO, hTX, hDj, hA, hst, hRf, hRl, hRc, hRs⟩ := C
  obtain ⟨hr, rfl, rfl, rfl, rfl, htb⟩ := F
  intro H locs la hl hP hS
  have hU := hRO.2.2.2.2.2.2.2.1
  have hN := hRO.2.2.2.2.2.2.2.2.1
  exact vx_throwS (text := text) (names := ["java/lang/RuntimeException", "java/lang/Exception"]) hx hb hst.2 hown hcls (by decide +kernel) (hts _ hk) (hts _ hini) (hTX _ htx) (vx_hat (B := _) (fun w hw => hts w (hat w hw)) hat2 (vx_c (by rw [← hen]; exact (hRO.ca en).word) (vx_c (om_decl hts (hdec _ (by simp))) (vx_c (om_decl hts (hdec _ (by simp))) (vx_c (om_decl hts (hdec _ (by simp))) vx_n))))) hgood hU hN hS (hl.1.1.trans hml.symm) d0 d3 d4 d6 d9
    (fun z hz => by rw [htb] at hz; cases hz) (by show 2 + 3 < R.frames; omega) (by show 0 + (13 * (2 + 1) + 43) ≤ R.locals; omega) (by omega) (by omega) hlk
    (fun t hvm hz hk => ⟨rfl, fun i q hq => (hP i q hq).kept (hk q.1 (vx_lt hP hq)), hS.F (t := { t with heap := H }) rfl |> fun hF => ⟨Nat.le_trans hF.1 hz, fun q h1 h2 => (hk q (Nat.lt_of_lt_of_le h1 hF.1)).trans (hF.2 q h1 h2)⟩⟩) hS.2.2 (by omega) (by omega)
end OME
