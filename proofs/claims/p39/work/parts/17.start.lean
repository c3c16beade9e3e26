/-! THE CLAIM OUT OF ONE WALK OF THE LAW'S BODY. Your part is whole_start (and what it stands on); all else here is the same for every law, but numbers. -/
def R_law : String := "OneMachineLaw"
def lw_P (b : Addr) (xs : List Int32) (args : Array Value) (s : State) : Prop := args = #[.ref b] ∧ s.IntsAt b xs ∧ xs.length ≤ 260 ∧ (Jvm.Cond.and given_1 narrow_1).before args s = true
def lw_Q (_ : Array Value) (s : State) (o : Outcome) (t : State) : Prop := o = .returned (some (.int 1)) ∧ Framed s o t [] 600074 7301550
def lw_Z (below : List Frame) (a : Array Value) (s : State) : State → Prop := fun t => ∃ o, t.status = .running ∧ Ended t below o ∧ lw_Q a s o t
/-- the law's own end, with 1 on the stack, nothing written that was there before, its room as the claim has it -/
theorem lw_ret {p : Program} {l : Launch} {e : Env} {s : State} {m : MethodId} {below : List Frame} {meth : Method} {c : Code} {b : Nat} (hx : p.tables.exec = Jvm.exec) (hb : c.code = code) (hr : meth.sig.returnType = ret) (hlocks : meth.locks = false) {pc : Nat} {H : Heap} {ls : Array Slot} (hdg : decode code pc = .ok (.ireturn, 1)) : W p l e room_1 s m #[Value.ref b] below meth c H [] 600074 7301550 (lw_Z below #[Value.ref b] s) (F0 m pc ls [.int 1]) := by
  intro T hT X
  obtain ⟨fs, hret, hrun, hended, hW, hframe⟩ := X.leave (v := some (.int 1)) (hlocks := hlocks) (fun h => by rw [hr] at h; cases h)
  have hmeth' : T.vm.method? m = some meth := X.method'
  refine ⟨T.setFrames fs, ?_, .returned (some (.int 1)), hrun, hended, rfl, ⟨_, rfl⟩, hW, hframe⟩
  jvm_step X.here [X.here.top, hx, hb, hdg, hmeth', hr, ret, narrow_b1]
  (try refine ⟨rfl, ?_⟩); (try refine ⟨rfl, ?_⟩)
  first | (intro acts; rw [hret _ acts rfl rfl rfl]) | rw [hret _ _ rfl rfl rfl]
  exact Steps.refl _
/-- what holds at the law's entry: the machine, the code, the tables' words (any of lw_tbl by 'hts w (by decide +kernel)'), the script of L ints xs at the cell b, what the Statement gives of the start (any of its parts by flat_of_before) -/
def lw_At (p : Program) (s : State) (m : MethodId) (meth : Method) (c : Code) (b L : Nat) (xs : Nat → Int32) : Prop :=
  p.tables.exec = Jvm.exec ∧ c.code = code ∧ meth.sig.returnType = ret ∧ c.maxLocals = 9 ∧ s.vm.findClass R_law = some m.cls ∧ (∀ w ∈ lw_tbl, w.before #[Value.ref b] s = true) ∧ va_X b L xs s s.heap ∧ b < s.heap.size ∧ meth.locks = false ∧ (Jvm.Cond.and given_1 narrow_1).before #[Value.ref b] s = true

theorem clc_L_17 : Cond.classLink RL 17 RX11 ∈ omTB := omTB_in (i := 46) (by decide +kernel) (by decide +kernel)
theorem mlc_L_134 : Cond.methodLink RL 134 yX11_init ∈ omTB := omTB_in (i := 48) (by decide +kernel) (by decide +kernel)
def omS0 : omH := fun o j => if o = 38 ∧ j = 1 then 8 else if o = 38 ∧ j = 2 then 2 else 0
def omMk (base : Nat → Nat) (D : va_G) (cs : ClassId × ClassId × ClassId) (scr : Nat × (Nat → Int32)) (tx : Nat → Nat) (l : Launch) (qs : List Nat) : omG := (fun o => if o < 15 then base o else qs.getD (o - 16) 0, D, cs, scr, tx, l)
theorem om_en_congr {E d : String} {nm : List String} {F : List (String × String × String × List Int32)} {ad ad' : Nat → Nat} {A : Nat → Prop} {U : State} {H : Heap} (h : va_En E d nm F ad A U H) (e : ∀ i, i < nm.length → ad i = ad' i) : va_En E d nm F ad' A U H := by
  obtain ⟨h1, h2⟩ := h
  refine ⟨fun i hi => ?_, fun i j hi hj he => h2 i j hi hj (by rw [e i hi, e j hj]; exact he)⟩
  rw [← e i hi]
  exact h1 i hi
theorem om_vaT {b L : Nat} {xs : Nat → Int32} {A : Nat → Prop} {s : State} {H : Heap} (h : va_X b L xs s H) (hA : ¬ A b) : va_T .int b L (fun j => .int (xs j)) A s H := by
  obtain ⟨scr, h1, h2, h3, h4, h5⟩ := h
  exact ⟨scr, h1, h2, h3, by omega, by rw [h4], h5, hA⟩
theorem omDj.of {G : omG} {A : Nat → Prop} {σ : omH} (h : va_D A (omW G σ)) : omDj G A := by
  refine ⟨fun i j p q hi hj e => h.1 i j _ _ (omW_get (σ := σ) (o := p.1) (d := p.2) hi) (omW_get (σ := σ) (o := q.1) (d := q.2) hj) e, fun k q hk => h.2 k _ (omW_get (σ := σ) (o := q.1) (d := q.2) hk)⟩
theorem om_arrs {args : Array Value} {s : State} {ty : FieldType} (h : (Cond.arrayClass ty).before args s = true) : ∃ cA : ClassId, ArrOfT s cA ty ∧ s.vm.findClass ("[" ++ ty.toString) = some cA := by
  obtain ⟨cA, kA, comp, h1, h2, h3⟩ := Cond.arrayClass_spec h
  exact ⟨cA, fun n z => ⟨fun k h => (by cases h), kA, h2, comp, h3⟩, h1⟩
abbrev omFl : List Cond := flatC (Jvm.Cond.and given_1 narrow_1)
theorem en_lay_C : ∀ i, i < 5 → Cond.laysStatic RX1 (omCostN.getD i "") "LOneMachine$Cost;" ∈ lw_tbl := by decide +kernel
theorem en_ex_C : ∀ i, i < 5 → Cond.exactly (.static RX1 (omCostN.getD i "") "LOneMachine$Cost;") RX1 ∈ omFl := by decide +kernel
theorem en_or_C : ∀ i, i < 5 → Cond.eq (.field (.static RX1 (omCostN.getD i "") "LOneMachine$Cost;") "java/lang/Enum" "ordinal" "I") (.int (([0, 1, 2, 3, 4] : List Int32).getD i 0)) ∈ omFl := by decide +kernel
theorem en_ne_C : ∀ i, i < 5 → ∀ j, j < 5 → i ≠ j → (Cond.not (.eq (.static RX1 (omCostN.getD i "") "LOneMachine$Cost;") (.static RX1 (omCostN.getD j "") "LOneMachine$Cost;")) ∈ omFl ∨ Cond.not (.eq (.static RX1 (omCostN.getD j "") "LOneMachine$Cost;") (.static RX1 (omCostN.getD i "") "LOneMachine$Cost;")) ∈ omFl) := by decide +kernel
theorem en_ini_C : Cond.initialized RX1 ∈ lw_tbl := by decide +kernel
theorem en_lay_K : ∀ i, i < 3 → Cond.laysStatic RX3 (omKeyN.getD i "") "LOneMachine$Key;" ∈ lw_tbl := by decide +kernel
theorem en_ex_K : ∀ i, i < 3 → Cond.exactly (.static RX3 (omKeyN.getD i "") "LOneMachine$Key;") RX3 ∈ omFl := by decide +kernel
theorem en_or_K : ∀ i, i < 3 → Cond.eq (.field (.static RX3 (omKeyN.getD i "") "LOneMachine$Key;") "java/lang/Enum" "ordinal" "I") (.int (([0, 1, 2, 3, 4] : List Int32).getD i 0)) ∈ omFl := by decide +kernel
theorem en_ne_K : ∀ i, i < 3 → ∀ j, j < 3 → i ≠ j → (Cond.not (.eq (.static RX3 (omKeyN.getD i "") "LOneMachine$Key;") (.static RX3 (omKeyN.getD j "") "LOneMachine$Key;")) ∈ omFl ∨ Cond.not (.eq (.static RX3 (omKeyN.getD j "") "LOneMachine$Key;") (.static RX3 (omKeyN.getD i "") "LOneMachine$Key;")) ∈ omFl) := by decide +kernel
theorem en_ini_K : Cond.initialized RX3 ∈ lw_tbl := by decide +kernel
theorem en_lay_Wy : ∀ i, i < 3 → Cond.laysStatic RX9 (omWayN.getD i "") "LOneMachine$Way;" ∈ lw_tbl := by decide +kernel
theorem en_ex_Wy : ∀ i, i < 3 → Cond.exactly (.static RX9 (omWayN.getD i "") "LOneMachine$Way;") RX9 ∈ omFl := by decide +kernel
theorem en_or_Wy : ∀ i, i < 3 → Cond.eq (.field (.static RX9 (omWayN.getD i "") "LOneMachine$Way;") "java/lang/Enum" "ordinal" "I") (.int (([0, 1, 2, 3, 4] : List Int32).getD i 0)) ∈ omFl := by decide +kernel
theorem en_ne_Wy : ∀ i, i < 3 → ∀ j, j < 3 → i ≠ j → (Cond.not (.eq (.static RX9 (omWayN.getD i "") "LOneMachine$Way;") (.static RX9 (omWayN.getD j "") "LOneMachine$Way;")) ∈ omFl ∨ Cond.not (.eq (.static RX9 (omWayN.getD j "") "LOneMachine$Way;") (.static RX9 (omWayN.getD i "") "LOneMachine$Way;")) ∈ omFl) := by decide +kernel
theorem en_ini_Wy : Cond.initialized RX9 ∈ lw_tbl := by decide +kernel
theorem sw_lay_C : Cond.laysStatic RX0 "$SwitchMap$OneMachine$Cost" "[I" ∈ lw_tbl := by decide +kernel
theorem sw_arr_C : Cond.arrayOf (Term.static RX0 "$SwitchMap$OneMachine$Cost" "[I") .int ∈ omFl := by decide +kernel
theorem sw_len_C : Cond.eq (.length (Term.static RX0 "$SwitchMap$OneMachine$Cost" "[I")) (.int 5) ∈ omFl := by decide +kernel
theorem sw_el_C : ∀ j : Nat, j < 5 → Cond.eq (.elem (Term.static RX0 "$SwitchMap$OneMachine$Cost" "[I") (.int (Int32.ofNat j))) (.int (omi ((j : Int) + 1))) ∈ omFl := by decide +kernel
theorem sw_lay_K : Cond.laysStatic RX0 "$SwitchMap$OneMachine$Key" "[I" ∈ lw_tbl := by decide +kernel
theorem sw_arr_K : Cond.arrayOf (Term.static RX0 "$SwitchMap$OneMachine$Key" "[I") .int ∈ omFl := by decide +kernel
theorem sw_len_K : Cond.eq (.length (Term.static RX0 "$SwitchMap$OneMachine$Key" "[I")) (.int 3) ∈ omFl := by decide +kernel
theorem sw_el_K : ∀ j : Nat, j < 3 → Cond.eq (.elem (Term.static RX0 "$SwitchMap$OneMachine$Key" "[I") (.int (Int32.ofNat j))) (.int (omi ((j : Int) + 1))) ∈ omFl := by decide +kernel
theorem sw_lay_Wy : Cond.laysStatic RX0 "$SwitchMap$OneMachine$Way" "[I" ∈ lw_tbl := by decide +kernel
theorem sw_arr_Wy : Cond.arrayOf (Term.static RX0 "$SwitchMap$OneMachine$Way" "[I") .int ∈ omFl := by decide +kernel
theorem sw_len_Wy : Cond.eq (.length (Term.static RX0 "$SwitchMap$OneMachine$Way" "[I")) (.int 3) ∈ omFl := by decide +kernel
theorem sw_el_Wy : ∀ j : Nat, j < 3 → Cond.eq (.elem (Term.static RX0 "$SwitchMap$OneMachine$Way" "[I") (.int (Int32.ofNat j))) (.int (omi ((j : Int) + 1))) ∈ omFl := by decide +kernel
theorem sw_ini : Cond.initialized RX0 ∈ lw_tbl := by decide +kernel
theorem tx_ex : ∀ t ∈ omTexts, Cond.exactly (.string RX11 t.1) "java/lang/String" ∈ omFl := by decide +kernel
theorem tx_sr : ∀ t ∈ omTexts, Cond.stringRef RX11 t.1 t.2 ∈ lw_tbl := by decide +kernel
theorem zq_l1 : Cond.laysStatic Bundle.tN "UNASSIGNED_STACK" Bundle.steD ∈ lw_tbl := by decide +kernel
theorem zq_r1 : Cond.isRef (.static Bundle.tN "UNASSIGNED_STACK" Bundle.steD) ∈ omFl := by decide +kernel
theorem zq_l2 : Cond.laysStatic Bundle.tN "SUPPRESSED_SENTINEL" Bundle.listD ∈ lw_tbl := by decide +kernel
theorem zq_r2 : Cond.isRef (.static Bundle.tN "SUPPRESSED_SENTINEL" Bundle.listD) ∈ omFl := by decide +kernel
theorem zq_i : Cond.initialized Bundle.tN ∈ lw_tbl := by decide +kernel
theorem ca_0 : Cond.castable "java/lang/IllegalArgumentException" "java/lang/IllegalArgumentException" ∈ lw_tbl := by decide +kernel
theorem ca_1 : Cond.castable "java/lang/IllegalStateException" "java/lang/IllegalStateException" ∈ lw_tbl := by decide +kernel
theorem ca_2 : Cond.castable "java/lang/IndexOutOfBoundsException" "java/lang/IndexOutOfBoundsException" ∈ lw_tbl := by decide +kernel
theorem nest_in : ∀ w ∈ omNest, w ∈ lw_tbl := by decide +kernel
/-- what nobody writes, out of the start -/
theorem om_ro {s : State} {args : Array Value} {b L : Nat} {xs : Nat → Int32} (hts : ∀ w ∈ lw_tbl, w.before args s = true) (hs : ∀ w ∈ omFl, w.before args s = true) (hX : va_X b L xs s s.heap) (hbl : b < s.heap.size) : ∃ base : Nat → Nat, base 14 = b ∧ ∀ (D : va_G) (cs : ClassId × ClassId × ClassId) (tx : Nat → Nat) (l : Launch) (qs : List Nat), omRO (omMk base D cs (L, xs) tx l qs) (fun q => s.heap.size ≤ q) s s.heap := by
  have hA : ∀ a : Nat, a < s.heap.size → ¬ (fun q : Nat => s.heap.size ≤ q) a := fun a h => Nat.not_le.mpr h
  have hord : ∀ {E d : String} {nm : List String} {n : Nat}, (∀ i, i < n → Cond.eq (.field (.static E (nm.getD i "") d) "java/lang/Enum" "ordinal" "I") (.int (([0, 1, 2, 3, 4] : List Int32).getD i 0)) ∈ omFl) → ∀ q ∈ omOrd, ∀ i, i < n → (Cond.eq (.field (.static E (nm.getD i "") d) q.1 q.2.1 q.2.2.1) (.int (q.2.2.2.getD i 0))).before args s = true := by
    intro E d nm n h q hq i hi
    rw [List.mem_singleton.mp hq]
    exact hs _ (h i hi)
  obtain ⟨adC, hC⟩ := va_Enof (A := fun q => s.heap.size ≤ q) (args := args) (s := s) (E := RX1) (d := "LOneMachine$Cost;") (nm := omCostN) (F := omOrd) (fun i hi => hts _ (en_lay_C i hi)) (hts _ en_ini_C) (fun i hi => hs _ (en_ex_C i hi)) (hord en_or_C) (fun i j hi hj hne => (en_ne_C i hi j hj hne).imp (hs _) (hs _)) hA
  obtain ⟨adK, hK⟩ := va_Enof (A := fun q => s.heap.size ≤ q) (args := args) (s := s) (E := RX3) (d := "LOneMachine$Key;") (nm := omKeyN) (F := omOrd) (fun i hi => hts _ (en_lay_K i hi)) (hts _ en_ini_K) (fun i hi => hs _ (en_ex_K i hi)) (hord en_or_K) (fun i j hi hj hne => (en_ne_K i hi j hj hne).imp (hs _) (hs _)) hA
  obtain ⟨adWy, hWy⟩ := va_Enof (A := fun q => s.heap.size ≤ q) (args := args) (s := s) (E := RX9) (d := "LOneMachine$Way;") (nm := omWayN) (F := omOrd) (fun i hi => hts _ (en_lay_Wy i hi)) (hts _ en_ini_Wy) (fun i hi => hs _ (en_ex_Wy i hi)) (hord en_or_Wy) (fun i j hi hj hne => (en_ne_Wy i hi j hj hne).imp (hs _) (hs _)) hA
  obtain ⟨tC, etC, hTC⟩ := va_Tof (A := fun q => s.heap.size ≤ q) (args := args) (s := s) (N := 5) (f := fun j => .int (omi ((j : Int) + 1))) (by decide) (hs _ sw_arr_C) (va_eqt (hs _ sw_len_C)) (fun j hj => va_eqt (hs _ (sw_el_C j hj))) hA
  have hZC := va_Zof (A := fun q => s.heap.size ≤ q) (hts _ sw_lay_C) (hts _ sw_ini) etC hA
  obtain ⟨tK, etK, hTK⟩ := va_Tof (A := fun q => s.heap.size ≤ q) (args := args) (s := s) (N := 3) (f := fun j => .int (omi ((j : Int) + 1))) (by decide) (hs _ sw_arr_K) (va_eqt (hs _ sw_len_K)) (fun j hj => va_eqt (hs _ (sw_el_K j hj))) hA
  have hZK := va_Zof (A := fun q => s.heap.size ≤ q) (hts _ sw_lay_K) (hts _ sw_ini) etK hA
  obtain ⟨tWy, etWy, hTWy⟩ := va_Tof (A := fun q => s.heap.size ≤ q) (args := args) (s := s) (N := 3) (f := fun j => .int (omi ((j : Int) + 1))) (by decide) (hs _ sw_arr_Wy) (va_eqt (hs _ sw_len_Wy)) (fun j hj => va_eqt (hs _ (sw_el_Wy j hj))) hA
  have hZWy := va_Zof (A := fun q => s.heap.size ≤ q) (hts _ sw_lay_Wy) (hts _ sw_ini) etWy hA
  refine ⟨fun o => if o < 5 then adC o else if o < 8 then adK (o - 5) else if o < 11 then adWy (o - 8) else if o = 11 then tC else if o = 12 then tK else if o = 13 then tWy else b, rfl, fun D cs tx l qs => ⟨om_en_congr hC (fun i hi => ?_), om_en_congr hK (fun i hi => ?_), om_en_congr hWy (fun i hi => ?_), ⟨hZC, hTC⟩, ⟨hZK, hTK⟩, ⟨hZWy, hTWy⟩, om_vaT hX (Nat.not_le.mpr hbl), vx_Zqof (hts _ zq_l1) (hts _ zq_i) (hs _ zq_r1) hA, vx_Zqof (hts _ zq_l2) (hts _ zq_i) (hs _ zq_r2) hA, omCa.of (hts _ ca_0), omCa.of (hts _ ca_1), omCa.of (hts _ ca_2)⟩⟩
  · have hi' : i < 5 := hi
    show adC i = if 0 + i < 15 then (if 0 + i < 5 then adC (0 + i) else _) else _
    rw [Nat.zero_add, if_pos (by omega), if_pos hi']
  · have hi' : i < 3 := hi
    show adK i = if 5 + i < 15 then (if 5 + i < 5 then _ else if 5 + i < 8 then adK (5 + i - 5) else _) else _
    rw [if_pos (by omega), if_neg (by omega), if_pos (by omega), show 5 + i - 5 = i by omega]
  · have hi' : i < 3 := hi
    show adWy i = if 8 + i < 15 then (if 8 + i < 5 then _ else if 8 + i < 8 then _ else if 8 + i < 11 then adWy (8 + i - 8) else _) else _
    rw [if_pos (by omega), if_neg (by omega), if_neg (by omega), if_pos (by omega), show 8 + i - 8 = i by omega]
theorem om_cls {s : State} {args : Array Value} (hts : ∀ w ∈ omTB, w.before args s = true) : ∃ D : va_G, ∀ (c : Nat) (q : vw_C), vwCl[c]? = some q → u_Kn s q.1 q.2.1 q.2.2 (D.1 c) (D.2 c) := by
  have h1 : ∀ q ∈ vwCl, ∃ z : ClassId × (Nat → Nat), u_Kn s q.1 q.2.1 q.2.2 z.1 z.2 := by
    intro q hq
    rcases List.mem_cons.mp hq with rfl | hq
    · obtain ⟨c, i, h⟩ := u_known (C := RX2) (T := TX2) (N := 7) (n := 7) hts fx_X2 (hts _ ct_X2_s); exact ⟨(c, i), h⟩
    rcases List.mem_cons.mp hq with rfl | hq
    · obtain ⟨c, i, h⟩ := u_known (C := RX4) (T := TX4) (N := 4) (n := 4) hts fx_X4 (hts _ ct_X4_s); exact ⟨(c, i), h⟩
    rcases List.mem_cons.mp hq with rfl | hq
    · obtain ⟨c, i, h⟩ := u_known (C := RX5) (T := TX5) (N := 6) (n := 6) hts fx_X5 (hts _ ct_X5_s); exact ⟨(c, i), h⟩
    rcases List.mem_cons.mp hq with rfl | hq
    · obtain ⟨c, i, h⟩ := u_known (C := RX6) (T := TX6) (N := 2) (n := 2) hts fx_X6 (hts _ ct_X6_s); exact ⟨(c, i), h⟩
    rcases List.mem_cons.mp hq with rfl | hq
    · obtain ⟨c, i, h⟩ := u_known (C := RX7) (T := TX7) (N := 5) (n := 5) hts fx_X7 (hts _ ct_X7_s); exact ⟨(c, i), h⟩
    rcases List.mem_cons.mp hq with rfl | hq
    · obtain ⟨c, i, h⟩ := u_known (C := RX8) (T := TX8) (N := 1) (n := 1) hts fx_X8 (hts _ ct_X8_s); exact ⟨(c, i), h⟩
    rcases List.mem_cons.mp hq with rfl | hq
    · obtain ⟨c, i, h⟩ := u_known (C := RX10) (T := TX10) (N := 3) (n := 3) hts fx_X10 (hts _ ct_X10_s); exact ⟨(c, i), h⟩
    have hq := List.mem_singleton.mp hq; subst hq
    obtain ⟨c, i, h⟩ := u_known (C := RX11) (T := TX11) (N := 7) (n := 7) hts fx_X11 (hts _ ct_X11_s); exact ⟨(c, i), h⟩
  have h2 : ∀ c : Nat, ∃ z : ClassId × (Nat → Nat), ∀ q, vwCl[c]? = some q → u_Kn s q.1 q.2.1 q.2.2 z.1 z.2 := by
    intro c
    cases hc : vwCl[c]? with
    | none => obtain ⟨z, -⟩ := h1 _ List.mem_cons_self; exact ⟨z, fun q hq => by cases hq⟩
    | some q0 => obtain ⟨z, hz⟩ := h1 q0 (List.mem_of_getElem? hc); exact ⟨z, fun q hq => by cases hq; exact hz⟩
  obtain ⟨f, hf⟩ := Classical.axiomOfChoice h2
  exact ⟨(fun c => (f c).1, fun c => (f c).2), fun c q hq => hf c q hq⟩
set_option maxHeartbeats 4000000 in
set_option maxRecDepth 100000 in
/-- the law, from its entry, over what its pure function answers -/
theorem whole_open (hpure : ∀ (L : Nat) (xs : Nat → Int), L ≤ 260 → (∀ j, -2147483648 ≤ xs j ∧ xs j < 2147483648) → ∃ σ', s_L_law L xs omS0 = some (1, σ')) {p : Program} {e : Env} {s : State} {m : MethodId} {below : List Frame} {meth : Method} {c : Code} (l : Launch) (hflags : l.flags = flags0) {b L : Nat} {xs : Nat → Int32} (hL : L ≤ 260) (C0 : lw_At p s m meth c b L xs) : W p l e room_1 s m #[Value.ref b] below meth c s.heap [] 0 0 (lw_Z below #[Value.ref b] s) (entryFrame m ([Value.ref b] : List Value).toArray 9) := by
  obtain ⟨hx, hb, hr, hml, hown, hts, hX, hbl, hlocks, hgv⟩ := C0
  have hs : ∀ w ∈ omFl, w.before #[Value.ref b] s = true := flat_of_before _ hgv
  have htb : ∀ w ∈ omTB, w.before #[Value.ref b] s = true := fun w hw => hts w (List.mem_filter.mp hw).1
  obtain ⟨base, hb14, hRO⟩ := om_ro hts hs hX hbl

  obtain ⟨D, hD⟩ := om_cls htb
  obtain ⟨cI, hI1, hI2⟩ := om_arrs (htb _ arr_int)
  have htx : ∃ tx : Nat → Nat, ∀ t ∈ omTexts, vk_R RX11 t.1 t.2 (tx t.1) s := by
    have h1 : ∀ k : Nat, ∃ a : Nat, ∀ t ∈ omTexts, t.1 = k → vk_R RX11 t.1 t.2 a s := by
      intro k
      by_cases hk : ∃ t ∈ omTexts, t.1 = k
      · obtain ⟨t, ht, rfl⟩ := hk
        obtain ⟨a, c9, cell, k9, q1, -⟩ := Cond.exactly_spec (hs _ (tx_ex t ht))
        refine ⟨a, fun t' ht' e' => ?_⟩
        have hu : ∀ t ∈ omTexts, ∀ t' ∈ omTexts, t'.1 = t.1 → t' = t := by decide +kernel
        rw [hu t ht t' ht' e']
        exact vk_R.of (hts _ (tx_sr t ht)) q1
      · exact ⟨0, fun t ht e' => absurd ⟨t, ht, e'⟩ hk⟩
    obtain ⟨f, hf⟩ := Classical.axiomOfChoice h1
    exact ⟨f, fun t ht => hf t.1 t ht rfl⟩
  obtain ⟨tx, htx⟩ := htx
  have hst : l.stackTraces = false := by
    unfold Launch.stackTraces
    rw [hflags]
    decide +kernel
  have hKG : ∀ qs, va_K (omMk base D (cI, cI, cI) (L, xs) tx l qs).2.1 vwCl (omTys (omMk base D (cI, cI, cI) (L, xs) tx l qs)) s := by
    intro qs
    refine ⟨hD, fun k q hq => ?_⟩
    match k, hq with
    | 0, hq => cases hq; exact ⟨hI1, hI2⟩
    | k + 1, hq => cases hq
  have hnw : omNw s := fun w hw => by
    have h1 := hts w (nest_in w hw)
    have h2 : w.onTables = true := by
      have : ∀ w ∈ omNest, w.onTables = true := by decide +kernel
      exact this w hw
    exact va_Nw.of h2 h1
  obtain ⟨G, hG⟩ : ∃ G, G = omMk base D (cI, cI, cI) (L, xs) tx l [] := ⟨_, rfl⟩
  obtain ⟨x, hxx⟩ : ∃ x : omX, x = (p, l, e, room_1, s, m, #[Value.ref b], below, meth, c, lw_Z below #[Value.ref b] s, fun q => s.heap.size ≤ q, 28, 5414) := ⟨_, rfl⟩
  have C : omCc G x RL code 9 3 28 5414 := by
    subst hxx
    subst hG
    exact ⟨hx, hb, hml, hown, hlocks, htb, hKG _, hRO _ _ _ _ _, hnw, fun _ h => h, Nat.le_of_ble_eq_true rfl, Nat.le_of_ble_eq_true rfl, Nat.le_of_ble_eq_true rfl, Nat.le_of_ble_eq_true rfl⟩
  have hV : omVc G x 9 0 [(0, .ref b)] [] [] 0 0 := by

    refine c_new C (Cn := RX11) (T := TX11) (tyT := tyX11) (N := 7) (ci := 7) (fs := [.null, .null, .null, .null, .null, .null, .null]) rfl fx_X11 tyX11_ok clc_L_17 ct_X11_s ct_X11_n (by decide +kernel) (by decide) (by decide) dL_law_0 (fun q0 => ?_)
    refine c_ws (ws' := [(q0, .inr (7, [.null, .null, .null, .null, .null, .null, .null]))]) rfl ?_
    refine c_dup C rfl dL_law_3 ?_
    refine c_call C (q := 0) (isR := []) (wr := []) (k_X11_init q0) rfl rfl (by decide) (by decide) ct_X11_c ct_X11_n ct_X11_i ⟨by decide +kernel, by decide +kernel⟩ rfl (by decide +kernel) (by decide) (by decide) (by decide) (by decide) (Or.inl mlc_L_134) (Nat.le_of_ble_eq_true rfl) dL_law_4 (fun w hw => ?_)
    obtain ⟨q1, q2, q3, q4, q5, q6, q7, q8, q9, q10, q11, q12, q13, q14, q15, q16, q17, q18, q19, q20, q21, q22, q23, q24, q25, q26, rfl⟩ := hw
    refine c_ws (ws' := [(q0, .inr (7, [.ref q1, .ref q8, .ref q13, .ref q19, .ref q22, .ref q24, .ref q26])), (q1, .inr (0, [.int 0, .ref q2, .ref q3, .ref q4, .ref q5, .ref q6, .ref q7])), (q2, .inl (G.2.2.1.1, 10, .inl (fun _ => 0))), (q3, .inl (G.2.2.1.1, 10, .inl (fun _ => 0))), (q4, .inl (G.2.2.1.1, 10, .inl (fun _ => 0))), (q5, .inl (G.2.2.1.1, 10, .inl (fun _ => 0))), (q6, .inl (G.2.2.1.1, 10, .inl (fun _ => 0))), (q7, .inl (G.2.2.1.1, 4, .inl (fun _ => 0))), (q8, .inr (2, [.int 0, .int 0, .ref q9, .ref q10, .ref q11, .ref q12])), (q9, .inl (G.2.2.1.1, 20, .inl (fun _ => 0))), (q10, .inl (G.2.2.1.1, 20, .inl (fun _ => 0))), (q11, .inl (G.2.2.1.1, 20, .inl (fun _ => 0))), (q12, .inl (G.2.2.1.1, 10, .inl (fun _ => 0))), (q13, .inr (4, [.ref q14, .ref q15, .ref q16, .ref q17, .ref q18])), (q14, .inl (G.2.2.1.1, 10, .inl (fun _ => 0))), (q15, .inl (G.2.2.1.1, 10, .inl (fun _ => 0))), (q16, .inl (G.2.2.1.1, 10, .inl (fun _ => 0))), (q17, .inl (G.2.2.1.1, 10, .inl (fun _ => 0))), (q18, .inl (G.2.2.1.1, 5120, .inl (fun _ => 0))), (q19, .inr (3, [.ref q20, .ref q21])), (q20, .inl (G.2.2.1.1, 10, .inl (fun _ => 0))), (q21, .inl (G.2.2.1.1, 10, .inl (fun _ => 0))), (q22, .inr (1, [.ref q23, .ref (G.1 8), .ref (G.1 2), .int 0])), (q23, .inl (G.2.2.1.1, 10, .inl (fun _ => 0))), (q24, .inr (5, [.ref q25])), (q25, .inl (G.2.2.1.1, 10, .inl (fun _ => 0))), (q26, .inr (6, [.int 0, .int 0, .int 0]))]) rfl ?_
    refine c_astore_n C (ls' := [(0, .ref b), (1, .ref q0)]) rfl (by decide) rfl dL_law_7 ?_
    refine c_bipush C (a := 55) (by decide) dL_law_8 ?_
    refine c_newa C (t0 := 0) (a0 := (55, .inl (fun _ => 0))) (N' := 55) arr_int rfl rfl (fun _ _ h9 => h9) (fun _ => rfl) (by decide) (by decide) (by decide) (by decide) (by decide) dL_law_10 (fun q27 => ?_)
    refine c_ws (ws' := [(q0, .inr (7, [.ref q1, .ref q8, .ref q13, .ref q19, .ref q22, .ref q24, .ref q26])), (q1, .inr (0, [.int 0, .ref q2, .ref q3, .ref q4, .ref q5, .ref q6, .ref q7])), (q2, .inl (G.2.2.1.1, 10, .inl (fun _ => 0))), (q3, .inl (G.2.2.1.1, 10, .inl (fun _ => 0))), (q4, .inl (G.2.2.1.1, 10, .inl (fun _ => 0))), (q5, .inl (G.2.2.1.1, 10, .inl (fun _ => 0))), (q6, .inl (G.2.2.1.1, 10, .inl (fun _ => 0))), (q7, .inl (G.2.2.1.1, 4, .inl (fun _ => 0))), (q8, .inr (2, [.int 0, .int 0, .ref q9, .ref q10, .ref q11, .ref q12])), (q9, .inl (G.2.2.1.1, 20, .inl (fun _ => 0))), (q10, .inl (G.2.2.1.1, 20, .inl (fun _ => 0))), (q11, .inl (G.2.2.1.1, 20, .inl (fun _ => 0))), (q12, .inl (G.2.2.1.1, 10, .inl (fun _ => 0))), (q13, .inr (4, [.ref q14, .ref q15, .ref q16, .ref q17, .ref q18])), (q14, .inl (G.2.2.1.1, 10, .inl (fun _ => 0))), (q15, .inl (G.2.2.1.1, 10, .inl (fun _ => 0))), (q16, .inl (G.2.2.1.1, 10, .inl (fun _ => 0))), (q17, .inl (G.2.2.1.1, 10, .inl (fun _ => 0))), (q18, .inl (G.2.2.1.1, 5120, .inl (fun _ => 0))), (q19, .inr (3, [.ref q20, .ref q21])), (q20, .inl (G.2.2.1.1, 10, .inl (fun _ => 0))), (q21, .inl (G.2.2.1.1, 10, .inl (fun _ => 0))), (q22, .inr (1, [.ref q23, .ref (G.1 8), .ref (G.1 2), .int 0])), (q23, .inl (G.2.2.1.1, 10, .inl (fun _ => 0))), (q24, .inr (5, [.ref q25])), (q25, .inl (G.2.2.1.1, 10, .inl (fun _ => 0))), (q26, .inr (6, [.int 0, .int 0, .int 0])), (q27, .inl (G.2.2.1.1, 55, .inl (fun _ => 0)))]) rfl ?_
    refine c_astore_n C (ls' := [(0, .ref b), (1, .ref q0), (2, .ref q27)]) rfl (by decide) rfl dL_law_12 ?_
    subst hxx
    intro H locs la hl hP hD2 hS
    obtain ⟨σ', hp⟩ := hpure L (omscr (omMk base D (cI, cI, cI) (L, xs) tx l [q0, q1, q2, q3, q4, q5, q6, q7, q8, q9, q10, q11, q12, q13, q14, q15, q16, q17, q18, q19, q20, q21, q22, q23, q24, q25, q26, q27])) hL (fun j => by
      have h1 := Int32.le_toInt (xs j)
      have h2 := Int32.toInt_lt (xs j)
      exact ⟨h1, h2⟩)
    have hW : omW (omMk base D (cI, cI, cI) (L, xs) tx l [q0, q1, q2, q3, q4, q5, q6, q7, q8, q9, q10, q11, q12, q13, q14, q15, q16, q17, q18, q19, q20, q21, q22, q23, q24, q25, q26, q27]) omS0 = [(q0, .inr (7, [.ref q1, .ref q8, .ref q13, .ref q19, .ref q22, .ref q24, .ref q26])), (q1, .inr (0, [.int 0, .ref q2, .ref q3, .ref q4, .ref q5, .ref q6, .ref q7])), (q2, .inl (cI, 10, .inl (fun _ => 0))), (q3, .inl (cI, 10, .inl (fun _ => 0))), (q4, .inl (cI, 10, .inl (fun _ => 0))), (q5, .inl (cI, 10, .inl (fun _ => 0))), (q6, .inl (cI, 10, .inl (fun _ => 0))), (q7, .inl (cI, 4, .inl (fun _ => 0))), (q8, .inr (2, [.int 0, .int 0, .ref q9, .ref q10, .ref q11, .ref q12])), (q9, .inl (cI, 20, .inl (fun _ => 0))), (q10, .inl (cI, 20, .inl (fun _ => 0))), (q11, .inl (cI, 20, .inl (fun _ => 0))), (q12, .inl (cI, 10, .inl (fun _ => 0))), (q13, .inr (4, [.ref q14, .ref q15, .ref q16, .ref q17, .ref q18])), (q14, .inl (cI, 10, .inl (fun _ => 0))), (q15, .inl (cI, 10, .inl (fun _ => 0))), (q16, .inl (cI, 10, .inl (fun _ => 0))), (q17, .inl (cI, 10, .inl (fun _ => 0))), (q18, .inl (cI, 5120, .inl (fun _ => 0))), (q19, .inr (3, [.ref q20, .ref q21])), (q20, .inl (cI, 10, .inl (fun _ => 0))), (q21, .inl (cI, 10, .inl (fun _ => 0))), (q22, .inr (1, [.ref q23, .ref (base 8), .ref (base 2), .int 0])), (q23, .inl (cI, 10, .inl (fun _ => 0))), (q24, .inr (5, [.ref q25])), (q25, .inl (cI, 10, .inl (fun _ => 0))), (q26, .inr (6, [.int 0, .int 0, .int 0])), (q27, .inl (cI, 55, .inl (fun _ => 0)))] := rfl
    have hP' : va_P D vwCl (omW (omMk base D (cI, cI, cI) (L, xs) tx l [q0, q1, q2, q3, q4, q5, q6, q7, q8, q9, q10, q11, q12, q13, q14, q15, q16, q17, q18, q19, q20, q21, q22, q23, q24, q25, q26, q27]) omS0) H := by
      rw [hW]
      subst hG
      exact hP
    have hD' : va_D (fun q => s.heap.size ≤ q) (omW (omMk base D (cI, cI, cI) (L, xs) tx l [q0, q1, q2, q3, q4, q5, q6, q7, q8, q9, q10, q11, q12, q13, q14, q15, q16, q17, q18, q19, q20, q21, q22, q23, q24, q25, q26, q27]) omS0) := by
      rw [hW]
      subst hG
      exact hD2
    have C2 : omC (omMk base D (cI, cI, cI) (L, xs) tx l [q0, q1, q2, q3, q4, q5, q6, q7, q8, q9, q10, q11, q12, q13, q14, q15, q16, q17, q18, q19, q20, q21, q22, q23, q24, q25, q26, q27]) (p, l, e, room_1, s, m, #[Value.ref b], below, meth, c, lw_Z below #[Value.ref b] s, fun q => s.heap.size ≤ q, 28, 5414) RL code 9 18 0 :=
      ⟨hx, hb, hml, hown, hlocks, htb, hKG _, hRO _ _ _ _ _, htx, omDj.of hD', fun _ h => h, ⟨rfl, hst⟩, Nat.le_of_ble_eq_true rfl, Nat.le_of_ble_eq_true rfl, Nat.le_of_ble_eq_true rfl, Nat.le_of_ble_eq_true rfl⟩
    have K := k_law C2 rfl rfl omS0 (1, σ') hp (fun pc ls9 hd => by
      intro H locs la hl hP hS
      refine va_forget (fun q hq => hS.2.2 q hq) ?_
      refine W.widen (k := 600074) (n := 7301550) (by omega) (by omega) ?_
      exact lw_ret hx hb hr hlocks hd)
    exact K H locs la (by show omL la 9 [(0, .ref (base 14)), (1, .ref q0), (2, .ref q27)]; rw [hb14]; exact hl) hP' hS
  subst hxx
  have hl := lv_entry ([.ref b]) (n := 9) (Nat.le_of_ble_eq_true rfl)
  rw [lg_entry_eq]
  refine hV s.heap [] _ ⟨hl, by intro q hq; rw [List.mem_singleton.mp hq]; rfl⟩ (fun k q h => by simp at h) ⟨fun i j p q h => by simp at h, fun k q h => by simp at h⟩ va_S.rf
