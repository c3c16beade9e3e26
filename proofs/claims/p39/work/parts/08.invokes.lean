/-! ===== calls over the abstract state ===== -/
section OMK
variable {p : Program} {l : Launch} {e : Env} {R : Room} {s : State} {m : MethodId} {args : Array Value} {below : List Frame} {meth : Method} {c : Code} {H : Heap} {locs : List Loc} {Q : State → Prop}
theorem om_after {G : omG} {A : Nat → Prop} {cells slots mc ms pc : Nat} {la : Array Slot} {st0 rest : List Value} {as : Array Value} {out : omO} {σ' : omH}
    (hr : vx_Run p l e R s m args below meth c H locs cells slots mc ms (F0 m pc la st0) rest (omQ G H.size out σ' as) (omXC G H.size out σ') (omA G H.size)) (hS : va_S A s.heap H locs) (hAA : ∀ q, omA G H.size q → A q)
    (kk : ∀ (v : Option Value) (H1 : Heap) (locs1 : List Loc), out = .inr v → va_P G.2.1 vwCl (omW G σ') H1 → va_S A s.heap H1 locs1 → W p l e R s m args below meth c H1 locs1 (cells + mc) (slots + ms) Q (F0 m (pc + 3) la (v.toList ++ rest)))
    (kx : ∀ (E : String) (ce : Cell) (q9 : Addr) (H1 : Heap) (locs1 : List Loc), out = .inl E → va_P G.2.1 vwCl (omW G σ') H1 → va_S A s.heap H1 locs1 → H1[q9]? = some ce → ce.vm = .none → s.vm.findClass E = some ce.cls → vx_W p l e R s m args below meth c H1 locs1 (cells + mc) (slots + ms) Q (F0 m pc la rest) q9) : W p l e R s m args below meth c H locs cells slots Q (F0 m pc la st0) := by
  intro T hT X
  rcases hr T hT X with ⟨v, st₀, t, T', L, h0, X', hL, e1, e2, ⟨⟨v', hv, hv'⟩, hP1, hF⟩, st⟩ | ⟨q, st₀, t, T', L, E, ce, h0, X', hL, e1, e2, ⟨hv, hP1, hF⟩, hce, hcv, hcl, st⟩
  · cases hv'
    rw [← h0] at hF hAA
    obtain ⟨k1, k2, k3⟩ := vx_keep h0 e1 hS (fun q _ h => hAA q h) (fun q h => hAA q (by rw [h0]; exact h)) hL hF
    obtain ⟨t2, a1, b1⟩ := kk v T'.heap (locs ++ L) hv (by rw [e1]; exact hP1) k3 T' rfl X'
    exact ⟨t2, st t2 a1, b1⟩
  · rw [← h0] at hF hAA
    obtain ⟨k1, k2, k3⟩ := vx_keep h0 e1 hS (fun q _ h => hAA q h) (fun q h => hAA q (by rw [h0]; exact h)) hL hF
    obtain ⟨t2, a1, b1⟩ := kx E ce q T'.heap (locs ++ L) hv (by rw [e1]; exact hP1) k3 (by rw [e1]; exact hce) hcv hcl T' rfl X'
    exact ⟨t2, st.trans a1, b1⟩
theorem om_pre {G : omG} {A : Nat → Prop} {σ : omH} {As : List Value} (hP : va_P G.2.1 vwCl (omW G σ) H) (hK : va_K G.2.1 vwCl (omTys G) s) (hRO : omRO G A s s.heap) (hTX : omTX G s) (hDj : omDj G A) (hA : ∀ q : Nat, s.heap.size ≤ q → A q) (hS : va_S A s.heap H locs) :
    (∀ q, omA G H.size q → A q) ∧ ∀ U : State, U.heap = H → s.WarmedH U.vm → omPre G H.size σ As As.toArray U := by
  have hAA : ∀ q, omA G H.size q → A q := by
    intro q hq
    rcases hq with ⟨k, e, hk, rfl⟩ | hq
    · exact hDj.2 k e hk
    · exact hA q (Nat.le_trans hS.1 hq)
  refine ⟨hAA, fun U hU hW => ⟨rfl, by rw [hU], by rw [hU]; exact hP, va_K.moved hW.alike hK, ?_, fun t ht => vk_R.warm hW (hTX t ht), hDj.1, fun k q hk => Or.inl ⟨k, q, hk, rfl⟩⟩⟩
  rw [hU]
  exact ((hRO.kept hS.2.1).narrow hAA).moved hW.alike
end OMK
/-- a method of ours, as its callers need it -/
def omMI (y : MethodName) (bytes : ByteArray) (nL : Nat) (ret : Option FieldType) (n : Nat) : Prop := Cond.code y bytes nL ret ∈ omTB ∧ Cond.instanceMethod y ∈ omTB ∧ Cond.selects y.cls y y ∈ omTB ∧ Cond.initialized y.cls ∈ omTB ∧ (y.cls ≠ "java/lang/invoke/MethodHandle" ∧ y.cls ≠ "java/lang/invoke/VarHandle") ∧ (parseMethodDescriptor y.desc).map (fun d => d.parameters.length) = some n ∧ nL ≤ 21
def omMS (y : MethodName) (bytes : ByteArray) (nL : Nat) (ret : Option FieldType) (n : Nat) : Prop := Cond.code y bytes nL ret ∈ omTB ∧ Cond.static y ∈ omTB ∧ Cond.initialized y.cls ∈ omTB ∧ (y.cls ≠ "java/lang/invoke/MethodHandle" ∧ y.cls ≠ "java/lang/invoke/VarHandle") ∧ (parseMethodDescriptor y.desc).map (fun d => d.parameters.length) = some n ∧ nL ≤ 21
def omMX (y : MethodName) (bytes : ByteArray) (nL : Nat) (ret : Option FieldType) (hh : List (Nat × Nat × Nat × Nat)) (n : Nat) : Prop := Cond.codeWith y bytes nL ret hh ∈ omTB ∧ Cond.static y ∈ omTB ∧ Cond.initialized y.cls ∈ omTB ∧ (y.cls ≠ "java/lang/invoke/MethodHandle" ∧ y.cls ≠ "java/lang/invoke/VarHandle") ∧ (parseMethodDescriptor y.desc).map (fun d => d.parameters.length) = some n ∧ nL ≤ 21
theorem om_ws {args : Array Value} {s : State} {cd : Cond} (hts : ∀ w ∈ omTB, w.before args s = true) (hc : cd ∈ omTB) : ∀ w ∈ cd :: omTB, ∀ (a' : Array Value) (U : State), s.WarmedH U.vm → w.before a' U = true := by
  intro w hw a' U hW
  have hw' : w ∈ omTB := by
    rcases List.mem_cons.mp hw with rfl | h
    · exact hc
    · exact h
  exact word_at hW (good_of_word (omTB_good w hw')) (hts w hw')
theorem om_n {y : MethodName} {n : Nat} (h : (parseMethodDescriptor y.desc).map (fun d => d.parameters.length) = some n) : ∀ sig, parseMethodDescriptor y.desc = some sig → n = sig.parameters.length := by
  intro sig hs
  rw [hs] at h
  exact (Option.some.inj h).symm
section OMI
variable {G : omG} {x : omX} {own : String} {cc : ByteArray} {nL h kc pc : Nat} {ls : List (Nat × Value)} {rest : List Value} {σ σ' : omH} {k : Nat} {hh : List (Nat × Nat × Nat × Nat)}
variable {y : MethodName} {bytes : ByteArray} {nL' h' kc' n idx q o ci : Nat} {ret' : Option FieldType} {As : List Value} {fds : List (Option Nat)}
theorem v_invV_i {r : Int} {st : List Value} (C : omC G x own cc nL h kc) (hI : omMI y bytes nL' ret' n) (hl : Cond.methodLink own idx y ∈ omTB) (hM : omM G y (.code y bytes nL' ret') h' kc' (.ref (G.1 o) :: As) σ (.inr (some (.int (omi r)))) σ') (ho : omT[q]? = some (o, .inr (ci, fds))) (hcl : (vwCl[ci]?).map (·.1) = some y.cls) (hn : As.length = n) (hh' : h' < h) (hkc : k + kc' ≤ kc) (hst : st = As.reverse ++ .ref (G.1 o) :: rest) (hcat : (rest.map fun v => v.category).sum ≤ 8) (d : decode cc pc = .ok (.invokevirtual idx, 3)) (kk : omV G x nL (pc + 3) ls (.int (omi r) :: rest) σ' (k + kc')) : omV G x nL pc ls st σ k := by
  subst hst
  obtain ⟨p, l, e, R, s, m, args, below, meth, c, Q, A, c0, s0⟩ := x
  obtain ⟨hx, hb, hml, hown, hlk, hts, hK, hRO, hTX, hDj, hA, ⟨rfl, hst0⟩, hRf, hRl, hRc, hRs⟩ := C
  intro H locs la hla hP hS
  obtain ⟨i1, i2, i3, i4, i5, i6, i7⟩ := hI
  obtain ⟨hAA, hpre⟩ := om_pre (As := .ref (G.1 o) :: As) hP hK hRO hTX hDj hA hS
  obtain ⟨qc, hq1, hq2⟩ : ∃ qc, vwCl[ci]? = some qc ∧ qc.1 = y.cls := by
    cases hqc : vwCl[ci]? with
    | none => rw [hqc] at hcl; cases hcl
    | some qc => rw [hqc] at hcl; exact ⟨qc, rfl, Option.some.inj hcl⟩
  have hrecv := va_recv hK hP hq1 (omW_get ho)
  rw [hq2] at hrecv
  have hrun := vx_runV (As := As) (rest := rest) (R := R) (H := H) (locs := locs) (meth := meth) (below := below) (e := e) (cells := c0 + k) (slots := s0 + 8 * k) (Ts := omTB) (C := y.cls) (g := F0 m pc la (As.reverse ++ .ref (G.1 o) :: rest)) ⟨hx, hb, hml, hown, hts⟩ (hM hst0 H.size) ⟨⟨rfl, rfl, by show 8 + h' + 1 ≤ R.frames; omega, by show 8 + (nL' + 11) + (200 + 40 * h') ≤ R.locals; omega, om_ws hts i1, List.mem_cons_self, hts _ i1, hts _ i4, i5, om_n i6, hts _ hl⟩, hts _ i2, hts _ i3⟩ ⟨om_blind, hrecv, hpre⟩ rfl hn hla.1.1 rfl (by show 2 * 0 + _ ≤ 8; omega) d ⟨by omega, by omega⟩
  refine om_after hrun hS hAA (fun v H1 locs1 hv hP1 hS1 => ?_) (fun E ce q9 H1 locs1 hv hP1 hS1 hce hcv hcl9 => ?_)
  · cases hv
    rw [show c0 + k + kc' = c0 + (k + kc') by omega, show s0 + 8 * k + 8 * kc' = s0 + 8 * (k + kc') by omega]
    exact kk H1 locs1 la hla hP1 hS1
  · cases hv
theorem v_invV_v {st : List Value} (C : omC G x own cc nL h kc) (hI : omMI y bytes nL' ret' n) (hl : Cond.methodLink own idx y ∈ omTB) (hM : omM G y (.code y bytes nL' ret') h' kc' (.ref (G.1 o) :: As) σ (.inr none) σ') (ho : omT[q]? = some (o, .inr (ci, fds))) (hcl : (vwCl[ci]?).map (·.1) = some y.cls) (hn : As.length = n) (hh' : h' < h) (hkc : k + kc' ≤ kc) (hst : st = As.reverse ++ .ref (G.1 o) :: rest) (hcat : (rest.map fun v => v.category).sum ≤ 8) (d : decode cc pc = .ok (.invokevirtual idx, 3)) (kk : omV G x nL (pc + 3) ls rest σ' (k + kc')) : omV G x nL pc ls st σ k := by
  subst hst
  obtain ⟨p, l, e, R, s, m, args, below, meth, c, Q, A, c0, s0⟩ := x
  obtain ⟨hx, hb, hml, hown, hlk, hts, hK, hRO, hTX, hDj, hA, ⟨rfl, hst0⟩, hRf, hRl, hRc, hRs⟩ := C
  intro H locs la hla hP hS
  obtain ⟨i1, i2, i3, i4, i5, i6, i7⟩ := hI
  obtain ⟨hAA, hpre⟩ := om_pre (As := .ref (G.1 o) :: As) hP hK hRO hTX hDj hA hS
  obtain ⟨qc, hq1, hq2⟩ : ∃ qc, vwCl[ci]? = some qc ∧ qc.1 = y.cls := by
    cases hqc : vwCl[ci]? with
    | none => rw [hqc] at hcl; cases hcl
    | some qc => rw [hqc] at hcl; exact ⟨qc, rfl, Option.some.inj hcl⟩
  have hrecv := va_recv hK hP hq1 (omW_get ho)
  rw [hq2] at hrecv
  have hrun := vx_runV (As := As) (rest := rest) (R := R) (H := H) (locs := locs) (meth := meth) (below := below) (e := e) (cells := c0 + k) (slots := s0 + 8 * k) (Ts := omTB) (C := y.cls) (g := F0 m pc la (As.reverse ++ .ref (G.1 o) :: rest)) ⟨hx, hb, hml, hown, hts⟩ (hM hst0 H.size) ⟨⟨rfl, rfl, by show 8 + h' + 1 ≤ R.frames; omega, by show 8 + (nL' + 11) + (200 + 40 * h') ≤ R.locals; omega, om_ws hts i1, List.mem_cons_self, hts _ i1, hts _ i4, i5, om_n i6, hts _ hl⟩, hts _ i2, hts _ i3⟩ ⟨om_blind, hrecv, hpre⟩ rfl hn hla.1.1 rfl (by show 2 * 0 + _ ≤ 8; omega) d ⟨by omega, by omega⟩
  refine om_after hrun hS hAA (fun v H1 locs1 hv hP1 hS1 => ?_) (fun E ce q9 H1 locs1 hv hP1 hS1 hce hcv hcl9 => ?_)
  · cases hv
    rw [show c0 + k + kc' = c0 + (k + kc') by omega, show s0 + 8 * k + 8 * kc' = s0 + 8 * (k + kc') by omega]
    exact kk H1 locs1 la hla hP1 hS1
  · cases hv
theorem v_invV_out {E : String} {ret : Option FieldType} {st : List Value} (C : omC G x own cc nL h kc) (hI : omMI y bytes nL' ret' n) (hl : Cond.methodLink own idx y ∈ omTB) (hM : omM G y (.code y bytes nL' ret') h' kc' (.ref (G.1 o) :: As) σ (.inl E) σ') (ho : omT[q]? = some (o, .inr (ci, fds))) (hcl : (vwCl[ci]?).map (·.1) = some y.cls) (hn : As.length = n) (hh' : h' < h) (hkc : k + kc' ≤ kc) (hst : st = As.reverse ++ .ref (G.1 o) :: rest) (hcat : (rest.map fun v => v.category).sum ≤ 8) (d : decode cc pc = .ok (.invokevirtual idx, 3)) (F : omF G x ret kc [] (.inl E) σ') : omV G x nL pc ls st σ k := by
  subst hst
  obtain ⟨p, l, e, R, s, m, args, below, meth, c, Q, A, c0, s0⟩ := x
  obtain ⟨hx, hb, hml, hown, hlk, hts, hK, hRO, hTX, hDj, hA, ⟨rfl, hst0⟩, hRf, hRl, hRc, hRs⟩ := C
  obtain ⟨hr, rfl, rfl, rfl, rfl, htb⟩ := F
  intro H locs la hla hP hS
  obtain ⟨i1, i2, i3, i4, i5, i6, i7⟩ := hI
  obtain ⟨hAA, hpre⟩ := om_pre (As := .ref (G.1 o) :: As) hP hK hRO hTX hDj hA hS
  obtain ⟨qc, hq1, hq2⟩ : ∃ qc, vwCl[ci]? = some qc ∧ qc.1 = y.cls := by
    cases hqc : vwCl[ci]? with
    | none => rw [hqc] at hcl; cases hcl
    | some qc => rw [hqc] at hcl; exact ⟨qc, rfl, Option.some.inj hcl⟩
  have hrecv := va_recv hK hP hq1 (omW_get ho)
  rw [hq2] at hrecv
  have hrun := vx_runV (As := As) (rest := rest) (R := R) (H := H) (locs := locs) (meth := meth) (below := below) (e := e) (cells := 0 + k) (slots := 0 + 8 * k) (Ts := omTB) (C := y.cls) (g := F0 m pc la (As.reverse ++ .ref (G.1 o) :: rest)) ⟨hx, hb, hml, hown, hts⟩ (hM hst0 H.size) ⟨⟨rfl, rfl, by show 8 + h' + 1 ≤ R.frames; omega, by show 8 + (nL' + 11) + (200 + 40 * h') ≤ R.locals; omega, om_ws hts i1, List.mem_cons_self, hts _ i1, hts _ i4, i5, om_n i6, hts _ hl⟩, hts _ i2, hts _ i3⟩ ⟨om_blind, hrecv, hpre⟩ rfl hn hla.1.1 rfl (by show 2 * 0 + _ ≤ 8; omega) d ⟨by omega, by omega⟩
  refine om_after hrun hS hAA (fun v H1 locs1 hv hP1 hS1 => ?_) (fun E ce q9 H1 locs1 hv hP1 hS1 hce hcv hcl9 => ?_)
  · cases hv
  · cases hv
    exact vx_out (fun z hz => by rw [htb] at hz; cases hz) hlk hce hcv hcl9 (fun t ht hvm => ⟨rfl, by rw [ht]; exact hP1, hS1.F ht⟩) hS1.2.2 (by omega) (by omega)
theorem v_invS_i {r : Int} {st : List Value} (C : omC G x own cc nL h kc) (hI : omMS y bytes nL' ret' n) (hl : Cond.methodLink own idx y ∈ omTB) (hM : omM G y (.code y bytes nL' ret') h' kc' As σ (.inr (some (.int (omi r)))) σ') (hn : As.length = n) (hh' : h' < h) (hkc : k + kc' ≤ kc) (hst : st = As.reverse ++ rest) (hcat : (rest.map fun v => v.category).sum ≤ 8) (d : decode cc pc = .ok (.invokestatic idx, 3)) (kk : omV G x nL (pc + 3) ls (.int (omi r) :: rest) σ' (k + kc')) : omV G x nL pc ls st σ k := by
  subst hst
  obtain ⟨p, l, e, R, s, m, args, below, meth, c, Q, A, c0, s0⟩ := x
  obtain ⟨hx, hb, hml, hown, hlk, hts, hK, hRO, hTX, hDj, hA, ⟨rfl, hst0⟩, hRf, hRl, hRc, hRs⟩ := C
  intro H locs la hla hP hS
  obtain ⟨i1, i2, i4, i5, i6, i7⟩ := hI
  obtain ⟨hAA, hpre⟩ := om_pre (As := As) hP hK hRO hTX hDj hA hS
  have hrun := vx_runS (As := As) (rest := rest) (R := R) (H := H) (locs := locs) (meth := meth) (below := below) (e := e) (cells := c0 + k) (slots := s0 + 8 * k) (Ts := omTB) (g := F0 m pc la (As.reverse ++ rest)) ⟨hx, hb, hml, hown, hts⟩ (hM hst0 H.size) ⟨⟨rfl, rfl, by show 8 + h' + 1 ≤ R.frames; omega, by show 8 + (nL' + 11) + (200 + 40 * h') ≤ R.locals; omega, om_ws hts i1, List.mem_cons_self, hts _ i1, hts _ i4, i5, om_n i6, hts _ hl⟩, hts _ i2⟩ ⟨om_blind, hpre⟩ rfl hn hla.1.1 rfl (by show 2 * 0 + _ ≤ 8; omega) d ⟨by omega, by omega⟩
  refine om_after hrun hS hAA (fun v H1 locs1 hv hP1 hS1 => ?_) (fun E ce q9 H1 locs1 hv hP1 hS1 hce hcv hcl9 => ?_)
  · cases hv
    rw [show c0 + k + kc' = c0 + (k + kc') by omega, show s0 + 8 * k + 8 * kc' = s0 + 8 * (k + kc') by omega]
    exact kk H1 locs1 la hla hP1 hS1
  · cases hv
theorem v_invS_v {st : List Value} (C : omC G x own cc nL h kc) (hI : omMS y bytes nL' ret' n) (hl : Cond.methodLink own idx y ∈ omTB) (hM : omM G y (.code y bytes nL' ret') h' kc' As σ (.inr none) σ') (hn : As.length = n) (hh' : h' < h) (hkc : k + kc' ≤ kc) (hst : st = As.reverse ++ rest) (hcat : (rest.map fun v => v.category).sum ≤ 8) (d : decode cc pc = .ok (.invokestatic idx, 3)) (kk : omV G x nL (pc + 3) ls rest σ' (k + kc')) : omV G x nL pc ls st σ k := by
  subst hst
  obtain ⟨p, l, e, R, s, m, args, below, meth, c, Q, A, c0, s0⟩ := x
  obtain ⟨hx, hb, hml, hown, hlk, hts, hK, hRO, hTX, hDj, hA, ⟨rfl, hst0⟩, hRf, hRl, hRc, hRs⟩ := C
  intro H locs la hla hP hS
  obtain ⟨i1, i2, i4, i5, i6, i7⟩ := hI
  obtain ⟨hAA, hpre⟩ := om_pre (As := As) hP hK hRO hTX hDj hA hS
  have hrun := vx_runS (As := As) (rest := rest) (R := R) (H := H) (locs := locs) (meth := meth) (below := below) (e := e) (cells := c0 + k) (slots := s0 + 8 * k) (Ts := omTB) (g := F0 m pc la (As.reverse ++ rest)) ⟨hx, hb, hml, hown, hts⟩ (hM hst0 H.size) ⟨⟨rfl, rfl, by show 8 + h' + 1 ≤ R.frames; omega, by show 8 + (nL' + 11) + (200 + 40 * h') ≤ R.locals; omega, om_ws hts i1, List.mem_cons_self, hts _ i1, hts _ i4, i5, om_n i6, hts _ hl⟩, hts _ i2⟩ ⟨om_blind, hpre⟩ rfl hn hla.1.1 rfl (by show 2 * 0 + _ ≤ 8; omega) d ⟨by omega, by omega⟩
  refine om_after hrun hS hAA (fun v H1 locs1 hv hP1 hS1 => ?_) (fun E ce q9 H1 locs1 hv hP1 hS1 hce hcv hcl9 => ?_)
  · cases hv
    rw [show c0 + k + kc' = c0 + (k + kc') by omega, show s0 + 8 * k + 8 * kc' = s0 + 8 * (k + kc') by omega]
    exact kk H1 locs1 la hla hP1 hS1
  · cases hv
theorem v_invS_out {E : String} {ret : Option FieldType} {st : List Value} (C : omC G x own cc nL h kc) (hI : omMS y bytes nL' ret' n) (hl : Cond.methodLink own idx y ∈ omTB) (hM : omM G y (.code y bytes nL' ret') h' kc' As σ (.inl E) σ') (hn : As.length = n) (hh' : h' < h) (hkc : k + kc' ≤ kc) (hst : st = As.reverse ++ rest) (hcat : (rest.map fun v => v.category).sum ≤ 8) (d : decode cc pc = .ok (.invokestatic idx, 3)) (F : omF G x ret kc [] (.inl E) σ') : omV G x nL pc ls st σ k := by
  subst hst
  obtain ⟨p, l, e, R, s, m, args, below, meth, c, Q, A, c0, s0⟩ := x
  obtain ⟨hx, hb, hml, hown, hlk, hts, hK, hRO, hTX, hDj, hA, ⟨rfl, hst0⟩, hRf, hRl, hRc, hRs⟩ := C
  obtain ⟨hr, rfl, rfl, rfl, rfl, htb⟩ := F
  intro H locs la hla hP hS
  obtain ⟨i1, i2, i4, i5, i6, i7⟩ := hI
  obtain ⟨hAA, hpre⟩ := om_pre (As := As) hP hK hRO hTX hDj hA hS
  have hrun := vx_runS (As := As) (rest := rest) (R := R) (H := H) (locs := locs) (meth := meth) (below := below) (e := e) (cells := 0 + k) (slots := 0 + 8 * k) (Ts := omTB) (g := F0 m pc la (As.reverse ++ rest)) ⟨hx, hb, hml, hown, hts⟩ (hM hst0 H.size) ⟨⟨rfl, rfl, by show 8 + h' + 1 ≤ R.frames; omega, by show 8 + (nL' + 11) + (200 + 40 * h') ≤ R.locals; omega, om_ws hts i1, List.mem_cons_self, hts _ i1, hts _ i4, i5, om_n i6, hts _ hl⟩, hts _ i2⟩ ⟨om_blind, hpre⟩ rfl hn hla.1.1 rfl (by show 2 * 0 + _ ≤ 8; omega) d ⟨by omega, by omega⟩
  refine om_after hrun hS hAA (fun v H1 locs1 hv hP1 hS1 => ?_) (fun E ce q9 H1 locs1 hv hP1 hS1 hce hcv hcl9 => ?_)
  · cases hv
  · cases hv
    exact vx_out (fun z hz => by rw [htb] at hz; cases hz) hlk hce hcv hcl9 (fun t ht hvm => ⟨rfl, by rw [ht]; exact hP1, hS1.F ht⟩) hS1.2.2 (by omega) (by omega)
theorem v_invX_i {r : Int} {st : List Value} {hx' : List (Nat × Nat × Nat × Nat)} (C : omC G x own cc nL h kc) (hI : omMX y bytes nL' ret' hx' n) (hl : Cond.methodLink own idx y ∈ omTB) (hM : omM G y (.codeWith y bytes nL' ret' hx') h' kc' As σ (.inr (some (.int (omi r)))) σ') (hn : As.length = n) (hh' : h' < h) (hkc : k + kc' ≤ kc) (hst : st = As.reverse ++ rest) (hcat : (rest.map fun v => v.category).sum ≤ 8) (d : decode cc pc = .ok (.invokestatic idx, 3)) (kk : omV G x nL (pc + 3) ls (.int (omi r) :: rest) σ' (k + kc')) : omV G x nL pc ls st σ k := by
  subst hst
  obtain ⟨p, l, e, R, s, m, args, below, meth, c, Q, A, c0, s0⟩ := x
  obtain ⟨hx, hb, hml, hown, hlk, hts, hK, hRO, hTX, hDj, hA, ⟨rfl, hst0⟩, hRf, hRl, hRc, hRs⟩ := C
  intro H locs la hla hP hS
  obtain ⟨i1, i2, i4, i5, i6, i7⟩ := hI
  obtain ⟨hAA, hpre⟩ := om_pre (As := As) hP hK hRO hTX hDj hA hS
  have hrun := vx_runSX (hh := hx') (As := As) (rest := rest) (R := R) (H := H) (locs := locs) (meth := meth) (below := below) (e := e) (cells := c0 + k) (slots := s0 + 8 * k) (Ts := omTB) (g := F0 m pc la (As.reverse ++ rest)) ⟨hx, hb, hml, hown, hts⟩ (hM hst0 H.size) ⟨⟨rfl, rfl, by show 8 + h' + 1 ≤ R.frames; omega, by show 8 + (nL' + 11) + (200 + 40 * h') ≤ R.locals; omega, om_ws hts i1, List.mem_cons_self⟩, hts _ i1, hts _ i4, i5, om_n i6, hts _ hl, hts _ i2⟩ ⟨om_blind, hpre⟩ rfl hn hla.1.1 rfl (by show 2 * 0 + _ ≤ 8; omega) d ⟨by omega, by omega⟩
  refine om_after hrun hS hAA (fun v H1 locs1 hv hP1 hS1 => ?_) (fun E ce q9 H1 locs1 hv hP1 hS1 hce hcv hcl9 => ?_)
  · cases hv
    rw [show c0 + k + kc' = c0 + (k + kc') by omega, show s0 + 8 * k + 8 * kc' = s0 + 8 * (k + kc') by omega]
    exact kk H1 locs1 la hla hP1 hS1
  · cases hv
end OMI
