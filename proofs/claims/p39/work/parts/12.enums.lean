/-! ===== calls on constants' objects; ordinal() ===== -/
section OMJ
variable {G : omG} {x : omX} {own : String} {cc : ByteArray} {nL h kc pc : Nat} {ls : List (Nat × Value)} {rest : List Value} {σ σ' : omH} {k : Nat} {hh : List (Nat × Nat × Nat × Nat)}
variable {y : MethodName} {bytes : ByteArray} {nL' h' kc' n idx q o ci : Nat} {ret' : Option FieldType} {As : List Value} {fds : List (Option Nat)}
theorem v_subp {nL' : Nat} {ls ls' : List (Nat × Value)} {st : List Value} (ps : List Nat) (hs : ps.map (fun i => ls[i]?) = ls'.map some) (kk : omV G x nL' pc ls' st σ k) : omV G x nL' pc ls st σ k := by
  refine v_sub (fun q hq => ?_) kk
  have h1 : some q ∈ ls'.map some := List.mem_map.mpr ⟨q, hq, rfl⟩
  rw [← hs] at h1
  obtain ⟨i, -, hi⟩ := List.mem_map.mp h1
  exact List.mem_of_getElem? hi
def omg {α : Type} (c : Prop) [Decidable c] (x : Option α) : Option α := if c then x else none
theorem omg_some {α : Type} {c : Prop} [Decidable c] {x : Option α} {r : α} (h : omg c x = some r) : c ∧ x = some r := by
  unfold omg at h
  split at h
  · rename_i hc; exact ⟨hc, h⟩
  · cases h
theorem omg_t {α : Type} {c : Prop} [Decidable c] {x : Option α} (h : c) : omg c x = x := if_pos h
theorem om_bind {α β : Type} {o : Option α} {f : α → Option β} {r : β} (h : o.bind f = some r) : ∃ t, o = some t ∧ f t = some r := Option.bind_eq_some_iff.mp h
def FU : Nat := 10000
theorem v_invE_i {r : Int} {st : List Value} {E de : String} {nm : List String} {b : Nat} (C : omC G x own cc nL h kc) (hI : omMI y bytes nL' ret' n) (hl : Cond.methodLink own idx y ∈ omTB) (hM : omM G y (.code y bytes nL' ret') h' kc' (.ref (G.1 o) :: As) σ (.inr (some (.int (omi r)))) σ') (hE : omEn E de nm b) (hEy : y.cls = E) (hb1 : b ≤ o) (hb2 : o < b + nm.length) (hn : As.length = n) (hh' : h' < h) (hkc : k + kc' ≤ kc) (hst : st = As.reverse ++ .ref (G.1 o) :: rest) (hcat : (rest.map fun v => v.category).sum ≤ 8) (d : decode cc pc = .ok (.invokevirtual idx, 3)) (kk : omV G x nL (pc + 3) ls (.int (omi r) :: rest) σ' (k + kc')) : omV G x nL pc ls st σ k := by
  subst hst
  obtain ⟨p, l, e, R, s, m, args, below, meth, c, Q, A, c0, s0⟩ := x
  obtain ⟨hx, hb, hml, hown, hlk, hts, hK, hRO, hTX, hDj, hA, ⟨rfl, hst0⟩, hRf, hRl, hRc, hRs⟩ := C
  intro H locs la hla hP hS
  obtain ⟨i1, i2, i3, i4, i5, i6, i7⟩ := hI
  obtain ⟨hAA, hpre⟩ := om_pre (As := .ref (G.1 o) :: As) hP hK hRO hTX hDj hA hS
  have e1 : G.1 (b + (o - b)) = G.1 o := congrArg G.1 (show b + (o - b) = o by omega)
  have hrecv := va_recvE (i := o - b) (hE G A s s.heap hRO) (by omega) hS
  rw [← hEy] at hrecv
  rw [e1] at hrecv
  have hrun := vx_runV (As := As) (rest := rest) (R := R) (H := H) (locs := locs) (meth := meth) (below := below) (e := e) (cells := c0 + k) (slots := s0 + 8 * k) (Ts := omTB) (C := y.cls) (g := F0 m pc la (As.reverse ++ .ref (G.1 o) :: rest)) ⟨hx, hb, hml, hown, hts⟩ (hM hst0 H.size) ⟨⟨rfl, rfl, by show 8 + h' + 1 ≤ R.frames; omega, by show 8 + (nL' + 11) + (200 + 40 * h') ≤ R.locals; omega, om_ws hts i1, List.mem_cons_self, hts _ i1, hts _ i4, i5, om_n i6, hts _ hl⟩, hts _ i2, hts _ i3⟩ ⟨om_blind, hrecv, hpre⟩ rfl hn hla.1.1 rfl (by show 2 * 0 + _ ≤ 8; omega) d ⟨by omega, by omega⟩
  refine om_after hrun hS hAA (fun v H1 locs1 hv hP1 hS1 => ?_) (fun E ce q9 H1 locs1 hv hP1 hS1 hce hcv hcl9 => ?_)
  · cases hv
    rw [show c0 + k + kc' = c0 + (k + kc') by omega, show s0 + 8 * k + 8 * kc' = s0 + 8 * (k + kc') by omega]
    exact kk H1 locs1 la hla hP1 hS1
  · cases hv
theorem om_ord {E de : String} {nm : List String} {b cn sz : Nat} {ov : Int} {l : Launch} (hE : omEn E de nm b) (hb1 : b ≤ cn) (hb2 : cn < b + nm.length) (hnm : nm.length ≤ 5) (ho : ((cn - b : Nat) : Int) = ov) : Met l yJx29ce0_ordinal_8abf5 (.code yJx29ce0_ordinal_8abf5 cJx29ce0_ordinal_8abf5 1 (some .int) :: omTB) ({ frames := 0, cells := 0, slots := 0, locals := 0 }) (va_Pc [.ref (G.1 cn)] (fun U => U.heap.size = sz ∧ omRO G (omA G sz) U U.heap)) (fun _ st o t => o = .returned (some (.int (omi ov))) ∧ t.heap = st.heap) 0 0 (fun _ => False) := by
  refine Met.ofW (cc := cJx29ce0_ordinal_8abf5) (maxL := 1) (ret := some .int) (by decide) rfl ?_
  intro p e s m args below meth c s₁ B hml hv
  obtain ⟨rfl, hsz, hRO⟩ := hv
  have hx := B.exec
  have hb := B.bytes
  have hr := B.returns
  have hts := atoms_spec (ws := .code yJx29ce0_ordinal_8abf5 cJx29ce0_ordinal_8abf5 1 (some .int) :: omTB) B.pre
  have hown : s.vm.findClass "java/lang/Enum" = some m.cls := findClass_of_methodNamed B.named
  have hlocks := B.notSynchronized
  subst hsz
  rw [lg_entry_eq]
  have hl := lv_entry ([.ref (G.1 cn)]) (n := 1) (Nat.le_of_ble_eq_true rfl)
  generalize (lg_sl ([.ref (G.1 cn)]) ++ List.replicate (1 - (lg_sl ([.ref (G.1 cn)])).length) Slot.unset).toArray = ls at hl ⊢
  have hl : lv_has ls 1 [(0, .ref (G.1 cn))] := hl
  have hS : va_S (omA G s.heap.size) s.heap s.heap [] := va_S.rf
  refine lv_aload_n hx hb dJx29ce0_ordinal_8abf5_0 rfl (lv_at hl 0 rfl) ?_
  have e1 : G.1 cn = (fun i => G.1 (b + i)) (cn - b) := congrArg G.1 (show cn = b + (cn - b) by omega)
  rw [e1]
  refine va_getE hx hb (hE G (omA G s.heap.size) s s.heap hRO) (i := cn - b) (by omega) hS hown (q := ("java/lang/Enum", "ordinal", "I", [0, 1, 2, 3, 4])) List.mem_cons_self (hts _ (List.mem_cons_of_mem _ ord_f)) (fun _ h9 => h9) dJx29ce0_ordinal_8abf5_1 ?_
  have e2 : ∀ i : Nat, i < 5 → ([0, 1, 2, 3, 4] : List Int32).getD i 0 = omi (i : Int) := by decide +kernel
  show W _ _ _ _ _ _ _ _ _ _ _ _ _ _ _ (F0 _ _ _ (.int (([0, 1, 2, 3, 4] : List Int32).getD (cn - b) 0) :: _))
  rw [e2 _ (by omega), ho]
  exact W.iret (v := omi ov) hx hb hr (fun t ht hW => ⟨rfl, ht⟩) (fun q hq => by cases hq) dJx29ce0_ordinal_8abf5_4
theorem v_ord {E de : String} {nm : List String} {b cn : Nat} {ov : Int} (C : omC G x own cc nL h kc) (hE : omEn E de nm b) (hb1 : b ≤ cn) (hb2 : cn < b + nm.length) (hnm : nm.length ≤ 5) (ho : ((cn - b : Nat) : Int) = ov) (hl : Cond.methodLink own idx ⟨E, "ordinal", "()I"⟩ ∈ omTB) (h1 : Cond.sameMethod E "java/lang/Enum" "ordinal" "()I" ∈ omTB) (h2 : Cond.selects E ⟨E, "ordinal", "()I"⟩ yJx29ce0_ordinal_8abf5 ∈ omTB) (hcat : (rest.map fun v => v.category).sum ≤ 8) (hkc : k ≤ kc) (d : decode cc pc = .ok (.invokevirtual idx, 3)) (kk : omV G x nL (pc + 3) ls (.int (omi ov) :: rest) σ k) : omV G x nL pc ls (.ref (G.1 cn) :: rest) σ k := by
  obtain ⟨p, l, e, R, s, m, args, below, meth, c, Q, A, c0, s0⟩ := x
  obtain ⟨hx, hb, hml, hown, hlk, hts, hK, hRO, hTX, hDj, hA, ⟨rfl, hst0⟩, hRf, hRl, hRc, hRs⟩ := C
  intro H locs la hla hP hS
  have e1 : G.1 (b + (cn - b)) = G.1 cn := congrArg G.1 (show b + (cn - b) = cn by omega)
  have hrecv := va_recvE (i := cn - b) (hE G A s s.heap hRO) (by omega) hS
  rw [e1] at hrecv
  obtain ⟨hAA, hpre⟩ := om_pre (As := []) hP hK hRO hTX hDj hA hS
  have hrun := va_runU (l := G.2.2.2.2.2) (x := ⟨E, "ordinal", "()I"⟩) (owner := "java/lang/Enum") (C := E) (As := []) (rest := rest) (R := R) (H := H) (locs := locs) (meth := meth) (below := below) (e := e) (cells := c0 + k) (slots := s0 + 8 * k) (Ts := omTB) (g := F0 m pc la (.ref (G.1 cn) :: rest)) ⟨hx, hb, hml, hown, hts⟩ (om_ord (sz := H.size) hE hb1 hb2 hnm ho) ⟨⟨rfl, rfl, by show 0 + 1 ≤ R.frames; omega, by show 8 + (1 + 11) + 0 ≤ R.locals; omega, om_ws hts ord_c, List.mem_cons_self⟩, hts _ ord_c, hts _ ord_ini, ⟨by decide +kernel, by decide +kernel⟩, om_n (by decide +kernel : (parseMethodDescriptor "()I").map (fun d => d.parameters.length) = some 0) |> fun z => z, hts _ hl, hts _ h1, va_Decl.of (hts _ ord_i) (hts _ ord_c), hts _ h2, hts _ ord_i⟩ ⟨fun a U g mk q => ⟨q.1, q.2.1, omRO.moved (u := U) (U := U.calling g mk a) (Vm.Alike.refl U.vm) q.2.2⟩, hrecv, fun U hU hW => ⟨rfl, by rw [hU], (hpre U hU hW).2.2.2.2.1⟩⟩ rfl rfl hla.1.1 rfl (by show 2 * 0 + _ ≤ 8; omega) d ⟨by omega, by omega⟩
  intro T hT X
  obtain ⟨v, st₀, t, T', L, h0, X', hL, e1', e2, ⟨hq1, hq2⟩, st⟩ := hrun T hT X
  have hLn : L = [] := by
    cases L with
    | nil => rfl
    | cons z t => exact (hL z List.mem_cons_self).elim
  subst hLn
  rw [List.append_nil] at X'
  cases hq1
  obtain ⟨t2, a1, b1⟩ := kk H locs la hla hP hS T' (by rw [e1', hq2, h0]) X'
  exact ⟨t2, st t2 a1, b1⟩
end OMJ
section OML
variable {G : omG} {x : omX} {own : String} {cc : ByteArray} {nL h kc pc : Nat} {ls : List (Nat × Value)} {st : List Value} {σ : omH} {k : Nat}
theorem v_scrldx {L : Nat} {xs : Nat → Int} (C : omC G x own cc nL h kc) (hL : L = G.2.2.2.1.1) (hxs : xs = omscr G) {j : Int} (hj : 0 ≤ omw j ∧ omw j < L) (dd : decode cc pc = .ok (.iaload, 1)) (kk : omV G x nL (pc + 1) ls (.int (omi (xs (omw j).toNat)) :: st) σ k) : omV G x nL pc ls (.int (omi j) :: .ref (G.1 14) :: st) σ k := by
  subst hL
  subst hxs
  exact v_scrld C hj dd kk
theorem v_scrlenx {L : Nat} (C : omC G x own cc nL h kc) (hL : L = G.2.2.2.1.1) (dd : decode cc pc = .ok (.arraylength, 1)) (kk : omV G x nL (pc + 1) ls (.int (omi L) :: st) σ k) : omV G x nL pc ls (.ref (G.1 14) :: st) σ k := by
  subst hL
  exact v_scrlen C dd kk
end OML
