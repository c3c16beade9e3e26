section OML
variable {G : omG} {x : omX} {own : String} {cc : ByteArray} {nL h kc pc : Nat} {ls : List (Nat × Value)} {st : List Value} {σ : omH} {k : Nat}
theorem v_scrldx {L : Nat} {xs : Nat → Int} (C : omC G x own cc nL h kc) (hL : L = G.2.2.2.1.1) (hxs : xs = omscr G) {j : Int} (hj : 0 ≤ omw j ∧ omw j < L) (dd : decode cc pc = .ok (.iaload, 1)) (kk : omV G x nL (pc + 1) ls (.int (omi (xs (omw j).toNat)) :: st) σ k) : omV G x nL pc ls (.int (omi j) :: .ref (G.1 14) :: st) σ k := by
  subst hL
  subst hxs
  exact v_scrld C hj dd kk
theorem v_scrlenx {L : Nat} (C : omC G x own cc nL h kc) (hL : L = G.2.2.2.1.1) (dd : decode cc pc = .ok (.arraylength, 1)) (kk : omV G x nL (pc + 1) ls (.int (omi L) :: st) σ k) : omV G x nL pc ls (.ref (G.1 14) :: st) σ k := by
  subst hL
  exact v_scrlen C dd kk
end OML
def lc_0 (L : Nat) (xs : Nat → Int) (rec : Int → omH → Option ((Int × omH) ⊕ (omH))) (v4 : Int) (σ : omH) : Option ((Int × omH) ⊕ (omH)) := omg (0 ≤ omw (v4 + 1) ∧ omw (v4 + 1) < L) (omg (0 ≤ omw (v4 + 2) ∧ omw (v4 + 2) < L) (omg (0 ≤ omw (v4 + 3) ∧ omw (v4 + 3) < L) (omg (0 ≤ omw (v4 + 4) ∧ omw (v4 + 4) < L) (omg (0 ≤ omw (v4 + 5) ∧ omw (v4 + 5) < L) (Option.bind (s_L_addJob (xs (omw (v4 + 1)).toNat) (xs (omw (v4 + 2)).toNat) (xs (omw (v4 + 3)).toNat) (xs (omw (v4 + 4)).toNat) (xs (omw (v4 + 5)).toNat) σ) (fun r7 => omg (0 ≤ omw (v4 + 1) ∧ omw (v4 + 1) < L) (omg (0 ≤ omw (v4 + 2) ∧ omw (v4 + 2) < L) (omg (0 ≤ omw (v4 + 3) ∧ omw (v4 + 3) < L) (omg (0 ≤ omw (v4 + 4) ∧ omw (v4 + 4) < L) (omg (0 ≤ omw (v4 + 5) ∧ omw (v4 + 5) < L) (Option.bind (s_X12_addJob (xs (omw (v4 + 1)).toNat) (xs (omw (v4 + 2)).toNat) (xs (omw (v4 + 3)).toNat) (xs (omw (v4 + 4)).toNat) (xs (omw (v4 + 5)).toNat) r7.2) (fun r13 => Option.bind (s_X12_thrown  r13.2) (fun r14 => (if omw r14 = omw r7.1 then (if omw r7.1 = 0 then omg (0 ≤ omw 0 ∧ omw 0 < 1) ((if omw (omcmp (r13.2 60 (omw 0).toNat) (omw r13.1)) = 0 then rec (v4 + 7) r13.2 else some (Sum.inl ((0, r13.2))))) else rec (v4 + 7) r13.2) else some (Sum.inl ((0, r13.2)))))))))))))))))
def lc_1 (L : Nat) (xs : Nat → Int) (rec : Int → omH → Option ((Int × omH) ⊕ (omH))) (v4 : Int) (σ : omH) : Option ((Int × omH) ⊕ (omH)) := omg (0 ≤ omw (v4 + 1) ∧ omw (v4 + 1) < L) (omg (0 ≤ omw (v4 + 2) ∧ omw (v4 + 2) < L) (omg (0 ≤ omw (v4 + 3) ∧ omw (v4 + 3) < L) (omg (0 ≤ omw (v4 + 4) ∧ omw (v4 + 4) < L) (omg (0 ≤ omw (v4 + 5) ∧ omw (v4 + 5) < L) (omg (0 ≤ omw (v4 + 6) ∧ omw (v4 + 6) < L) (Option.bind (s_L_changeJob (xs (omw (v4 + 1)).toNat) (xs (omw (v4 + 2)).toNat) (xs (omw (v4 + 3)).toNat) (xs (omw (v4 + 4)).toNat) (xs (omw (v4 + 5)).toNat) (xs (omw (v4 + 6)).toNat) σ) (fun r22 => omg (0 ≤ omw (v4 + 1) ∧ omw (v4 + 1) < L) (omg (0 ≤ omw (v4 + 2) ∧ omw (v4 + 2) < L) (omg (0 ≤ omw (v4 + 3) ∧ omw (v4 + 3) < L) (omg (0 ≤ omw (v4 + 4) ∧ omw (v4 + 4) < L) (omg (0 ≤ omw (v4 + 5) ∧ omw (v4 + 5) < L) (omg (0 ≤ omw (v4 + 6) ∧ omw (v4 + 6) < L) (Option.bind (s_X12_changeJob (xs (omw (v4 + 1)).toNat) (xs (omw (v4 + 2)).toNat) (xs (omw (v4 + 3)).toNat) (xs (omw (v4 + 4)).toNat) (xs (omw (v4 + 5)).toNat) (xs (omw (v4 + 6)).toNat) r22.2) (fun r29 => Option.bind (s_X12_thrown  r29) (fun r30 => (if omw r30 = omw r22.1 then rec (v4 + 7) r29 else some (Sum.inl ((0, r29)))))))))))))))))))
def lc_2 (L : Nat) (xs : Nat → Int) (rec : Int → omH → Option ((Int × omH) ⊕ (omH))) (v4 : Int) (σ : omH) : Option ((Int × omH) ⊕ (omH)) := omg (0 ≤ omw (v4 + 1) ∧ omw (v4 + 1) < L) (Option.bind (s_L_removeJob (xs (omw (v4 + 1)).toNat) σ) (fun r32 => omg (0 ≤ omw (v4 + 1) ∧ omw (v4 + 1) < L) (Option.bind (s_X12_removeJob (xs (omw (v4 + 1)).toNat) r32.2) (fun r34 => Option.bind (s_X12_thrown  r34.2) (fun r35 => (if omw r35 = omw r32.1 then (if omw r32.1 = 0 then omg (0 ≤ omw 0 ∧ omw 0 < 1) ((if omw (omcmp (r34.2 60 (omw 0).toNat) (omw r34.1)) = 0 then rec (v4 + 7) r34.2 else some (Sum.inl ((0, r34.2))))) else rec (v4 + 7) r34.2) else some (Sum.inl ((0, r34.2)))))))))
def lc_3 (L : Nat) (xs : Nat → Int) (rec : Int → omH → Option ((Int × omH) ⊕ (omH))) (v4 : Int) (σ : omH) : Option ((Int × omH) ⊕ (omH)) := omg (0 ≤ omw (v4 + 1) ∧ omw (v4 + 1) < L) (omg (0 ≤ omw (v4 + 2) ∧ omw (v4 + 2) < L) (Option.bind (s_L_setSetup (xs (omw (v4 + 1)).toNat) (xs (omw (v4 + 2)).toNat) σ) (fun r39 => omg (0 ≤ omw (v4 + 1) ∧ omw (v4 + 1) < L) (omg (0 ≤ omw (v4 + 2) ∧ omw (v4 + 2) < L) (Option.bind (s_X12_setSetup (xs (omw (v4 + 1)).toNat) (xs (omw (v4 + 2)).toNat) r39.2) (fun r42 => Option.bind (s_X12_thrown  r42.2) (fun r43 => (if omw r43 = omw r39.1 then (if omw r39.1 = 0 then omg (0 ≤ omw 0 ∧ omw 0 < 1) ((if omw (omcmp (r42.2 60 (omw 0).toNat) (omw r42.1)) = 0 then rec (v4 + 7) r42.2 else some (Sum.inl ((0, r42.2))))) else rec (v4 + 7) r42.2) else some (Sum.inl ((0, r42.2)))))))))))
def lc_4 (L : Nat) (xs : Nat → Int) (rec : Int → omH → Option ((Int × omH) ⊕ (omH))) (v4 : Int) (σ : omH) : Option ((Int × omH) ⊕ (omH)) := Option.bind (s_X11_jobs  σ) (fun r45 => Option.bind (s_X12_jobs  σ) (fun r46 => (if omw r45 = omw r46.1 then rec (v4 + 7) r46.2 else some (Sum.inl ((0, r46.2))))))
def lc_5 (L : Nat) (xs : Nat → Int) (rec : Int → omH → Option ((Int × omH) ⊕ (omH))) (v4 : Int) (σ : omH) : Option ((Int × omH) ⊕ (omH)) := Option.bind (s_L_planByDueDates  σ) (fun r47 => Option.bind (s_X12_planByDueDates  r47.2) (fun r48 => Option.bind (s_X12_thrown  r48.2) (fun r49 => (if omw r49 = omw r47.1 then (if omw r47.1 = 0 then omg (0 ≤ omw 0 ∧ omw 0 < 1) ((if omw (omcmp (r48.2 60 (omw 0).toNat) (omw r48.1)) = 0 then rec (v4 + 7) r48.2 else some (Sum.inl ((0, r48.2))))) else rec (v4 + 7) r48.2) else some (Sum.inl ((0, r48.2)))))))
def lc_6 (L : Nat) (xs : Nat → Int) (rec : Int → omH → Option ((Int × omH) ⊕ (omH))) (v4 : Int) (σ : omH) : Option ((Int × omH) ⊕ (omH)) := Option.bind (s_L_planFewestLate  σ) (fun r51 => Option.bind (s_X12_planFewestLate  r51.2) (fun r52 => Option.bind (s_X12_thrown  r52.2) (fun r53 => (if omw r53 = omw r51.1 then (if omw r51.1 = 0 then omg (0 ≤ omw 0 ∧ omw 0 < 1) ((if omw (omcmp (r52.2 60 (omw 0).toNat) (omw r52.1)) = 0 then rec (v4 + 7) r52.2 else some (Sum.inl ((0, r52.2))))) else rec (v4 + 7) r52.2) else some (Sum.inl ((0, r52.2)))))))
def lc_7 (L : Nat) (xs : Nat → Int) (rec : Int → omH → Option ((Int × omH) ⊕ (omH))) (v4 : Int) (σ : omH) : Option ((Int × omH) ⊕ (omH)) := Option.bind (s_L_planByRatios  σ) (fun r55 => Option.bind (s_X12_planByRatios  r55.2) (fun r56 => Option.bind (s_X12_thrown  r56.2) (fun r57 => (if omw r57 = omw r55.1 then (if omw r55.1 = 0 then omg (0 ≤ omw 0 ∧ omw 0 < 1) ((if omw (omcmp (r56.2 60 (omw 0).toNat) (omw r56.1)) = 0 then rec (v4 + 7) r56.2 else some (Sum.inl ((0, r56.2))))) else rec (v4 + 7) r56.2) else some (Sum.inl ((0, r56.2)))))))
def lc_8 (L : Nat) (xs : Nat → Int) (rec : Int → omH → Option ((Int × omH) ⊕ (omH))) (v4 : Int) (σ : omH) : Option ((Int × omH) ⊕ (omH)) := Option.bind (s_L_planLeastTardiness  σ) (fun r59 => Option.bind (s_X12_planLeastTardiness  r59.2) (fun r60 => Option.bind (s_X12_thrown  r60.2) (fun r61 => (if omw r61 = omw r59.1 then (if omw r59.1 = 0 then omg (0 ≤ omw 0 ∧ omw 0 < 1) ((if omw (omcmp (r60.2 60 (omw 0).toNat) (omw r60.1)) = 0 then rec (v4 + 7) r60.2 else some (Sum.inl ((0, r60.2))))) else rec (v4 + 7) r60.2) else some (Sum.inl ((0, r60.2)))))))
def lc_9 (L : Nat) (xs : Nat → Int) (rec : Int → omH → Option ((Int × omH) ⊕ (omH))) (v4 : Int) (σ : omH) : Option ((Int × omH) ⊕ (omH)) := Option.bind (s_L_planByFamilies  σ) (fun r63 => Option.bind (s_X12_planByFamilies  r63.2) (fun r64 => Option.bind (s_X12_thrown  r64.2) (fun r65 => (if omw r65 = omw r63.1 then (if omw r63.1 = 0 then omg (0 ≤ omw 0 ∧ omw 0 < 1) ((if omw (omcmp (r64.2 60 (omw 0).toNat) (omw r64.1)) = 0 then rec (v4 + 7) r64.2 else some (Sum.inl ((0, r64.2))))) else rec (v4 + 7) r64.2) else some (Sum.inl ((0, r64.2)))))))
def lc_10 (L : Nat) (xs : Nat → Int) (rec : Int → omH → Option ((Int × omH) ⊕ (omH))) (v4 : Int) (σ : omH) : Option ((Int × omH) ⊕ (omH)) := Option.bind (s_L_planPreemptiveByDates  σ) (fun r67 => Option.bind (s_X12_planPreemptiveByDates  r67.2) (fun r68 => Option.bind (s_X12_thrown  r68.2) (fun r69 => (if omw r69 = omw r67.1 then (if omw r67.1 = 0 then omg (0 ≤ omw 0 ∧ omw 0 < 1) ((if omw (omcmp (r68.2 60 (omw 0).toNat) (omw r68.1)) = 0 then rec (v4 + 7) r68.2 else some (Sum.inl ((0, r68.2))))) else rec (v4 + 7) r68.2) else some (Sum.inl ((0, r68.2)))))))
def lc_11 (L : Nat) (xs : Nat → Int) (rec : Int → omH → Option ((Int × omH) ⊕ (omH))) (v4 : Int) (σ : omH) : Option ((Int × omH) ⊕ (omH)) := Option.bind (s_L_planPreemptiveShortest  σ) (fun r71 => Option.bind (s_X12_planPreemptiveShortest  r71.2) (fun r72 => Option.bind (s_X12_thrown  r72.2) (fun r73 => (if omw r73 = omw r71.1 then (if omw r71.1 = 0 then omg (0 ≤ omw 0 ∧ omw 0 < 1) ((if omw (omcmp (r72.2 60 (omw 0).toNat) (omw r72.1)) = 0 then rec (v4 + 7) r72.2 else some (Sum.inl ((0, r72.2))))) else rec (v4 + 7) r72.2) else some (Sum.inl ((0, r72.2)))))))
def lc_12 (L : Nat) (xs : Nat → Int) (rec : Int → omH → Option ((Int × omH) ⊕ (omH))) (v4 : Int) (σ : omH) : Option ((Int × omH) ⊕ (omH)) := Option.bind (s_X11_hasPlan  σ) (fun r75 => Option.bind (s_X12_hasPlan  σ) (fun r76 => (if omw r75 = omw r76.1 then rec (v4 + 7) r76.2 else some (Sum.inl ((0, r76.2))))))
def lc_13 (L : Nat) (xs : Nat → Int) (rec : Int → omH → Option ((Int × omH) ⊕ (omH))) (v4 : Int) (σ : omH) : Option ((Int × omH) ⊕ (omH)) := Option.bind (s_X11_pieces  σ) (fun r77 => Option.bind (s_X12_pieces  σ) (fun r78 => (if omw r77 = omw r78.1 then rec (v4 + 7) r78.2 else some (Sum.inl ((0, r78.2))))))
def lc_14 (L : Nat) (xs : Nat → Int) (rec : Int → omH → Option ((Int × omH) ⊕ (omH))) (v4 : Int) (σ : omH) : Option ((Int × omH) ⊕ (omH)) := omg (0 ≤ omw (v4 + 1) ∧ omw (v4 + 1) < L) (Option.bind (s_L_kindOf (xs (omw (v4 + 1)).toNat) σ) (fun r80 => omg (0 ≤ omw (v4 + 1) ∧ omw (v4 + 1) < L) (Option.bind (s_X12_kindOf (xs (omw (v4 + 1)).toNat) r80.2) (fun r82 => Option.bind (s_X12_thrown  r82.2) (fun r83 => (if omw r83 = omw r80.1 then (if omw r80.1 = 0 then omg (0 ≤ omw 0 ∧ omw 0 < 1) ((if omw (omcmp (r82.2 60 (omw 0).toNat) (omw r82.1)) = 0 then rec (v4 + 7) r82.2 else some (Sum.inl ((0, r82.2))))) else rec (v4 + 7) r82.2) else some (Sum.inl ((0, r82.2)))))))))
def lc_15 (L : Nat) (xs : Nat → Int) (rec : Int → omH → Option ((Int × omH) ⊕ (omH))) (v4 : Int) (σ : omH) : Option ((Int × omH) ⊕ (omH)) := omg (0 ≤ omw (v4 + 1) ∧ omw (v4 + 1) < L) (Option.bind (s_L_whoseIs (xs (omw (v4 + 1)).toNat) σ) (fun r86 => omg (0 ≤ omw (v4 + 1) ∧ omw (v4 + 1) < L) (Option.bind (s_X12_whoseIs (xs (omw (v4 + 1)).toNat) r86.2) (fun r88 => Option.bind (s_X12_thrown  r88.2) (fun r89 => (if omw r89 = omw r86.1 then (if omw r86.1 = 0 then omg (0 ≤ omw 0 ∧ omw 0 < 1) ((if omw (omcmp (r88.2 60 (omw 0).toNat) (omw r88.1)) = 0 then rec (v4 + 7) r88.2 else some (Sum.inl ((0, r88.2))))) else rec (v4 + 7) r88.2) else some (Sum.inl ((0, r88.2)))))))))
def lc_16 (L : Nat) (xs : Nat → Int) (rec : Int → omH → Option ((Int × omH) ⊕ (omH))) (v4 : Int) (σ : omH) : Option ((Int × omH) ⊕ (omH)) := omg (0 ≤ omw (v4 + 1) ∧ omw (v4 + 1) < L) (Option.bind (s_L_startOf (xs (omw (v4 + 1)).toNat) σ) (fun r92 => omg (0 ≤ omw (v4 + 1) ∧ omw (v4 + 1) < L) (Option.bind (s_X12_startOf (xs (omw (v4 + 1)).toNat) r92.2) (fun r94 => Option.bind (s_X12_thrown  r94.2) (fun r95 => (if omw r95 = omw r92.1 then (if omw r92.1 = 0 then omg (0 ≤ omw 0 ∧ omw 0 < 1) ((if omw (omcmp (r94.2 60 (omw 0).toNat) (omw r94.1)) = 0 then rec (v4 + 7) r94.2 else some (Sum.inl ((0, r94.2))))) else rec (v4 + 7) r94.2) else some (Sum.inl ((0, r94.2)))))))))
def lc_17 (L : Nat) (xs : Nat → Int) (rec : Int → omH → Option ((Int × omH) ⊕ (omH))) (v4 : Int) (σ : omH) : Option ((Int × omH) ⊕ (omH)) := omg (0 ≤ omw (v4 + 1) ∧ omw (v4 + 1) < L) (Option.bind (s_L_endOf (xs (omw (v4 + 1)).toNat) σ) (fun r98 => omg (0 ≤ omw (v4 + 1) ∧ omw (v4 + 1) < L) (Option.bind (s_X12_endOf (xs (omw (v4 + 1)).toNat) r98.2) (fun r100 => Option.bind (s_X12_thrown  r100.2) (fun r101 => (if omw r101 = omw r98.1 then (if omw r98.1 = 0 then omg (0 ≤ omw 0 ∧ omw 0 < 1) ((if omw (omcmp (r100.2 60 (omw 0).toNat) (omw r100.1)) = 0 then rec (v4 + 7) r100.2 else some (Sum.inl ((0, r100.2))))) else rec (v4 + 7) r100.2) else some (Sum.inl ((0, r100.2)))))))))
def lc_18 (L : Nat) (xs : Nat → Int) (rec : Int → omH → Option ((Int × omH) ⊕ (omH))) (v4 : Int) (σ : omH) : Option ((Int × omH) ⊕ (omH)) := omg (0 ≤ omw (v4 + 1) ∧ omw (v4 + 1) < L) (Option.bind (s_L_completion (xs (omw (v4 + 1)).toNat) σ) (fun r104 => omg (0 ≤ omw (v4 + 1) ∧ omw (v4 + 1) < L) (Option.bind (s_X12_completion (xs (omw (v4 + 1)).toNat) r104.2) (fun r106 => Option.bind (s_X12_thrown  r106.2) (fun r107 => (if omw r107 = omw r104.1 then (if omw r104.1 = 0 then omg (0 ≤ omw 0 ∧ omw 0 < 1) ((if omw (omcmp (r106.2 60 (omw 0).toNat) (omw r106.1)) = 0 then rec (v4 + 7) r106.2 else some (Sum.inl ((0, r106.2))))) else rec (v4 + 7) r106.2) else some (Sum.inl ((0, r106.2)))))))))
def lc_19 (L : Nat) (xs : Nat → Int) (rec : Int → omH → Option ((Int × omH) ⊕ (omH))) (v4 : Int) (σ : omH) : Option ((Int × omH) ⊕ (omH)) := omg (0 ≤ omw (v4 + 1) ∧ omw (v4 + 1) < L) (Option.bind (s_L_lateness (xs (omw (v4 + 1)).toNat) σ) (fun r110 => omg (0 ≤ omw (v4 + 1) ∧ omw (v4 + 1) < L) (Option.bind (s_X12_lateness (xs (omw (v4 + 1)).toNat) r110.2) (fun r112 => Option.bind (s_X12_thrown  r112.2) (fun r113 => (if omw r113 = omw r110.1 then (if omw r110.1 = 0 then omg (0 ≤ omw 0 ∧ omw 0 < 1) ((if omw (omcmp (r112.2 60 (omw 0).toNat) (omw r112.1)) = 0 then rec (v4 + 7) r112.2 else some (Sum.inl ((0, r112.2))))) else rec (v4 + 7) r112.2) else some (Sum.inl ((0, r112.2)))))))))
def lc_20 (L : Nat) (xs : Nat → Int) (rec : Int → omH → Option ((Int × omH) ⊕ (omH))) (v4 : Int) (σ : omH) : Option ((Int × omH) ⊕ (omH)) := Option.bind (s_L_maxLateness  σ) (fun r115 => Option.bind (s_X12_maxLateness  r115.2) (fun r116 => Option.bind (s_X12_thrown  r116.2) (fun r117 => (if omw r117 = omw r115.1 then (if omw r115.1 = 0 then omg (0 ≤ omw 0 ∧ omw 0 < 1) ((if omw (omcmp (r116.2 60 (omw 0).toNat) (omw r116.1)) = 0 then rec (v4 + 7) r116.2 else some (Sum.inl ((0, r116.2))))) else rec (v4 + 7) r116.2) else some (Sum.inl ((0, r116.2)))))))
def lc_21 (L : Nat) (xs : Nat → Int) (rec : Int → omH → Option ((Int × omH) ⊕ (omH))) (v4 : Int) (σ : omH) : Option ((Int × omH) ⊕ (omH)) := Option.bind (s_L_lateJobs  σ) (fun r119 => Option.bind (s_X12_lateJobs  r119.2) (fun r120 => Option.bind (s_X12_thrown  r120.2) (fun r121 => (if omw r121 = omw r119.1 then (if omw r119.1 = 0 then omg (0 ≤ omw 0 ∧ omw 0 < 1) ((if omw (omcmp (r120.2 60 (omw 0).toNat) (omw r120.1)) = 0 then rec (v4 + 7) r120.2 else some (Sum.inl ((0, r120.2))))) else rec (v4 + 7) r120.2) else some (Sum.inl ((0, r120.2)))))))
def lc_22 (L : Nat) (xs : Nat → Int) (rec : Int → omH → Option ((Int × omH) ⊕ (omH))) (v4 : Int) (σ : omH) : Option ((Int × omH) ⊕ (omH)) := Option.bind (s_L_completions  σ) (fun r123 => Option.bind (s_X12_completions  r123.2) (fun r124 => Option.bind (s_X12_thrown  r124.2) (fun r125 => (if omw r125 = omw r123.1 then (if omw r123.1 = 0 then omg (0 ≤ omw 0 ∧ omw 0 < 1) ((if omw (omcmp (r124.2 60 (omw 0).toNat) (omw r124.1)) = 0 then rec (v4 + 7) r124.2 else some (Sum.inl ((0, r124.2))))) else rec (v4 + 7) r124.2) else some (Sum.inl ((0, r124.2)))))))
def lc_23 (L : Nat) (xs : Nat → Int) (rec : Int → omH → Option ((Int × omH) ⊕ (omH))) (v4 : Int) (σ : omH) : Option ((Int × omH) ⊕ (omH)) := Option.bind (s_L_weightedCompletions  σ) (fun r127 => Option.bind (s_X12_weightedCompletions  r127.2) (fun r128 => Option.bind (s_X12_thrown  r128.2) (fun r129 => (if omw r129 = omw r127.1 then (if omw r127.1 = 0 then omg (0 ≤ omw 0 ∧ omw 0 < 1) ((if omw (omcmp (r128.2 60 (omw 0).toNat) (omw r128.1)) = 0 then rec (v4 + 7) r128.2 else some (Sum.inl ((0, r128.2))))) else rec (v4 + 7) r128.2) else some (Sum.inl ((0, r128.2)))))))
def lc_24 (L : Nat) (xs : Nat → Int) (rec : Int → omH → Option ((Int × omH) ⊕ (omH))) (v4 : Int) (σ : omH) : Option ((Int × omH) ⊕ (omH)) := Option.bind (s_L_weightedTardiness  σ) (fun r131 => Option.bind (s_X12_weightedTardiness  r131.2) (fun r132 => Option.bind (s_X12_thrown  r132.2) (fun r133 => (if omw r133 = omw r131.1 then (if omw r131.1 = 0 then omg (0 ≤ omw 0 ∧ omw 0 < 1) ((if omw (omcmp (r132.2 60 (omw 0).toNat) (omw r132.1)) = 0 then rec (v4 + 7) r132.2 else some (Sum.inl ((0, r132.2))))) else rec (v4 + 7) r132.2) else some (Sum.inl ((0, r132.2)))))))
def lc_25 (L : Nat) (xs : Nat → Int) (rec : Int → omH → Option ((Int × omH) ⊕ (omH))) (v4 : Int) (σ : omH) : Option ((Int × omH) ⊕ (omH)) := Option.bind (s_L_leastLateness  σ) (fun r135 => Option.bind (s_X12_leastLateness  r135.2) (fun r136 => Option.bind (s_X12_thrown  r136.2) (fun r137 => (if omw r137 = omw r135.1 then (if omw r135.1 = 0 then omg (0 ≤ omw 0 ∧ omw 0 < 1) ((if omw (omcmp (r136.2 60 (omw 0).toNat) (omw r136.1)) = 0 then rec (v4 + 7) r136.2 else some (Sum.inl ((0, r136.2))))) else rec (v4 + 7) r136.2) else some (Sum.inl ((0, r136.2)))))))
def lc_26 (L : Nat) (xs : Nat → Int) (rec : Int → omH → Option ((Int × omH) ⊕ (omH))) (v4 : Int) (σ : omH) : Option ((Int × omH) ⊕ (omH)) := Option.bind (s_L_leastCompletions  σ) (fun r139 => Option.bind (s_X12_leastCompletions  r139.2) (fun r140 => Option.bind (s_X12_thrown  r140.2) (fun r141 => (if omw r141 = omw r139.1 then (if omw r139.1 = 0 then omg (0 ≤ omw 0 ∧ omw 0 < 1) ((if omw (omcmp (r140.2 60 (omw 0).toNat) (omw r140.1)) = 0 then rec (v4 + 7) r140.2 else some (Sum.inl ((0, r140.2))))) else rec (v4 + 7) r140.2) else some (Sum.inl ((0, r140.2)))))))
def lc_27 (L : Nat) (xs : Nat → Int) (rec : Int → omH → Option ((Int × omH) ⊕ (omH))) (v4 : Int) (σ : omH) : Option ((Int × omH) ⊕ (omH)) := Option.bind (s_L_leastTardiness  σ) (fun r143 => Option.bind (s_X12_leastTardiness  r143.2) (fun r144 => Option.bind (s_X12_thrown  r144.2) (fun r145 => (if omw r145 = omw r143.1 then (if omw r143.1 = 0 then omg (0 ≤ omw 0 ∧ omw 0 < 1) ((if omw (omcmp (r144.2 60 (omw 0).toNat) (omw r144.1)) = 0 then rec (v4 + 7) r144.2 else some (Sum.inl ((0, r144.2))))) else rec (v4 + 7) r144.2) else some (Sum.inl ((0, r144.2)))))))
def lc_28 (L : Nat) (xs : Nat → Int) (rec : Int → omH → Option ((Int × omH) ⊕ (omH))) (v4 : Int) (σ : omH) : Option ((Int × omH) ⊕ (omH)) := Option.bind (s_L_leastWithSetups  σ) (fun r147 => Option.bind (s_X12_leastWithSetups  r147.2) (fun r148 => Option.bind (s_X12_thrown  r148.2) (fun r149 => (if omw r149 = omw r147.1 then (if omw r147.1 = 0 then omg (0 ≤ omw 0 ∧ omw 0 < 1) ((if omw (omcmp (r148.2 60 (omw 0).toNat) (omw r148.1)) = 0 then rec (v4 + 7) r148.2 else some (Sum.inl ((0, r148.2))))) else rec (v4 + 7) r148.2) else some (Sum.inl ((0, r148.2)))))))
def lc_29 (L : Nat) (xs : Nat → Int) (rec : Int → omH → Option ((Int × omH) ⊕ (omH))) (v4 : Int) (σ : omH) : Option ((Int × omH) ⊕ (omH)) := Option.bind (s_L_leastPreemptiveLateness  σ) (fun r151 => Option.bind (s_X12_leastPreemptiveLateness  r151.2) (fun r152 => Option.bind (s_X12_thrown  r152.2) (fun r153 => (if omw r153 = omw r151.1 then (if omw r151.1 = 0 then omg (0 ≤ omw 0 ∧ omw 0 < 1) ((if omw (omcmp (r152.2 60 (omw 0).toNat) (omw r152.1)) = 0 then rec (v4 + 7) r152.2 else some (Sum.inl ((0, r152.2))))) else rec (v4 + 7) r152.2) else some (Sum.inl ((0, r152.2)))))))
def lc_30 (L : Nat) (xs : Nat → Int) (rec : Int → omH → Option ((Int × omH) ⊕ (omH))) (v4 : Int) (σ : omH) : Option ((Int × omH) ⊕ (omH)) := Option.bind (s_L_leastPreemptiveCompletions  σ) (fun r155 => Option.bind (s_X12_leastPreemptiveCompletions  r155.2) (fun r156 => Option.bind (s_X12_thrown  r156.2) (fun r157 => (if omw r157 = omw r155.1 then (if omw r155.1 = 0 then omg (0 ≤ omw 0 ∧ omw 0 < 1) ((if omw (omcmp (r156.2 60 (omw 0).toNat) (omw r156.1)) = 0 then rec (v4 + 7) r156.2 else some (Sum.inl ((0, r156.2))))) else rec (v4 + 7) r156.2) else some (Sum.inl ((0, r156.2)))))))
def lc_31 (L : Nat) (xs : Nat → Int) (rec : Int → omH → Option ((Int × omH) ⊕ (omH))) (v4 : Int) (σ : omH) : Option ((Int × omH) ⊕ (omH)) := omg (0 ≤ omw (v4 + 1) ∧ omw (v4 + 1) < L) (Option.bind (s_L_canBeOnTime (xs (omw (v4 + 1)).toNat) σ) (fun r160 => omg (0 ≤ omw (v4 + 1) ∧ omw (v4 + 1) < L) (Option.bind (s_X12_canBeOnTime (xs (omw (v4 + 1)).toNat) r160.2) (fun r162 => Option.bind (s_X12_thrown  r162.2) (fun r163 => (if omw r163 = omw r160.1 then (if omw r160.1 = 0 then omg (0 ≤ omw 0 ∧ omw 0 < 1) (Option.bind ((if omw r162.1 = 0 then some (0) else some (1))) (fun t165 => (if omw (omcmp (r162.2 60 (omw 0).toNat) t165) = 0 then rec (v4 + 7) r162.2 else some (Sum.inl ((0, r162.2)))))) else rec (v4 + 7) r162.2) else some (Sum.inl ((0, r162.2)))))))))
def lc_32 (L : Nat) (xs : Nat → Int) (rec : Int → omH → Option ((Int × omH) ⊕ (omH))) (v4 : Int) (σ : omH) : Option ((Int × omH) ⊕ (omH)) := Option.bind (s_X11_fewestLateBySets  σ) (fun r166 => Option.bind (s_X12_fewestLateBySets  r166.2) (fun r167 => (if omw r166.1 = omw r167.1 then rec (v4 + 7) r167.2 else some (Sum.inl ((0, r167.2))))))
def lc_33 (L : Nat) (xs : Nat → Int) (rec : Int → omH → Option ((Int × omH) ⊕ (omH))) (v4 : Int) (σ : omH) : Option ((Int × omH) ⊕ (omH)) := omg (0 ≤ omw (v4 + 1) ∧ omw (v4 + 1) < L) (Option.bind ((if omw (xs (omw (v4 + 1)).toNat) = 0 then some (0) else some (1))) (fun t169 => Option.bind (s_L_windowBound t169 σ) (fun r170 => omg (0 ≤ omw (v4 + 1) ∧ omw (v4 + 1) < L) (Option.bind ((if omw (xs (omw (v4 + 1)).toNat) = 0 then some (0) else some (1))) (fun t172 => Option.bind (s_X12_windowBound t172 r170.2) (fun r173 => Option.bind (s_X12_thrown  r173.2) (fun r174 => (if omw r174 = omw r170.1 then (if omw r170.1 = 0 then omg (0 ≤ omw 0 ∧ omw 0 < 1) ((if omw (omcmp (r173.2 60 (omw 0).toNat) (omw r173.1)) = 0 then rec (v4 + 7) r173.2 else some (Sum.inl ((0, r173.2))))) else rec (v4 + 7) r173.2) else some (Sum.inl ((0, r173.2)))))))))))
def lc_34 (L : Nat) (xs : Nat → Int) (rec : Int → omH → Option ((Int × omH) ⊕ (omH))) (v4 : Int) (σ : omH) : Option ((Int × omH) ⊕ (omH)) := Option.bind (s_L_windowDue  σ) (fun r176 => Option.bind (s_X12_windowDue  r176.2) (fun r177 => Option.bind (s_X12_thrown  r177.2) (fun r178 => (if omw r178 = omw r176.1 then (if omw r176.1 = 0 then omg (0 ≤ omw 0 ∧ omw 0 < 1) ((if omw (omcmp (r177.2 60 (omw 0).toNat) (omw r177.1)) = 0 then rec (v4 + 7) r177.2 else some (Sum.inl ((0, r177.2))))) else rec (v4 + 7) r177.2) else some (Sum.inl ((0, r177.2)))))))
def lc_35 (L : Nat) (xs : Nat → Int) (rec : Int → omH → Option ((Int × omH) ⊕ (omH))) (v4 : Int) (σ : omH) : Option ((Int × omH) ⊕ (omH)) := Option.bind (s_L_windowRelease  σ) (fun r180 => Option.bind (s_X12_windowRelease  r180.2) (fun r181 => Option.bind (s_X12_thrown  r181.2) (fun r182 => (if omw r182 = omw r180.1 then (if omw r180.1 = 0 then omg (0 ≤ omw 0 ∧ omw 0 < 1) ((if omw (omcmp (r181.2 60 (omw 0).toNat) (omw r181.1)) = 0 then rec (v4 + 7) r181.2 else some (Sum.inl ((0, r181.2))))) else rec (v4 + 7) r181.2) else some (Sum.inl ((0, r181.2)))))))
def l_L_law_23 (L : Nat) (xs : Nat → Int)  : Nat → Int → omH → Option ((Int × omH) ⊕ (omH))
  | 0, _, _ => none
  | n + 1, v4, σ => (if omw (L - 7) < omw v4 then some (Sum.inl ((1, σ))) else omg (0 ≤ omw v4 ∧ omw v4 < L) ((if omw (omand (xs (omw v4).toNat) 63) = 0 then lc_0 L xs (l_L_law_23 L xs n) v4 σ else (if omw (omand (xs (omw v4).toNat) 63) = 1 then lc_1 L xs (l_L_law_23 L xs n) v4 σ else (if omw (omand (xs (omw v4).toNat) 63) = 2 then lc_2 L xs (l_L_law_23 L xs n) v4 σ else (if omw (omand (xs (omw v4).toNat) 63) = 3 then lc_3 L xs (l_L_law_23 L xs n) v4 σ else (if omw (omand (xs (omw v4).toNat) 63) = 4 then lc_4 L xs (l_L_law_23 L xs n) v4 σ else (if omw (omand (xs (omw v4).toNat) 63) = 5 then lc_5 L xs (l_L_law_23 L xs n) v4 σ else (if omw (omand (xs (omw v4).toNat) 63) = 6 then lc_6 L xs (l_L_law_23 L xs n) v4 σ else (if omw (omand (xs (omw v4).toNat) 63) = 7 then lc_7 L xs (l_L_law_23 L xs n) v4 σ else (if omw (omand (xs (omw v4).toNat) 63) = 8 then lc_8 L xs (l_L_law_23 L xs n) v4 σ else (if omw (omand (xs (omw v4).toNat) 63) = 9 then lc_9 L xs (l_L_law_23 L xs n) v4 σ else (if omw (omand (xs (omw v4).toNat) 63) = 10 then lc_10 L xs (l_L_law_23 L xs n) v4 σ else (if omw (omand (xs (omw v4).toNat) 63) = 11 then lc_11 L xs (l_L_law_23 L xs n) v4 σ else (if omw (omand (xs (omw v4).toNat) 63) = 12 then lc_12 L xs (l_L_law_23 L xs n) v4 σ else (if omw (omand (xs (omw v4).toNat) 63) = 13 then lc_13 L xs (l_L_law_23 L xs n) v4 σ else (if omw (omand (xs (omw v4).toNat) 63) = 14 then lc_14 L xs (l_L_law_23 L xs n) v4 σ else (if omw (omand (xs (omw v4).toNat) 63) = 15 then lc_15 L xs (l_L_law_23 L xs n) v4 σ else (if omw (omand (xs (omw v4).toNat) 63) = 16 then lc_16 L xs (l_L_law_23 L xs n) v4 σ else (if omw (omand (xs (omw v4).toNat) 63) = 17 then lc_17 L xs (l_L_law_23 L xs n) v4 σ else (if omw (omand (xs (omw v4).toNat) 63) = 18 then lc_18 L xs (l_L_law_23 L xs n) v4 σ else (if omw (omand (xs (omw v4).toNat) 63) = 19 then lc_19 L xs (l_L_law_23 L xs n) v4 σ else (if omw (omand (xs (omw v4).toNat) 63) = 20 then lc_20 L xs (l_L_law_23 L xs n) v4 σ else (if omw (omand (xs (omw v4).toNat) 63) = 21 then lc_21 L xs (l_L_law_23 L xs n) v4 σ else (if omw (omand (xs (omw v4).toNat) 63) = 22 then lc_22 L xs (l_L_law_23 L xs n) v4 σ else (if omw (omand (xs (omw v4).toNat) 63) = 23 then lc_23 L xs (l_L_law_23 L xs n) v4 σ else (if omw (omand (xs (omw v4).toNat) 63) = 24 then lc_24 L xs (l_L_law_23 L xs n) v4 σ else (if omw (omand (xs (omw v4).toNat) 63) = 25 then lc_25 L xs (l_L_law_23 L xs n) v4 σ else (if omw (omand (xs (omw v4).toNat) 63) = 26 then lc_26 L xs (l_L_law_23 L xs n) v4 σ else (if omw (omand (xs (omw v4).toNat) 63) = 27 then lc_27 L xs (l_L_law_23 L xs n) v4 σ else (if omw (omand (xs (omw v4).toNat) 63) = 28 then lc_28 L xs (l_L_law_23 L xs n) v4 σ else (if omw (omand (xs (omw v4).toNat) 63) = 29 then lc_29 L xs (l_L_law_23 L xs n) v4 σ else (if omw (omand (xs (omw v4).toNat) 63) = 30 then lc_30 L xs (l_L_law_23 L xs n) v4 σ else (if omw (omand (xs (omw v4).toNat) 63) = 31 then lc_31 L xs (l_L_law_23 L xs n) v4 σ else (if omw (omand (xs (omw v4).toNat) 63) = 32 then lc_32 L xs (l_L_law_23 L xs n) v4 σ else (if omw (omand (xs (omw v4).toNat) 63) = 33 then lc_33 L xs (l_L_law_23 L xs n) v4 σ else (if omw (omand (xs (omw v4).toNat) 63) = 34 then lc_34 L xs (l_L_law_23 L xs n) v4 σ else (if omw (omand (xs (omw v4).toNat) 63) = 35 then lc_35 L xs (l_L_law_23 L xs n) v4 σ else l_L_law_23 L xs n (v4 + 7) σ))))))))))))))))))))))))))))))))))))))
set_option maxHeartbeats 4000000 in
set_option maxRecDepth 100000 in
theorem kl_L_law_23 {G : omG} {x : omX} {L : Nat} {xs : Nat → Int} (C : omC G x RL cL_law 7 (18) 1030) (hL : L = G.2.2.2.1.1) (hxs : xs = omscr G) : ∀ (n : Nat) (v4 : Int) (σ : omH) (t : (Int × omH) ⊕ (omH)) (k : Nat), k + 2 * n ≤ 1030 → l_L_law_23 L xs  n v4 σ = some t → (∀ r, t = .inl r → ∀ pc ls9 σ9 k9, decode code pc = .ok (.ireturn, 1) → k9 ≤ 1030 → omV G x 7 pc ls9 [.int (omi r.1)] σ9 k9) → omV G x 7 23 [(0, .ref (G.1 14)), (1, .ref (G.1 16)), (2, .ref (G.1 43)), (3, .ref (G.1 60)), (4, .int (omi v4))] [] σ k := by
  intro n
  induction n with
  | zero => intro v4 σ t k hk h FR ; cases h
  | succ n ih =>
    intro v4 σ t k hk h FR 
    rw [l_L_law_23.eq_2] at h
    refine v_iload C (q := 4) rfl dL_law_23 ?_
    refine v_aload_n C (q := 0) rfl rfl dL_law_25 ?_
    refine v_scrlenx C hL dL_law_26 ?_
    refine v_bipush C (a := 7) (by decide) dL_law_27 ?_
    refine v_isub C dL_law_29 ?_
    refine v_icmp_gt C (tgt := 1935) dL_law_30 rfl (fun hc => ?_) (fun hc => ?_)
    · replace h := (if_pos hc).symm.trans h
      refine v_iconst C (n := 1) dL_law_1935 ?_
      cases h
      exact (FR _ rfl) _ _ _ _ dL_law_1936 (by omega)
    · replace h := (if_neg hc).symm.trans h
      refine v_aload_n C (q := 0) rfl rfl dL_law_33 ?_
      refine v_iload C (q := 4) rfl dL_law_34 ?_
      obtain ⟨g1, h⟩ := omg_some h
      refine v_scrldx C hL hxs g1 dL_law_36 ?_
      refine v_bipush C (a := 63) (by decide) dL_law_37 ?_
      refine v_iand C dL_law_39 ?_
      by_cases hc0 : omw (omand (xs (omw v4).toNat) 63) = 0
      · replace h := (if_pos hc0).symm.trans h
        refine v_tabIn C (tgt := 200) dL_law_40 hc0 (by decide) (by decide) rfl rfl ?_
        unfold lc_0 at h
        refine v_aload_n C (q := 1) rfl rfl dL_law_200 ?_
        refine v_aload_n C (q := 0) rfl rfl dL_law_201 ?_
        refine v_iload C (q := 4) rfl dL_law_202 ?_
        refine v_iconst C (n := 1) dL_law_204 ?_
        refine v_iadd C dL_law_205 ?_
        obtain ⟨g2, h⟩ := omg_some h
        refine v_scrldx C hL hxs g2 dL_law_206 ?_
        refine v_aload_n C (q := 0) rfl rfl dL_law_207 ?_
        refine v_iload C (q := 4) rfl dL_law_208 ?_
        refine v_iconst C (n := 2) dL_law_210 ?_
        refine v_iadd C dL_law_211 ?_
        obtain ⟨g3, h⟩ := omg_some h
        refine v_scrldx C hL hxs g3 dL_law_212 ?_
        refine v_aload_n C (q := 0) rfl rfl dL_law_213 ?_
        refine v_iload C (q := 4) rfl dL_law_214 ?_
        refine v_iconst C (n := 3) dL_law_216 ?_
        refine v_iadd C dL_law_217 ?_
        obtain ⟨g4, h⟩ := omg_some h
        refine v_scrldx C hL hxs g4 dL_law_218 ?_
        refine v_aload_n C (q := 0) rfl rfl dL_law_219 ?_
        refine v_iload C (q := 4) rfl dL_law_220 ?_
        refine v_iconst C (n := 4) dL_law_222 ?_
        refine v_iadd C dL_law_223 ?_
        obtain ⟨g5, h⟩ := omg_some h
        refine v_scrldx C hL hxs g5 dL_law_224 ?_
        refine v_aload_n C (q := 0) rfl rfl dL_law_225 ?_
        refine v_iload C (q := 4) rfl dL_law_226 ?_
        refine v_iconst C (n := 5) dL_law_228 ?_
        refine v_iadd C dL_law_229 ?_
        obtain ⟨g6, h⟩ := omg_some h
        refine v_scrldx C hL hxs g6 dL_law_230 ?_
        refine v_aload_n C (q := 3) rfl rfl dL_law_231 ?_
        obtain ⟨r7, er7, h⟩ := om_bind h
        refine v_invX_i (As := [.ref (G.1 16), .int (omi (xs (omw (v4 + 1)).toNat)), .int (omi (xs (omw (v4 + 2)).toNat)), .int (omi (xs (omw (v4 + 3)).toNat)), .int (omi (xs (omw (v4 + 4)).toNat)), .int (omi (xs (omw (v4 + 5)).toNat)), .ref (G.1 60)]) C mi_L_addJob ml_L_122 (k_L_addJob (xs (omw (v4 + 1)).toNat) (xs (omw (v4 + 2)).toNat) (xs (omw (v4 + 3)).toNat) (xs (omw (v4 + 4)).toNat) (xs (omw (v4 + 5)).toNat) σ _ er7) rfl (by decide) (by omega) rfl (Nat.le_of_ble_eq_true rfl) dL_law_232 ?_
        refine v_istore C (ls' := [(0, .ref (G.1 14)), (1, .ref (G.1 16)), (2, .ref (G.1 43)), (3, .ref (G.1 60)), (4, .int (omi v4)), (5, .int (omi r7.1))]) (by decide) rfl dL_law_235 ?_
        refine v_aload_n C (q := 2) rfl rfl dL_law_237 ?_
        refine v_aload_n C (q := 0) rfl rfl dL_law_238 ?_
        refine v_iload C (q := 4) rfl dL_law_239 ?_
        refine v_iconst C (n := 1) dL_law_241 ?_
        refine v_iadd C dL_law_242 ?_
        obtain ⟨g8, h⟩ := omg_some h
        refine v_scrldx C hL hxs g8 dL_law_243 ?_
        refine v_aload_n C (q := 0) rfl rfl dL_law_244 ?_
        refine v_iload C (q := 4) rfl dL_law_245 ?_
        refine v_iconst C (n := 2) dL_law_247 ?_
        refine v_iadd C dL_law_248 ?_
        obtain ⟨g9, h⟩ := omg_some h
        refine v_scrldx C hL hxs g9 dL_law_249 ?_
        refine v_aload_n C (q := 0) rfl rfl dL_law_250 ?_
        refine v_iload C (q := 4) rfl dL_law_251 ?_
        refine v_iconst C (n := 3) dL_law_253 ?_
        refine v_iadd C dL_law_254 ?_
        obtain ⟨g10, h⟩ := omg_some h
        refine v_scrldx C hL hxs g10 dL_law_255 ?_
        refine v_aload_n C (q := 0) rfl rfl dL_law_256 ?_
        refine v_iload C (q := 4) rfl dL_law_257 ?_
        refine v_iconst C (n := 4) dL_law_259 ?_
        refine v_iadd C dL_law_260 ?_
        obtain ⟨g11, h⟩ := omg_some h
        refine v_scrldx C hL hxs g11 dL_law_261 ?_
        refine v_aload_n C (q := 0) rfl rfl dL_law_262 ?_
        refine v_iload C (q := 4) rfl dL_law_263 ?_
        refine v_iconst C (n := 5) dL_law_265 ?_
        refine v_iadd C dL_law_266 ?_
        obtain ⟨g12, h⟩ := omg_some h
        refine v_scrldx C hL hxs g12 dL_law_267 ?_
        obtain ⟨r13, er13, h⟩ := om_bind h
        refine v_invV_i (As := [.int (omi (xs (omw (v4 + 1)).toNat)), .int (omi (xs (omw (v4 + 2)).toNat)), .int (omi (xs (omw (v4 + 3)).toNat)), .int (omi (xs (omw (v4 + 4)).toNat)), .int (omi (xs (omw (v4 + 5)).toNat))]) C mi_X12_addJob ml_L_127 (k_X12_addJob (xs (omw (v4 + 1)).toNat) (xs (omw (v4 + 2)).toNat) (xs (omw (v4 + 3)).toNat) (xs (omw (v4 + 4)).toNat) (xs (omw (v4 + 5)).toNat) r7.2 _ er13) (q := 27) rfl rfl rfl (by decide) (by omega) rfl (Nat.le_of_ble_eq_true rfl) dL_law_268 ?_
        refine v_istore C (ls' := [(0, .ref (G.1 14)), (1, .ref (G.1 16)), (2, .ref (G.1 43)), (3, .ref (G.1 60)), (4, .int (omi v4)), (5, .int (omi r7.1)), (6, .int (omi r13.1))]) (by decide) rfl dL_law_271 ?_
        refine v_aload_n C (q := 2) rfl rfl dL_law_273 ?_
        obtain ⟨r14, er14, h⟩ := om_bind h
        refine v_invV_i (As := []) C mi_X12_thrown ml_L_128 (k_X12_thrown  r13.2 _ er14) (q := 27) rfl rfl rfl (by decide) (by omega) rfl (Nat.le_of_ble_eq_true rfl) dL_law_274 ?_
        refine v_iload C (q := 5) rfl dL_law_277 ?_
        refine v_icmp_eq C (tgt := 284) dL_law_279 rfl (fun hc => ?_) (fun hc => ?_)
        · replace h := (if_pos hc).symm.trans h
          refine v_iload C (q := 5) rfl dL_law_284 ?_
          refine v_if_ne C (tgt := 301) dL_law_286 rfl (fun hc => ?_) (fun hc => ?_)
          · replace h := (if_neg hc).symm.trans h
            refine v_goto C (tgt := 1929) dL_law_301 rfl ?_
            refine v_iinc C (q := 4) (ls' := [(0, .ref (G.1 14)), (1, .ref (G.1 16)), (2, .ref (G.1 43)), (3, .ref (G.1 60)), (4, .int (omi (v4 + 7))), (5, .int (omi r7.1)), (6, .int (omi r13.1))]) rfl (by decide) rfl rfl dL_law_1929 ?_
            refine v_goto C (tgt := 23) dL_law_1932 rfl ?_
            exact v_subp [0, 1, 2, 3, 4] rfl (ih _ _ _ _ (by omega) h FR)
          · replace h := (if_pos hc).symm.trans h
            refine v_aload_n C (q := 3) rfl rfl dL_law_289 ?_
            refine v_iconst C (n := 0) dL_law_290 ?_
            obtain ⟨g15, h⟩ := omg_some h
            refine v_lald C (q := 44) (o := 60) (n := 1) rfl g15 dL_law_291 ?_
            refine v_iload C (q := 6) rfl dL_law_292 ?_
            refine v_i2l C dL_law_294 ?_
            refine v_lcmp C dL_law_295 ?_
            refine v_if_eq C (tgt := 301) dL_law_296 rfl (fun hc => ?_) (fun hc => ?_)
            · replace h := (if_pos hc).symm.trans h
              refine v_goto C (tgt := 1929) dL_law_301 rfl ?_
              refine v_iinc C (q := 4) (ls' := [(0, .ref (G.1 14)), (1, .ref (G.1 16)), (2, .ref (G.1 43)), (3, .ref (G.1 60)), (4, .int (omi (v4 + 7))), (5, .int (omi r7.1)), (6, .int (omi r13.1))]) rfl (by decide) rfl rfl dL_law_1929 ?_
              refine v_goto C (tgt := 23) dL_law_1932 rfl ?_
              exact v_subp [0, 1, 2, 3, 4] rfl (ih _ _ _ _ (by omega) h FR)
            · replace h := (if_neg hc).symm.trans h
              refine v_iconst C (n := 0) dL_law_299 ?_
              cases h
              exact (FR _ rfl) _ _ _ _ dL_law_300 (by omega)
        · replace h := (if_neg hc).symm.trans h
          refine v_iconst C (n := 0) dL_law_282 ?_
          cases h
          exact (FR _ rfl) _ _ _ _ dL_law_283 (by omega)
      · replace h := (if_neg hc0).symm.trans h
        by_cases hc1 : omw (omand (xs (omw v4).toNat) 63) = 1
        · replace h := (if_pos hc1).symm.trans h
          refine v_tabIn C (tgt := 304) dL_law_40 hc1 (by decide) (by decide) rfl rfl ?_
          unfold lc_1 at h
          refine v_aload_n C (q := 1) rfl rfl dL_law_304 ?_
          refine v_aload_n C (q := 0) rfl rfl dL_law_305 ?_
          refine v_iload C (q := 4) rfl dL_law_306 ?_
          refine v_iconst C (n := 1) dL_law_308 ?_
          refine v_iadd C dL_law_309 ?_
          obtain ⟨g16, h⟩ := omg_some h
          refine v_scrldx C hL hxs g16 dL_law_310 ?_
          refine v_aload_n C (q := 0) rfl rfl dL_law_311 ?_
          refine v_iload C (q := 4) rfl dL_law_312 ?_
          refine v_iconst C (n := 2) dL_law_314 ?_
          refine v_iadd C dL_law_315 ?_
          obtain ⟨g17, h⟩ := omg_some h
          refine v_scrldx C hL hxs g17 dL_law_316 ?_
          refine v_aload_n C (q := 0) rfl rfl dL_law_317 ?_
          refine v_iload C (q := 4) rfl dL_law_318 ?_
          refine v_iconst C (n := 3) dL_law_320 ?_
          refine v_iadd C dL_law_321 ?_
          obtain ⟨g18, h⟩ := omg_some h
          refine v_scrldx C hL hxs g18 dL_law_322 ?_
          refine v_aload_n C (q := 0) rfl rfl dL_law_323 ?_
          refine v_iload C (q := 4) rfl dL_law_324 ?_
          refine v_iconst C (n := 4) dL_law_326 ?_
          refine v_iadd C dL_law_327 ?_
          obtain ⟨g19, h⟩ := omg_some h
          refine v_scrldx C hL hxs g19 dL_law_328 ?_
          refine v_aload_n C (q := 0) rfl rfl dL_law_329 ?_
          refine v_iload C (q := 4) rfl dL_law_330 ?_
          refine v_iconst C (n := 5) dL_law_332 ?_
          refine v_iadd C dL_law_333 ?_
          obtain ⟨g20, h⟩ := omg_some h
          refine v_scrldx C hL hxs g20 dL_law_334 ?_
          refine v_aload_n C (q := 0) rfl rfl dL_law_335 ?_
          refine v_iload C (q := 4) rfl dL_law_336 ?_
          refine v_bipush C (a := 6) (by decide) dL_law_338 ?_
          refine v_iadd C dL_law_340 ?_
          obtain ⟨g21, h⟩ := omg_some h
          refine v_scrldx C hL hxs g21 dL_law_341 ?_
          obtain ⟨r22, er22, h⟩ := om_bind h
          refine v_invX_i (As := [.ref (G.1 16), .int (omi (xs (omw (v4 + 1)).toNat)), .int (omi (xs (omw (v4 + 2)).toNat)), .int (omi (xs (omw (v4 + 3)).toNat)), .int (omi (xs (omw (v4 + 4)).toNat)), .int (omi (xs (omw (v4 + 5)).toNat)), .int (omi (xs (omw (v4 + 6)).toNat))]) C mi_L_changeJob ml_L_131 (k_L_changeJob (xs (omw (v4 + 1)).toNat) (xs (omw (v4 + 2)).toNat) (xs (omw (v4 + 3)).toNat) (xs (omw (v4 + 4)).toNat) (xs (omw (v4 + 5)).toNat) (xs (omw (v4 + 6)).toNat) σ _ er22) rfl (by decide) (by omega) rfl (Nat.le_of_ble_eq_true rfl) dL_law_342 ?_
          refine v_istore C (ls' := [(0, .ref (G.1 14)), (1, .ref (G.1 16)), (2, .ref (G.1 43)), (3, .ref (G.1 60)), (4, .int (omi v4)), (5, .int (omi r22.1))]) (by decide) rfl dL_law_345 ?_
          refine v_aload_n C (q := 2) rfl rfl dL_law_347 ?_
          refine v_aload_n C (q := 0) rfl rfl dL_law_348 ?_
          refine v_iload C (q := 4) rfl dL_law_349 ?_
          refine v_iconst C (n := 1) dL_law_351 ?_
          refine v_iadd C dL_law_352 ?_
          obtain ⟨g23, h⟩ := omg_some h
          refine v_scrldx C hL hxs g23 dL_law_353 ?_
          refine v_aload_n C (q := 0) rfl rfl dL_law_354 ?_
          refine v_iload C (q := 4) rfl dL_law_355 ?_
          refine v_iconst C (n := 2) dL_law_357 ?_
          refine v_iadd C dL_law_358 ?_
          obtain ⟨g24, h⟩ := omg_some h
          refine v_scrldx C hL hxs g24 dL_law_359 ?_
          refine v_aload_n C (q := 0) rfl rfl dL_law_360 ?_
          refine v_iload C (q := 4) rfl dL_law_361 ?_
          refine v_iconst C (n := 3) dL_law_363 ?_
          refine v_iadd C dL_law_364 ?_
          obtain ⟨g25, h⟩ := omg_some h
          refine v_scrldx C hL hxs g25 dL_law_365 ?_
          refine v_aload_n C (q := 0) rfl rfl dL_law_366 ?_
          refine v_iload C (q := 4) rfl dL_law_367 ?_
          refine v_iconst C (n := 4) dL_law_369 ?_
          refine v_iadd C dL_law_370 ?_
          obtain ⟨g26, h⟩ := omg_some h
          refine v_scrldx C hL hxs g26 dL_law_371 ?_
          refine v_aload_n C (q := 0) rfl rfl dL_law_372 ?_
          refine v_iload C (q := 4) rfl dL_law_373 ?_
          refine v_iconst C (n := 5) dL_law_375 ?_
          refine v_iadd C dL_law_376 ?_
          obtain ⟨g27, h⟩ := omg_some h
          refine v_scrldx C hL hxs g27 dL_law_377 ?_
          refine v_aload_n C (q := 0) rfl rfl dL_law_378 ?_
          refine v_iload C (q := 4) rfl dL_law_379 ?_
          refine v_bipush C (a := 6) (by decide) dL_law_381 ?_
          refine v_iadd C dL_law_383 ?_
          obtain ⟨g28, h⟩ := omg_some h
          refine v_scrldx C hL hxs g28 dL_law_384 ?_
          obtain ⟨r29, er29, h⟩ := om_bind h
          refine v_invV_v (As := [.int (omi (xs (omw (v4 + 1)).toNat)), .int (omi (xs (omw (v4 + 2)).toNat)), .int (omi (xs (omw (v4 + 3)).toNat)), .int (omi (xs (omw (v4 + 4)).toNat)), .int (omi (xs (omw (v4 + 5)).toNat)), .int (omi (xs (omw (v4 + 6)).toNat))]) C mi_X12_changeJob ml_L_134 (k_X12_changeJob (xs (omw (v4 + 1)).toNat) (xs (omw (v4 + 2)).toNat) (xs (omw (v4 + 3)).toNat) (xs (omw (v4 + 4)).toNat) (xs (omw (v4 + 5)).toNat) (xs (omw (v4 + 6)).toNat) r22.2 _ er29) (q := 27) rfl rfl rfl (by decide) (by omega) rfl (Nat.le_of_ble_eq_true rfl) dL_law_385 ?_
          refine v_aload_n C (q := 2) rfl rfl dL_law_388 ?_
          obtain ⟨r30, er30, h⟩ := om_bind h
          refine v_invV_i (As := []) C mi_X12_thrown ml_L_128 (k_X12_thrown  r29 _ er30) (q := 27) rfl rfl rfl (by decide) (by omega) rfl (Nat.le_of_ble_eq_true rfl) dL_law_389 ?_
          refine v_iload C (q := 5) rfl dL_law_392 ?_
          refine v_icmp_eq C (tgt := 399) dL_law_394 rfl (fun hc => ?_) (fun hc => ?_)
          · replace h := (if_pos hc).symm.trans h
            refine v_goto C (tgt := 1929) dL_law_399 rfl ?_
            refine v_iinc C (q := 4) (ls' := [(0, .ref (G.1 14)), (1, .ref (G.1 16)), (2, .ref (G.1 43)), (3, .ref (G.1 60)), (4, .int (omi (v4 + 7))), (5, .int (omi r22.1))]) rfl (by decide) rfl rfl dL_law_1929 ?_
            refine v_goto C (tgt := 23) dL_law_1932 rfl ?_
            exact v_subp [0, 1, 2, 3, 4] rfl (ih _ _ _ _ (by omega) h FR)
          · replace h := (if_neg hc).symm.trans h
            refine v_iconst C (n := 0) dL_law_397 ?_
            cases h
            exact (FR _ rfl) _ _ _ _ dL_law_398 (by omega)
        · replace h := (if_neg hc1).symm.trans h
          by_cases hc2 : omw (omand (xs (omw v4).toNat) 63) = 2
          · replace h := (if_pos hc2).symm.trans h
            refine v_tabIn C (tgt := 402) dL_law_40 hc2 (by decide) (by decide) rfl rfl ?_
            unfold lc_2 at h
            refine v_aload_n C (q := 1) rfl rfl dL_law_402 ?_
            refine v_aload_n C (q := 0) rfl rfl dL_law_403 ?_
            refine v_iload C (q := 4) rfl dL_law_404 ?_
            refine v_iconst C (n := 1) dL_law_406 ?_
            refine v_iadd C dL_law_407 ?_
            obtain ⟨g31, h⟩ := omg_some h
            refine v_scrldx C hL hxs g31 dL_law_408 ?_
            refine v_aload_n C (q := 3) rfl rfl dL_law_409 ?_
            obtain ⟨r32, er32, h⟩ := om_bind h
            refine v_invX_i (As := [.ref (G.1 16), .int (omi (xs (omw (v4 + 1)).toNat)), .ref (G.1 60)]) C mi_L_removeJob ml_L_135 (k_L_removeJob (xs (omw (v4 + 1)).toNat) σ _ er32) rfl (by decide) (by omega) rfl (Nat.le_of_ble_eq_true rfl) dL_law_410 ?_
            refine v_istore C (ls' := [(0, .ref (G.1 14)), (1, .ref (G.1 16)), (2, .ref (G.1 43)), (3, .ref (G.1 60)), (4, .int (omi v4)), (5, .int (omi r32.1))]) (by decide) rfl dL_law_413 ?_
            refine v_aload_n C (q := 2) rfl rfl dL_law_415 ?_
            refine v_aload_n C (q := 0) rfl rfl dL_law_416 ?_
            refine v_iload C (q := 4) rfl dL_law_417 ?_
            refine v_iconst C (n := 1) dL_law_419 ?_
            refine v_iadd C dL_law_420 ?_
            obtain ⟨g33, h⟩ := omg_some h
            refine v_scrldx C hL hxs g33 dL_law_421 ?_
            obtain ⟨r34, er34, h⟩ := om_bind h
            refine v_invV_i (As := [.int (omi (xs (omw (v4 + 1)).toNat))]) C mi_X12_removeJob ml_L_138 (k_X12_removeJob (xs (omw (v4 + 1)).toNat) r32.2 _ er34) (q := 27) rfl rfl rfl (by decide) (by omega) rfl (Nat.le_of_ble_eq_true rfl) dL_law_422 ?_
            refine v_istore C (ls' := [(0, .ref (G.1 14)), (1, .ref (G.1 16)), (2, .ref (G.1 43)), (3, .ref (G.1 60)), (4, .int (omi v4)), (5, .int (omi r32.1)), (6, .int (omi r34.1))]) (by decide) rfl dL_law_425 ?_
            refine v_aload_n C (q := 2) rfl rfl dL_law_427 ?_
            obtain ⟨r35, er35, h⟩ := om_bind h
            refine v_invV_i (As := []) C mi_X12_thrown ml_L_128 (k_X12_thrown  r34.2 _ er35) (q := 27) rfl rfl rfl (by decide) (by omega) rfl (Nat.le_of_ble_eq_true rfl) dL_law_428 ?_
            refine v_iload C (q := 5) rfl dL_law_431 ?_
            refine v_icmp_eq C (tgt := 438) dL_law_433 rfl (fun hc => ?_) (fun hc => ?_)
            · replace h := (if_pos hc).symm.trans h
              refine v_iload C (q := 5) rfl dL_law_438 ?_
              refine v_if_ne C (tgt := 455) dL_law_440 rfl (fun hc => ?_) (fun hc => ?_)
              · replace h := (if_neg hc).symm.trans h
                refine v_goto C (tgt := 1929) dL_law_455 rfl ?_
                refine v_iinc C (q := 4) (ls' := [(0, .ref (G.1 14)), (1, .ref (G.1 16)), (2, .ref (G.1 43)), (3, .ref (G.1 60)), (4, .int (omi (v4 + 7))), (5, .int (omi r32.1)), (6, .int (omi r34.1))]) rfl (by decide) rfl rfl dL_law_1929 ?_
                refine v_goto C (tgt := 23) dL_law_1932 rfl ?_
                exact v_subp [0, 1, 2, 3, 4] rfl (ih _ _ _ _ (by omega) h FR)
              · replace h := (if_pos hc).symm.trans h
                refine v_aload_n C (q := 3) rfl rfl dL_law_443 ?_
                refine v_iconst C (n := 0) dL_law_444 ?_
                obtain ⟨g36, h⟩ := omg_some h
                refine v_lald C (q := 44) (o := 60) (n := 1) rfl g36 dL_law_445 ?_
                refine v_iload C (q := 6) rfl dL_law_446 ?_
                refine v_i2l C dL_law_448 ?_
                refine v_lcmp C dL_law_449 ?_
                refine v_if_eq C (tgt := 455) dL_law_450 rfl (fun hc => ?_) (fun hc => ?_)
                · replace h := (if_pos hc).symm.trans h
                  refine v_goto C (tgt := 1929) dL_law_455 rfl ?_
                  refine v_iinc C (q := 4) (ls' := [(0, .ref (G.1 14)), (1, .ref (G.1 16)), (2, .ref (G.1 43)), (3, .ref (G.1 60)), (4, .int (omi (v4 + 7))), (5, .int (omi r32.1)), (6, .int (omi r34.1))]) rfl (by decide) rfl rfl dL_law_1929 ?_
                  refine v_goto C (tgt := 23) dL_law_1932 rfl ?_
                  exact v_subp [0, 1, 2, 3, 4] rfl (ih _ _ _ _ (by omega) h FR)
                · replace h := (if_neg hc).symm.trans h
                  refine v_iconst C (n := 0) dL_law_453 ?_
                  cases h
                  exact (FR _ rfl) _ _ _ _ dL_law_454 (by omega)
            · replace h := (if_neg hc).symm.trans h
              refine v_iconst C (n := 0) dL_law_436 ?_
              cases h
              exact (FR _ rfl) _ _ _ _ dL_law_437 (by omega)
          · replace h := (if_neg hc2).symm.trans h
            by_cases hc3 : omw (omand (xs (omw v4).toNat) 63) = 3
            · replace h := (if_pos hc3).symm.trans h
              refine v_tabIn C (tgt := 458) dL_law_40 hc3 (by decide) (by decide) rfl rfl ?_
              unfold lc_3 at h
              refine v_aload_n C (q := 1) rfl rfl dL_law_458 ?_
              refine v_aload_n C (q := 0) rfl rfl dL_law_459 ?_
              refine v_iload C (q := 4) rfl dL_law_460 ?_
              refine v_iconst C (n := 1) dL_law_462 ?_
              refine v_iadd C dL_law_463 ?_
              obtain ⟨g37, h⟩ := omg_some h
              refine v_scrldx C hL hxs g37 dL_law_464 ?_
              refine v_aload_n C (q := 0) rfl rfl dL_law_465 ?_
              refine v_iload C (q := 4) rfl dL_law_466 ?_
              refine v_iconst C (n := 2) dL_law_468 ?_
              refine v_iadd C dL_law_469 ?_
              obtain ⟨g38, h⟩ := omg_some h
              refine v_scrldx C hL hxs g38 dL_law_470 ?_
              refine v_aload_n C (q := 3) rfl rfl dL_law_471 ?_
              obtain ⟨r39, er39, h⟩ := om_bind h
              refine v_invX_i (As := [.ref (G.1 16), .int (omi (xs (omw (v4 + 1)).toNat)), .int (omi (xs (omw (v4 + 2)).toNat)), .ref (G.1 60)]) C mi_L_setSetup ml_L_139 (k_L_setSetup (xs (omw (v4 + 1)).toNat) (xs (omw (v4 + 2)).toNat) σ _ er39) rfl (by decide) (by omega) rfl (Nat.le_of_ble_eq_true rfl) dL_law_472 ?_
              refine v_istore C (ls' := [(0, .ref (G.1 14)), (1, .ref (G.1 16)), (2, .ref (G.1 43)), (3, .ref (G.1 60)), (4, .int (omi v4)), (5, .int (omi r39.1))]) (by decide) rfl dL_law_475 ?_
              refine v_aload_n C (q := 2) rfl rfl dL_law_477 ?_
              refine v_aload_n C (q := 0) rfl rfl dL_law_478 ?_
              refine v_iload C (q := 4) rfl dL_law_479 ?_
              refine v_iconst C (n := 1) dL_law_481 ?_
              refine v_iadd C dL_law_482 ?_
              obtain ⟨g40, h⟩ := omg_some h
              refine v_scrldx C hL hxs g40 dL_law_483 ?_
              refine v_aload_n C (q := 0) rfl rfl dL_law_484 ?_
              refine v_iload C (q := 4) rfl dL_law_485 ?_
              refine v_iconst C (n := 2) dL_law_487 ?_
              refine v_iadd C dL_law_488 ?_
              obtain ⟨g41, h⟩ := omg_some h
              refine v_scrldx C hL hxs g41 dL_law_489 ?_
              obtain ⟨r42, er42, h⟩ := om_bind h
              refine v_invV_i (As := [.int (omi (xs (omw (v4 + 1)).toNat)), .int (omi (xs (omw (v4 + 2)).toNat))]) C mi_X12_setSetup ml_L_142 (k_X12_setSetup (xs (omw (v4 + 1)).toNat) (xs (omw (v4 + 2)).toNat) r39.2 _ er42) (q := 27) rfl rfl rfl (by decide) (by omega) rfl (Nat.le_of_ble_eq_true rfl) dL_law_490 ?_
              refine v_istore C (ls' := [(0, .ref (G.1 14)), (1, .ref (G.1 16)), (2, .ref (G.1 43)), (3, .ref (G.1 60)), (4, .int (omi v4)), (5, .int (omi r39.1)), (6, .int (omi r42.1))]) (by decide) rfl dL_law_493 ?_
              refine v_aload_n C (q := 2) rfl rfl dL_law_495 ?_
              obtain ⟨r43, er43, h⟩ := om_bind h
              refine v_invV_i (As := []) C mi_X12_thrown ml_L_128 (k_X12_thrown  r42.2 _ er43) (q := 27) rfl rfl rfl (by decide) (by omega) rfl (Nat.le_of_ble_eq_true rfl) dL_law_496 ?_
              refine v_iload C (q := 5) rfl dL_law_499 ?_
              refine v_icmp_eq C (tgt := 506) dL_law_501 rfl (fun hc => ?_) (fun hc => ?_)
              · replace h := (if_pos hc).symm.trans h
                refine v_iload C (q := 5) rfl dL_law_506 ?_
                refine v_if_ne C (tgt := 523) dL_law_508 rfl (fun hc => ?_) (fun hc => ?_)
                · replace h := (if_neg hc).symm.trans h
                  refine v_goto C (tgt := 1929) dL_law_523 rfl ?_
                  refine v_iinc C (q := 4) (ls' := [(0, .ref (G.1 14)), (1, .ref (G.1 16)), (2, .ref (G.1 43)), (3, .ref (G.1 60)), (4, .int (omi (v4 + 7))), (5, .int (omi r39.1)), (6, .int (omi r42.1))]) rfl (by decide) rfl rfl dL_law_1929 ?_
                  refine v_goto C (tgt := 23) dL_law_1932 rfl ?_
                  exact v_subp [0, 1, 2, 3, 4] rfl (ih _ _ _ _ (by omega) h FR)
                · replace h := (if_pos hc).symm.trans h
                  refine v_aload_n C (q := 3) rfl rfl dL_law_511 ?_
                  refine v_iconst C (n := 0) dL_law_512 ?_
                  obtain ⟨g44, h⟩ := omg_some h
                  refine v_lald C (q := 44) (o := 60) (n := 1) rfl g44 dL_law_513 ?_
                  refine v_iload C (q := 6) rfl dL_law_514 ?_
                  refine v_i2l C dL_law_516 ?_
                  refine v_lcmp C dL_law_517 ?_
                  refine v_if_eq C (tgt := 523) dL_law_518 rfl (fun hc => ?_) (fun hc => ?_)
                  · replace h := (if_pos hc).symm.trans h
                    refine v_goto C (tgt := 1929) dL_law_523 rfl ?_
                    refine v_iinc C (q := 4) (ls' := [(0, .ref (G.1 14)), (1, .ref (G.1 16)), (2, .ref (G.1 43)), (3, .ref (G.1 60)), (4, .int (omi (v4 + 7))), (5, .int (omi r39.1)), (6, .int (omi r42.1))]) rfl (by decide) rfl rfl dL_law_1929 ?_
                    refine v_goto C (tgt := 23) dL_law_1932 rfl ?_
                    exact v_subp [0, 1, 2, 3, 4] rfl (ih _ _ _ _ (by omega) h FR)
                  · replace h := (if_neg hc).symm.trans h
                    refine v_iconst C (n := 0) dL_law_521 ?_
                    cases h
                    exact (FR _ rfl) _ _ _ _ dL_law_522 (by omega)
              · replace h := (if_neg hc).symm.trans h
                refine v_iconst C (n := 0) dL_law_504 ?_
                cases h
                exact (FR _ rfl) _ _ _ _ dL_law_505 (by omega)
            · replace h := (if_neg hc3).symm.trans h
              by_cases hc4 : omw (omand (xs (omw v4).toNat) 63) = 4
              · replace h := (if_pos hc4).symm.trans h
                refine v_tabIn C (tgt := 526) dL_law_40 hc4 (by decide) (by decide) rfl rfl ?_
                unfold lc_4 at h
                refine v_aload_n C (q := 1) rfl rfl dL_law_526 ?_
                obtain ⟨r45, er45, h⟩ := om_bind h
                refine v_invV_i (As := []) C mi_X11_jobs ml_L_143 (k_X11_jobs  σ _ er45) (q := 0) rfl rfl rfl (by decide) (by omega) rfl (Nat.le_of_ble_eq_true rfl) dL_law_527 ?_
                refine v_aload_n C (q := 2) rfl rfl dL_law_530 ?_
                obtain ⟨r46, er46, h⟩ := om_bind h
                refine v_invV_i (As := []) C mi_X12_jobs ml_L_146 (k_X12_jobs  σ _ er46) (q := 27) rfl rfl rfl (by decide) (by omega) rfl (Nat.le_of_ble_eq_true rfl) dL_law_531 ?_
                refine v_icmp_eq C (tgt := 1929) dL_law_534 rfl (fun hc => ?_) (fun hc => ?_)
                · replace h := (if_pos hc).symm.trans h
                  refine v_iinc C (q := 4) (ls' := [(0, .ref (G.1 14)), (1, .ref (G.1 16)), (2, .ref (G.1 43)), (3, .ref (G.1 60)), (4, .int (omi (v4 + 7)))]) rfl (by decide) rfl rfl dL_law_1929 ?_
                  refine v_goto C (tgt := 23) dL_law_1932 rfl ?_
                  exact ih _ _ _ _ (by omega) h FR
                · replace h := (if_neg hc).symm.trans h
                  refine v_iconst C (n := 0) dL_law_537 ?_
                  cases h
                  exact (FR _ rfl) _ _ _ _ dL_law_538 (by omega)
              · replace h := (if_neg hc4).symm.trans h
                by_cases hc5 : omw (omand (xs (omw v4).toNat) 63) = 5
                · replace h := (if_pos hc5).symm.trans h
                  refine v_tabIn C (tgt := 539) dL_law_40 hc5 (by decide) (by decide) rfl rfl ?_
                  unfold lc_5 at h
                  refine v_aload_n C (q := 1) rfl rfl dL_law_539 ?_
                  refine v_aload_n C (q := 3) rfl rfl dL_law_540 ?_
                  obtain ⟨r47, er47, h⟩ := om_bind h
                  refine v_invX_i (As := [.ref (G.1 16), .ref (G.1 60)]) C mi_L_planByDueDates ml_L_147 (k_L_planByDueDates  σ _ er47) rfl (by decide) (by omega) rfl (Nat.le_of_ble_eq_true rfl) dL_law_541 ?_
                  refine v_istore C (ls' := [(0, .ref (G.1 14)), (1, .ref (G.1 16)), (2, .ref (G.1 43)), (3, .ref (G.1 60)), (4, .int (omi v4)), (5, .int (omi r47.1))]) (by decide) rfl dL_law_544 ?_
                  refine v_aload_n C (q := 2) rfl rfl dL_law_546 ?_
                  obtain ⟨r48, er48, h⟩ := om_bind h
                  refine v_invV_i (As := []) C mi_X12_planByDueDates ml_L_150 (k_X12_planByDueDates  r47.2 _ er48) (q := 27) rfl rfl rfl (by decide) (by omega) rfl (Nat.le_of_ble_eq_true rfl) dL_law_547 ?_
                  refine v_istore C (ls' := [(0, .ref (G.1 14)), (1, .ref (G.1 16)), (2, .ref (G.1 43)), (3, .ref (G.1 60)), (4, .int (omi v4)), (5, .int (omi r47.1)), (6, .int (omi r48.1))]) (by decide) rfl dL_law_550 ?_
                  refine v_aload_n C (q := 2) rfl rfl dL_law_552 ?_
                  obtain ⟨r49, er49, h⟩ := om_bind h
                  refine v_invV_i (As := []) C mi_X12_thrown ml_L_128 (k_X12_thrown  r48.2 _ er49) (q := 27) rfl rfl rfl (by decide) (by omega) rfl (Nat.le_of_ble_eq_true rfl) dL_law_553 ?_
                  refine v_iload C (q := 5) rfl dL_law_556 ?_
                  refine v_icmp_eq C (tgt := 563) dL_law_558 rfl (fun hc => ?_) (fun hc => ?_)
                  · replace h := (if_pos hc).symm.trans h
                    refine v_iload C (q := 5) rfl dL_law_563 ?_
                    refine v_if_ne C (tgt := 580) dL_law_565 rfl (fun hc => ?_) (fun hc => ?_)
                    · replace h := (if_neg hc).symm.trans h
                      refine v_goto C (tgt := 1929) dL_law_580 rfl ?_
                      refine v_iinc C (q := 4) (ls' := [(0, .ref (G.1 14)), (1, .ref (G.1 16)), (2, .ref (G.1 43)), (3, .ref (G.1 60)), (4, .int (omi (v4 + 7))), (5, .int (omi r47.1)), (6, .int (omi r48.1))]) rfl (by decide) rfl rfl dL_law_1929 ?_
                      refine v_goto C (tgt := 23) dL_law_1932 rfl ?_
                      exact v_subp [0, 1, 2, 3, 4] rfl (ih _ _ _ _ (by omega) h FR)
                    · replace h := (if_pos hc).symm.trans h
                      refine v_aload_n C (q := 3) rfl rfl dL_law_568 ?_
                      refine v_iconst C (n := 0) dL_law_569 ?_
                      obtain ⟨g50, h⟩ := omg_some h
                      refine v_lald C (q := 44) (o := 60) (n := 1) rfl g50 dL_law_570 ?_
                      refine v_iload C (q := 6) rfl dL_law_571 ?_
                      refine v_i2l C dL_law_573 ?_
                      refine v_lcmp C dL_law_574 ?_
                      refine v_if_eq C (tgt := 580) dL_law_575 rfl (fun hc => ?_) (fun hc => ?_)
                      · replace h := (if_pos hc).symm.trans h
                        refine v_goto C (tgt := 1929) dL_law_580 rfl ?_
                        refine v_iinc C (q := 4) (ls' := [(0, .ref (G.1 14)), (1, .ref (G.1 16)), (2, .ref (G.1 43)), (3, .ref (G.1 60)), (4, .int (omi (v4 + 7))), (5, .int (omi r47.1)), (6, .int (omi r48.1))]) rfl (by decide) rfl rfl dL_law_1929 ?_
                        refine v_goto C (tgt := 23) dL_law_1932 rfl ?_
                        exact v_subp [0, 1, 2, 3, 4] rfl (ih _ _ _ _ (by omega) h FR)
                      · replace h := (if_neg hc).symm.trans h
                        refine v_iconst C (n := 0) dL_law_578 ?_
                        cases h
                        exact (FR _ rfl) _ _ _ _ dL_law_579 (by omega)
                  · replace h := (if_neg hc).symm.trans h
                    refine v_iconst C (n := 0) dL_law_561 ?_
                    cases h
                    exact (FR _ rfl) _ _ _ _ dL_law_562 (by omega)
                · replace h := (if_neg hc5).symm.trans h
                  by_cases hc6 : omw (omand (xs (omw v4).toNat) 63) = 6
                  · replace h := (if_pos hc6).symm.trans h
                    refine v_tabIn C (tgt := 583) dL_law_40 hc6 (by decide) (by decide) rfl rfl ?_
                    unfold lc_6 at h
                    refine v_aload_n C (q := 1) rfl rfl dL_law_583 ?_
                    refine v_aload_n C (q := 3) rfl rfl dL_law_584 ?_
                    obtain ⟨r51, er51, h⟩ := om_bind h
                    refine v_invX_i (As := [.ref (G.1 16), .ref (G.1 60)]) C mi_L_planFewestLate ml_L_151 (k_L_planFewestLate  σ _ er51) rfl (by decide) (by omega) rfl (Nat.le_of_ble_eq_true rfl) dL_law_585 ?_
                    refine v_istore C (ls' := [(0, .ref (G.1 14)), (1, .ref (G.1 16)), (2, .ref (G.1 43)), (3, .ref (G.1 60)), (4, .int (omi v4)), (5, .int (omi r51.1))]) (by decide) rfl dL_law_588 ?_
                    refine v_aload_n C (q := 2) rfl rfl dL_law_590 ?_
                    obtain ⟨r52, er52, h⟩ := om_bind h
                    refine v_invV_i (As := []) C mi_X12_planFewestLate ml_L_153 (k_X12_planFewestLate  r51.2 _ er52) (q := 27) rfl rfl rfl (by decide) (by omega) rfl (Nat.le_of_ble_eq_true rfl) dL_law_591 ?_
                    refine v_istore C (ls' := [(0, .ref (G.1 14)), (1, .ref (G.1 16)), (2, .ref (G.1 43)), (3, .ref (G.1 60)), (4, .int (omi v4)), (5, .int (omi r51.1)), (6, .int (omi r52.1))]) (by decide) rfl dL_law_594 ?_
                    refine v_aload_n C (q := 2) rfl rfl dL_law_596 ?_
                    obtain ⟨r53, er53, h⟩ := om_bind h
                    refine v_invV_i (As := []) C mi_X12_thrown ml_L_128 (k_X12_thrown  r52.2 _ er53) (q := 27) rfl rfl rfl (by decide) (by omega) rfl (Nat.le_of_ble_eq_true rfl) dL_law_597 ?_
                    refine v_iload C (q := 5) rfl dL_law_600 ?_
                    refine v_icmp_eq C (tgt := 607) dL_law_602 rfl (fun hc => ?_) (fun hc => ?_)
                    · replace h := (if_pos hc).symm.trans h
                      refine v_iload C (q := 5) rfl dL_law_607 ?_
                      refine v_if_ne C (tgt := 624) dL_law_609 rfl (fun hc => ?_) (fun hc => ?_)
                      · replace h := (if_neg hc).symm.trans h
                        refine v_goto C (tgt := 1929) dL_law_624 rfl ?_
                        refine v_iinc C (q := 4) (ls' := [(0, .ref (G.1 14)), (1, .ref (G.1 16)), (2, .ref (G.1 43)), (3, .ref (G.1 60)), (4, .int (omi (v4 + 7))), (5, .int (omi r51.1)), (6, .int (omi r52.1))]) rfl (by decide) rfl rfl dL_law_1929 ?_
                        refine v_goto C (tgt := 23) dL_law_1932 rfl ?_
                        exact v_subp [0, 1, 2, 3, 4] rfl (ih _ _ _ _ (by omega) h FR)
                      · replace h := (if_pos hc).symm.trans h
                        refine v_aload_n C (q := 3) rfl rfl dL_law_612 ?_
                        refine v_iconst C (n := 0) dL_law_613 ?_
                        obtain ⟨g54, h⟩ := omg_some h
                        refine v_lald C (q := 44) (o := 60) (n := 1) rfl g54 dL_law_614 ?_
                        refine v_iload C (q := 6) rfl dL_law_615 ?_
                        refine v_i2l C dL_law_617 ?_
                        refine v_lcmp C dL_law_618 ?_
                        refine v_if_eq C (tgt := 624) dL_law_619 rfl (fun hc => ?_) (fun hc => ?_)
                        · replace h := (if_pos hc).symm.trans h
                          refine v_goto C (tgt := 1929) dL_law_624 rfl ?_
                          refine v_iinc C (q := 4) (ls' := [(0, .ref (G.1 14)), (1, .ref (G.1 16)), (2, .ref (G.1 43)), (3, .ref (G.1 60)), (4, .int (omi (v4 + 7))), (5, .int (omi r51.1)), (6, .int (omi r52.1))]) rfl (by decide) rfl rfl dL_law_1929 ?_
                          refine v_goto C (tgt := 23) dL_law_1932 rfl ?_
                          exact v_subp [0, 1, 2, 3, 4] rfl (ih _ _ _ _ (by omega) h FR)
                        · replace h := (if_neg hc).symm.trans h
                          refine v_iconst C (n := 0) dL_law_622 ?_
                          cases h
                          exact (FR _ rfl) _ _ _ _ dL_law_623 (by omega)
                    · replace h := (if_neg hc).symm.trans h
                      refine v_iconst C (n := 0) dL_law_605 ?_
                      cases h
                      exact (FR _ rfl) _ _ _ _ dL_law_606 (by omega)
                  · replace h := (if_neg hc6).symm.trans h
                    by_cases hc7 : omw (omand (xs (omw v4).toNat) 63) = 7
                    · replace h := (if_pos hc7).symm.trans h
                      refine v_tabIn C (tgt := 627) dL_law_40 hc7 (by decide) (by decide) rfl rfl ?_
                      unfold lc_7 at h
                      refine v_aload_n C (q := 1) rfl rfl dL_law_627 ?_
                      refine v_aload_n C (q := 3) rfl rfl dL_law_628 ?_
                      obtain ⟨r55, er55, h⟩ := om_bind h
                      refine v_invX_i (As := [.ref (G.1 16), .ref (G.1 60)]) C mi_L_planByRatios ml_L_154 (k_L_planByRatios  σ _ er55) rfl (by decide) (by omega) rfl (Nat.le_of_ble_eq_true rfl) dL_law_629 ?_
                      refine v_istore C (ls' := [(0, .ref (G.1 14)), (1, .ref (G.1 16)), (2, .ref (G.1 43)), (3, .ref (G.1 60)), (4, .int (omi v4)), (5, .int (omi r55.1))]) (by decide) rfl dL_law_632 ?_
                      refine v_aload_n C (q := 2) rfl rfl dL_law_634 ?_
                      obtain ⟨r56, er56, h⟩ := om_bind h
                      refine v_invV_i (As := []) C mi_X12_planByRatios ml_L_156 (k_X12_planByRatios  r55.2 _ er56) (q := 27) rfl rfl rfl (by decide) (by omega) rfl (Nat.le_of_ble_eq_true rfl) dL_law_635 ?_
                      refine v_istore C (ls' := [(0, .ref (G.1 14)), (1, .ref (G.1 16)), (2, .ref (G.1 43)), (3, .ref (G.1 60)), (4, .int (omi v4)), (5, .int (omi r55.1)), (6, .int (omi r56.1))]) (by decide) rfl dL_law_638 ?_
                      refine v_aload_n C (q := 2) rfl rfl dL_law_640 ?_
                      obtain ⟨r57, er57, h⟩ := om_bind h
                      refine v_invV_i (As := []) C mi_X12_thrown ml_L_128 (k_X12_thrown  r56.2 _ er57) (q := 27) rfl rfl rfl (by decide) (by omega) rfl (Nat.le_of_ble_eq_true rfl) dL_law_641 ?_
                      refine v_iload C (q := 5) rfl dL_law_644 ?_
                      refine v_icmp_eq C (tgt := 651) dL_law_646 rfl (fun hc => ?_) (fun hc => ?_)
                      · replace h := (if_pos hc).symm.trans h
                        refine v_iload C (q := 5) rfl dL_law_651 ?_
                        refine v_if_ne C (tgt := 668) dL_law_653 rfl (fun hc => ?_) (fun hc => ?_)
                        · replace h := (if_neg hc).symm.trans h
                          refine v_goto C (tgt := 1929) dL_law_668 rfl ?_
                          refine v_iinc C (q := 4) (ls' := [(0, .ref (G.1 14)), (1, .ref (G.1 16)), (2, .ref (G.1 43)), (3, .ref (G.1 60)), (4, .int (omi (v4 + 7))), (5, .int (omi r55.1)), (6, .int (omi r56.1))]) rfl (by decide) rfl rfl dL_law_1929 ?_
                          refine v_goto C (tgt := 23) dL_law_1932 rfl ?_
                          exact v_subp [0, 1, 2, 3, 4] rfl (ih _ _ _ _ (by omega) h FR)
                        · replace h := (if_pos hc).symm.trans h
                          refine v_aload_n C (q := 3) rfl rfl dL_law_656 ?_
                          refine v_iconst C (n := 0) dL_law_657 ?_
                          obtain ⟨g58, h⟩ := omg_some h
                          refine v_lald C (q := 44) (o := 60) (n := 1) rfl g58 dL_law_658 ?_
                          refine v_iload C (q := 6) rfl dL_law_659 ?_
                          refine v_i2l C dL_law_661 ?_
                          refine v_lcmp C dL_law_662 ?_
                          refine v_if_eq C (tgt := 668) dL_law_663 rfl (fun hc => ?_) (fun hc => ?_)
                          · replace h := (if_pos hc).symm.trans h
                            refine v_goto C (tgt := 1929) dL_law_668 rfl ?_
                            refine v_iinc C (q := 4) (ls' := [(0, .ref (G.1 14)), (1, .ref (G.1 16)), (2, .ref (G.1 43)), (3, .ref (G.1 60)), (4, .int (omi (v4 + 7))), (5, .int (omi r55.1)), (6, .int (omi r56.1))]) rfl (by decide) rfl rfl dL_law_1929 ?_
                            refine v_goto C (tgt := 23) dL_law_1932 rfl ?_
                            exact v_subp [0, 1, 2, 3, 4] rfl (ih _ _ _ _ (by omega) h FR)
                          · replace h := (if_neg hc).symm.trans h
                            refine v_iconst C (n := 0) dL_law_666 ?_
                            cases h
                            exact (FR _ rfl) _ _ _ _ dL_law_667 (by omega)
                      · replace h := (if_neg hc).symm.trans h
                        refine v_iconst C (n := 0) dL_law_649 ?_
                        cases h
                        exact (FR _ rfl) _ _ _ _ dL_law_650 (by omega)
                    · replace h := (if_neg hc7).symm.trans h
                      by_cases hc8 : omw (omand (xs (omw v4).toNat) 63) = 8
                      · replace h := (if_pos hc8).symm.trans h
                        refine v_tabIn C (tgt := 671) dL_law_40 hc8 (by decide) (by decide) rfl rfl ?_
                        unfold lc_8 at h
                        refine v_aload_n C (q := 1) rfl rfl dL_law_671 ?_
                        refine v_aload_n C (q := 3) rfl rfl dL_law_672 ?_
                        obtain ⟨r59, er59, h⟩ := om_bind h
                        refine v_invX_i (As := [.ref (G.1 16), .ref (G.1 60)]) C mi_L_planLeastTardiness ml_L_157 (k_L_planLeastTardiness  σ _ er59) rfl (by decide) (by omega) rfl (Nat.le_of_ble_eq_true rfl) dL_law_673 ?_
                        refine v_istore C (ls' := [(0, .ref (G.1 14)), (1, .ref (G.1 16)), (2, .ref (G.1 43)), (3, .ref (G.1 60)), (4, .int (omi v4)), (5, .int (omi r59.1))]) (by decide) rfl dL_law_676 ?_
                        refine v_aload_n C (q := 2) rfl rfl dL_law_678 ?_
                        obtain ⟨r60, er60, h⟩ := om_bind h
                        refine v_invV_i (As := []) C mi_X12_planLeastTardiness ml_L_159 (k_X12_planLeastTardiness  r59.2 _ er60) (q := 27) rfl rfl rfl (by decide) (by omega) rfl (Nat.le_of_ble_eq_true rfl) dL_law_679 ?_
                        refine v_istore C (ls' := [(0, .ref (G.1 14)), (1, .ref (G.1 16)), (2, .ref (G.1 43)), (3, .ref (G.1 60)), (4, .int (omi v4)), (5, .int (omi r59.1)), (6, .int (omi r60.1))]) (by decide) rfl dL_law_682 ?_
                        refine v_aload_n C (q := 2) rfl rfl dL_law_684 ?_
                        obtain ⟨r61, er61, h⟩ := om_bind h
                        refine v_invV_i (As := []) C mi_X12_thrown ml_L_128 (k_X12_thrown  r60.2 _ er61) (q := 27) rfl rfl rfl (by decide) (by omega) rfl (Nat.le_of_ble_eq_true rfl) dL_law_685 ?_
                        refine v_iload C (q := 5) rfl dL_law_688 ?_
                        refine v_icmp_eq C (tgt := 695) dL_law_690 rfl (fun hc => ?_) (fun hc => ?_)
                        · replace h := (if_pos hc).symm.trans h
                          refine v_iload C (q := 5) rfl dL_law_695 ?_
                          refine v_if_ne C (tgt := 712) dL_law_697 rfl (fun hc => ?_) (fun hc => ?_)
                          · replace h := (if_neg hc).symm.trans h
                            refine v_goto C (tgt := 1929) dL_law_712 rfl ?_
                            refine v_iinc C (q := 4) (ls' := [(0, .ref (G.1 14)), (1, .ref (G.1 16)), (2, .ref (G.1 43)), (3, .ref (G.1 60)), (4, .int (omi (v4 + 7))), (5, .int (omi r59.1)), (6, .int (omi r60.1))]) rfl (by decide) rfl rfl dL_law_1929 ?_
                            refine v_goto C (tgt := 23) dL_law_1932 rfl ?_
                            exact v_subp [0, 1, 2, 3, 4] rfl (ih _ _ _ _ (by omega) h FR)
                          · replace h := (if_pos hc).symm.trans h
                            refine v_aload_n C (q := 3) rfl rfl dL_law_700 ?_
                            refine v_iconst C (n := 0) dL_law_701 ?_
                            obtain ⟨g62, h⟩ := omg_some h
                            refine v_lald C (q := 44) (o := 60) (n := 1) rfl g62 dL_law_702 ?_
                            refine v_iload C (q := 6) rfl dL_law_703 ?_
                            refine v_i2l C dL_law_705 ?_
                            refine v_lcmp C dL_law_706 ?_
                            refine v_if_eq C (tgt := 712) dL_law_707 rfl (fun hc => ?_) (fun hc => ?_)
                            · replace h := (if_pos hc).symm.trans h
                              refine v_goto C (tgt := 1929) dL_law_712 rfl ?_
                              refine v_iinc C (q := 4) (ls' := [(0, .ref (G.1 14)), (1, .ref (G.1 16)), (2, .ref (G.1 43)), (3, .ref (G.1 60)), (4, .int (omi (v4 + 7))), (5, .int (omi r59.1)), (6, .int (omi r60.1))]) rfl (by decide) rfl rfl dL_law_1929 ?_
                              refine v_goto C (tgt := 23) dL_law_1932 rfl ?_
                              exact v_subp [0, 1, 2, 3, 4] rfl (ih _ _ _ _ (by omega) h FR)
                            · replace h := (if_neg hc).symm.trans h
                              refine v_iconst C (n := 0) dL_law_710 ?_
                              cases h
                              exact (FR _ rfl) _ _ _ _ dL_law_711 (by omega)
                        · replace h := (if_neg hc).symm.trans h
                          refine v_iconst C (n := 0) dL_law_693 ?_
                          cases h
                          exact (FR _ rfl) _ _ _ _ dL_law_694 (by omega)
                      · replace h := (if_neg hc8).symm.trans h
                        by_cases hc9 : omw (omand (xs (omw v4).toNat) 63) = 9
                        · replace h := (if_pos hc9).symm.trans h
                          refine v_tabIn C (tgt := 715) dL_law_40 hc9 (by decide) (by decide) rfl rfl ?_
                          unfold lc_9 at h
                          refine v_aload_n C (q := 1) rfl rfl dL_law_715 ?_
                          refine v_aload_n C (q := 3) rfl rfl dL_law_716 ?_
                          obtain ⟨r63, er63, h⟩ := om_bind h
                          refine v_invX_i (As := [.ref (G.1 16), .ref (G.1 60)]) C mi_L_planByFamilies ml_L_160 (k_L_planByFamilies  σ _ er63) rfl (by decide) (by omega) rfl (Nat.le_of_ble_eq_true rfl) dL_law_717 ?_
                          refine v_istore C (ls' := [(0, .ref (G.1 14)), (1, .ref (G.1 16)), (2, .ref (G.1 43)), (3, .ref (G.1 60)), (4, .int (omi v4)), (5, .int (omi r63.1))]) (by decide) rfl dL_law_720 ?_
                          refine v_aload_n C (q := 2) rfl rfl dL_law_722 ?_
                          obtain ⟨r64, er64, h⟩ := om_bind h
                          refine v_invV_i (As := []) C mi_X12_planByFamilies ml_L_162 (k_X12_planByFamilies  r63.2 _ er64) (q := 27) rfl rfl rfl (by decide) (by omega) rfl (Nat.le_of_ble_eq_true rfl) dL_law_723 ?_
                          refine v_istore C (ls' := [(0, .ref (G.1 14)), (1, .ref (G.1 16)), (2, .ref (G.1 43)), (3, .ref (G.1 60)), (4, .int (omi v4)), (5, .int (omi r63.1)), (6, .int (omi r64.1))]) (by decide) rfl dL_law_726 ?_
                          refine v_aload_n C (q := 2) rfl rfl dL_law_728 ?_
                          obtain ⟨r65, er65, h⟩ := om_bind h
                          refine v_invV_i (As := []) C mi_X12_thrown ml_L_128 (k_X12_thrown  r64.2 _ er65) (q := 27) rfl rfl rfl (by decide) (by omega) rfl (Nat.le_of_ble_eq_true rfl) dL_law_729 ?_
                          refine v_iload C (q := 5) rfl dL_law_732 ?_
                          refine v_icmp_eq C (tgt := 739) dL_law_734 rfl (fun hc => ?_) (fun hc => ?_)
                          · replace h := (if_pos hc).symm.trans h
                            refine v_iload C (q := 5) rfl dL_law_739 ?_
                            refine v_if_ne C (tgt := 756) dL_law_741 rfl (fun hc => ?_) (fun hc => ?_)
                            · replace h := (if_neg hc).symm.trans h
                              refine v_goto C (tgt := 1929) dL_law_756 rfl ?_
                              refine v_iinc C (q := 4) (ls' := [(0, .ref (G.1 14)), (1, .ref (G.1 16)), (2, .ref (G.1 43)), (3, .ref (G.1 60)), (4, .int (omi (v4 + 7))), (5, .int (omi r63.1)), (6, .int (omi r64.1))]) rfl (by decide) rfl rfl dL_law_1929 ?_
                              refine v_goto C (tgt := 23) dL_law_1932 rfl ?_
                              exact v_subp [0, 1, 2, 3, 4] rfl (ih _ _ _ _ (by omega) h FR)
                            · replace h := (if_pos hc).symm.trans h
                              refine v_aload_n C (q := 3) rfl rfl dL_law_744 ?_
                              refine v_iconst C (n := 0) dL_law_745 ?_
                              obtain ⟨g66, h⟩ := omg_some h
                              refine v_lald C (q := 44) (o := 60) (n := 1) rfl g66 dL_law_746 ?_
                              refine v_iload C (q := 6) rfl dL_law_747 ?_
                              refine v_i2l C dL_law_749 ?_
                              refine v_lcmp C dL_law_750 ?_
                              refine v_if_eq C (tgt := 756) dL_law_751 rfl (fun hc => ?_) (fun hc => ?_)
                              · replace h := (if_pos hc).symm.trans h
                                refine v_goto C (tgt := 1929) dL_law_756 rfl ?_
                                refine v_iinc C (q := 4) (ls' := [(0, .ref (G.1 14)), (1, .ref (G.1 16)), (2, .ref (G.1 43)), (3, .ref (G.1 60)), (4, .int (omi (v4 + 7))), (5, .int (omi r63.1)), (6, .int (omi r64.1))]) rfl (by decide) rfl rfl dL_law_1929 ?_
                                refine v_goto C (tgt := 23) dL_law_1932 rfl ?_
                                exact v_subp [0, 1, 2, 3, 4] rfl (ih _ _ _ _ (by omega) h FR)
                              · replace h := (if_neg hc).symm.trans h
                                refine v_iconst C (n := 0) dL_law_754 ?_
                                cases h
                                exact (FR _ rfl) _ _ _ _ dL_law_755 (by omega)
                          · replace h := (if_neg hc).symm.trans h
                            refine v_iconst C (n := 0) dL_law_737 ?_
                            cases h
                            exact (FR _ rfl) _ _ _ _ dL_law_738 (by omega)
                        · replace h := (if_neg hc9).symm.trans h
                          by_cases hc10 : omw (omand (xs (omw v4).toNat) 63) = 10
                          · replace h := (if_pos hc10).symm.trans h
                            refine v_tabIn C (tgt := 759) dL_law_40 hc10 (by decide) (by decide) rfl rfl ?_
                            unfold lc_10 at h
                            refine v_aload_n C (q := 1) rfl rfl dL_law_759 ?_
                            refine v_aload_n C (q := 3) rfl rfl dL_law_760 ?_
                            obtain ⟨r67, er67, h⟩ := om_bind h
                            refine v_invX_i (As := [.ref (G.1 16), .ref (G.1 60)]) C mi_L_planPreemptiveByDates ml_L_163 (k_L_planPreemptiveByDates  σ _ er67) rfl (by decide) (by omega) rfl (Nat.le_of_ble_eq_true rfl) dL_law_761 ?_
                            refine v_istore C (ls' := [(0, .ref (G.1 14)), (1, .ref (G.1 16)), (2, .ref (G.1 43)), (3, .ref (G.1 60)), (4, .int (omi v4)), (5, .int (omi r67.1))]) (by decide) rfl dL_law_764 ?_
                            refine v_aload_n C (q := 2) rfl rfl dL_law_766 ?_
                            obtain ⟨r68, er68, h⟩ := om_bind h
                            refine v_invV_i (As := []) C mi_X12_planPreemptiveByDates ml_L_165 (k_X12_planPreemptiveByDates  r67.2 _ er68) (q := 27) rfl rfl rfl (by decide) (by omega) rfl (Nat.le_of_ble_eq_true rfl) dL_law_767 ?_
                            refine v_istore C (ls' := [(0, .ref (G.1 14)), (1, .ref (G.1 16)), (2, .ref (G.1 43)), (3, .ref (G.1 60)), (4, .int (omi v4)), (5, .int (omi r67.1)), (6, .int (omi r68.1))]) (by decide) rfl dL_law_770 ?_
                            refine v_aload_n C (q := 2) rfl rfl dL_law_772 ?_
                            obtain ⟨r69, er69, h⟩ := om_bind h
                            refine v_invV_i (As := []) C mi_X12_thrown ml_L_128 (k_X12_thrown  r68.2 _ er69) (q := 27) rfl rfl rfl (by decide) (by omega) rfl (Nat.le_of_ble_eq_true rfl) dL_law_773 ?_
                            refine v_iload C (q := 5) rfl dL_law_776 ?_
                            refine v_icmp_eq C (tgt := 783) dL_law_778 rfl (fun hc => ?_) (fun hc => ?_)
                            · replace h := (if_pos hc).symm.trans h
                              refine v_iload C (q := 5) rfl dL_law_783 ?_
                              refine v_if_ne C (tgt := 800) dL_law_785 rfl (fun hc => ?_) (fun hc => ?_)
                              · replace h := (if_neg hc).symm.trans h
                                refine v_goto C (tgt := 1929) dL_law_800 rfl ?_
                                refine v_iinc C (q := 4) (ls' := [(0, .ref (G.1 14)), (1, .ref (G.1 16)), (2, .ref (G.1 43)), (3, .ref (G.1 60)), (4, .int (omi (v4 + 7))), (5, .int (omi r67.1)), (6, .int (omi r68.1))]) rfl (by decide) rfl rfl dL_law_1929 ?_
                                refine v_goto C (tgt := 23) dL_law_1932 rfl ?_
                                exact v_subp [0, 1, 2, 3, 4] rfl (ih _ _ _ _ (by omega) h FR)
                              · replace h := (if_pos hc).symm.trans h
                                refine v_aload_n C (q := 3) rfl rfl dL_law_788 ?_
                                refine v_iconst C (n := 0) dL_law_789 ?_
                                obtain ⟨g70, h⟩ := omg_some h
                                refine v_lald C (q := 44) (o := 60) (n := 1) rfl g70 dL_law_790 ?_
                                refine v_iload C (q := 6) rfl dL_law_791 ?_
                                refine v_i2l C dL_law_793 ?_
                                refine v_lcmp C dL_law_794 ?_
                                refine v_if_eq C (tgt := 800) dL_law_795 rfl (fun hc => ?_) (fun hc => ?_)
                                · replace h := (if_pos hc).symm.trans h
                                  refine v_goto C (tgt := 1929) dL_law_800 rfl ?_
                                  refine v_iinc C (q := 4) (ls' := [(0, .ref (G.1 14)), (1, .ref (G.1 16)), (2, .ref (G.1 43)), (3, .ref (G.1 60)), (4, .int (omi (v4 + 7))), (5, .int (omi r67.1)), (6, .int (omi r68.1))]) rfl (by decide) rfl rfl dL_law_1929 ?_
                                  refine v_goto C (tgt := 23) dL_law_1932 rfl ?_
                                  exact v_subp [0, 1, 2, 3, 4] rfl (ih _ _ _ _ (by omega) h FR)
                                · replace h := (if_neg hc).symm.trans h
                                  refine v_iconst C (n := 0) dL_law_798 ?_
                                  cases h
                                  exact (FR _ rfl) _ _ _ _ dL_law_799 (by omega)
                            · replace h := (if_neg hc).symm.trans h
                              refine v_iconst C (n := 0) dL_law_781 ?_
                              cases h
                              exact (FR _ rfl) _ _ _ _ dL_law_782 (by omega)
                          · replace h := (if_neg hc10).symm.trans h
                            by_cases hc11 : omw (omand (xs (omw v4).toNat) 63) = 11
                            · replace h := (if_pos hc11).symm.trans h
                              refine v_tabIn C (tgt := 803) dL_law_40 hc11 (by decide) (by decide) rfl rfl ?_
                              unfold lc_11 at h
                              refine v_aload_n C (q := 1) rfl rfl dL_law_803 ?_
                              refine v_aload_n C (q := 3) rfl rfl dL_law_804 ?_
                              obtain ⟨r71, er71, h⟩ := om_bind h
                              refine v_invX_i (As := [.ref (G.1 16), .ref (G.1 60)]) C mi_L_planPreemptiveShortest ml_L_166 (k_L_planPreemptiveShortest  σ _ er71) rfl (by decide) (by omega) rfl (Nat.le_of_ble_eq_true rfl) dL_law_805 ?_
                              refine v_istore C (ls' := [(0, .ref (G.1 14)), (1, .ref (G.1 16)), (2, .ref (G.1 43)), (3, .ref (G.1 60)), (4, .int (omi v4)), (5, .int (omi r71.1))]) (by decide) rfl dL_law_808 ?_
                              refine v_aload_n C (q := 2) rfl rfl dL_law_810 ?_
                              obtain ⟨r72, er72, h⟩ := om_bind h
                              refine v_invV_i (As := []) C mi_X12_planPreemptiveShortest ml_L_168 (k_X12_planPreemptiveShortest  r71.2 _ er72) (q := 27) rfl rfl rfl (by decide) (by omega) rfl (Nat.le_of_ble_eq_true rfl) dL_law_811 ?_
                              refine v_istore C (ls' := [(0, .ref (G.1 14)), (1, .ref (G.1 16)), (2, .ref (G.1 43)), (3, .ref (G.1 60)), (4, .int (omi v4)), (5, .int (omi r71.1)), (6, .int (omi r72.1))]) (by decide) rfl dL_law_814 ?_
                              refine v_aload_n C (q := 2) rfl rfl dL_law_816 ?_
                              obtain ⟨r73, er73, h⟩ := om_bind h
                              refine v_invV_i (As := []) C mi_X12_thrown ml_L_128 (k_X12_thrown  r72.2 _ er73) (q := 27) rfl rfl rfl (by decide) (by omega) rfl (Nat.le_of_ble_eq_true rfl) dL_law_817 ?_
                              refine v_iload C (q := 5) rfl dL_law_820 ?_
                              refine v_icmp_eq C (tgt := 827) dL_law_822 rfl (fun hc => ?_) (fun hc => ?_)
                              · replace h := (if_pos hc).symm.trans h
                                refine v_iload C (q := 5) rfl dL_law_827 ?_
                                refine v_if_ne C (tgt := 844) dL_law_829 rfl (fun hc => ?_) (fun hc => ?_)
                                · replace h := (if_neg hc).symm.trans h
                                  refine v_goto C (tgt := 1929) dL_law_844 rfl ?_
                                  refine v_iinc C (q := 4) (ls' := [(0, .ref (G.1 14)), (1, .ref (G.1 16)), (2, .ref (G.1 43)), (3, .ref (G.1 60)), (4, .int (omi (v4 + 7))), (5, .int (omi r71.1)), (6, .int (omi r72.1))]) rfl (by decide) rfl rfl dL_law_1929 ?_
                                  refine v_goto C (tgt := 23) dL_law_1932 rfl ?_
                                  exact v_subp [0, 1, 2, 3, 4] rfl (ih _ _ _ _ (by omega) h FR)
                                · replace h := (if_pos hc).symm.trans h
                                  refine v_aload_n C (q := 3) rfl rfl dL_law_832 ?_
                                  refine v_iconst C (n := 0) dL_law_833 ?_
                                  obtain ⟨g74, h⟩ := omg_some h
                                  refine v_lald C (q := 44) (o := 60) (n := 1) rfl g74 dL_law_834 ?_
                                  refine v_iload C (q := 6) rfl dL_law_835 ?_
                                  refine v_i2l C dL_law_837 ?_
                                  refine v_lcmp C dL_law_838 ?_
                                  refine v_if_eq C (tgt := 844) dL_law_839 rfl (fun hc => ?_) (fun hc => ?_)
                                  · replace h := (if_pos hc).symm.trans h
                                    refine v_goto C (tgt := 1929) dL_law_844 rfl ?_
                                    refine v_iinc C (q := 4) (ls' := [(0, .ref (G.1 14)), (1, .ref (G.1 16)), (2, .ref (G.1 43)), (3, .ref (G.1 60)), (4, .int (omi (v4 + 7))), (5, .int (omi r71.1)), (6, .int (omi r72.1))]) rfl (by decide) rfl rfl dL_law_1929 ?_
                                    refine v_goto C (tgt := 23) dL_law_1932 rfl ?_
                                    exact v_subp [0, 1, 2, 3, 4] rfl (ih _ _ _ _ (by omega) h FR)
                                  · replace h := (if_neg hc).symm.trans h
                                    refine v_iconst C (n := 0) dL_law_842 ?_
                                    cases h
                                    exact (FR _ rfl) _ _ _ _ dL_law_843 (by omega)
                              · replace h := (if_neg hc).symm.trans h
                                refine v_iconst C (n := 0) dL_law_825 ?_
                                cases h
                                exact (FR _ rfl) _ _ _ _ dL_law_826 (by omega)
                            · replace h := (if_neg hc11).symm.trans h
                              by_cases hc12 : omw (omand (xs (omw v4).toNat) 63) = 12
                              · replace h := (if_pos hc12).symm.trans h
                                refine v_tabIn C (tgt := 847) dL_law_40 hc12 (by decide) (by decide) rfl rfl ?_
                                unfold lc_12 at h
                                refine v_aload_n C (q := 1) rfl rfl dL_law_847 ?_
                                obtain ⟨r75, er75, h⟩ := om_bind h
                                refine v_invV_i (As := []) C mi_X11_hasPlan ml_L_169 (k_X11_hasPlan  σ _ er75) (q := 0) rfl rfl rfl (by decide) (by omega) rfl (Nat.le_of_ble_eq_true rfl) dL_law_848 ?_
                                refine v_aload_n C (q := 2) rfl rfl dL_law_851 ?_
                                obtain ⟨r76, er76, h⟩ := om_bind h
                                refine v_invV_i (As := []) C mi_X12_hasPlan ml_L_173 (k_X12_hasPlan  σ _ er76) (q := 27) rfl rfl rfl (by decide) (by omega) rfl (Nat.le_of_ble_eq_true rfl) dL_law_852 ?_
                                refine v_icmp_eq C (tgt := 1929) dL_law_855 rfl (fun hc => ?_) (fun hc => ?_)
                                · replace h := (if_pos hc).symm.trans h
                                  refine v_iinc C (q := 4) (ls' := [(0, .ref (G.1 14)), (1, .ref (G.1 16)), (2, .ref (G.1 43)), (3, .ref (G.1 60)), (4, .int (omi (v4 + 7)))]) rfl (by decide) rfl rfl dL_law_1929 ?_
                                  refine v_goto C (tgt := 23) dL_law_1932 rfl ?_
                                  exact ih _ _ _ _ (by omega) h FR
                                · replace h := (if_neg hc).symm.trans h
                                  refine v_iconst C (n := 0) dL_law_858 ?_
                                  cases h
                                  exact (FR _ rfl) _ _ _ _ dL_law_859 (by omega)
                              · replace h := (if_neg hc12).symm.trans h
                                by_cases hc13 : omw (omand (xs (omw v4).toNat) 63) = 13
                                · replace h := (if_pos hc13).symm.trans h
                                  refine v_tabIn C (tgt := 860) dL_law_40 hc13 (by decide) (by decide) rfl rfl ?_
                                  unfold lc_13 at h
                                  refine v_aload_n C (q := 1) rfl rfl dL_law_860 ?_
                                  obtain ⟨r77, er77, h⟩ := om_bind h
                                  refine v_invV_i (As := []) C mi_X11_pieces ml_L_174 (k_X11_pieces  σ _ er77) (q := 0) rfl rfl rfl (by decide) (by omega) rfl (Nat.le_of_ble_eq_true rfl) dL_law_861 ?_
                                  refine v_aload_n C (q := 2) rfl rfl dL_law_864 ?_
                                  obtain ⟨r78, er78, h⟩ := om_bind h
                                  refine v_invV_i (As := []) C mi_X12_pieces ml_L_177 (k_X12_pieces  σ _ er78) (q := 27) rfl rfl rfl (by decide) (by omega) rfl (Nat.le_of_ble_eq_true rfl) dL_law_865 ?_
                                  refine v_icmp_eq C (tgt := 1929) dL_law_868 rfl (fun hc => ?_) (fun hc => ?_)
                                  · replace h := (if_pos hc).symm.trans h
                                    refine v_iinc C (q := 4) (ls' := [(0, .ref (G.1 14)), (1, .ref (G.1 16)), (2, .ref (G.1 43)), (3, .ref (G.1 60)), (4, .int (omi (v4 + 7)))]) rfl (by decide) rfl rfl dL_law_1929 ?_
                                    refine v_goto C (tgt := 23) dL_law_1932 rfl ?_
                                    exact ih _ _ _ _ (by omega) h FR
                                  · replace h := (if_neg hc).symm.trans h
                                    refine v_iconst C (n := 0) dL_law_871 ?_
                                    cases h
                                    exact (FR _ rfl) _ _ _ _ dL_law_872 (by omega)
                                · replace h := (if_neg hc13).symm.trans h
                                  by_cases hc14 : omw (omand (xs (omw v4).toNat) 63) = 14
                                  · replace h := (if_pos hc14).symm.trans h
                                    refine v_tabIn C (tgt := 873) dL_law_40 hc14 (by decide) (by decide) rfl rfl ?_
                                    unfold lc_14 at h
                                    refine v_aload_n C (q := 1) rfl rfl dL_law_873 ?_
                                    refine v_aload_n C (q := 0) rfl rfl dL_law_874 ?_
                                    refine v_iload C (q := 4) rfl dL_law_875 ?_
                                    refine v_iconst C (n := 1) dL_law_877 ?_
                                    refine v_iadd C dL_law_878 ?_
                                    obtain ⟨g79, h⟩ := omg_some h
                                    refine v_scrldx C hL hxs g79 dL_law_879 ?_
                                    refine v_aload_n C (q := 3) rfl rfl dL_law_880 ?_
                                    obtain ⟨r80, er80, h⟩ := om_bind h
                                    refine v_invX_i (As := [.ref (G.1 16), .int (omi (xs (omw (v4 + 1)).toNat)), .ref (G.1 60)]) C mi_L_kindOf ml_L_178 (k_L_kindOf (xs (omw (v4 + 1)).toNat) σ _ er80) rfl (by decide) (by omega) rfl (Nat.le_of_ble_eq_true rfl) dL_law_881 ?_
                                    refine v_istore C (ls' := [(0, .ref (G.1 14)), (1, .ref (G.1 16)), (2, .ref (G.1 43)), (3, .ref (G.1 60)), (4, .int (omi v4)), (5, .int (omi r80.1))]) (by decide) rfl dL_law_884 ?_
                                    refine v_aload_n C (q := 2) rfl rfl dL_law_886 ?_
                                    refine v_aload_n C (q := 0) rfl rfl dL_law_887 ?_
                                    refine v_iload C (q := 4) rfl dL_law_888 ?_
                                    refine v_iconst C (n := 1) dL_law_890 ?_
                                    refine v_iadd C dL_law_891 ?_
                                    obtain ⟨g81, h⟩ := omg_some h
                                    refine v_scrldx C hL hxs g81 dL_law_892 ?_
                                    obtain ⟨r82, er82, h⟩ := om_bind h
                                    refine v_invV_i (As := [.int (omi (xs (omw (v4 + 1)).toNat))]) C mi_X12_kindOf ml_L_180 (k_X12_kindOf (xs (omw (v4 + 1)).toNat) r80.2 _ er82) (q := 27) rfl rfl rfl (by decide) (by omega) rfl (Nat.le_of_ble_eq_true rfl) dL_law_893 ?_
                                    refine v_istore C (ls' := [(0, .ref (G.1 14)), (1, .ref (G.1 16)), (2, .ref (G.1 43)), (3, .ref (G.1 60)), (4, .int (omi v4)), (5, .int (omi r80.1)), (6, .int (omi r82.1))]) (by decide) rfl dL_law_896 ?_
                                    refine v_aload_n C (q := 2) rfl rfl dL_law_898 ?_
                                    obtain ⟨r83, er83, h⟩ := om_bind h
                                    refine v_invV_i (As := []) C mi_X12_thrown ml_L_128 (k_X12_thrown  r82.2 _ er83) (q := 27) rfl rfl rfl (by decide) (by omega) rfl (Nat.le_of_ble_eq_true rfl) dL_law_899 ?_
                                    refine v_iload C (q := 5) rfl dL_law_902 ?_
                                    refine v_icmp_eq C (tgt := 909) dL_law_904 rfl (fun hc => ?_) (fun hc => ?_)
                                    · replace h := (if_pos hc).symm.trans h
                                      refine v_iload C (q := 5) rfl dL_law_909 ?_
                                      refine v_if_ne C (tgt := 926) dL_law_911 rfl (fun hc => ?_) (fun hc => ?_)
                                      · replace h := (if_neg hc).symm.trans h
                                        refine v_goto C (tgt := 1929) dL_law_926 rfl ?_
                                        refine v_iinc C (q := 4) (ls' := [(0, .ref (G.1 14)), (1, .ref (G.1 16)), (2, .ref (G.1 43)), (3, .ref (G.1 60)), (4, .int (omi (v4 + 7))), (5, .int (omi r80.1)), (6, .int (omi r82.1))]) rfl (by decide) rfl rfl dL_law_1929 ?_
                                        refine v_goto C (tgt := 23) dL_law_1932 rfl ?_
                                        exact v_subp [0, 1, 2, 3, 4] rfl (ih _ _ _ _ (by omega) h FR)
                                      · replace h := (if_pos hc).symm.trans h
                                        refine v_aload_n C (q := 3) rfl rfl dL_law_914 ?_
                                        refine v_iconst C (n := 0) dL_law_915 ?_
                                        obtain ⟨g84, h⟩ := omg_some h
                                        refine v_lald C (q := 44) (o := 60) (n := 1) rfl g84 dL_law_916 ?_
                                        refine v_iload C (q := 6) rfl dL_law_917 ?_
                                        refine v_i2l C dL_law_919 ?_
                                        refine v_lcmp C dL_law_920 ?_
                                        refine v_if_eq C (tgt := 926) dL_law_921 rfl (fun hc => ?_) (fun hc => ?_)
                                        · replace h := (if_pos hc).symm.trans h
                                          refine v_goto C (tgt := 1929) dL_law_926 rfl ?_
                                          refine v_iinc C (q := 4) (ls' := [(0, .ref (G.1 14)), (1, .ref (G.1 16)), (2, .ref (G.1 43)), (3, .ref (G.1 60)), (4, .int (omi (v4 + 7))), (5, .int (omi r80.1)), (6, .int (omi r82.1))]) rfl (by decide) rfl rfl dL_law_1929 ?_
                                          refine v_goto C (tgt := 23) dL_law_1932 rfl ?_
                                          exact v_subp [0, 1, 2, 3, 4] rfl (ih _ _ _ _ (by omega) h FR)
                                        · replace h := (if_neg hc).symm.trans h
                                          refine v_iconst C (n := 0) dL_law_924 ?_
                                          cases h
                                          exact (FR _ rfl) _ _ _ _ dL_law_925 (by omega)
                                    · replace h := (if_neg hc).symm.trans h
                                      refine v_iconst C (n := 0) dL_law_907 ?_
                                      cases h
                                      exact (FR _ rfl) _ _ _ _ dL_law_908 (by omega)
                                  · replace h := (if_neg hc14).symm.trans h
                                    by_cases hc15 : omw (omand (xs (omw v4).toNat) 63) = 15
                                    · replace h := (if_pos hc15).symm.trans h
                                      refine v_tabIn C (tgt := 929) dL_law_40 hc15 (by decide) (by decide) rfl rfl ?_
                                      unfold lc_15 at h
                                      refine v_aload_n C (q := 1) rfl rfl dL_law_929 ?_
                                      refine v_aload_n C (q := 0) rfl rfl dL_law_930 ?_
                                      refine v_iload C (q := 4) rfl dL_law_931 ?_
                                      refine v_iconst C (n := 1) dL_law_933 ?_
                                      refine v_iadd C dL_law_934 ?_
                                      obtain ⟨g85, h⟩ := omg_some h
                                      refine v_scrldx C hL hxs g85 dL_law_935 ?_
                                      refine v_aload_n C (q := 3) rfl rfl dL_law_936 ?_
                                      obtain ⟨r86, er86, h⟩ := om_bind h
                                      refine v_invX_i (As := [.ref (G.1 16), .int (omi (xs (omw (v4 + 1)).toNat)), .ref (G.1 60)]) C mi_L_whoseIs ml_L_181 (k_L_whoseIs (xs (omw (v4 + 1)).toNat) σ _ er86) rfl (by decide) (by omega) rfl (Nat.le_of_ble_eq_true rfl) dL_law_937 ?_
                                      refine v_istore C (ls' := [(0, .ref (G.1 14)), (1, .ref (G.1 16)), (2, .ref (G.1 43)), (3, .ref (G.1 60)), (4, .int (omi v4)), (5, .int (omi r86.1))]) (by decide) rfl dL_law_940 ?_
                                      refine v_aload_n C (q := 2) rfl rfl dL_law_942 ?_
                                      refine v_aload_n C (q := 0) rfl rfl dL_law_943 ?_
                                      refine v_iload C (q := 4) rfl dL_law_944 ?_
                                      refine v_iconst C (n := 1) dL_law_946 ?_
                                      refine v_iadd C dL_law_947 ?_
                                      obtain ⟨g87, h⟩ := omg_some h
                                      refine v_scrldx C hL hxs g87 dL_law_948 ?_
                                      obtain ⟨r88, er88, h⟩ := om_bind h
                                      refine v_invV_i (As := [.int (omi (xs (omw (v4 + 1)).toNat))]) C mi_X12_whoseIs ml_L_183 (k_X12_whoseIs (xs (omw (v4 + 1)).toNat) r86.2 _ er88) (q := 27) rfl rfl rfl (by decide) (by omega) rfl (Nat.le_of_ble_eq_true rfl) dL_law_949 ?_
                                      refine v_istore C (ls' := [(0, .ref (G.1 14)), (1, .ref (G.1 16)), (2, .ref (G.1 43)), (3, .ref (G.1 60)), (4, .int (omi v4)), (5, .int (omi r86.1)), (6, .int (omi r88.1))]) (by decide) rfl dL_law_952 ?_
                                      refine v_aload_n C (q := 2) rfl rfl dL_law_954 ?_
                                      obtain ⟨r89, er89, h⟩ := om_bind h
                                      refine v_invV_i (As := []) C mi_X12_thrown ml_L_128 (k_X12_thrown  r88.2 _ er89) (q := 27) rfl rfl rfl (by decide) (by omega) rfl (Nat.le_of_ble_eq_true rfl) dL_law_955 ?_
                                      refine v_iload C (q := 5) rfl dL_law_958 ?_
                                      refine v_icmp_eq C (tgt := 965) dL_law_960 rfl (fun hc => ?_) (fun hc => ?_)
                                      · replace h := (if_pos hc).symm.trans h
                                        refine v_iload C (q := 5) rfl dL_law_965 ?_
                                        refine v_if_ne C (tgt := 982) dL_law_967 rfl (fun hc => ?_) (fun hc => ?_)
                                        · replace h := (if_neg hc).symm.trans h
                                          refine v_goto C (tgt := 1929) dL_law_982 rfl ?_
                                          refine v_iinc C (q := 4) (ls' := [(0, .ref (G.1 14)), (1, .ref (G.1 16)), (2, .ref (G.1 43)), (3, .ref (G.1 60)), (4, .int (omi (v4 + 7))), (5, .int (omi r86.1)), (6, .int (omi r88.1))]) rfl (by decide) rfl rfl dL_law_1929 ?_
                                          refine v_goto C (tgt := 23) dL_law_1932 rfl ?_
                                          exact v_subp [0, 1, 2, 3, 4] rfl (ih _ _ _ _ (by omega) h FR)
                                        · replace h := (if_pos hc).symm.trans h
                                          refine v_aload_n C (q := 3) rfl rfl dL_law_970 ?_
                                          refine v_iconst C (n := 0) dL_law_971 ?_
                                          obtain ⟨g90, h⟩ := omg_some h
                                          refine v_lald C (q := 44) (o := 60) (n := 1) rfl g90 dL_law_972 ?_
                                          refine v_iload C (q := 6) rfl dL_law_973 ?_
                                          refine v_i2l C dL_law_975 ?_
                                          refine v_lcmp C dL_law_976 ?_
                                          refine v_if_eq C (tgt := 982) dL_law_977 rfl (fun hc => ?_) (fun hc => ?_)
                                          · replace h := (if_pos hc).symm.trans h
                                            refine v_goto C (tgt := 1929) dL_law_982 rfl ?_
                                            refine v_iinc C (q := 4) (ls' := [(0, .ref (G.1 14)), (1, .ref (G.1 16)), (2, .ref (G.1 43)), (3, .ref (G.1 60)), (4, .int (omi (v4 + 7))), (5, .int (omi r86.1)), (6, .int (omi r88.1))]) rfl (by decide) rfl rfl dL_law_1929 ?_
                                            refine v_goto C (tgt := 23) dL_law_1932 rfl ?_
                                            exact v_subp [0, 1, 2, 3, 4] rfl (ih _ _ _ _ (by omega) h FR)
                                          · replace h := (if_neg hc).symm.trans h
                                            refine v_iconst C (n := 0) dL_law_980 ?_
                                            cases h
                                            exact (FR _ rfl) _ _ _ _ dL_law_981 (by omega)
                                      · replace h := (if_neg hc).symm.trans h
                                        refine v_iconst C (n := 0) dL_law_963 ?_
                                        cases h
                                        exact (FR _ rfl) _ _ _ _ dL_law_964 (by omega)
                                    · replace h := (if_neg hc15).symm.trans h
                                      by_cases hc16 : omw (omand (xs (omw v4).toNat) 63) = 16
                                      · replace h := (if_pos hc16).symm.trans h
                                        refine v_tabIn C (tgt := 985) dL_law_40 hc16 (by decide) (by decide) rfl rfl ?_
                                        unfold lc_16 at h
                                        refine v_aload_n C (q := 1) rfl rfl dL_law_985 ?_
                                        refine v_aload_n C (q := 0) rfl rfl dL_law_986 ?_
                                        refine v_iload C (q := 4) rfl dL_law_987 ?_
                                        refine v_iconst C (n := 1) dL_law_989 ?_
                                        refine v_iadd C dL_law_990 ?_
                                        obtain ⟨g91, h⟩ := omg_some h
                                        refine v_scrldx C hL hxs g91 dL_law_991 ?_
                                        refine v_aload_n C (q := 3) rfl rfl dL_law_992 ?_
                                        obtain ⟨r92, er92, h⟩ := om_bind h
                                        refine v_invX_i (As := [.ref (G.1 16), .int (omi (xs (omw (v4 + 1)).toNat)), .ref (G.1 60)]) C mi_L_startOf ml_L_184 (k_L_startOf (xs (omw (v4 + 1)).toNat) σ _ er92) rfl (by decide) (by omega) rfl (Nat.le_of_ble_eq_true rfl) dL_law_993 ?_
                                        refine v_istore C (ls' := [(0, .ref (G.1 14)), (1, .ref (G.1 16)), (2, .ref (G.1 43)), (3, .ref (G.1 60)), (4, .int (omi v4)), (5, .int (omi r92.1))]) (by decide) rfl dL_law_996 ?_
                                        refine v_aload_n C (q := 2) rfl rfl dL_law_998 ?_
                                        refine v_aload_n C (q := 0) rfl rfl dL_law_999 ?_
                                        refine v_iload C (q := 4) rfl dL_law_1000 ?_
                                        refine v_iconst C (n := 1) dL_law_1002 ?_
                                        refine v_iadd C dL_law_1003 ?_
                                        obtain ⟨g93, h⟩ := omg_some h
                                        refine v_scrldx C hL hxs g93 dL_law_1004 ?_
                                        obtain ⟨r94, er94, h⟩ := om_bind h
                                        refine v_invV_i (As := [.int (omi (xs (omw (v4 + 1)).toNat))]) C mi_X12_startOf ml_L_186 (k_X12_startOf (xs (omw (v4 + 1)).toNat) r92.2 _ er94) (q := 27) rfl rfl rfl (by decide) (by omega) rfl (Nat.le_of_ble_eq_true rfl) dL_law_1005 ?_
                                        refine v_istore C (ls' := [(0, .ref (G.1 14)), (1, .ref (G.1 16)), (2, .ref (G.1 43)), (3, .ref (G.1 60)), (4, .int (omi v4)), (5, .int (omi r92.1)), (6, .int (omi r94.1))]) (by decide) rfl dL_law_1008 ?_
                                        refine v_aload_n C (q := 2) rfl rfl dL_law_1010 ?_
                                        obtain ⟨r95, er95, h⟩ := om_bind h
                                        refine v_invV_i (As := []) C mi_X12_thrown ml_L_128 (k_X12_thrown  r94.2 _ er95) (q := 27) rfl rfl rfl (by decide) (by omega) rfl (Nat.le_of_ble_eq_true rfl) dL_law_1011 ?_
                                        refine v_iload C (q := 5) rfl dL_law_1014 ?_
                                        refine v_icmp_eq C (tgt := 1021) dL_law_1016 rfl (fun hc => ?_) (fun hc => ?_)
                                        · replace h := (if_pos hc).symm.trans h
                                          refine v_iload C (q := 5) rfl dL_law_1021 ?_
                                          refine v_if_ne C (tgt := 1038) dL_law_1023 rfl (fun hc => ?_) (fun hc => ?_)
                                          · replace h := (if_neg hc).symm.trans h
                                            refine v_goto C (tgt := 1929) dL_law_1038 rfl ?_
                                            refine v_iinc C (q := 4) (ls' := [(0, .ref (G.1 14)), (1, .ref (G.1 16)), (2, .ref (G.1 43)), (3, .ref (G.1 60)), (4, .int (omi (v4 + 7))), (5, .int (omi r92.1)), (6, .int (omi r94.1))]) rfl (by decide) rfl rfl dL_law_1929 ?_
                                            refine v_goto C (tgt := 23) dL_law_1932 rfl ?_
                                            exact v_subp [0, 1, 2, 3, 4] rfl (ih _ _ _ _ (by omega) h FR)
                                          · replace h := (if_pos hc).symm.trans h
                                            refine v_aload_n C (q := 3) rfl rfl dL_law_1026 ?_
                                            refine v_iconst C (n := 0) dL_law_1027 ?_
                                            obtain ⟨g96, h⟩ := omg_some h
                                            refine v_lald C (q := 44) (o := 60) (n := 1) rfl g96 dL_law_1028 ?_
                                            refine v_iload C (q := 6) rfl dL_law_1029 ?_
                                            refine v_i2l C dL_law_1031 ?_
                                            refine v_lcmp C dL_law_1032 ?_
                                            refine v_if_eq C (tgt := 1038) dL_law_1033 rfl (fun hc => ?_) (fun hc => ?_)
                                            · replace h := (if_pos hc).symm.trans h
                                              refine v_goto C (tgt := 1929) dL_law_1038 rfl ?_
                                              refine v_iinc C (q := 4) (ls' := [(0, .ref (G.1 14)), (1, .ref (G.1 16)), (2, .ref (G.1 43)), (3, .ref (G.1 60)), (4, .int (omi (v4 + 7))), (5, .int (omi r92.1)), (6, .int (omi r94.1))]) rfl (by decide) rfl rfl dL_law_1929 ?_
                                              refine v_goto C (tgt := 23) dL_law_1932 rfl ?_
                                              exact v_subp [0, 1, 2, 3, 4] rfl (ih _ _ _ _ (by omega) h FR)
                                            · replace h := (if_neg hc).symm.trans h
                                              refine v_iconst C (n := 0) dL_law_1036 ?_
                                              cases h
                                              exact (FR _ rfl) _ _ _ _ dL_law_1037 (by omega)
                                        · replace h := (if_neg hc).symm.trans h
                                          refine v_iconst C (n := 0) dL_law_1019 ?_
                                          cases h
                                          exact (FR _ rfl) _ _ _ _ dL_law_1020 (by omega)
                                      · replace h := (if_neg hc16).symm.trans h
                                        by_cases hc17 : omw (omand (xs (omw v4).toNat) 63) = 17
                                        · replace h := (if_pos hc17).symm.trans h
                                          refine v_tabIn C (tgt := 1041) dL_law_40 hc17 (by decide) (by decide) rfl rfl ?_
                                          unfold lc_17 at h
                                          refine v_aload_n C (q := 1) rfl rfl dL_law_1041 ?_
                                          refine v_aload_n C (q := 0) rfl rfl dL_law_1042 ?_
                                          refine v_iload C (q := 4) rfl dL_law_1043 ?_
                                          refine v_iconst C (n := 1) dL_law_1045 ?_
                                          refine v_iadd C dL_law_1046 ?_
                                          obtain ⟨g97, h⟩ := omg_some h
                                          refine v_scrldx C hL hxs g97 dL_law_1047 ?_
                                          refine v_aload_n C (q := 3) rfl rfl dL_law_1048 ?_
                                          obtain ⟨r98, er98, h⟩ := om_bind h
                                          refine v_invX_i (As := [.ref (G.1 16), .int (omi (xs (omw (v4 + 1)).toNat)), .ref (G.1 60)]) C mi_L_endOf ml_L_187 (k_L_endOf (xs (omw (v4 + 1)).toNat) σ _ er98) rfl (by decide) (by omega) rfl (Nat.le_of_ble_eq_true rfl) dL_law_1049 ?_
                                          refine v_istore C (ls' := [(0, .ref (G.1 14)), (1, .ref (G.1 16)), (2, .ref (G.1 43)), (3, .ref (G.1 60)), (4, .int (omi v4)), (5, .int (omi r98.1))]) (by decide) rfl dL_law_1052 ?_
                                          refine v_aload_n C (q := 2) rfl rfl dL_law_1054 ?_
                                          refine v_aload_n C (q := 0) rfl rfl dL_law_1055 ?_
                                          refine v_iload C (q := 4) rfl dL_law_1056 ?_
                                          refine v_iconst C (n := 1) dL_law_1058 ?_
                                          refine v_iadd C dL_law_1059 ?_
                                          obtain ⟨g99, h⟩ := omg_some h
                                          refine v_scrldx C hL hxs g99 dL_law_1060 ?_
                                          obtain ⟨r100, er100, h⟩ := om_bind h
                                          refine v_invV_i (As := [.int (omi (xs (omw (v4 + 1)).toNat))]) C mi_X12_endOf ml_L_189 (k_X12_endOf (xs (omw (v4 + 1)).toNat) r98.2 _ er100) (q := 27) rfl rfl rfl (by decide) (by omega) rfl (Nat.le_of_ble_eq_true rfl) dL_law_1061 ?_
                                          refine v_istore C (ls' := [(0, .ref (G.1 14)), (1, .ref (G.1 16)), (2, .ref (G.1 43)), (3, .ref (G.1 60)), (4, .int (omi v4)), (5, .int (omi r98.1)), (6, .int (omi r100.1))]) (by decide) rfl dL_law_1064 ?_
                                          refine v_aload_n C (q := 2) rfl rfl dL_law_1066 ?_
                                          obtain ⟨r101, er101, h⟩ := om_bind h
                                          refine v_invV_i (As := []) C mi_X12_thrown ml_L_128 (k_X12_thrown  r100.2 _ er101) (q := 27) rfl rfl rfl (by decide) (by omega) rfl (Nat.le_of_ble_eq_true rfl) dL_law_1067 ?_
                                          refine v_iload C (q := 5) rfl dL_law_1070 ?_
                                          refine v_icmp_eq C (tgt := 1077) dL_law_1072 rfl (fun hc => ?_) (fun hc => ?_)
                                          · replace h := (if_pos hc).symm.trans h
                                            refine v_iload C (q := 5) rfl dL_law_1077 ?_
                                            refine v_if_ne C (tgt := 1094) dL_law_1079 rfl (fun hc => ?_) (fun hc => ?_)
                                            · replace h := (if_neg hc).symm.trans h
                                              refine v_goto C (tgt := 1929) dL_law_1094 rfl ?_
                                              refine v_iinc C (q := 4) (ls' := [(0, .ref (G.1 14)), (1, .ref (G.1 16)), (2, .ref (G.1 43)), (3, .ref (G.1 60)), (4, .int (omi (v4 + 7))), (5, .int (omi r98.1)), (6, .int (omi r100.1))]) rfl (by decide) rfl rfl dL_law_1929 ?_
                                              refine v_goto C (tgt := 23) dL_law_1932 rfl ?_
                                              exact v_subp [0, 1, 2, 3, 4] rfl (ih _ _ _ _ (by omega) h FR)
                                            · replace h := (if_pos hc).symm.trans h
                                              refine v_aload_n C (q := 3) rfl rfl dL_law_1082 ?_
                                              refine v_iconst C (n := 0) dL_law_1083 ?_
                                              obtain ⟨g102, h⟩ := omg_some h
                                              refine v_lald C (q := 44) (o := 60) (n := 1) rfl g102 dL_law_1084 ?_
                                              refine v_iload C (q := 6) rfl dL_law_1085 ?_
                                              refine v_i2l C dL_law_1087 ?_
                                              refine v_lcmp C dL_law_1088 ?_
                                              refine v_if_eq C (tgt := 1094) dL_law_1089 rfl (fun hc => ?_) (fun hc => ?_)
                                              · replace h := (if_pos hc).symm.trans h
                                                refine v_goto C (tgt := 1929) dL_law_1094 rfl ?_
                                                refine v_iinc C (q := 4) (ls' := [(0, .ref (G.1 14)), (1, .ref (G.1 16)), (2, .ref (G.1 43)), (3, .ref (G.1 60)), (4, .int (omi (v4 + 7))), (5, .int (omi r98.1)), (6, .int (omi r100.1))]) rfl (by decide) rfl rfl dL_law_1929 ?_
                                                refine v_goto C (tgt := 23) dL_law_1932 rfl ?_
                                                exact v_subp [0, 1, 2, 3, 4] rfl (ih _ _ _ _ (by omega) h FR)
                                              · replace h := (if_neg hc).symm.trans h
                                                refine v_iconst C (n := 0) dL_law_1092 ?_
                                                cases h
                                                exact (FR _ rfl) _ _ _ _ dL_law_1093 (by omega)
                                          · replace h := (if_neg hc).symm.trans h
                                            refine v_iconst C (n := 0) dL_law_1075 ?_
                                            cases h
                                            exact (FR _ rfl) _ _ _ _ dL_law_1076 (by omega)
                                        · replace h := (if_neg hc17).symm.trans h
                                          by_cases hc18 : omw (omand (xs (omw v4).toNat) 63) = 18
                                          · replace h := (if_pos hc18).symm.trans h
                                            refine v_tabIn C (tgt := 1097) dL_law_40 hc18 (by decide) (by decide) rfl rfl ?_
                                            unfold lc_18 at h
                                            refine v_aload_n C (q := 1) rfl rfl dL_law_1097 ?_
                                            refine v_aload_n C (q := 0) rfl rfl dL_law_1098 ?_
                                            refine v_iload C (q := 4) rfl dL_law_1099 ?_
                                            refine v_iconst C (n := 1) dL_law_1101 ?_
                                            refine v_iadd C dL_law_1102 ?_
                                            obtain ⟨g103, h⟩ := omg_some h
                                            refine v_scrldx C hL hxs g103 dL_law_1103 ?_
                                            refine v_aload_n C (q := 3) rfl rfl dL_law_1104 ?_
                                            obtain ⟨r104, er104, h⟩ := om_bind h
                                            refine v_invX_i (As := [.ref (G.1 16), .int (omi (xs (omw (v4 + 1)).toNat)), .ref (G.1 60)]) C mi_L_completion ml_L_190 (k_L_completion (xs (omw (v4 + 1)).toNat) σ _ er104) rfl (by decide) (by omega) rfl (Nat.le_of_ble_eq_true rfl) dL_law_1105 ?_
                                            refine v_istore C (ls' := [(0, .ref (G.1 14)), (1, .ref (G.1 16)), (2, .ref (G.1 43)), (3, .ref (G.1 60)), (4, .int (omi v4)), (5, .int (omi r104.1))]) (by decide) rfl dL_law_1108 ?_
                                            refine v_aload_n C (q := 2) rfl rfl dL_law_1110 ?_
                                            refine v_aload_n C (q := 0) rfl rfl dL_law_1111 ?_
                                            refine v_iload C (q := 4) rfl dL_law_1112 ?_
                                            refine v_iconst C (n := 1) dL_law_1114 ?_
                                            refine v_iadd C dL_law_1115 ?_
                                            obtain ⟨g105, h⟩ := omg_some h
                                            refine v_scrldx C hL hxs g105 dL_law_1116 ?_
                                            obtain ⟨r106, er106, h⟩ := om_bind h
                                            refine v_invV_i (As := [.int (omi (xs (omw (v4 + 1)).toNat))]) C mi_X12_completion ml_L_192 (k_X12_completion (xs (omw (v4 + 1)).toNat) r104.2 _ er106) (q := 27) rfl rfl rfl (by decide) (by omega) rfl (Nat.le_of_ble_eq_true rfl) dL_law_1117 ?_
                                            refine v_istore C (ls' := [(0, .ref (G.1 14)), (1, .ref (G.1 16)), (2, .ref (G.1 43)), (3, .ref (G.1 60)), (4, .int (omi v4)), (5, .int (omi r104.1)), (6, .int (omi r106.1))]) (by decide) rfl dL_law_1120 ?_
                                            refine v_aload_n C (q := 2) rfl rfl dL_law_1122 ?_
                                            obtain ⟨r107, er107, h⟩ := om_bind h
                                            refine v_invV_i (As := []) C mi_X12_thrown ml_L_128 (k_X12_thrown  r106.2 _ er107) (q := 27) rfl rfl rfl (by decide) (by omega) rfl (Nat.le_of_ble_eq_true rfl) dL_law_1123 ?_
                                            refine v_iload C (q := 5) rfl dL_law_1126 ?_
                                            refine v_icmp_eq C (tgt := 1133) dL_law_1128 rfl (fun hc => ?_) (fun hc => ?_)
                                            · replace h := (if_pos hc).symm.trans h
                                              refine v_iload C (q := 5) rfl dL_law_1133 ?_
                                              refine v_if_ne C (tgt := 1150) dL_law_1135 rfl (fun hc => ?_) (fun hc => ?_)
                                              · replace h := (if_neg hc).symm.trans h
                                                refine v_goto C (tgt := 1929) dL_law_1150 rfl ?_
                                                refine v_iinc C (q := 4) (ls' := [(0, .ref (G.1 14)), (1, .ref (G.1 16)), (2, .ref (G.1 43)), (3, .ref (G.1 60)), (4, .int (omi (v4 + 7))), (5, .int (omi r104.1)), (6, .int (omi r106.1))]) rfl (by decide) rfl rfl dL_law_1929 ?_
                                                refine v_goto C (tgt := 23) dL_law_1932 rfl ?_
                                                exact v_subp [0, 1, 2, 3, 4] rfl (ih _ _ _ _ (by omega) h FR)
                                              · replace h := (if_pos hc).symm.trans h
                                                refine v_aload_n C (q := 3) rfl rfl dL_law_1138 ?_
                                                refine v_iconst C (n := 0) dL_law_1139 ?_
                                                obtain ⟨g108, h⟩ := omg_some h
                                                refine v_lald C (q := 44) (o := 60) (n := 1) rfl g108 dL_law_1140 ?_
                                                refine v_iload C (q := 6) rfl dL_law_1141 ?_
                                                refine v_i2l C dL_law_1143 ?_
                                                refine v_lcmp C dL_law_1144 ?_
                                                refine v_if_eq C (tgt := 1150) dL_law_1145 rfl (fun hc => ?_) (fun hc => ?_)
                                                · replace h := (if_pos hc).symm.trans h
                                                  refine v_goto C (tgt := 1929) dL_law_1150 rfl ?_
                                                  refine v_iinc C (q := 4) (ls' := [(0, .ref (G.1 14)), (1, .ref (G.1 16)), (2, .ref (G.1 43)), (3, .ref (G.1 60)), (4, .int (omi (v4 + 7))), (5, .int (omi r104.1)), (6, .int (omi r106.1))]) rfl (by decide) rfl rfl dL_law_1929 ?_
                                                  refine v_goto C (tgt := 23) dL_law_1932 rfl ?_
                                                  exact v_subp [0, 1, 2, 3, 4] rfl (ih _ _ _ _ (by omega) h FR)
                                                · replace h := (if_neg hc).symm.trans h
                                                  refine v_iconst C (n := 0) dL_law_1148 ?_
                                                  cases h
                                                  exact (FR _ rfl) _ _ _ _ dL_law_1149 (by omega)
                                            · replace h := (if_neg hc).symm.trans h
                                              refine v_iconst C (n := 0) dL_law_1131 ?_
                                              cases h
                                              exact (FR _ rfl) _ _ _ _ dL_law_1132 (by omega)
                                          · replace h := (if_neg hc18).symm.trans h
                                            by_cases hc19 : omw (omand (xs (omw v4).toNat) 63) = 19
                                            · replace h := (if_pos hc19).symm.trans h
                                              refine v_tabIn C (tgt := 1153) dL_law_40 hc19 (by decide) (by decide) rfl rfl ?_
                                              unfold lc_19 at h
                                              refine v_aload_n C (q := 1) rfl rfl dL_law_1153 ?_
                                              refine v_aload_n C (q := 0) rfl rfl dL_law_1154 ?_
                                              refine v_iload C (q := 4) rfl dL_law_1155 ?_
                                              refine v_iconst C (n := 1) dL_law_1157 ?_
                                              refine v_iadd C dL_law_1158 ?_
                                              obtain ⟨g109, h⟩ := omg_some h
                                              refine v_scrldx C hL hxs g109 dL_law_1159 ?_
                                              refine v_aload_n C (q := 3) rfl rfl dL_law_1160 ?_
                                              obtain ⟨r110, er110, h⟩ := om_bind h
                                              refine v_invX_i (As := [.ref (G.1 16), .int (omi (xs (omw (v4 + 1)).toNat)), .ref (G.1 60)]) C mi_L_lateness ml_L_193 (k_L_lateness (xs (omw (v4 + 1)).toNat) σ _ er110) rfl (by decide) (by omega) rfl (Nat.le_of_ble_eq_true rfl) dL_law_1161 ?_
                                              refine v_istore C (ls' := [(0, .ref (G.1 14)), (1, .ref (G.1 16)), (2, .ref (G.1 43)), (3, .ref (G.1 60)), (4, .int (omi v4)), (5, .int (omi r110.1))]) (by decide) rfl dL_law_1164 ?_
                                              refine v_aload_n C (q := 2) rfl rfl dL_law_1166 ?_
                                              refine v_aload_n C (q := 0) rfl rfl dL_law_1167 ?_
                                              refine v_iload C (q := 4) rfl dL_law_1168 ?_
                                              refine v_iconst C (n := 1) dL_law_1170 ?_
                                              refine v_iadd C dL_law_1171 ?_
                                              obtain ⟨g111, h⟩ := omg_some h
                                              refine v_scrldx C hL hxs g111 dL_law_1172 ?_
                                              obtain ⟨r112, er112, h⟩ := om_bind h
                                              refine v_invV_i (As := [.int (omi (xs (omw (v4 + 1)).toNat))]) C mi_X12_lateness ml_L_195 (k_X12_lateness (xs (omw (v4 + 1)).toNat) r110.2 _ er112) (q := 27) rfl rfl rfl (by decide) (by omega) rfl (Nat.le_of_ble_eq_true rfl) dL_law_1173 ?_
                                              refine v_istore C (ls' := [(0, .ref (G.1 14)), (1, .ref (G.1 16)), (2, .ref (G.1 43)), (3, .ref (G.1 60)), (4, .int (omi v4)), (5, .int (omi r110.1)), (6, .int (omi r112.1))]) (by decide) rfl dL_law_1176 ?_
                                              refine v_aload_n C (q := 2) rfl rfl dL_law_1178 ?_
                                              obtain ⟨r113, er113, h⟩ := om_bind h
                                              refine v_invV_i (As := []) C mi_X12_thrown ml_L_128 (k_X12_thrown  r112.2 _ er113) (q := 27) rfl rfl rfl (by decide) (by omega) rfl (Nat.le_of_ble_eq_true rfl) dL_law_1179 ?_
                                              refine v_iload C (q := 5) rfl dL_law_1182 ?_
                                              refine v_icmp_eq C (tgt := 1189) dL_law_1184 rfl (fun hc => ?_) (fun hc => ?_)
                                              · replace h := (if_pos hc).symm.trans h
                                                refine v_iload C (q := 5) rfl dL_law_1189 ?_
                                                refine v_if_ne C (tgt := 1206) dL_law_1191 rfl (fun hc => ?_) (fun hc => ?_)
                                                · replace h := (if_neg hc).symm.trans h
                                                  refine v_goto C (tgt := 1929) dL_law_1206 rfl ?_
                                                  refine v_iinc C (q := 4) (ls' := [(0, .ref (G.1 14)), (1, .ref (G.1 16)), (2, .ref (G.1 43)), (3, .ref (G.1 60)), (4, .int (omi (v4 + 7))), (5, .int (omi r110.1)), (6, .int (omi r112.1))]) rfl (by decide) rfl rfl dL_law_1929 ?_
                                                  refine v_goto C (tgt := 23) dL_law_1932 rfl ?_
                                                  exact v_subp [0, 1, 2, 3, 4] rfl (ih _ _ _ _ (by omega) h FR)
                                                · replace h := (if_pos hc).symm.trans h
                                                  refine v_aload_n C (q := 3) rfl rfl dL_law_1194 ?_
                                                  refine v_iconst C (n := 0) dL_law_1195 ?_
                                                  obtain ⟨g114, h⟩ := omg_some h
                                                  refine v_lald C (q := 44) (o := 60) (n := 1) rfl g114 dL_law_1196 ?_
                                                  refine v_iload C (q := 6) rfl dL_law_1197 ?_
                                                  refine v_i2l C dL_law_1199 ?_
                                                  refine v_lcmp C dL_law_1200 ?_
                                                  refine v_if_eq C (tgt := 1206) dL_law_1201 rfl (fun hc => ?_) (fun hc => ?_)
                                                  · replace h := (if_pos hc).symm.trans h
                                                    refine v_goto C (tgt := 1929) dL_law_1206 rfl ?_
                                                    refine v_iinc C (q := 4) (ls' := [(0, .ref (G.1 14)), (1, .ref (G.1 16)), (2, .ref (G.1 43)), (3, .ref (G.1 60)), (4, .int (omi (v4 + 7))), (5, .int (omi r110.1)), (6, .int (omi r112.1))]) rfl (by decide) rfl rfl dL_law_1929 ?_
                                                    refine v_goto C (tgt := 23) dL_law_1932 rfl ?_
                                                    exact v_subp [0, 1, 2, 3, 4] rfl (ih _ _ _ _ (by omega) h FR)
                                                  · replace h := (if_neg hc).symm.trans h
                                                    refine v_iconst C (n := 0) dL_law_1204 ?_
                                                    cases h
                                                    exact (FR _ rfl) _ _ _ _ dL_law_1205 (by omega)
                                              · replace h := (if_neg hc).symm.trans h
                                                refine v_iconst C (n := 0) dL_law_1187 ?_
                                                cases h
                                                exact (FR _ rfl) _ _ _ _ dL_law_1188 (by omega)
                                            · replace h := (if_neg hc19).symm.trans h
                                              by_cases hc20 : omw (omand (xs (omw v4).toNat) 63) = 20
                                              · replace h := (if_pos hc20).symm.trans h
                                                refine v_tabIn C (tgt := 1209) dL_law_40 hc20 (by decide) (by decide) rfl rfl ?_
                                                unfold lc_20 at h
                                                refine v_aload_n C (q := 1) rfl rfl dL_law_1209 ?_
                                                refine v_aload_n C (q := 3) rfl rfl dL_law_1210 ?_
                                                obtain ⟨r115, er115, h⟩ := om_bind h
                                                refine v_invX_i (As := [.ref (G.1 16), .ref (G.1 60)]) C mi_L_maxLateness ml_L_196 (k_L_maxLateness  σ _ er115) rfl (by decide) (by omega) rfl (Nat.le_of_ble_eq_true rfl) dL_law_1211 ?_
                                                refine v_istore C (ls' := [(0, .ref (G.1 14)), (1, .ref (G.1 16)), (2, .ref (G.1 43)), (3, .ref (G.1 60)), (4, .int (omi v4)), (5, .int (omi r115.1))]) (by decide) rfl dL_law_1214 ?_
                                                refine v_aload_n C (q := 2) rfl rfl dL_law_1216 ?_
                                                obtain ⟨r116, er116, h⟩ := om_bind h
                                                refine v_invV_i (As := []) C mi_X12_maxLateness ml_L_198 (k_X12_maxLateness  r115.2 _ er116) (q := 27) rfl rfl rfl (by decide) (by omega) rfl (Nat.le_of_ble_eq_true rfl) dL_law_1217 ?_
                                                refine v_istore C (ls' := [(0, .ref (G.1 14)), (1, .ref (G.1 16)), (2, .ref (G.1 43)), (3, .ref (G.1 60)), (4, .int (omi v4)), (5, .int (omi r115.1)), (6, .int (omi r116.1))]) (by decide) rfl dL_law_1220 ?_
                                                refine v_aload_n C (q := 2) rfl rfl dL_law_1222 ?_
                                                obtain ⟨r117, er117, h⟩ := om_bind h
                                                refine v_invV_i (As := []) C mi_X12_thrown ml_L_128 (k_X12_thrown  r116.2 _ er117) (q := 27) rfl rfl rfl (by decide) (by omega) rfl (Nat.le_of_ble_eq_true rfl) dL_law_1223 ?_
                                                refine v_iload C (q := 5) rfl dL_law_1226 ?_
                                                refine v_icmp_eq C (tgt := 1233) dL_law_1228 rfl (fun hc => ?_) (fun hc => ?_)
                                                · replace h := (if_pos hc).symm.trans h
                                                  refine v_iload C (q := 5) rfl dL_law_1233 ?_
                                                  refine v_if_ne C (tgt := 1250) dL_law_1235 rfl (fun hc => ?_) (fun hc => ?_)
                                                  · replace h := (if_neg hc).symm.trans h
                                                    refine v_goto C (tgt := 1929) dL_law_1250 rfl ?_
                                                    refine v_iinc C (q := 4) (ls' := [(0, .ref (G.1 14)), (1, .ref (G.1 16)), (2, .ref (G.1 43)), (3, .ref (G.1 60)), (4, .int (omi (v4 + 7))), (5, .int (omi r115.1)), (6, .int (omi r116.1))]) rfl (by decide) rfl rfl dL_law_1929 ?_
                                                    refine v_goto C (tgt := 23) dL_law_1932 rfl ?_
                                                    exact v_subp [0, 1, 2, 3, 4] rfl (ih _ _ _ _ (by omega) h FR)
                                                  · replace h := (if_pos hc).symm.trans h
                                                    refine v_aload_n C (q := 3) rfl rfl dL_law_1238 ?_
                                                    refine v_iconst C (n := 0) dL_law_1239 ?_
                                                    obtain ⟨g118, h⟩ := omg_some h
                                                    refine v_lald C (q := 44) (o := 60) (n := 1) rfl g118 dL_law_1240 ?_
                                                    refine v_iload C (q := 6) rfl dL_law_1241 ?_
                                                    refine v_i2l C dL_law_1243 ?_
                                                    refine v_lcmp C dL_law_1244 ?_
                                                    refine v_if_eq C (tgt := 1250) dL_law_1245 rfl (fun hc => ?_) (fun hc => ?_)
                                                    · replace h := (if_pos hc).symm.trans h
                                                      refine v_goto C (tgt := 1929) dL_law_1250 rfl ?_
                                                      refine v_iinc C (q := 4) (ls' := [(0, .ref (G.1 14)), (1, .ref (G.1 16)), (2, .ref (G.1 43)), (3, .ref (G.1 60)), (4, .int (omi (v4 + 7))), (5, .int (omi r115.1)), (6, .int (omi r116.1))]) rfl (by decide) rfl rfl dL_law_1929 ?_
                                                      refine v_goto C (tgt := 23) dL_law_1932 rfl ?_
                                                      exact v_subp [0, 1, 2, 3, 4] rfl (ih _ _ _ _ (by omega) h FR)
                                                    · replace h := (if_neg hc).symm.trans h
                                                      refine v_iconst C (n := 0) dL_law_1248 ?_
                                                      cases h
                                                      exact (FR _ rfl) _ _ _ _ dL_law_1249 (by omega)
                                                · replace h := (if_neg hc).symm.trans h
                                                  refine v_iconst C (n := 0) dL_law_1231 ?_
                                                  cases h
                                                  exact (FR _ rfl) _ _ _ _ dL_law_1232 (by omega)
                                              · replace h := (if_neg hc20).symm.trans h
                                                by_cases hc21 : omw (omand (xs (omw v4).toNat) 63) = 21
                                                · replace h := (if_pos hc21).symm.trans h
                                                  refine v_tabIn C (tgt := 1253) dL_law_40 hc21 (by decide) (by decide) rfl rfl ?_
                                                  unfold lc_21 at h
                                                  refine v_aload_n C (q := 1) rfl rfl dL_law_1253 ?_
                                                  refine v_aload_n C (q := 3) rfl rfl dL_law_1254 ?_
                                                  obtain ⟨r119, er119, h⟩ := om_bind h
                                                  refine v_invX_i (As := [.ref (G.1 16), .ref (G.1 60)]) C mi_L_lateJobs ml_L_199 (k_L_lateJobs  σ _ er119) rfl (by decide) (by omega) rfl (Nat.le_of_ble_eq_true rfl) dL_law_1255 ?_
                                                  refine v_istore C (ls' := [(0, .ref (G.1 14)), (1, .ref (G.1 16)), (2, .ref (G.1 43)), (3, .ref (G.1 60)), (4, .int (omi v4)), (5, .int (omi r119.1))]) (by decide) rfl dL_law_1258 ?_
                                                  refine v_aload_n C (q := 2) rfl rfl dL_law_1260 ?_
                                                  obtain ⟨r120, er120, h⟩ := om_bind h
                                                  refine v_invV_i (As := []) C mi_X12_lateJobs ml_L_201 (k_X12_lateJobs  r119.2 _ er120) (q := 27) rfl rfl rfl (by decide) (by omega) rfl (Nat.le_of_ble_eq_true rfl) dL_law_1261 ?_
                                                  refine v_istore C (ls' := [(0, .ref (G.1 14)), (1, .ref (G.1 16)), (2, .ref (G.1 43)), (3, .ref (G.1 60)), (4, .int (omi v4)), (5, .int (omi r119.1)), (6, .int (omi r120.1))]) (by decide) rfl dL_law_1264 ?_
                                                  refine v_aload_n C (q := 2) rfl rfl dL_law_1266 ?_
                                                  obtain ⟨r121, er121, h⟩ := om_bind h
                                                  refine v_invV_i (As := []) C mi_X12_thrown ml_L_128 (k_X12_thrown  r120.2 _ er121) (q := 27) rfl rfl rfl (by decide) (by omega) rfl (Nat.le_of_ble_eq_true rfl) dL_law_1267 ?_
                                                  refine v_iload C (q := 5) rfl dL_law_1270 ?_
                                                  refine v_icmp_eq C (tgt := 1277) dL_law_1272 rfl (fun hc => ?_) (fun hc => ?_)
                                                  · replace h := (if_pos hc).symm.trans h
                                                    refine v_iload C (q := 5) rfl dL_law_1277 ?_
                                                    refine v_if_ne C (tgt := 1294) dL_law_1279 rfl (fun hc => ?_) (fun hc => ?_)
                                                    · replace h := (if_neg hc).symm.trans h
                                                      refine v_goto C (tgt := 1929) dL_law_1294 rfl ?_
                                                      refine v_iinc C (q := 4) (ls' := [(0, .ref (G.1 14)), (1, .ref (G.1 16)), (2, .ref (G.1 43)), (3, .ref (G.1 60)), (4, .int (omi (v4 + 7))), (5, .int (omi r119.1)), (6, .int (omi r120.1))]) rfl (by decide) rfl rfl dL_law_1929 ?_
                                                      refine v_goto C (tgt := 23) dL_law_1932 rfl ?_
                                                      exact v_subp [0, 1, 2, 3, 4] rfl (ih _ _ _ _ (by omega) h FR)
                                                    · replace h := (if_pos hc).symm.trans h
                                                      refine v_aload_n C (q := 3) rfl rfl dL_law_1282 ?_
                                                      refine v_iconst C (n := 0) dL_law_1283 ?_
                                                      obtain ⟨g122, h⟩ := omg_some h
                                                      refine v_lald C (q := 44) (o := 60) (n := 1) rfl g122 dL_law_1284 ?_
                                                      refine v_iload C (q := 6) rfl dL_law_1285 ?_
                                                      refine v_i2l C dL_law_1287 ?_
                                                      refine v_lcmp C dL_law_1288 ?_
                                                      refine v_if_eq C (tgt := 1294) dL_law_1289 rfl (fun hc => ?_) (fun hc => ?_)
                                                      · replace h := (if_pos hc).symm.trans h
                                                        refine v_goto C (tgt := 1929) dL_law_1294 rfl ?_
                                                        refine v_iinc C (q := 4) (ls' := [(0, .ref (G.1 14)), (1, .ref (G.1 16)), (2, .ref (G.1 43)), (3, .ref (G.1 60)), (4, .int (omi (v4 + 7))), (5, .int (omi r119.1)), (6, .int (omi r120.1))]) rfl (by decide) rfl rfl dL_law_1929 ?_
                                                        refine v_goto C (tgt := 23) dL_law_1932 rfl ?_
                                                        exact v_subp [0, 1, 2, 3, 4] rfl (ih _ _ _ _ (by omega) h FR)
                                                      · replace h := (if_neg hc).symm.trans h
                                                        refine v_iconst C (n := 0) dL_law_1292 ?_
                                                        cases h
                                                        exact (FR _ rfl) _ _ _ _ dL_law_1293 (by omega)
                                                  · replace h := (if_neg hc).symm.trans h
                                                    refine v_iconst C (n := 0) dL_law_1275 ?_
                                                    cases h
                                                    exact (FR _ rfl) _ _ _ _ dL_law_1276 (by omega)
                                                · replace h := (if_neg hc21).symm.trans h
                                                  by_cases hc22 : omw (omand (xs (omw v4).toNat) 63) = 22
                                                  · replace h := (if_pos hc22).symm.trans h
                                                    refine v_tabIn C (tgt := 1297) dL_law_40 hc22 (by decide) (by decide) rfl rfl ?_
                                                    unfold lc_22 at h
                                                    refine v_aload_n C (q := 1) rfl rfl dL_law_1297 ?_
                                                    refine v_aload_n C (q := 3) rfl rfl dL_law_1298 ?_
                                                    obtain ⟨r123, er123, h⟩ := om_bind h
                                                    refine v_invX_i (As := [.ref (G.1 16), .ref (G.1 60)]) C mi_L_completions ml_L_202 (k_L_completions  σ _ er123) rfl (by decide) (by omega) rfl (Nat.le_of_ble_eq_true rfl) dL_law_1299 ?_
                                                    refine v_istore C (ls' := [(0, .ref (G.1 14)), (1, .ref (G.1 16)), (2, .ref (G.1 43)), (3, .ref (G.1 60)), (4, .int (omi v4)), (5, .int (omi r123.1))]) (by decide) rfl dL_law_1302 ?_
                                                    refine v_aload_n C (q := 2) rfl rfl dL_law_1304 ?_
                                                    obtain ⟨r124, er124, h⟩ := om_bind h
                                                    refine v_invV_i (As := []) C mi_X12_completions ml_L_204 (k_X12_completions  r123.2 _ er124) (q := 27) rfl rfl rfl (by decide) (by omega) rfl (Nat.le_of_ble_eq_true rfl) dL_law_1305 ?_
                                                    refine v_istore C (ls' := [(0, .ref (G.1 14)), (1, .ref (G.1 16)), (2, .ref (G.1 43)), (3, .ref (G.1 60)), (4, .int (omi v4)), (5, .int (omi r123.1)), (6, .int (omi r124.1))]) (by decide) rfl dL_law_1308 ?_
                                                    refine v_aload_n C (q := 2) rfl rfl dL_law_1310 ?_
                                                    obtain ⟨r125, er125, h⟩ := om_bind h
                                                    refine v_invV_i (As := []) C mi_X12_thrown ml_L_128 (k_X12_thrown  r124.2 _ er125) (q := 27) rfl rfl rfl (by decide) (by omega) rfl (Nat.le_of_ble_eq_true rfl) dL_law_1311 ?_
                                                    refine v_iload C (q := 5) rfl dL_law_1314 ?_
                                                    refine v_icmp_eq C (tgt := 1321) dL_law_1316 rfl (fun hc => ?_) (fun hc => ?_)
                                                    · replace h := (if_pos hc).symm.trans h
                                                      refine v_iload C (q := 5) rfl dL_law_1321 ?_
                                                      refine v_if_ne C (tgt := 1338) dL_law_1323 rfl (fun hc => ?_) (fun hc => ?_)
                                                      · replace h := (if_neg hc).symm.trans h
                                                        refine v_goto C (tgt := 1929) dL_law_1338 rfl ?_
                                                        refine v_iinc C (q := 4) (ls' := [(0, .ref (G.1 14)), (1, .ref (G.1 16)), (2, .ref (G.1 43)), (3, .ref (G.1 60)), (4, .int (omi (v4 + 7))), (5, .int (omi r123.1)), (6, .int (omi r124.1))]) rfl (by decide) rfl rfl dL_law_1929 ?_
                                                        refine v_goto C (tgt := 23) dL_law_1932 rfl ?_
                                                        exact v_subp [0, 1, 2, 3, 4] rfl (ih _ _ _ _ (by omega) h FR)
                                                      · replace h := (if_pos hc).symm.trans h
                                                        refine v_aload_n C (q := 3) rfl rfl dL_law_1326 ?_
                                                        refine v_iconst C (n := 0) dL_law_1327 ?_
                                                        obtain ⟨g126, h⟩ := omg_some h
                                                        refine v_lald C (q := 44) (o := 60) (n := 1) rfl g126 dL_law_1328 ?_
                                                        refine v_iload C (q := 6) rfl dL_law_1329 ?_
                                                        refine v_i2l C dL_law_1331 ?_
                                                        refine v_lcmp C dL_law_1332 ?_
                                                        refine v_if_eq C (tgt := 1338) dL_law_1333 rfl (fun hc => ?_) (fun hc => ?_)
                                                        · replace h := (if_pos hc).symm.trans h
                                                          refine v_goto C (tgt := 1929) dL_law_1338 rfl ?_
                                                          refine v_iinc C (q := 4) (ls' := [(0, .ref (G.1 14)), (1, .ref (G.1 16)), (2, .ref (G.1 43)), (3, .ref (G.1 60)), (4, .int (omi (v4 + 7))), (5, .int (omi r123.1)), (6, .int (omi r124.1))]) rfl (by decide) rfl rfl dL_law_1929 ?_
                                                          refine v_goto C (tgt := 23) dL_law_1932 rfl ?_
                                                          exact v_subp [0, 1, 2, 3, 4] rfl (ih _ _ _ _ (by omega) h FR)
                                                        · replace h := (if_neg hc).symm.trans h
                                                          refine v_iconst C (n := 0) dL_law_1336 ?_
                                                          cases h
                                                          exact (FR _ rfl) _ _ _ _ dL_law_1337 (by omega)
                                                    · replace h := (if_neg hc).symm.trans h
                                                      refine v_iconst C (n := 0) dL_law_1319 ?_
                                                      cases h
                                                      exact (FR _ rfl) _ _ _ _ dL_law_1320 (by omega)
                                                  · replace h := (if_neg hc22).symm.trans h
                                                    by_cases hc23 : omw (omand (xs (omw v4).toNat) 63) = 23
                                                    · replace h := (if_pos hc23).symm.trans h
                                                      refine v_tabIn C (tgt := 1341) dL_law_40 hc23 (by decide) (by decide) rfl rfl ?_
                                                      unfold lc_23 at h
                                                      refine v_aload_n C (q := 1) rfl rfl dL_law_1341 ?_
                                                      refine v_aload_n C (q := 3) rfl rfl dL_law_1342 ?_
                                                      obtain ⟨r127, er127, h⟩ := om_bind h
                                                      refine v_invX_i (As := [.ref (G.1 16), .ref (G.1 60)]) C mi_L_weightedCompletions ml_L_205 (k_L_weightedCompletions  σ _ er127) rfl (by decide) (by omega) rfl (Nat.le_of_ble_eq_true rfl) dL_law_1343 ?_
                                                      refine v_istore C (ls' := [(0, .ref (G.1 14)), (1, .ref (G.1 16)), (2, .ref (G.1 43)), (3, .ref (G.1 60)), (4, .int (omi v4)), (5, .int (omi r127.1))]) (by decide) rfl dL_law_1346 ?_
                                                      refine v_aload_n C (q := 2) rfl rfl dL_law_1348 ?_
                                                      obtain ⟨r128, er128, h⟩ := om_bind h
                                                      refine v_invV_i (As := []) C mi_X12_weightedCompletions ml_L_207 (k_X12_weightedCompletions  r127.2 _ er128) (q := 27) rfl rfl rfl (by decide) (by omega) rfl (Nat.le_of_ble_eq_true rfl) dL_law_1349 ?_
                                                      refine v_istore C (ls' := [(0, .ref (G.1 14)), (1, .ref (G.1 16)), (2, .ref (G.1 43)), (3, .ref (G.1 60)), (4, .int (omi v4)), (5, .int (omi r127.1)), (6, .int (omi r128.1))]) (by decide) rfl dL_law_1352 ?_
                                                      refine v_aload_n C (q := 2) rfl rfl dL_law_1354 ?_
                                                      obtain ⟨r129, er129, h⟩ := om_bind h
                                                      refine v_invV_i (As := []) C mi_X12_thrown ml_L_128 (k_X12_thrown  r128.2 _ er129) (q := 27) rfl rfl rfl (by decide) (by omega) rfl (Nat.le_of_ble_eq_true rfl) dL_law_1355 ?_
                                                      refine v_iload C (q := 5) rfl dL_law_1358 ?_
                                                      refine v_icmp_eq C (tgt := 1365) dL_law_1360 rfl (fun hc => ?_) (fun hc => ?_)
                                                      · replace h := (if_pos hc).symm.trans h
                                                        refine v_iload C (q := 5) rfl dL_law_1365 ?_
                                                        refine v_if_ne C (tgt := 1382) dL_law_1367 rfl (fun hc => ?_) (fun hc => ?_)
                                                        · replace h := (if_neg hc).symm.trans h
                                                          refine v_goto C (tgt := 1929) dL_law_1382 rfl ?_
                                                          refine v_iinc C (q := 4) (ls' := [(0, .ref (G.1 14)), (1, .ref (G.1 16)), (2, .ref (G.1 43)), (3, .ref (G.1 60)), (4, .int (omi (v4 + 7))), (5, .int (omi r127.1)), (6, .int (omi r128.1))]) rfl (by decide) rfl rfl dL_law_1929 ?_
                                                          refine v_goto C (tgt := 23) dL_law_1932 rfl ?_
                                                          exact v_subp [0, 1, 2, 3, 4] rfl (ih _ _ _ _ (by omega) h FR)
                                                        · replace h := (if_pos hc).symm.trans h
                                                          refine v_aload_n C (q := 3) rfl rfl dL_law_1370 ?_
                                                          refine v_iconst C (n := 0) dL_law_1371 ?_
                                                          obtain ⟨g130, h⟩ := omg_some h
                                                          refine v_lald C (q := 44) (o := 60) (n := 1) rfl g130 dL_law_1372 ?_
                                                          refine v_iload C (q := 6) rfl dL_law_1373 ?_
                                                          refine v_i2l C dL_law_1375 ?_
                                                          refine v_lcmp C dL_law_1376 ?_
                                                          refine v_if_eq C (tgt := 1382) dL_law_1377 rfl (fun hc => ?_) (fun hc => ?_)
                                                          · replace h := (if_pos hc).symm.trans h
                                                            refine v_goto C (tgt := 1929) dL_law_1382 rfl ?_
                                                            refine v_iinc C (q := 4) (ls' := [(0, .ref (G.1 14)), (1, .ref (G.1 16)), (2, .ref (G.1 43)), (3, .ref (G.1 60)), (4, .int (omi (v4 + 7))), (5, .int (omi r127.1)), (6, .int (omi r128.1))]) rfl (by decide) rfl rfl dL_law_1929 ?_
                                                            refine v_goto C (tgt := 23) dL_law_1932 rfl ?_
                                                            exact v_subp [0, 1, 2, 3, 4] rfl (ih _ _ _ _ (by omega) h FR)
                                                          · replace h := (if_neg hc).symm.trans h
                                                            refine v_iconst C (n := 0) dL_law_1380 ?_
                                                            cases h
                                                            exact (FR _ rfl) _ _ _ _ dL_law_1381 (by omega)
                                                      · replace h := (if_neg hc).symm.trans h
                                                        refine v_iconst C (n := 0) dL_law_1363 ?_
                                                        cases h
                                                        exact (FR _ rfl) _ _ _ _ dL_law_1364 (by omega)
                                                    · replace h := (if_neg hc23).symm.trans h
                                                      by_cases hc24 : omw (omand (xs (omw v4).toNat) 63) = 24
                                                      · replace h := (if_pos hc24).symm.trans h
                                                        refine v_tabIn C (tgt := 1385) dL_law_40 hc24 (by decide) (by decide) rfl rfl ?_
                                                        unfold lc_24 at h
                                                        refine v_aload_n C (q := 1) rfl rfl dL_law_1385 ?_
                                                        refine v_aload_n C (q := 3) rfl rfl dL_law_1386 ?_
                                                        obtain ⟨r131, er131, h⟩ := om_bind h
                                                        refine v_invX_i (As := [.ref (G.1 16), .ref (G.1 60)]) C mi_L_weightedTardiness ml_L_208 (k_L_weightedTardiness  σ _ er131) rfl (by decide) (by omega) rfl (Nat.le_of_ble_eq_true rfl) dL_law_1387 ?_
                                                        refine v_istore C (ls' := [(0, .ref (G.1 14)), (1, .ref (G.1 16)), (2, .ref (G.1 43)), (3, .ref (G.1 60)), (4, .int (omi v4)), (5, .int (omi r131.1))]) (by decide) rfl dL_law_1390 ?_
                                                        refine v_aload_n C (q := 2) rfl rfl dL_law_1392 ?_
                                                        obtain ⟨r132, er132, h⟩ := om_bind h
                                                        refine v_invV_i (As := []) C mi_X12_weightedTardiness ml_L_210 (k_X12_weightedTardiness  r131.2 _ er132) (q := 27) rfl rfl rfl (by decide) (by omega) rfl (Nat.le_of_ble_eq_true rfl) dL_law_1393 ?_
                                                        refine v_istore C (ls' := [(0, .ref (G.1 14)), (1, .ref (G.1 16)), (2, .ref (G.1 43)), (3, .ref (G.1 60)), (4, .int (omi v4)), (5, .int (omi r131.1)), (6, .int (omi r132.1))]) (by decide) rfl dL_law_1396 ?_
                                                        refine v_aload_n C (q := 2) rfl rfl dL_law_1398 ?_
                                                        obtain ⟨r133, er133, h⟩ := om_bind h
                                                        refine v_invV_i (As := []) C mi_X12_thrown ml_L_128 (k_X12_thrown  r132.2 _ er133) (q := 27) rfl rfl rfl (by decide) (by omega) rfl (Nat.le_of_ble_eq_true rfl) dL_law_1399 ?_
                                                        refine v_iload C (q := 5) rfl dL_law_1402 ?_
                                                        refine v_icmp_eq C (tgt := 1409) dL_law_1404 rfl (fun hc => ?_) (fun hc => ?_)
                                                        · replace h := (if_pos hc).symm.trans h
                                                          refine v_iload C (q := 5) rfl dL_law_1409 ?_
                                                          refine v_if_ne C (tgt := 1426) dL_law_1411 rfl (fun hc => ?_) (fun hc => ?_)
                                                          · replace h := (if_neg hc).symm.trans h
                                                            refine v_goto C (tgt := 1929) dL_law_1426 rfl ?_
                                                            refine v_iinc C (q := 4) (ls' := [(0, .ref (G.1 14)), (1, .ref (G.1 16)), (2, .ref (G.1 43)), (3, .ref (G.1 60)), (4, .int (omi (v4 + 7))), (5, .int (omi r131.1)), (6, .int (omi r132.1))]) rfl (by decide) rfl rfl dL_law_1929 ?_
                                                            refine v_goto C (tgt := 23) dL_law_1932 rfl ?_
                                                            exact v_subp [0, 1, 2, 3, 4] rfl (ih _ _ _ _ (by omega) h FR)
                                                          · replace h := (if_pos hc).symm.trans h
                                                            refine v_aload_n C (q := 3) rfl rfl dL_law_1414 ?_
                                                            refine v_iconst C (n := 0) dL_law_1415 ?_
                                                            obtain ⟨g134, h⟩ := omg_some h
                                                            refine v_lald C (q := 44) (o := 60) (n := 1) rfl g134 dL_law_1416 ?_
                                                            refine v_iload C (q := 6) rfl dL_law_1417 ?_
                                                            refine v_i2l C dL_law_1419 ?_
                                                            refine v_lcmp C dL_law_1420 ?_
                                                            refine v_if_eq C (tgt := 1426) dL_law_1421 rfl (fun hc => ?_) (fun hc => ?_)
                                                            · replace h := (if_pos hc).symm.trans h
                                                              refine v_goto C (tgt := 1929) dL_law_1426 rfl ?_
                                                              refine v_iinc C (q := 4) (ls' := [(0, .ref (G.1 14)), (1, .ref (G.1 16)), (2, .ref (G.1 43)), (3, .ref (G.1 60)), (4, .int (omi (v4 + 7))), (5, .int (omi r131.1)), (6, .int (omi r132.1))]) rfl (by decide) rfl rfl dL_law_1929 ?_
                                                              refine v_goto C (tgt := 23) dL_law_1932 rfl ?_
                                                              exact v_subp [0, 1, 2, 3, 4] rfl (ih _ _ _ _ (by omega) h FR)
                                                            · replace h := (if_neg hc).symm.trans h
                                                              refine v_iconst C (n := 0) dL_law_1424 ?_
                                                              cases h
                                                              exact (FR _ rfl) _ _ _ _ dL_law_1425 (by omega)
                                                        · replace h := (if_neg hc).symm.trans h
                                                          refine v_iconst C (n := 0) dL_law_1407 ?_
                                                          cases h
                                                          exact (FR _ rfl) _ _ _ _ dL_law_1408 (by omega)
                                                      · replace h := (if_neg hc24).symm.trans h
                                                        by_cases hc25 : omw (omand (xs (omw v4).toNat) 63) = 25
                                                        · replace h := (if_pos hc25).symm.trans h
                                                          refine v_tabIn C (tgt := 1429) dL_law_40 hc25 (by decide) (by decide) rfl rfl ?_
                                                          unfold lc_25 at h
                                                          refine v_aload_n C (q := 1) rfl rfl dL_law_1429 ?_
                                                          refine v_aload_n C (q := 3) rfl rfl dL_law_1430 ?_
                                                          obtain ⟨r135, er135, h⟩ := om_bind h
                                                          refine v_invX_i (As := [.ref (G.1 16), .ref (G.1 60)]) C mi_L_leastLateness ml_L_211 (k_L_leastLateness  σ _ er135) rfl (by decide) (by omega) rfl (Nat.le_of_ble_eq_true rfl) dL_law_1431 ?_
                                                          refine v_istore C (ls' := [(0, .ref (G.1 14)), (1, .ref (G.1 16)), (2, .ref (G.1 43)), (3, .ref (G.1 60)), (4, .int (omi v4)), (5, .int (omi r135.1))]) (by decide) rfl dL_law_1434 ?_
                                                          refine v_aload_n C (q := 2) rfl rfl dL_law_1436 ?_
                                                          obtain ⟨r136, er136, h⟩ := om_bind h
                                                          refine v_invV_i (As := []) C mi_X12_leastLateness ml_L_213 (k_X12_leastLateness  r135.2 _ er136) (q := 27) rfl rfl rfl (by decide) (by omega) rfl (Nat.le_of_ble_eq_true rfl) dL_law_1437 ?_
                                                          refine v_istore C (ls' := [(0, .ref (G.1 14)), (1, .ref (G.1 16)), (2, .ref (G.1 43)), (3, .ref (G.1 60)), (4, .int (omi v4)), (5, .int (omi r135.1)), (6, .int (omi r136.1))]) (by decide) rfl dL_law_1440 ?_
                                                          refine v_aload_n C (q := 2) rfl rfl dL_law_1442 ?_
                                                          obtain ⟨r137, er137, h⟩ := om_bind h
                                                          refine v_invV_i (As := []) C mi_X12_thrown ml_L_128 (k_X12_thrown  r136.2 _ er137) (q := 27) rfl rfl rfl (by decide) (by omega) rfl (Nat.le_of_ble_eq_true rfl) dL_law_1443 ?_
                                                          refine v_iload C (q := 5) rfl dL_law_1446 ?_
                                                          refine v_icmp_eq C (tgt := 1453) dL_law_1448 rfl (fun hc => ?_) (fun hc => ?_)
                                                          · replace h := (if_pos hc).symm.trans h
                                                            refine v_iload C (q := 5) rfl dL_law_1453 ?_
                                                            refine v_if_ne C (tgt := 1470) dL_law_1455 rfl (fun hc => ?_) (fun hc => ?_)
                                                            · replace h := (if_neg hc).symm.trans h
                                                              refine v_goto C (tgt := 1929) dL_law_1470 rfl ?_
                                                              refine v_iinc C (q := 4) (ls' := [(0, .ref (G.1 14)), (1, .ref (G.1 16)), (2, .ref (G.1 43)), (3, .ref (G.1 60)), (4, .int (omi (v4 + 7))), (5, .int (omi r135.1)), (6, .int (omi r136.1))]) rfl (by decide) rfl rfl dL_law_1929 ?_
                                                              refine v_goto C (tgt := 23) dL_law_1932 rfl ?_
                                                              exact v_subp [0, 1, 2, 3, 4] rfl (ih _ _ _ _ (by omega) h FR)
                                                            · replace h := (if_pos hc).symm.trans h
                                                              refine v_aload_n C (q := 3) rfl rfl dL_law_1458 ?_
                                                              refine v_iconst C (n := 0) dL_law_1459 ?_
                                                              obtain ⟨g138, h⟩ := omg_some h
                                                              refine v_lald C (q := 44) (o := 60) (n := 1) rfl g138 dL_law_1460 ?_
                                                              refine v_iload C (q := 6) rfl dL_law_1461 ?_
                                                              refine v_i2l C dL_law_1463 ?_
                                                              refine v_lcmp C dL_law_1464 ?_
                                                              refine v_if_eq C (tgt := 1470) dL_law_1465 rfl (fun hc => ?_) (fun hc => ?_)
                                                              · replace h := (if_pos hc).symm.trans h
                                                                refine v_goto C (tgt := 1929) dL_law_1470 rfl ?_
                                                                refine v_iinc C (q := 4) (ls' := [(0, .ref (G.1 14)), (1, .ref (G.1 16)), (2, .ref (G.1 43)), (3, .ref (G.1 60)), (4, .int (omi (v4 + 7))), (5, .int (omi r135.1)), (6, .int (omi r136.1))]) rfl (by decide) rfl rfl dL_law_1929 ?_
                                                                refine v_goto C (tgt := 23) dL_law_1932 rfl ?_
                                                                exact v_subp [0, 1, 2, 3, 4] rfl (ih _ _ _ _ (by omega) h FR)
                                                              · replace h := (if_neg hc).symm.trans h
                                                                refine v_iconst C (n := 0) dL_law_1468 ?_
                                                                cases h
                                                                exact (FR _ rfl) _ _ _ _ dL_law_1469 (by omega)
                                                          · replace h := (if_neg hc).symm.trans h
                                                            refine v_iconst C (n := 0) dL_law_1451 ?_
                                                            cases h
                                                            exact (FR _ rfl) _ _ _ _ dL_law_1452 (by omega)
                                                        · replace h := (if_neg hc25).symm.trans h
                                                          by_cases hc26 : omw (omand (xs (omw v4).toNat) 63) = 26
                                                          · replace h := (if_pos hc26).symm.trans h
                                                            refine v_tabIn C (tgt := 1473) dL_law_40 hc26 (by decide) (by decide) rfl rfl ?_
                                                            unfold lc_26 at h
                                                            refine v_aload_n C (q := 1) rfl rfl dL_law_1473 ?_
                                                            refine v_aload_n C (q := 3) rfl rfl dL_law_1474 ?_
                                                            obtain ⟨r139, er139, h⟩ := om_bind h
                                                            refine v_invX_i (As := [.ref (G.1 16), .ref (G.1 60)]) C mi_L_leastCompletions ml_L_214 (k_L_leastCompletions  σ _ er139) rfl (by decide) (by omega) rfl (Nat.le_of_ble_eq_true rfl) dL_law_1475 ?_
                                                            refine v_istore C (ls' := [(0, .ref (G.1 14)), (1, .ref (G.1 16)), (2, .ref (G.1 43)), (3, .ref (G.1 60)), (4, .int (omi v4)), (5, .int (omi r139.1))]) (by decide) rfl dL_law_1478 ?_
                                                            refine v_aload_n C (q := 2) rfl rfl dL_law_1480 ?_
                                                            obtain ⟨r140, er140, h⟩ := om_bind h
                                                            refine v_invV_i (As := []) C mi_X12_leastCompletions ml_L_216 (k_X12_leastCompletions  r139.2 _ er140) (q := 27) rfl rfl rfl (by decide) (by omega) rfl (Nat.le_of_ble_eq_true rfl) dL_law_1481 ?_
                                                            refine v_istore C (ls' := [(0, .ref (G.1 14)), (1, .ref (G.1 16)), (2, .ref (G.1 43)), (3, .ref (G.1 60)), (4, .int (omi v4)), (5, .int (omi r139.1)), (6, .int (omi r140.1))]) (by decide) rfl dL_law_1484 ?_
                                                            refine v_aload_n C (q := 2) rfl rfl dL_law_1486 ?_
                                                            obtain ⟨r141, er141, h⟩ := om_bind h
                                                            refine v_invV_i (As := []) C mi_X12_thrown ml_L_128 (k_X12_thrown  r140.2 _ er141) (q := 27) rfl rfl rfl (by decide) (by omega) rfl (Nat.le_of_ble_eq_true rfl) dL_law_1487 ?_
                                                            refine v_iload C (q := 5) rfl dL_law_1490 ?_
                                                            refine v_icmp_eq C (tgt := 1497) dL_law_1492 rfl (fun hc => ?_) (fun hc => ?_)
                                                            · replace h := (if_pos hc).symm.trans h
                                                              refine v_iload C (q := 5) rfl dL_law_1497 ?_
                                                              refine v_if_ne C (tgt := 1514) dL_law_1499 rfl (fun hc => ?_) (fun hc => ?_)
                                                              · replace h := (if_neg hc).symm.trans h
                                                                refine v_goto C (tgt := 1929) dL_law_1514 rfl ?_
                                                                refine v_iinc C (q := 4) (ls' := [(0, .ref (G.1 14)), (1, .ref (G.1 16)), (2, .ref (G.1 43)), (3, .ref (G.1 60)), (4, .int (omi (v4 + 7))), (5, .int (omi r139.1)), (6, .int (omi r140.1))]) rfl (by decide) rfl rfl dL_law_1929 ?_
                                                                refine v_goto C (tgt := 23) dL_law_1932 rfl ?_
                                                                exact v_subp [0, 1, 2, 3, 4] rfl (ih _ _ _ _ (by omega) h FR)
                                                              · replace h := (if_pos hc).symm.trans h
                                                                refine v_aload_n C (q := 3) rfl rfl dL_law_1502 ?_
                                                                refine v_iconst C (n := 0) dL_law_1503 ?_
                                                                obtain ⟨g142, h⟩ := omg_some h
                                                                refine v_lald C (q := 44) (o := 60) (n := 1) rfl g142 dL_law_1504 ?_
                                                                refine v_iload C (q := 6) rfl dL_law_1505 ?_
                                                                refine v_i2l C dL_law_1507 ?_
                                                                refine v_lcmp C dL_law_1508 ?_
                                                                refine v_if_eq C (tgt := 1514) dL_law_1509 rfl (fun hc => ?_) (fun hc => ?_)
                                                                · replace h := (if_pos hc).symm.trans h
                                                                  refine v_goto C (tgt := 1929) dL_law_1514 rfl ?_
                                                                  refine v_iinc C (q := 4) (ls' := [(0, .ref (G.1 14)), (1, .ref (G.1 16)), (2, .ref (G.1 43)), (3, .ref (G.1 60)), (4, .int (omi (v4 + 7))), (5, .int (omi r139.1)), (6, .int (omi r140.1))]) rfl (by decide) rfl rfl dL_law_1929 ?_
                                                                  refine v_goto C (tgt := 23) dL_law_1932 rfl ?_
                                                                  exact v_subp [0, 1, 2, 3, 4] rfl (ih _ _ _ _ (by omega) h FR)
                                                                · replace h := (if_neg hc).symm.trans h
                                                                  refine v_iconst C (n := 0) dL_law_1512 ?_
                                                                  cases h
                                                                  exact (FR _ rfl) _ _ _ _ dL_law_1513 (by omega)
                                                            · replace h := (if_neg hc).symm.trans h
                                                              refine v_iconst C (n := 0) dL_law_1495 ?_
                                                              cases h
                                                              exact (FR _ rfl) _ _ _ _ dL_law_1496 (by omega)
                                                          · replace h := (if_neg hc26).symm.trans h
                                                            by_cases hc27 : omw (omand (xs (omw v4).toNat) 63) = 27
                                                            · replace h := (if_pos hc27).symm.trans h
                                                              refine v_tabIn C (tgt := 1517) dL_law_40 hc27 (by decide) (by decide) rfl rfl ?_
                                                              unfold lc_27 at h
                                                              refine v_aload_n C (q := 1) rfl rfl dL_law_1517 ?_
                                                              refine v_aload_n C (q := 3) rfl rfl dL_law_1518 ?_
                                                              obtain ⟨r143, er143, h⟩ := om_bind h
                                                              refine v_invX_i (As := [.ref (G.1 16), .ref (G.1 60)]) C mi_L_leastTardiness ml_L_217 (k_L_leastTardiness  σ _ er143) rfl (by decide) (by omega) rfl (Nat.le_of_ble_eq_true rfl) dL_law_1519 ?_
                                                              refine v_istore C (ls' := [(0, .ref (G.1 14)), (1, .ref (G.1 16)), (2, .ref (G.1 43)), (3, .ref (G.1 60)), (4, .int (omi v4)), (5, .int (omi r143.1))]) (by decide) rfl dL_law_1522 ?_
                                                              refine v_aload_n C (q := 2) rfl rfl dL_law_1524 ?_
                                                              obtain ⟨r144, er144, h⟩ := om_bind h
                                                              refine v_invV_i (As := []) C mi_X12_leastTardiness ml_L_219 (k_X12_leastTardiness  r143.2 _ er144) (q := 27) rfl rfl rfl (by decide) (by omega) rfl (Nat.le_of_ble_eq_true rfl) dL_law_1525 ?_
                                                              refine v_istore C (ls' := [(0, .ref (G.1 14)), (1, .ref (G.1 16)), (2, .ref (G.1 43)), (3, .ref (G.1 60)), (4, .int (omi v4)), (5, .int (omi r143.1)), (6, .int (omi r144.1))]) (by decide) rfl dL_law_1528 ?_
                                                              refine v_aload_n C (q := 2) rfl rfl dL_law_1530 ?_
                                                              obtain ⟨r145, er145, h⟩ := om_bind h
                                                              refine v_invV_i (As := []) C mi_X12_thrown ml_L_128 (k_X12_thrown  r144.2 _ er145) (q := 27) rfl rfl rfl (by decide) (by omega) rfl (Nat.le_of_ble_eq_true rfl) dL_law_1531 ?_
                                                              refine v_iload C (q := 5) rfl dL_law_1534 ?_
                                                              refine v_icmp_eq C (tgt := 1541) dL_law_1536 rfl (fun hc => ?_) (fun hc => ?_)
                                                              · replace h := (if_pos hc).symm.trans h
                                                                refine v_iload C (q := 5) rfl dL_law_1541 ?_
                                                                refine v_if_ne C (tgt := 1558) dL_law_1543 rfl (fun hc => ?_) (fun hc => ?_)
                                                                · replace h := (if_neg hc).symm.trans h
                                                                  refine v_goto C (tgt := 1929) dL_law_1558 rfl ?_
                                                                  refine v_iinc C (q := 4) (ls' := [(0, .ref (G.1 14)), (1, .ref (G.1 16)), (2, .ref (G.1 43)), (3, .ref (G.1 60)), (4, .int (omi (v4 + 7))), (5, .int (omi r143.1)), (6, .int (omi r144.1))]) rfl (by decide) rfl rfl dL_law_1929 ?_
                                                                  refine v_goto C (tgt := 23) dL_law_1932 rfl ?_
                                                                  exact v_subp [0, 1, 2, 3, 4] rfl (ih _ _ _ _ (by omega) h FR)
                                                                · replace h := (if_pos hc).symm.trans h
                                                                  refine v_aload_n C (q := 3) rfl rfl dL_law_1546 ?_
                                                                  refine v_iconst C (n := 0) dL_law_1547 ?_
                                                                  obtain ⟨g146, h⟩ := omg_some h
                                                                  refine v_lald C (q := 44) (o := 60) (n := 1) rfl g146 dL_law_1548 ?_
                                                                  refine v_iload C (q := 6) rfl dL_law_1549 ?_
                                                                  refine v_i2l C dL_law_1551 ?_
                                                                  refine v_lcmp C dL_law_1552 ?_
                                                                  refine v_if_eq C (tgt := 1558) dL_law_1553 rfl (fun hc => ?_) (fun hc => ?_)
                                                                  · replace h := (if_pos hc).symm.trans h
                                                                    refine v_goto C (tgt := 1929) dL_law_1558 rfl ?_
                                                                    refine v_iinc C (q := 4) (ls' := [(0, .ref (G.1 14)), (1, .ref (G.1 16)), (2, .ref (G.1 43)), (3, .ref (G.1 60)), (4, .int (omi (v4 + 7))), (5, .int (omi r143.1)), (6, .int (omi r144.1))]) rfl (by decide) rfl rfl dL_law_1929 ?_
                                                                    refine v_goto C (tgt := 23) dL_law_1932 rfl ?_
                                                                    exact v_subp [0, 1, 2, 3, 4] rfl (ih _ _ _ _ (by omega) h FR)
                                                                  · replace h := (if_neg hc).symm.trans h
                                                                    refine v_iconst C (n := 0) dL_law_1556 ?_
                                                                    cases h
                                                                    exact (FR _ rfl) _ _ _ _ dL_law_1557 (by omega)
                                                              · replace h := (if_neg hc).symm.trans h
                                                                refine v_iconst C (n := 0) dL_law_1539 ?_
                                                                cases h
                                                                exact (FR _ rfl) _ _ _ _ dL_law_1540 (by omega)
                                                            · replace h := (if_neg hc27).symm.trans h
                                                              by_cases hc28 : omw (omand (xs (omw v4).toNat) 63) = 28
                                                              · replace h := (if_pos hc28).symm.trans h
                                                                refine v_tabIn C (tgt := 1561) dL_law_40 hc28 (by decide) (by decide) rfl rfl ?_
                                                                unfold lc_28 at h
                                                                refine v_aload_n C (q := 1) rfl rfl dL_law_1561 ?_
                                                                refine v_aload_n C (q := 3) rfl rfl dL_law_1562 ?_
                                                                obtain ⟨r147, er147, h⟩ := om_bind h
                                                                refine v_invX_i (As := [.ref (G.1 16), .ref (G.1 60)]) C mi_L_leastWithSetups ml_L_220 (k_L_leastWithSetups  σ _ er147) rfl (by decide) (by omega) rfl (Nat.le_of_ble_eq_true rfl) dL_law_1563 ?_
                                                                refine v_istore C (ls' := [(0, .ref (G.1 14)), (1, .ref (G.1 16)), (2, .ref (G.1 43)), (3, .ref (G.1 60)), (4, .int (omi v4)), (5, .int (omi r147.1))]) (by decide) rfl dL_law_1566 ?_
                                                                refine v_aload_n C (q := 2) rfl rfl dL_law_1568 ?_
                                                                obtain ⟨r148, er148, h⟩ := om_bind h
                                                                refine v_invV_i (As := []) C mi_X12_leastWithSetups ml_L_222 (k_X12_leastWithSetups  r147.2 _ er148) (q := 27) rfl rfl rfl (by decide) (by omega) rfl (Nat.le_of_ble_eq_true rfl) dL_law_1569 ?_
                                                                refine v_istore C (ls' := [(0, .ref (G.1 14)), (1, .ref (G.1 16)), (2, .ref (G.1 43)), (3, .ref (G.1 60)), (4, .int (omi v4)), (5, .int (omi r147.1)), (6, .int (omi r148.1))]) (by decide) rfl dL_law_1572 ?_
                                                                refine v_aload_n C (q := 2) rfl rfl dL_law_1574 ?_
                                                                obtain ⟨r149, er149, h⟩ := om_bind h
                                                                refine v_invV_i (As := []) C mi_X12_thrown ml_L_128 (k_X12_thrown  r148.2 _ er149) (q := 27) rfl rfl rfl (by decide) (by omega) rfl (Nat.le_of_ble_eq_true rfl) dL_law_1575 ?_
                                                                refine v_iload C (q := 5) rfl dL_law_1578 ?_
                                                                refine v_icmp_eq C (tgt := 1585) dL_law_1580 rfl (fun hc => ?_) (fun hc => ?_)
                                                                · replace h := (if_pos hc).symm.trans h
                                                                  refine v_iload C (q := 5) rfl dL_law_1585 ?_
                                                                  refine v_if_ne C (tgt := 1602) dL_law_1587 rfl (fun hc => ?_) (fun hc => ?_)
                                                                  · replace h := (if_neg hc).symm.trans h
                                                                    refine v_goto C (tgt := 1929) dL_law_1602 rfl ?_
                                                                    refine v_iinc C (q := 4) (ls' := [(0, .ref (G.1 14)), (1, .ref (G.1 16)), (2, .ref (G.1 43)), (3, .ref (G.1 60)), (4, .int (omi (v4 + 7))), (5, .int (omi r147.1)), (6, .int (omi r148.1))]) rfl (by decide) rfl rfl dL_law_1929 ?_
                                                                    refine v_goto C (tgt := 23) dL_law_1932 rfl ?_
                                                                    exact v_subp [0, 1, 2, 3, 4] rfl (ih _ _ _ _ (by omega) h FR)
                                                                  · replace h := (if_pos hc).symm.trans h
                                                                    refine v_aload_n C (q := 3) rfl rfl dL_law_1590 ?_
                                                                    refine v_iconst C (n := 0) dL_law_1591 ?_
                                                                    obtain ⟨g150, h⟩ := omg_some h
                                                                    refine v_lald C (q := 44) (o := 60) (n := 1) rfl g150 dL_law_1592 ?_
                                                                    refine v_iload C (q := 6) rfl dL_law_1593 ?_
                                                                    refine v_i2l C dL_law_1595 ?_
                                                                    refine v_lcmp C dL_law_1596 ?_
                                                                    refine v_if_eq C (tgt := 1602) dL_law_1597 rfl (fun hc => ?_) (fun hc => ?_)
                                                                    · replace h := (if_pos hc).symm.trans h
                                                                      refine v_goto C (tgt := 1929) dL_law_1602 rfl ?_
                                                                      refine v_iinc C (q := 4) (ls' := [(0, .ref (G.1 14)), (1, .ref (G.1 16)), (2, .ref (G.1 43)), (3, .ref (G.1 60)), (4, .int (omi (v4 + 7))), (5, .int (omi r147.1)), (6, .int (omi r148.1))]) rfl (by decide) rfl rfl dL_law_1929 ?_
                                                                      refine v_goto C (tgt := 23) dL_law_1932 rfl ?_
                                                                      exact v_subp [0, 1, 2, 3, 4] rfl (ih _ _ _ _ (by omega) h FR)
                                                                    · replace h := (if_neg hc).symm.trans h
                                                                      refine v_iconst C (n := 0) dL_law_1600 ?_
                                                                      cases h
                                                                      exact (FR _ rfl) _ _ _ _ dL_law_1601 (by omega)
                                                                · replace h := (if_neg hc).symm.trans h
                                                                  refine v_iconst C (n := 0) dL_law_1583 ?_
                                                                  cases h
                                                                  exact (FR _ rfl) _ _ _ _ dL_law_1584 (by omega)
                                                              · replace h := (if_neg hc28).symm.trans h
                                                                by_cases hc29 : omw (omand (xs (omw v4).toNat) 63) = 29
                                                                · replace h := (if_pos hc29).symm.trans h
                                                                  refine v_tabIn C (tgt := 1605) dL_law_40 hc29 (by decide) (by decide) rfl rfl ?_
                                                                  unfold lc_29 at h
                                                                  refine v_aload_n C (q := 1) rfl rfl dL_law_1605 ?_
                                                                  refine v_aload_n C (q := 3) rfl rfl dL_law_1606 ?_
                                                                  obtain ⟨r151, er151, h⟩ := om_bind h
                                                                  refine v_invX_i (As := [.ref (G.1 16), .ref (G.1 60)]) C mi_L_leastPreemptiveLateness ml_L_223 (k_L_leastPreemptiveLateness  σ _ er151) rfl (by decide) (by omega) rfl (Nat.le_of_ble_eq_true rfl) dL_law_1607 ?_
                                                                  refine v_istore C (ls' := [(0, .ref (G.1 14)), (1, .ref (G.1 16)), (2, .ref (G.1 43)), (3, .ref (G.1 60)), (4, .int (omi v4)), (5, .int (omi r151.1))]) (by decide) rfl dL_law_1610 ?_
                                                                  refine v_aload_n C (q := 2) rfl rfl dL_law_1612 ?_
                                                                  obtain ⟨r152, er152, h⟩ := om_bind h
                                                                  refine v_invV_i (As := []) C mi_X12_leastPreemptiveLateness ml_L_225 (k_X12_leastPreemptiveLateness  r151.2 _ er152) (q := 27) rfl rfl rfl (by decide) (by omega) rfl (Nat.le_of_ble_eq_true rfl) dL_law_1613 ?_
                                                                  refine v_istore C (ls' := [(0, .ref (G.1 14)), (1, .ref (G.1 16)), (2, .ref (G.1 43)), (3, .ref (G.1 60)), (4, .int (omi v4)), (5, .int (omi r151.1)), (6, .int (omi r152.1))]) (by decide) rfl dL_law_1616 ?_
                                                                  refine v_aload_n C (q := 2) rfl rfl dL_law_1618 ?_
                                                                  obtain ⟨r153, er153, h⟩ := om_bind h
                                                                  refine v_invV_i (As := []) C mi_X12_thrown ml_L_128 (k_X12_thrown  r152.2 _ er153) (q := 27) rfl rfl rfl (by decide) (by omega) rfl (Nat.le_of_ble_eq_true rfl) dL_law_1619 ?_
                                                                  refine v_iload C (q := 5) rfl dL_law_1622 ?_
                                                                  refine v_icmp_eq C (tgt := 1629) dL_law_1624 rfl (fun hc => ?_) (fun hc => ?_)
                                                                  · replace h := (if_pos hc).symm.trans h
                                                                    refine v_iload C (q := 5) rfl dL_law_1629 ?_
                                                                    refine v_if_ne C (tgt := 1646) dL_law_1631 rfl (fun hc => ?_) (fun hc => ?_)
                                                                    · replace h := (if_neg hc).symm.trans h
                                                                      refine v_goto C (tgt := 1929) dL_law_1646 rfl ?_
                                                                      refine v_iinc C (q := 4) (ls' := [(0, .ref (G.1 14)), (1, .ref (G.1 16)), (2, .ref (G.1 43)), (3, .ref (G.1 60)), (4, .int (omi (v4 + 7))), (5, .int (omi r151.1)), (6, .int (omi r152.1))]) rfl (by decide) rfl rfl dL_law_1929 ?_
                                                                      refine v_goto C (tgt := 23) dL_law_1932 rfl ?_
                                                                      exact v_subp [0, 1, 2, 3, 4] rfl (ih _ _ _ _ (by omega) h FR)
                                                                    · replace h := (if_pos hc).symm.trans h
                                                                      refine v_aload_n C (q := 3) rfl rfl dL_law_1634 ?_
                                                                      refine v_iconst C (n := 0) dL_law_1635 ?_
                                                                      obtain ⟨g154, h⟩ := omg_some h
                                                                      refine v_lald C (q := 44) (o := 60) (n := 1) rfl g154 dL_law_1636 ?_
                                                                      refine v_iload C (q := 6) rfl dL_law_1637 ?_
                                                                      refine v_i2l C dL_law_1639 ?_
                                                                      refine v_lcmp C dL_law_1640 ?_
                                                                      refine v_if_eq C (tgt := 1646) dL_law_1641 rfl (fun hc => ?_) (fun hc => ?_)
                                                                      · replace h := (if_pos hc).symm.trans h
                                                                        refine v_goto C (tgt := 1929) dL_law_1646 rfl ?_
                                                                        refine v_iinc C (q := 4) (ls' := [(0, .ref (G.1 14)), (1, .ref (G.1 16)), (2, .ref (G.1 43)), (3, .ref (G.1 60)), (4, .int (omi (v4 + 7))), (5, .int (omi r151.1)), (6, .int (omi r152.1))]) rfl (by decide) rfl rfl dL_law_1929 ?_
                                                                        refine v_goto C (tgt := 23) dL_law_1932 rfl ?_
                                                                        exact v_subp [0, 1, 2, 3, 4] rfl (ih _ _ _ _ (by omega) h FR)
                                                                      · replace h := (if_neg hc).symm.trans h
                                                                        refine v_iconst C (n := 0) dL_law_1644 ?_
                                                                        cases h
                                                                        exact (FR _ rfl) _ _ _ _ dL_law_1645 (by omega)
                                                                  · replace h := (if_neg hc).symm.trans h
                                                                    refine v_iconst C (n := 0) dL_law_1627 ?_
                                                                    cases h
                                                                    exact (FR _ rfl) _ _ _ _ dL_law_1628 (by omega)
                                                                · replace h := (if_neg hc29).symm.trans h
                                                                  by_cases hc30 : omw (omand (xs (omw v4).toNat) 63) = 30
                                                                  · replace h := (if_pos hc30).symm.trans h
                                                                    refine v_tabIn C (tgt := 1649) dL_law_40 hc30 (by decide) (by decide) rfl rfl ?_
                                                                    unfold lc_30 at h
                                                                    refine v_aload_n C (q := 1) rfl rfl dL_law_1649 ?_
                                                                    refine v_aload_n C (q := 3) rfl rfl dL_law_1650 ?_
                                                                    obtain ⟨r155, er155, h⟩ := om_bind h
                                                                    refine v_invX_i (As := [.ref (G.1 16), .ref (G.1 60)]) C mi_L_leastPreemptiveCompletions ml_L_226 (k_L_leastPreemptiveCompletions  σ _ er155) rfl (by decide) (by omega) rfl (Nat.le_of_ble_eq_true rfl) dL_law_1651 ?_
                                                                    refine v_istore C (ls' := [(0, .ref (G.1 14)), (1, .ref (G.1 16)), (2, .ref (G.1 43)), (3, .ref (G.1 60)), (4, .int (omi v4)), (5, .int (omi r155.1))]) (by decide) rfl dL_law_1654 ?_
                                                                    refine v_aload_n C (q := 2) rfl rfl dL_law_1656 ?_
                                                                    obtain ⟨r156, er156, h⟩ := om_bind h
                                                                    refine v_invV_i (As := []) C mi_X12_leastPreemptiveCompletions ml_L_228 (k_X12_leastPreemptiveCompletions  r155.2 _ er156) (q := 27) rfl rfl rfl (by decide) (by omega) rfl (Nat.le_of_ble_eq_true rfl) dL_law_1657 ?_
                                                                    refine v_istore C (ls' := [(0, .ref (G.1 14)), (1, .ref (G.1 16)), (2, .ref (G.1 43)), (3, .ref (G.1 60)), (4, .int (omi v4)), (5, .int (omi r155.1)), (6, .int (omi r156.1))]) (by decide) rfl dL_law_1660 ?_
                                                                    refine v_aload_n C (q := 2) rfl rfl dL_law_1662 ?_
                                                                    obtain ⟨r157, er157, h⟩ := om_bind h
                                                                    refine v_invV_i (As := []) C mi_X12_thrown ml_L_128 (k_X12_thrown  r156.2 _ er157) (q := 27) rfl rfl rfl (by decide) (by omega) rfl (Nat.le_of_ble_eq_true rfl) dL_law_1663 ?_
                                                                    refine v_iload C (q := 5) rfl dL_law_1666 ?_
                                                                    refine v_icmp_eq C (tgt := 1673) dL_law_1668 rfl (fun hc => ?_) (fun hc => ?_)
                                                                    · replace h := (if_pos hc).symm.trans h
                                                                      refine v_iload C (q := 5) rfl dL_law_1673 ?_
                                                                      refine v_if_ne C (tgt := 1690) dL_law_1675 rfl (fun hc => ?_) (fun hc => ?_)
                                                                      · replace h := (if_neg hc).symm.trans h
                                                                        refine v_goto C (tgt := 1929) dL_law_1690 rfl ?_
                                                                        refine v_iinc C (q := 4) (ls' := [(0, .ref (G.1 14)), (1, .ref (G.1 16)), (2, .ref (G.1 43)), (3, .ref (G.1 60)), (4, .int (omi (v4 + 7))), (5, .int (omi r155.1)), (6, .int (omi r156.1))]) rfl (by decide) rfl rfl dL_law_1929 ?_
                                                                        refine v_goto C (tgt := 23) dL_law_1932 rfl ?_
                                                                        exact v_subp [0, 1, 2, 3, 4] rfl (ih _ _ _ _ (by omega) h FR)
                                                                      · replace h := (if_pos hc).symm.trans h
                                                                        refine v_aload_n C (q := 3) rfl rfl dL_law_1678 ?_
                                                                        refine v_iconst C (n := 0) dL_law_1679 ?_
                                                                        obtain ⟨g158, h⟩ := omg_some h
                                                                        refine v_lald C (q := 44) (o := 60) (n := 1) rfl g158 dL_law_1680 ?_
                                                                        refine v_iload C (q := 6) rfl dL_law_1681 ?_
                                                                        refine v_i2l C dL_law_1683 ?_
                                                                        refine v_lcmp C dL_law_1684 ?_
                                                                        refine v_if_eq C (tgt := 1690) dL_law_1685 rfl (fun hc => ?_) (fun hc => ?_)
                                                                        · replace h := (if_pos hc).symm.trans h
                                                                          refine v_goto C (tgt := 1929) dL_law_1690 rfl ?_
                                                                          refine v_iinc C (q := 4) (ls' := [(0, .ref (G.1 14)), (1, .ref (G.1 16)), (2, .ref (G.1 43)), (3, .ref (G.1 60)), (4, .int (omi (v4 + 7))), (5, .int (omi r155.1)), (6, .int (omi r156.1))]) rfl (by decide) rfl rfl dL_law_1929 ?_
                                                                          refine v_goto C (tgt := 23) dL_law_1932 rfl ?_
                                                                          exact v_subp [0, 1, 2, 3, 4] rfl (ih _ _ _ _ (by omega) h FR)
                                                                        · replace h := (if_neg hc).symm.trans h
                                                                          refine v_iconst C (n := 0) dL_law_1688 ?_
                                                                          cases h
                                                                          exact (FR _ rfl) _ _ _ _ dL_law_1689 (by omega)
                                                                    · replace h := (if_neg hc).symm.trans h
                                                                      refine v_iconst C (n := 0) dL_law_1671 ?_
                                                                      cases h
                                                                      exact (FR _ rfl) _ _ _ _ dL_law_1672 (by omega)
                                                                  · replace h := (if_neg hc30).symm.trans h
                                                                    by_cases hc31 : omw (omand (xs (omw v4).toNat) 63) = 31
                                                                    · replace h := (if_pos hc31).symm.trans h
                                                                      refine v_tabIn C (tgt := 1693) dL_law_40 hc31 (by decide) (by decide) rfl rfl ?_
                                                                      unfold lc_31 at h
                                                                      refine v_aload_n C (q := 1) rfl rfl dL_law_1693 ?_
                                                                      refine v_aload_n C (q := 0) rfl rfl dL_law_1694 ?_
                                                                      refine v_iload C (q := 4) rfl dL_law_1695 ?_
                                                                      refine v_iconst C (n := 1) dL_law_1697 ?_
                                                                      refine v_iadd C dL_law_1698 ?_
                                                                      obtain ⟨g159, h⟩ := omg_some h
                                                                      refine v_scrldx C hL hxs g159 dL_law_1699 ?_
                                                                      refine v_aload_n C (q := 3) rfl rfl dL_law_1700 ?_
                                                                      obtain ⟨r160, er160, h⟩ := om_bind h
                                                                      refine v_invX_i (As := [.ref (G.1 16), .int (omi (xs (omw (v4 + 1)).toNat)), .ref (G.1 60)]) C mi_L_canBeOnTime ml_L_229 (k_L_canBeOnTime (xs (omw (v4 + 1)).toNat) σ _ er160) rfl (by decide) (by omega) rfl (Nat.le_of_ble_eq_true rfl) dL_law_1701 ?_
                                                                      refine v_istore C (ls' := [(0, .ref (G.1 14)), (1, .ref (G.1 16)), (2, .ref (G.1 43)), (3, .ref (G.1 60)), (4, .int (omi v4)), (5, .int (omi r160.1))]) (by decide) rfl dL_law_1704 ?_
                                                                      refine v_aload_n C (q := 2) rfl rfl dL_law_1706 ?_
                                                                      refine v_aload_n C (q := 0) rfl rfl dL_law_1707 ?_
                                                                      refine v_iload C (q := 4) rfl dL_law_1708 ?_
                                                                      refine v_iconst C (n := 1) dL_law_1710 ?_
                                                                      refine v_iadd C dL_law_1711 ?_
                                                                      obtain ⟨g161, h⟩ := omg_some h
                                                                      refine v_scrldx C hL hxs g161 dL_law_1712 ?_
                                                                      obtain ⟨r162, er162, h⟩ := om_bind h
                                                                      refine v_invV_i (As := [.int (omi (xs (omw (v4 + 1)).toNat))]) C mi_X12_canBeOnTime ml_L_231 (k_X12_canBeOnTime (xs (omw (v4 + 1)).toNat) r160.2 _ er162) (q := 27) rfl rfl rfl (by decide) (by omega) rfl (Nat.le_of_ble_eq_true rfl) dL_law_1713 ?_
                                                                      refine v_istore C (ls' := [(0, .ref (G.1 14)), (1, .ref (G.1 16)), (2, .ref (G.1 43)), (3, .ref (G.1 60)), (4, .int (omi v4)), (5, .int (omi r160.1)), (6, .int (omi r162.1))]) (by decide) rfl dL_law_1716 ?_
                                                                      refine v_aload_n C (q := 2) rfl rfl dL_law_1718 ?_
                                                                      obtain ⟨r163, er163, h⟩ := om_bind h
                                                                      refine v_invV_i (As := []) C mi_X12_thrown ml_L_128 (k_X12_thrown  r162.2 _ er163) (q := 27) rfl rfl rfl (by decide) (by omega) rfl (Nat.le_of_ble_eq_true rfl) dL_law_1719 ?_
                                                                      refine v_iload C (q := 5) rfl dL_law_1722 ?_
                                                                      refine v_icmp_eq C (tgt := 1729) dL_law_1724 rfl (fun hc => ?_) (fun hc => ?_)
                                                                      · replace h := (if_pos hc).symm.trans h
                                                                        refine v_iload C (q := 5) rfl dL_law_1729 ?_
                                                                        refine v_if_ne C (tgt := 1753) dL_law_1731 rfl (fun hc => ?_) (fun hc => ?_)
                                                                        · replace h := (if_neg hc).symm.trans h
                                                                          refine v_goto C (tgt := 1929) dL_law_1753 rfl ?_
                                                                          refine v_iinc C (q := 4) (ls' := [(0, .ref (G.1 14)), (1, .ref (G.1 16)), (2, .ref (G.1 43)), (3, .ref (G.1 60)), (4, .int (omi (v4 + 7))), (5, .int (omi r160.1)), (6, .int (omi r162.1))]) rfl (by decide) rfl rfl dL_law_1929 ?_
                                                                          refine v_goto C (tgt := 23) dL_law_1932 rfl ?_
                                                                          exact v_subp [0, 1, 2, 3, 4] rfl (ih _ _ _ _ (by omega) h FR)
                                                                        · replace h := (if_pos hc).symm.trans h
                                                                          refine v_aload_n C (q := 3) rfl rfl dL_law_1734 ?_
                                                                          refine v_iconst C (n := 0) dL_law_1735 ?_
                                                                          obtain ⟨g164, h⟩ := omg_some h
                                                                          refine v_lald C (q := 44) (o := 60) (n := 1) rfl g164 dL_law_1736 ?_
                                                                          refine v_iload C (q := 6) rfl dL_law_1737 ?_
                                                                          obtain ⟨t165, et165, h⟩ := om_bind h
                                                                          have Jt165 : omV G x 7 1747 [(0, .ref (G.1 14)), (1, .ref (G.1 16)), (2, .ref (G.1 43)), (3, .ref (G.1 60)), (4, .int (omi v4))] [.long (Int64.ofInt t165), .long (Int64.ofInt (r162.2 60 (omw 0).toNat))] r162.2 (k + 1) := by
                                                                            refine v_lcmp C dL_law_1747 ?_
                                                                            refine v_if_eq C (tgt := 1753) dL_law_1748 rfl (fun hc => ?_) (fun hc => ?_)
                                                                            · replace h := (if_pos hc).symm.trans h
                                                                              refine v_goto C (tgt := 1929) dL_law_1753 rfl ?_
                                                                              refine v_iinc C (q := 4) (ls' := [(0, .ref (G.1 14)), (1, .ref (G.1 16)), (2, .ref (G.1 43)), (3, .ref (G.1 60)), (4, .int (omi (v4 + 7)))]) rfl (by decide) rfl rfl dL_law_1929 ?_
                                                                              refine v_goto C (tgt := 23) dL_law_1932 rfl ?_
                                                                              exact ih _ _ _ _ (by omega) h FR
                                                                            · replace h := (if_neg hc).symm.trans h
                                                                              refine v_iconst C (n := 0) dL_law_1751 ?_
                                                                              cases h
                                                                              exact (FR _ rfl) _ _ _ _ dL_law_1752 (by omega)
                                                                          clear h
                                                                          have h := et165
                                                                          clear et165
                                                                          refine v_if_eq C (tgt := 1746) dL_law_1739 rfl (fun hc => ?_) (fun hc => ?_)
                                                                          · replace h := (if_pos hc).symm.trans h
                                                                            refine v_lconst C (a := 0) rfl dL_law_1746 ?_
                                                                            cases h
                                                                            exact v_subp [0, 1, 2, 3, 4] rfl Jt165
                                                                          · replace h := (if_neg hc).symm.trans h
                                                                            refine v_lconst C (a := 1) rfl dL_law_1742 ?_
                                                                            refine v_goto C (tgt := 1747) dL_law_1743 rfl ?_
                                                                            cases h
                                                                            exact v_subp [0, 1, 2, 3, 4] rfl Jt165
                                                                      · replace h := (if_neg hc).symm.trans h
                                                                        refine v_iconst C (n := 0) dL_law_1727 ?_
                                                                        cases h
                                                                        exact (FR _ rfl) _ _ _ _ dL_law_1728 (by omega)
                                                                    · replace h := (if_neg hc31).symm.trans h
                                                                      by_cases hc32 : omw (omand (xs (omw v4).toNat) 63) = 32
                                                                      · replace h := (if_pos hc32).symm.trans h
                                                                        refine v_tabIn C (tgt := 1756) dL_law_40 hc32 (by decide) (by decide) rfl rfl ?_
                                                                        unfold lc_32 at h
                                                                        refine v_aload_n C (q := 1) rfl rfl dL_law_1756 ?_
                                                                        obtain ⟨r166, er166, h⟩ := om_bind h
                                                                        refine v_invV_i (As := []) C mi_X11_fewestLateBySets ml_L_232 (k_X11_fewestLateBySets  σ _ er166) (q := 0) rfl rfl rfl (by decide) (by omega) rfl (Nat.le_of_ble_eq_true rfl) dL_law_1757 ?_
                                                                        refine v_aload_n C (q := 2) rfl rfl dL_law_1760 ?_
                                                                        obtain ⟨r167, er167, h⟩ := om_bind h
                                                                        refine v_invV_i (As := []) C mi_X12_fewestLateBySets ml_L_235 (k_X12_fewestLateBySets  r166.2 _ er167) (q := 27) rfl rfl rfl (by decide) (by omega) rfl (Nat.le_of_ble_eq_true rfl) dL_law_1761 ?_
                                                                        refine v_icmp_eq C (tgt := 1929) dL_law_1764 rfl (fun hc => ?_) (fun hc => ?_)
                                                                        · replace h := (if_pos hc).symm.trans h
                                                                          refine v_iinc C (q := 4) (ls' := [(0, .ref (G.1 14)), (1, .ref (G.1 16)), (2, .ref (G.1 43)), (3, .ref (G.1 60)), (4, .int (omi (v4 + 7)))]) rfl (by decide) rfl rfl dL_law_1929 ?_
                                                                          refine v_goto C (tgt := 23) dL_law_1932 rfl ?_
                                                                          exact ih _ _ _ _ (by omega) h FR
                                                                        · replace h := (if_neg hc).symm.trans h
                                                                          refine v_iconst C (n := 0) dL_law_1767 ?_
                                                                          cases h
                                                                          exact (FR _ rfl) _ _ _ _ dL_law_1768 (by omega)
                                                                      · replace h := (if_neg hc32).symm.trans h
                                                                        by_cases hc33 : omw (omand (xs (omw v4).toNat) 63) = 33
                                                                        · replace h := (if_pos hc33).symm.trans h
                                                                          refine v_tabIn C (tgt := 1769) dL_law_40 hc33 (by decide) (by decide) rfl rfl ?_
                                                                          unfold lc_33 at h
                                                                          refine v_aload_n C (q := 1) rfl rfl dL_law_1769 ?_
                                                                          refine v_aload_n C (q := 0) rfl rfl dL_law_1770 ?_
                                                                          refine v_iload C (q := 4) rfl dL_law_1771 ?_
                                                                          refine v_iconst C (n := 1) dL_law_1773 ?_
                                                                          refine v_iadd C dL_law_1774 ?_
                                                                          obtain ⟨g168, h⟩ := omg_some h
                                                                          refine v_scrldx C hL hxs g168 dL_law_1775 ?_
                                                                          obtain ⟨t169, et169, h⟩ := om_bind h
                                                                          have Jt169 : omV G x 7 1784 [(0, .ref (G.1 14)), (1, .ref (G.1 16)), (2, .ref (G.1 43)), (3, .ref (G.1 60)), (4, .int (omi v4))] [.int (omi t169), .ref (G.1 16)] σ k := by
                                                                            refine v_aload_n C (q := 3) rfl rfl dL_law_1784 ?_
                                                                            obtain ⟨r170, er170, h⟩ := om_bind h
                                                                            refine v_invX_i (As := [.ref (G.1 16), .int (omi t169), .ref (G.1 60)]) C mi_L_windowBound ml_L_236 (k_L_windowBound t169 σ _ er170) rfl (by decide) (by omega) rfl (Nat.le_of_ble_eq_true rfl) dL_law_1785 ?_
                                                                            refine v_istore C (ls' := [(0, .ref (G.1 14)), (1, .ref (G.1 16)), (2, .ref (G.1 43)), (3, .ref (G.1 60)), (4, .int (omi v4)), (5, .int (omi r170.1))]) (by decide) rfl dL_law_1788 ?_
                                                                            refine v_aload_n C (q := 2) rfl rfl dL_law_1790 ?_
                                                                            refine v_aload_n C (q := 0) rfl rfl dL_law_1791 ?_
                                                                            refine v_iload C (q := 4) rfl dL_law_1792 ?_
                                                                            refine v_iconst C (n := 1) dL_law_1794 ?_
                                                                            refine v_iadd C dL_law_1795 ?_
                                                                            obtain ⟨g171, h⟩ := omg_some h
                                                                            refine v_scrldx C hL hxs g171 dL_law_1796 ?_
                                                                            obtain ⟨t172, et172, h⟩ := om_bind h
                                                                            have Jt172 : omV G x 7 1805 [(0, .ref (G.1 14)), (1, .ref (G.1 16)), (2, .ref (G.1 43)), (3, .ref (G.1 60)), (4, .int (omi v4)), (5, .int (omi r170.1))] [.int (omi t172), .ref (G.1 43)] r170.2 (k + 1) := by
                                                                              obtain ⟨r173, er173, h⟩ := om_bind h
                                                                              refine v_invV_i (As := [.int (omi t172)]) C mi_X12_windowBound ml_L_239 (k_X12_windowBound t172 r170.2 _ er173) (q := 27) rfl rfl rfl (by decide) (by omega) rfl (Nat.le_of_ble_eq_true rfl) dL_law_1805 ?_
                                                                              refine v_istore C (ls' := [(0, .ref (G.1 14)), (1, .ref (G.1 16)), (2, .ref (G.1 43)), (3, .ref (G.1 60)), (4, .int (omi v4)), (5, .int (omi r170.1)), (6, .int (omi r173.1))]) (by decide) rfl dL_law_1808 ?_
                                                                              refine v_aload_n C (q := 2) rfl rfl dL_law_1810 ?_
                                                                              obtain ⟨r174, er174, h⟩ := om_bind h
                                                                              refine v_invV_i (As := []) C mi_X12_thrown ml_L_128 (k_X12_thrown  r173.2 _ er174) (q := 27) rfl rfl rfl (by decide) (by omega) rfl (Nat.le_of_ble_eq_true rfl) dL_law_1811 ?_
                                                                              refine v_iload C (q := 5) rfl dL_law_1814 ?_
                                                                              refine v_icmp_eq C (tgt := 1821) dL_law_1816 rfl (fun hc => ?_) (fun hc => ?_)
                                                                              · replace h := (if_pos hc).symm.trans h
                                                                                refine v_iload C (q := 5) rfl dL_law_1821 ?_
                                                                                refine v_if_ne C (tgt := 1838) dL_law_1823 rfl (fun hc => ?_) (fun hc => ?_)
                                                                                · replace h := (if_neg hc).symm.trans h
                                                                                  refine v_goto C (tgt := 1929) dL_law_1838 rfl ?_
                                                                                  refine v_iinc C (q := 4) (ls' := [(0, .ref (G.1 14)), (1, .ref (G.1 16)), (2, .ref (G.1 43)), (3, .ref (G.1 60)), (4, .int (omi (v4 + 7))), (5, .int (omi r170.1)), (6, .int (omi r173.1))]) rfl (by decide) rfl rfl dL_law_1929 ?_
                                                                                  refine v_goto C (tgt := 23) dL_law_1932 rfl ?_
                                                                                  exact v_subp [0, 1, 2, 3, 4] rfl (ih _ _ _ _ (by omega) h FR)
                                                                                · replace h := (if_pos hc).symm.trans h
                                                                                  refine v_aload_n C (q := 3) rfl rfl dL_law_1826 ?_
                                                                                  refine v_iconst C (n := 0) dL_law_1827 ?_
                                                                                  obtain ⟨g175, h⟩ := omg_some h
                                                                                  refine v_lald C (q := 44) (o := 60) (n := 1) rfl g175 dL_law_1828 ?_
                                                                                  refine v_iload C (q := 6) rfl dL_law_1829 ?_
                                                                                  refine v_i2l C dL_law_1831 ?_
                                                                                  refine v_lcmp C dL_law_1832 ?_
                                                                                  refine v_if_eq C (tgt := 1838) dL_law_1833 rfl (fun hc => ?_) (fun hc => ?_)
                                                                                  · replace h := (if_pos hc).symm.trans h
                                                                                    refine v_goto C (tgt := 1929) dL_law_1838 rfl ?_
                                                                                    refine v_iinc C (q := 4) (ls' := [(0, .ref (G.1 14)), (1, .ref (G.1 16)), (2, .ref (G.1 43)), (3, .ref (G.1 60)), (4, .int (omi (v4 + 7))), (5, .int (omi r170.1)), (6, .int (omi r173.1))]) rfl (by decide) rfl rfl dL_law_1929 ?_
                                                                                    refine v_goto C (tgt := 23) dL_law_1932 rfl ?_
                                                                                    exact v_subp [0, 1, 2, 3, 4] rfl (ih _ _ _ _ (by omega) h FR)
                                                                                  · replace h := (if_neg hc).symm.trans h
                                                                                    refine v_iconst C (n := 0) dL_law_1836 ?_
                                                                                    cases h
                                                                                    exact (FR _ rfl) _ _ _ _ dL_law_1837 (by omega)
                                                                              · replace h := (if_neg hc).symm.trans h
                                                                                refine v_iconst C (n := 0) dL_law_1819 ?_
                                                                                cases h
                                                                                exact (FR _ rfl) _ _ _ _ dL_law_1820 (by omega)
                                                                            clear h
                                                                            have h := et172
                                                                            clear et172
                                                                            refine v_if_eq C (tgt := 1804) dL_law_1797 rfl (fun hc => ?_) (fun hc => ?_)
                                                                            · replace h := (if_pos hc).symm.trans h
                                                                              refine v_iconst C (n := 0) dL_law_1804 ?_
                                                                              cases h
                                                                              exact Jt172
                                                                            · replace h := (if_neg hc).symm.trans h
                                                                              refine v_iconst C (n := 1) dL_law_1800 ?_
                                                                              refine v_goto C (tgt := 1805) dL_law_1801 rfl ?_
                                                                              cases h
                                                                              exact Jt172
                                                                          clear h
                                                                          have h := et169
                                                                          clear et169
                                                                          refine v_if_eq C (tgt := 1783) dL_law_1776 rfl (fun hc => ?_) (fun hc => ?_)
                                                                          · replace h := (if_pos hc).symm.trans h
                                                                            refine v_iconst C (n := 0) dL_law_1783 ?_
                                                                            cases h
                                                                            exact Jt169
                                                                          · replace h := (if_neg hc).symm.trans h
                                                                            refine v_iconst C (n := 1) dL_law_1779 ?_
                                                                            refine v_goto C (tgt := 1784) dL_law_1780 rfl ?_
                                                                            cases h
                                                                            exact Jt169
                                                                        · replace h := (if_neg hc33).symm.trans h
                                                                          by_cases hc34 : omw (omand (xs (omw v4).toNat) 63) = 34
                                                                          · replace h := (if_pos hc34).symm.trans h
                                                                            refine v_tabIn C (tgt := 1841) dL_law_40 hc34 (by decide) (by decide) rfl rfl ?_
                                                                            unfold lc_34 at h
                                                                            refine v_aload_n C (q := 1) rfl rfl dL_law_1841 ?_
                                                                            refine v_aload_n C (q := 3) rfl rfl dL_law_1842 ?_
                                                                            obtain ⟨r176, er176, h⟩ := om_bind h
                                                                            refine v_invX_i (As := [.ref (G.1 16), .ref (G.1 60)]) C mi_L_windowDue ml_L_240 (k_L_windowDue  σ _ er176) rfl (by decide) (by omega) rfl (Nat.le_of_ble_eq_true rfl) dL_law_1843 ?_
                                                                            refine v_istore C (ls' := [(0, .ref (G.1 14)), (1, .ref (G.1 16)), (2, .ref (G.1 43)), (3, .ref (G.1 60)), (4, .int (omi v4)), (5, .int (omi r176.1))]) (by decide) rfl dL_law_1846 ?_
                                                                            refine v_aload_n C (q := 2) rfl rfl dL_law_1848 ?_
                                                                            obtain ⟨r177, er177, h⟩ := om_bind h
                                                                            refine v_invV_i (As := []) C mi_X12_windowDue ml_L_242 (k_X12_windowDue  r176.2 _ er177) (q := 27) rfl rfl rfl (by decide) (by omega) rfl (Nat.le_of_ble_eq_true rfl) dL_law_1849 ?_
                                                                            refine v_istore C (ls' := [(0, .ref (G.1 14)), (1, .ref (G.1 16)), (2, .ref (G.1 43)), (3, .ref (G.1 60)), (4, .int (omi v4)), (5, .int (omi r176.1)), (6, .int (omi r177.1))]) (by decide) rfl dL_law_1852 ?_
                                                                            refine v_aload_n C (q := 2) rfl rfl dL_law_1854 ?_
                                                                            obtain ⟨r178, er178, h⟩ := om_bind h
                                                                            refine v_invV_i (As := []) C mi_X12_thrown ml_L_128 (k_X12_thrown  r177.2 _ er178) (q := 27) rfl rfl rfl (by decide) (by omega) rfl (Nat.le_of_ble_eq_true rfl) dL_law_1855 ?_
                                                                            refine v_iload C (q := 5) rfl dL_law_1858 ?_
                                                                            refine v_icmp_eq C (tgt := 1865) dL_law_1860 rfl (fun hc => ?_) (fun hc => ?_)
                                                                            · replace h := (if_pos hc).symm.trans h
                                                                              refine v_iload C (q := 5) rfl dL_law_1865 ?_
                                                                              refine v_if_ne C (tgt := 1882) dL_law_1867 rfl (fun hc => ?_) (fun hc => ?_)
                                                                              · replace h := (if_neg hc).symm.trans h
                                                                                refine v_goto C (tgt := 1929) dL_law_1882 rfl ?_
                                                                                refine v_iinc C (q := 4) (ls' := [(0, .ref (G.1 14)), (1, .ref (G.1 16)), (2, .ref (G.1 43)), (3, .ref (G.1 60)), (4, .int (omi (v4 + 7))), (5, .int (omi r176.1)), (6, .int (omi r177.1))]) rfl (by decide) rfl rfl dL_law_1929 ?_
                                                                                refine v_goto C (tgt := 23) dL_law_1932 rfl ?_
                                                                                exact v_subp [0, 1, 2, 3, 4] rfl (ih _ _ _ _ (by omega) h FR)
                                                                              · replace h := (if_pos hc).symm.trans h
                                                                                refine v_aload_n C (q := 3) rfl rfl dL_law_1870 ?_
                                                                                refine v_iconst C (n := 0) dL_law_1871 ?_
                                                                                obtain ⟨g179, h⟩ := omg_some h
                                                                                refine v_lald C (q := 44) (o := 60) (n := 1) rfl g179 dL_law_1872 ?_
                                                                                refine v_iload C (q := 6) rfl dL_law_1873 ?_
                                                                                refine v_i2l C dL_law_1875 ?_
                                                                                refine v_lcmp C dL_law_1876 ?_
                                                                                refine v_if_eq C (tgt := 1882) dL_law_1877 rfl (fun hc => ?_) (fun hc => ?_)
                                                                                · replace h := (if_pos hc).symm.trans h
                                                                                  refine v_goto C (tgt := 1929) dL_law_1882 rfl ?_
                                                                                  refine v_iinc C (q := 4) (ls' := [(0, .ref (G.1 14)), (1, .ref (G.1 16)), (2, .ref (G.1 43)), (3, .ref (G.1 60)), (4, .int (omi (v4 + 7))), (5, .int (omi r176.1)), (6, .int (omi r177.1))]) rfl (by decide) rfl rfl dL_law_1929 ?_
                                                                                  refine v_goto C (tgt := 23) dL_law_1932 rfl ?_
                                                                                  exact v_subp [0, 1, 2, 3, 4] rfl (ih _ _ _ _ (by omega) h FR)
                                                                                · replace h := (if_neg hc).symm.trans h
                                                                                  refine v_iconst C (n := 0) dL_law_1880 ?_
                                                                                  cases h
                                                                                  exact (FR _ rfl) _ _ _ _ dL_law_1881 (by omega)
                                                                            · replace h := (if_neg hc).symm.trans h
                                                                              refine v_iconst C (n := 0) dL_law_1863 ?_
                                                                              cases h
                                                                              exact (FR _ rfl) _ _ _ _ dL_law_1864 (by omega)
                                                                          · replace h := (if_neg hc34).symm.trans h
                                                                            by_cases hc35 : omw (omand (xs (omw v4).toNat) 63) = 35
                                                                            · replace h := (if_pos hc35).symm.trans h
                                                                              refine v_tabIn C (tgt := 1885) dL_law_40 hc35 (by decide) (by decide) rfl rfl ?_
                                                                              unfold lc_35 at h
                                                                              refine v_aload_n C (q := 1) rfl rfl dL_law_1885 ?_
                                                                              refine v_aload_n C (q := 3) rfl rfl dL_law_1886 ?_
                                                                              obtain ⟨r180, er180, h⟩ := om_bind h
                                                                              refine v_invX_i (As := [.ref (G.1 16), .ref (G.1 60)]) C mi_L_windowRelease ml_L_243 (k_L_windowRelease  σ _ er180) rfl (by decide) (by omega) rfl (Nat.le_of_ble_eq_true rfl) dL_law_1887 ?_
                                                                              refine v_istore C (ls' := [(0, .ref (G.1 14)), (1, .ref (G.1 16)), (2, .ref (G.1 43)), (3, .ref (G.1 60)), (4, .int (omi v4)), (5, .int (omi r180.1))]) (by decide) rfl dL_law_1890 ?_
                                                                              refine v_aload_n C (q := 2) rfl rfl dL_law_1892 ?_
                                                                              obtain ⟨r181, er181, h⟩ := om_bind h
                                                                              refine v_invV_i (As := []) C mi_X12_windowRelease ml_L_245 (k_X12_windowRelease  r180.2 _ er181) (q := 27) rfl rfl rfl (by decide) (by omega) rfl (Nat.le_of_ble_eq_true rfl) dL_law_1893 ?_
                                                                              refine v_istore C (ls' := [(0, .ref (G.1 14)), (1, .ref (G.1 16)), (2, .ref (G.1 43)), (3, .ref (G.1 60)), (4, .int (omi v4)), (5, .int (omi r180.1)), (6, .int (omi r181.1))]) (by decide) rfl dL_law_1896 ?_
                                                                              refine v_aload_n C (q := 2) rfl rfl dL_law_1898 ?_
                                                                              obtain ⟨r182, er182, h⟩ := om_bind h
                                                                              refine v_invV_i (As := []) C mi_X12_thrown ml_L_128 (k_X12_thrown  r181.2 _ er182) (q := 27) rfl rfl rfl (by decide) (by omega) rfl (Nat.le_of_ble_eq_true rfl) dL_law_1899 ?_
                                                                              refine v_iload C (q := 5) rfl dL_law_1902 ?_
                                                                              refine v_icmp_eq C (tgt := 1909) dL_law_1904 rfl (fun hc => ?_) (fun hc => ?_)
                                                                              · replace h := (if_pos hc).symm.trans h
                                                                                refine v_iload C (q := 5) rfl dL_law_1909 ?_
                                                                                refine v_if_ne C (tgt := 1926) dL_law_1911 rfl (fun hc => ?_) (fun hc => ?_)
                                                                                · replace h := (if_neg hc).symm.trans h
                                                                                  refine v_goto C (tgt := 1929) dL_law_1926 rfl ?_
                                                                                  refine v_iinc C (q := 4) (ls' := [(0, .ref (G.1 14)), (1, .ref (G.1 16)), (2, .ref (G.1 43)), (3, .ref (G.1 60)), (4, .int (omi (v4 + 7))), (5, .int (omi r180.1)), (6, .int (omi r181.1))]) rfl (by decide) rfl rfl dL_law_1929 ?_
                                                                                  refine v_goto C (tgt := 23) dL_law_1932 rfl ?_
                                                                                  exact v_subp [0, 1, 2, 3, 4] rfl (ih _ _ _ _ (by omega) h FR)
                                                                                · replace h := (if_pos hc).symm.trans h
                                                                                  refine v_aload_n C (q := 3) rfl rfl dL_law_1914 ?_
                                                                                  refine v_iconst C (n := 0) dL_law_1915 ?_
                                                                                  obtain ⟨g183, h⟩ := omg_some h
                                                                                  refine v_lald C (q := 44) (o := 60) (n := 1) rfl g183 dL_law_1916 ?_
                                                                                  refine v_iload C (q := 6) rfl dL_law_1917 ?_
                                                                                  refine v_i2l C dL_law_1919 ?_
                                                                                  refine v_lcmp C dL_law_1920 ?_
                                                                                  refine v_if_eq C (tgt := 1926) dL_law_1921 rfl (fun hc => ?_) (fun hc => ?_)
                                                                                  · replace h := (if_pos hc).symm.trans h
                                                                                    refine v_goto C (tgt := 1929) dL_law_1926 rfl ?_
                                                                                    refine v_iinc C (q := 4) (ls' := [(0, .ref (G.1 14)), (1, .ref (G.1 16)), (2, .ref (G.1 43)), (3, .ref (G.1 60)), (4, .int (omi (v4 + 7))), (5, .int (omi r180.1)), (6, .int (omi r181.1))]) rfl (by decide) rfl rfl dL_law_1929 ?_
                                                                                    refine v_goto C (tgt := 23) dL_law_1932 rfl ?_
                                                                                    exact v_subp [0, 1, 2, 3, 4] rfl (ih _ _ _ _ (by omega) h FR)
                                                                                  · replace h := (if_neg hc).symm.trans h
                                                                                    refine v_iconst C (n := 0) dL_law_1924 ?_
                                                                                    cases h
                                                                                    exact (FR _ rfl) _ _ _ _ dL_law_1925 (by omega)
                                                                              · replace h := (if_neg hc).symm.trans h
                                                                                refine v_iconst C (n := 0) dL_law_1907 ?_
                                                                                cases h
                                                                                exact (FR _ rfl) _ _ _ _ dL_law_1908 (by omega)
                                                                            · replace h := (if_neg hc35).symm.trans h
                                                                              refine v_tabOut C (tgt := 1929) dL_law_40 (by omega) rfl ?_
                                                                              refine v_iinc C (q := 4) (ls' := [(0, .ref (G.1 14)), (1, .ref (G.1 16)), (2, .ref (G.1 43)), (3, .ref (G.1 60)), (4, .int (omi (v4 + 7)))]) rfl (by decide) rfl rfl dL_law_1929 ?_
                                                                              refine v_goto C (tgt := 23) dL_law_1932 rfl ?_
                                                                              exact ih _ _ _ _ (by omega) h FR
/-- the law's body behind its constructors -/
theorem k_law {G : omG} {x : omX} {L : Nat} {xs : Nat → Int} (C : omC G x RL cL_law 7 (18) 1030) (hL : L = G.2.2.2.1.1) (hxs : xs = omscr G) (σ σ' : omH) (h : l_L_law_23 L xs 513 0 σ = some (.inl (1, σ')))
    (FR : ∀ pc ls9 σ9 k9, decode code pc = .ok (.ireturn, 1) → k9 ≤ 1030 → omV G x 7 pc ls9 [.int (omi 1)] σ9 k9) : omV G x 7 20 [(0, .ref (G.1 14)), (1, .ref (G.1 16)), (2, .ref (G.1 43)), (3, .ref (G.1 60))] [] σ 0 := by
  refine v_iconst C (n := 0) dL_law_20 ?_
  refine v_istore C (ls' := [(0, .ref (G.1 14)), (1, .ref (G.1 16)), (2, .ref (G.1 43)), (3, .ref (G.1 60)), (4, .int (omi 0))]) (by decide) rfl dL_law_21 ?_
  exact kl_L_law_23 C hL hxs 513 _ _ _ 0 (by decide) h (fun r hr => by cases hr; exact FR)
