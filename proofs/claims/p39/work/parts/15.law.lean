def l_L_law_111 (L : Nat) (xs : Nat → Int) (v4 : Int) (v5 : Int) : Nat → Int → Int → omH → Option (Int × omH)
  | 0, _, _, _ => none
  | n + 1, v3, v6, σ => (if omw v6 < omw 2 then (if omw v3 = 0 then some (v3, σ) else omg (0 ≤ omw 54 ∧ omw 54 < 55) ((if 0 < omw (σ 43 (omw 54).toNat) then Option.bind (s_L_draw L xs (3 * v5) σ) (fun r10 => omg (¬ omw 7 = 0) (omg (¬ omw 7 = 0) (Option.bind (s_L_plans ((omw (((2 * v5) + v6) + ((omw r10).tmod (omw 7)))).tmod (omw 7)) σ) (fun r13 => Option.bind (s_L_told ((omw (((2 * v5) + v6) + ((omw r10).tmod (omw 7)))).tmod (omw 7)) r13.2) (fun r14 => Option.bind ((if omw r13.1 = omw r14 then Option.bind (s_L_isBest ((omw (((2 * v5) + v6) + ((omw r10).tmod (omw 7)))).tmod (omw 7)) r13.1 r13.2) (fun r16 => (if omw r16.1 = 0 then some (0, r16.2) else Option.bind (s_L_isPlan ((omw (((2 * v5) + v6) + ((omw r10).tmod (omw 7)))).tmod (omw 7)) r16.2) (fun r17 => (if omw r17 = 0 then some (0, r16.2) else Option.bind (s_L_areJobs  r16.2) (fun r18 => (if omw r18 = 0 then some (0, r16.2) else Option.bind (s_L_isWindow  r16.2) (fun r19 => (if omw r19.1 = 0 then some (0, r19.2) else some (1, r19.2))))))))) else some (0, r13.2))) (fun t15 => l_L_law_111 L xs v4 v5 n t15.1 (v6 + 1) t15.2)))))) else some (v3, σ)))) else some (v3, σ))
def l_L_law_63 (L : Nat) (xs : Nat → Int) (v4 : Int) : Nat → Int → Int → omH → Option (Int × omH)
  | 0, _, _, _ => none
  | n + 1, v3, v5, σ => (if omw v5 < omw v4 then (if omw v3 = 0 then some (v3, σ) else Option.bind (s_L_draw L xs (3 * v5) σ) (fun r5 => Option.bind (s_L_draw L xs ((3 * v5) + 1) σ) (fun r6 => Option.bind (s_L_draw L xs ((3 * v5) + 2) σ) (fun r7 => Option.bind (s_L_step r5 r6 r7 σ) (fun r8 => Option.bind (l_L_law_111 L xs v4 v5 FU r8.1 0 r8.2) (fun t20 => l_L_law_63 L xs v4 n t20.1 (v5 + 1) t20.2)))))) else some (v3, σ))
def s_L_law (L : Nat) (xs : Nat → Int) (σ : omH) : Option (Int × omH) := Option.bind (s_X11_jobs  σ) (fun r1 => Option.bind ((if omw r1 = 0 then Option.bind (s_X11_hasPlan  σ) (fun r23 => (if omw r23 = 0 then Option.bind (s_X11_fewestLateBySets  σ) (fun r24 => (if omw r24.1 = 0 then some (1, r24.2) else some (0, r24.2))) else some (0, σ))) else some (0, σ))) (fun t2 => omg (¬ omw 3 = 0) (Option.bind ((if omw 16 < omw ((omw L).tdiv (omw 3)) then some (16) else omg (¬ omw 3 = 0) (some ((omw L).tdiv (omw 3))))) (fun t4 => Option.bind (l_L_law_63 L xs t4 FU t2.1 0 t2.2) (fun t21 => some (t21.1, t21.2))))))
set_option maxHeartbeats 4000000 in
set_option maxRecDepth 100000 in
theorem kl_L_law_111 {G : omG} {x : omX} {L : Nat} {xs : Nat → Int} (C : omC G x RL cL_law 9 (18) 0) (hL : L = G.2.2.2.1.1) (hxs : xs = omscr G) (v4 : Int) (v5 : Int) : ∀ (n : Nat) (v3 : Int) (v6 : Int) (σ : omH) (t : Int × omH), l_L_law_111 L xs v4 v5 n v3 v6 σ = some t → omV G x 9 220 [(0, .ref (G.1 14)), (1, .ref (G.1 16)), (2, .ref (G.1 43)), (3, .int (omi t.1)), (4, .int (omi v4)), (5, .int (omi v5))] [] t.2 0 → omV G x 9 111 [(0, .ref (G.1 14)), (1, .ref (G.1 16)), (2, .ref (G.1 43)), (3, .int (omi v3)), (4, .int (omi v4)), (5, .int (omi v5)), (6, .int (omi v6))] [] σ 0 := by
  intro n
  induction n with
  | zero => intro v3 v6 σ t h K; cases h
  | succ n ih =>
    intro v3 v6 σ t h K
    rw [l_L_law_111.eq_2] at h
    refine v_iload C (q := 6) rfl dL_law_111 ?_
    refine v_iconst C (n := 2) dL_law_113 ?_
    refine v_icmp_ge C (tgt := 220) dL_law_114 rfl (fun hc => ?_) (fun hc => ?_)
    · replace h := (if_neg hc).symm.trans h
      cases h
      exact v_subp [0, 1, 2, 3, 4, 5] rfl K
    · replace h := (if_pos hc).symm.trans h
      refine v_iload_n C (q := 3) rfl rfl dL_law_117 ?_
      refine v_if_eq C (tgt := 220) dL_law_118 rfl (fun hc => ?_) (fun hc => ?_)
      · replace h := (if_pos hc).symm.trans h
        cases h
        exact v_subp [0, 1, 2, 3, 4, 5] rfl K
      · replace h := (if_neg hc).symm.trans h
        refine v_aload_n C (q := 2) rfl rfl dL_law_121 ?_
        refine v_bipush C (a := 54) (by decide) dL_law_122 ?_
        obtain ⟨g9, h⟩ := omg_some h
        refine v_iald C (q := 27) (o := 43) (n := 55) rfl g9 dL_law_124 ?_
        refine v_if_le C (tgt := 220) dL_law_125 rfl (fun hc => ?_) (fun hc => ?_)
        · replace h := (if_neg hc).symm.trans h
          cases h
          exact v_subp [0, 1, 2, 3, 4, 5] rfl K
        · replace h := (if_pos hc).symm.trans h
          refine v_iconst C (n := 2) dL_law_128 ?_
          refine v_iload C (q := 5) rfl dL_law_129 ?_
          refine v_imul C dL_law_131 ?_
          refine v_iload C (q := 6) rfl dL_law_132 ?_
          refine v_iadd C dL_law_134 ?_
          refine v_aload_n C (q := 0) rfl rfl dL_law_135 ?_
          refine v_iconst C (n := 3) dL_law_136 ?_
          refine v_iload C (q := 5) rfl dL_law_137 ?_
          refine v_imul C dL_law_139 ?_
          obtain ⟨r10, er10, h⟩ := om_bind h
          refine v_invS_i (As := [.ref (G.1 14), .int (omi (3 * v5))]) C mi_L_draw ml_L_135 (k_L_draw hL hxs (3 * v5) σ _ er10) rfl (by decide) (Nat.zero_le _) rfl (Nat.le_of_ble_eq_true rfl) dL_law_140 ?_
          refine v_bipush C (a := 7) (by decide) dL_law_143 ?_
          obtain ⟨g11, h⟩ := omg_some h
          refine v_irem C g11 dL_law_145 ?_
          refine v_iadd C dL_law_146 ?_
          refine v_bipush C (a := 7) (by decide) dL_law_147 ?_
          obtain ⟨g12, h⟩ := omg_some h
          refine v_irem C g12 dL_law_149 ?_
          refine v_istore C (ls' := [(0, .ref (G.1 14)), (1, .ref (G.1 16)), (2, .ref (G.1 43)), (3, .int (omi v3)), (4, .int (omi v4)), (5, .int (omi v5)), (6, .int (omi v6)), (7, .int (omi ((omw (((2 * v5) + v6) + ((omw r10).tmod (omw 7)))).tmod (omw 7))))]) (by decide) rfl dL_law_150 ?_
          refine v_aload_n C (q := 1) rfl rfl dL_law_152 ?_
          refine v_iload C (q := 7) rfl dL_law_153 ?_
          obtain ⟨r13, er13, h⟩ := om_bind h
          refine v_invS_i (As := [.ref (G.1 16), .int (omi ((omw (((2 * v5) + v6) + ((omw r10).tmod (omw 7)))).tmod (omw 7)))]) C mi_L_plans ml_L_143 (k_L_plans ((omw (((2 * v5) + v6) + ((omw r10).tmod (omw 7)))).tmod (omw 7)) σ _ er13) rfl (by decide) (Nat.zero_le _) rfl (Nat.le_of_ble_eq_true rfl) dL_law_155 ?_
          refine v_istore C (ls' := [(0, .ref (G.1 14)), (1, .ref (G.1 16)), (2, .ref (G.1 43)), (3, .int (omi v3)), (4, .int (omi v4)), (5, .int (omi v5)), (6, .int (omi v6)), (7, .int (omi ((omw (((2 * v5) + v6) + ((omw r10).tmod (omw 7)))).tmod (omw 7)))), (8, .int (omi r13.1))]) (by decide) rfl dL_law_158 ?_
          refine v_iload C (q := 8) rfl dL_law_160 ?_
          refine v_aload_n C (q := 1) rfl rfl dL_law_162 ?_
          refine v_iload C (q := 7) rfl dL_law_163 ?_
          obtain ⟨r14, er14, h⟩ := om_bind h
          refine v_invS_i (As := [.ref (G.1 16), .int (omi ((omw (((2 * v5) + v6) + ((omw r10).tmod (omw 7)))).tmod (omw 7)))]) C mi_L_told ml_L_147 (k_L_told ((omw (((2 * v5) + v6) + ((omw r10).tmod (omw 7)))).tmod (omw 7)) r13.2 _ er14) rfl (by decide) (Nat.zero_le _) rfl (Nat.le_of_ble_eq_true rfl) dL_law_165 ?_
          obtain ⟨t15, et15, h⟩ := om_bind h
          have Jt15 : omV G x 9 213 [(0, .ref (G.1 14)), (1, .ref (G.1 16)), (2, .ref (G.1 43)), (4, .int (omi v4)), (5, .int (omi v5)), (6, .int (omi v6))] [.int (omi t15.1)] t15.2 0 := by
            refine v_istore_n C (ls' := [(0, .ref (G.1 14)), (1, .ref (G.1 16)), (2, .ref (G.1 43)), (4, .int (omi v4)), (5, .int (omi v5)), (6, .int (omi v6)), (3, .int (omi t15.1))]) rfl (by decide) rfl dL_law_213 ?_
            refine v_iinc C (q := 5) (ls' := [(0, .ref (G.1 14)), (1, .ref (G.1 16)), (2, .ref (G.1 43)), (4, .int (omi v4)), (5, .int (omi v5)), (6, .int (omi (v6 + 1))), (3, .int (omi t15.1))]) rfl (by decide) rfl rfl dL_law_214 ?_
            refine v_goto C (tgt := 111) dL_law_217 rfl ?_
            exact v_subp [0, 1, 2, 6, 3, 4, 5] rfl (ih _ _ _ _ h K)
          clear h
          have h := et15
          clear et15
          refine v_icmp_ne C (tgt := 212) dL_law_168 rfl (fun hc => ?_) (fun hc => ?_)
          · replace h := (if_neg hc).symm.trans h
            refine v_iconst C (n := 0) dL_law_212 ?_
            cases h
            exact v_subp [0, 1, 2, 4, 5, 6] rfl Jt15
          · replace h := (if_pos hc).symm.trans h
            refine v_aload_n C (q := 1) rfl rfl dL_law_171 ?_
            refine v_iload C (q := 7) rfl dL_law_172 ?_
            refine v_iload C (q := 8) rfl dL_law_174 ?_
            obtain ⟨r16, er16, h⟩ := om_bind h
            refine v_invS_i (As := [.ref (G.1 16), .int (omi ((omw (((2 * v5) + v6) + ((omw r10).tmod (omw 7)))).tmod (omw 7))), .int (omi r13.1)]) C mi_L_isBest ml_L_150 (k_L_isBest ((omw (((2 * v5) + v6) + ((omw r10).tmod (omw 7)))).tmod (omw 7)) r13.1 r13.2 _ er16) rfl (by decide) (Nat.zero_le _) rfl (Nat.le_of_ble_eq_true rfl) dL_law_176 ?_
            refine v_if_eq C (tgt := 212) dL_law_179 rfl (fun hc => ?_) (fun hc => ?_)
            · replace h := (if_pos hc).symm.trans h
              refine v_iconst C (n := 0) dL_law_212 ?_
              cases h
              exact v_subp [0, 1, 2, 4, 5, 6] rfl Jt15
            · replace h := (if_neg hc).symm.trans h
              refine v_aload_n C (q := 1) rfl rfl dL_law_182 ?_
              refine v_aload_n C (q := 2) rfl rfl dL_law_183 ?_
              refine v_iload C (q := 7) rfl dL_law_184 ?_
              obtain ⟨r17, er17, h⟩ := om_bind h
              refine v_invS_i (As := [.ref (G.1 16), .ref (G.1 43), .int (omi ((omw (((2 * v5) + v6) + ((omw r10).tmod (omw 7)))).tmod (omw 7)))]) C mi_L_isPlan ml_L_154 (k_L_isPlan ((omw (((2 * v5) + v6) + ((omw r10).tmod (omw 7)))).tmod (omw 7)) r16.2 _ er17) rfl (by decide) (Nat.zero_le _) rfl (Nat.le_of_ble_eq_true rfl) dL_law_186 ?_
              refine v_if_eq C (tgt := 212) dL_law_189 rfl (fun hc => ?_) (fun hc => ?_)
              · replace h := (if_pos hc).symm.trans h
                refine v_iconst C (n := 0) dL_law_212 ?_
                cases h
                exact v_subp [0, 1, 2, 4, 5, 6] rfl Jt15
              · replace h := (if_neg hc).symm.trans h
                refine v_aload_n C (q := 1) rfl rfl dL_law_192 ?_
                refine v_aload_n C (q := 2) rfl rfl dL_law_193 ?_
                obtain ⟨r18, er18, h⟩ := om_bind h
                refine v_invS_i (As := [.ref (G.1 16), .ref (G.1 43)]) C mi_L_areJobs ml_L_158 (k_L_areJobs  r16.2 _ er18) rfl (by decide) (Nat.zero_le _) rfl (Nat.le_of_ble_eq_true rfl) dL_law_194 ?_
                refine v_if_eq C (tgt := 212) dL_law_197 rfl (fun hc => ?_) (fun hc => ?_)
                · replace h := (if_pos hc).symm.trans h
                  refine v_iconst C (n := 0) dL_law_212 ?_
                  cases h
                  exact v_subp [0, 1, 2, 4, 5, 6] rfl Jt15
                · replace h := (if_neg hc).symm.trans h
                  refine v_aload_n C (q := 1) rfl rfl dL_law_200 ?_
                  refine v_aload_n C (q := 2) rfl rfl dL_law_201 ?_
                  obtain ⟨r19, er19, h⟩ := om_bind h
                  refine v_invS_i (As := [.ref (G.1 16), .ref (G.1 43)]) C mi_L_isWindow ml_L_162 (k_L_isWindow  r16.2 _ er19) rfl (by decide) (Nat.zero_le _) rfl (Nat.le_of_ble_eq_true rfl) dL_law_202 ?_
                  refine v_if_eq C (tgt := 212) dL_law_205 rfl (fun hc => ?_) (fun hc => ?_)
                  · replace h := (if_pos hc).symm.trans h
                    refine v_iconst C (n := 0) dL_law_212 ?_
                    cases h
                    exact v_subp [0, 1, 2, 4, 5, 6] rfl Jt15
                  · replace h := (if_neg hc).symm.trans h
                    refine v_iconst C (n := 1) dL_law_208 ?_
                    refine v_goto C (tgt := 213) dL_law_209 rfl ?_
                    cases h
                    exact v_subp [0, 1, 2, 4, 5, 6] rfl Jt15
set_option maxHeartbeats 4000000 in
set_option maxRecDepth 100000 in
theorem kl_L_law_63 {G : omG} {x : omX} {L : Nat} {xs : Nat → Int} (C : omC G x RL cL_law 9 (18) 0) (hL : L = G.2.2.2.1.1) (hxs : xs = omscr G) (v4 : Int) : ∀ (n : Nat) (v3 : Int) (v5 : Int) (σ : omH) (t : Int × omH), l_L_law_63 L xs v4 n v3 v5 σ = some t → omV G x 9 226 [(3, .int (omi t.1))] [] t.2 0 → omV G x 9 63 [(0, .ref (G.1 14)), (1, .ref (G.1 16)), (2, .ref (G.1 43)), (3, .int (omi v3)), (4, .int (omi v4)), (5, .int (omi v5))] [] σ 0 := by
  intro n
  induction n with
  | zero => intro v3 v5 σ t h K; cases h
  | succ n ih =>
    intro v3 v5 σ t h K
    rw [l_L_law_63.eq_2] at h
    refine v_iload C (q := 5) rfl dL_law_63 ?_
    refine v_iload C (q := 4) rfl dL_law_65 ?_
    refine v_icmp_ge C (tgt := 226) dL_law_67 rfl (fun hc => ?_) (fun hc => ?_)
    · replace h := (if_neg hc).symm.trans h
      cases h
      exact v_subp [3] rfl K
    · replace h := (if_pos hc).symm.trans h
      refine v_iload_n C (q := 3) rfl rfl dL_law_70 ?_
      refine v_if_eq C (tgt := 226) dL_law_71 rfl (fun hc => ?_) (fun hc => ?_)
      · replace h := (if_pos hc).symm.trans h
        cases h
        exact v_subp [3] rfl K
      · replace h := (if_neg hc).symm.trans h
        refine v_aload_n C (q := 1) rfl rfl dL_law_74 ?_
        refine v_aload_n C (q := 2) rfl rfl dL_law_75 ?_
        refine v_aload_n C (q := 0) rfl rfl dL_law_76 ?_
        refine v_iconst C (n := 3) dL_law_77 ?_
        refine v_iload C (q := 5) rfl dL_law_78 ?_
        refine v_imul C dL_law_80 ?_
        obtain ⟨r5, er5, h⟩ := om_bind h
        refine v_invS_i (As := [.ref (G.1 14), .int (omi (3 * v5))]) C mi_L_draw ml_L_135 (k_L_draw hL hxs (3 * v5) σ _ er5) rfl (by decide) (Nat.zero_le _) rfl (Nat.le_of_ble_eq_true rfl) dL_law_81 ?_
        refine v_aload_n C (q := 0) rfl rfl dL_law_84 ?_
        refine v_iconst C (n := 3) dL_law_85 ?_
        refine v_iload C (q := 5) rfl dL_law_86 ?_
        refine v_imul C dL_law_88 ?_
        refine v_iconst C (n := 1) dL_law_89 ?_
        refine v_iadd C dL_law_90 ?_
        obtain ⟨r6, er6, h⟩ := om_bind h
        refine v_invS_i (As := [.ref (G.1 14), .int (omi ((3 * v5) + 1))]) C mi_L_draw ml_L_135 (k_L_draw hL hxs ((3 * v5) + 1) σ _ er6) rfl (by decide) (Nat.zero_le _) rfl (Nat.le_of_ble_eq_true rfl) dL_law_91 ?_
        refine v_aload_n C (q := 0) rfl rfl dL_law_94 ?_
        refine v_iconst C (n := 3) dL_law_95 ?_
        refine v_iload C (q := 5) rfl dL_law_96 ?_
        refine v_imul C dL_law_98 ?_
        refine v_iconst C (n := 2) dL_law_99 ?_
        refine v_iadd C dL_law_100 ?_
        obtain ⟨r7, er7, h⟩ := om_bind h
        refine v_invS_i (As := [.ref (G.1 14), .int (omi ((3 * v5) + 2))]) C mi_L_draw ml_L_135 (k_L_draw hL hxs ((3 * v5) + 2) σ _ er7) rfl (by decide) (Nat.zero_le _) rfl (Nat.le_of_ble_eq_true rfl) dL_law_101 ?_
        obtain ⟨r8, er8, h⟩ := om_bind h
        refine v_invS_i (As := [.ref (G.1 16), .ref (G.1 43), .int (omi r5), .int (omi r6), .int (omi r7)]) C mi_L_step ml_L_139 (k_L_step r5 r6 r7 σ _ er8) rfl (by decide) (Nat.zero_le _) rfl (Nat.le_of_ble_eq_true rfl) dL_law_104 ?_
        refine v_istore_n C (ls' := [(0, .ref (G.1 14)), (1, .ref (G.1 16)), (2, .ref (G.1 43)), (3, .int (omi r8.1)), (4, .int (omi v4)), (5, .int (omi v5))]) rfl (by decide) rfl dL_law_107 ?_
        refine v_iconst C (n := 0) dL_law_108 ?_
        refine v_istore C (ls' := [(0, .ref (G.1 14)), (1, .ref (G.1 16)), (2, .ref (G.1 43)), (3, .int (omi r8.1)), (4, .int (omi v4)), (5, .int (omi v5)), (6, .int (omi 0))]) (by decide) rfl dL_law_109 ?_
        obtain ⟨t20, et20, h⟩ := om_bind h
        refine kl_L_law_111 C hL hxs v4 v5 FU _ _ _ t20 et20 ?_
        refine v_iinc C (q := 5) (ls' := [(0, .ref (G.1 14)), (1, .ref (G.1 16)), (2, .ref (G.1 43)), (3, .int (omi t20.1)), (4, .int (omi v4)), (5, .int (omi (v5 + 1)))]) rfl (by decide) rfl rfl dL_law_220 ?_
        refine v_goto C (tgt := 63) dL_law_223 rfl ?_
        exact ih _ _ _ _ h K
set_option maxHeartbeats 4000000 in
set_option maxRecDepth 100000 in
/-- the law's body behind its constructors -/
theorem k_law {G : omG} {x : omX} {L : Nat} {xs : Nat → Int} (C : omC G x RL cL_law 9 (18) 0) (hL : L = G.2.2.2.1.1) (hxs : xs = omscr G) (σ : omH) (t : Int × omH) (h : s_L_law L xs σ = some t) (FR : ∀ pc ls9, decode code pc = .ok (.ireturn, 1) → omV G x 9 pc ls9 [.int (omi t.1)] t.2 0) : omV G x 9 13 [(0, .ref (G.1 14)), (1, .ref (G.1 16)), (2, .ref (G.1 43))] [] σ 0 := by
  unfold s_L_law at h
  refine v_aload_n C (q := 1) rfl rfl dL_law_13 ?_
  obtain ⟨r1, er1, h⟩ := om_bind h
  refine v_invV_i (As := []) C mi_X11_jobs ml_L_22 (k_X11_jobs  σ _ er1) (q := 0) rfl rfl rfl (by decide) (Nat.zero_le _) rfl (Nat.le_of_ble_eq_true rfl) dL_law_14 ?_
  obtain ⟨t2, et2, h⟩ := om_bind h
  have Jt2 : omV G x 9 39 [(0, .ref (G.1 14)), (1, .ref (G.1 16)), (2, .ref (G.1 43))] [.int (omi t2.1)] t2.2 0 := by
    refine v_istore_n C (ls' := [(0, .ref (G.1 14)), (1, .ref (G.1 16)), (2, .ref (G.1 43)), (3, .int (omi t2.1))]) rfl (by decide) rfl dL_law_39 ?_
    refine v_aload_n C (q := 0) rfl rfl dL_law_40 ?_
    refine v_scrlenx C hL dL_law_41 ?_
    refine v_iconst C (n := 3) dL_law_42 ?_
    obtain ⟨g3, h⟩ := omg_some h
    refine v_idiv C g3 dL_law_43 ?_
    refine v_bipush C (a := 16) (by decide) dL_law_44 ?_
    obtain ⟨t4, et4, h⟩ := om_bind h
    have Jt4 : omV G x 9 58 [(0, .ref (G.1 14)), (1, .ref (G.1 16)), (2, .ref (G.1 43)), (3, .int (omi t2.1))] [.int (omi t4)] t2.2 0 := by
      refine v_istore C (ls' := [(0, .ref (G.1 14)), (1, .ref (G.1 16)), (2, .ref (G.1 43)), (3, .int (omi t2.1)), (4, .int (omi t4))]) (by decide) rfl dL_law_58 ?_
      refine v_iconst C (n := 0) dL_law_60 ?_
      refine v_istore C (ls' := [(0, .ref (G.1 14)), (1, .ref (G.1 16)), (2, .ref (G.1 43)), (3, .int (omi t2.1)), (4, .int (omi t4)), (5, .int (omi 0))]) (by decide) rfl dL_law_61 ?_
      obtain ⟨t21, et21, h⟩ := om_bind h
      refine kl_L_law_63 C hL hxs t4 FU _ _ _ t21 et21 ?_
      refine v_iload_n C (q := 0) rfl rfl dL_law_226 ?_
      cases h
      exact FR _ _ dL_law_227
    clear h
    have h := et4
    clear et4
    refine v_icmp_le C (tgt := 54) dL_law_46 rfl (fun hc => ?_) (fun hc => ?_)
    · replace h := (if_neg hc).symm.trans h
      refine v_aload_n C (q := 0) rfl rfl dL_law_54 ?_
      refine v_scrlenx C hL dL_law_55 ?_
      refine v_iconst C (n := 3) dL_law_56 ?_
      obtain ⟨g22, h⟩ := omg_some h
      refine v_idiv C g22 dL_law_57 ?_
      have h := Option.some.inj h; subst h
      exact Jt4
    · replace h := (if_pos hc).symm.trans h
      refine v_bipush C (a := 16) (by decide) dL_law_49 ?_
      refine v_goto C (tgt := 58) dL_law_51 rfl ?_
      cases h
      exact Jt4
  clear h
  have h := et2
  clear et2
  refine v_if_ne C (tgt := 38) dL_law_17 rfl (fun hc => ?_) (fun hc => ?_)
  · replace h := (if_neg hc).symm.trans h
    refine v_iconst C (n := 0) dL_law_38 ?_
    cases h
    exact Jt2
  · replace h := (if_pos hc).symm.trans h
    refine v_aload_n C (q := 1) rfl rfl dL_law_20 ?_
    obtain ⟨r23, er23, h⟩ := om_bind h
    refine v_invV_i (As := []) C mi_X11_hasPlan ml_L_26 (k_X11_hasPlan  σ _ er23) (q := 0) rfl rfl rfl (by decide) (Nat.zero_le _) rfl (Nat.le_of_ble_eq_true rfl) dL_law_21 ?_
    refine v_if_ne C (tgt := 38) dL_law_24 rfl (fun hc => ?_) (fun hc => ?_)
    · replace h := (if_neg hc).symm.trans h
      refine v_iconst C (n := 0) dL_law_38 ?_
      cases h
      exact Jt2
    · replace h := (if_pos hc).symm.trans h
      refine v_aload_n C (q := 1) rfl rfl dL_law_27 ?_
      obtain ⟨r24, er24, h⟩ := om_bind h
      refine v_invV_i (As := []) C mi_X11_fewestLateBySets ml_L_37 (k_X11_fewestLateBySets  σ _ er24) (q := 0) rfl rfl rfl (by decide) (Nat.zero_le _) rfl (Nat.le_of_ble_eq_true rfl) dL_law_28 ?_
      refine v_if_ne C (tgt := 38) dL_law_31 rfl (fun hc => ?_) (fun hc => ?_)
      · replace h := (if_neg hc).symm.trans h
        refine v_iconst C (n := 0) dL_law_38 ?_
        cases h
        exact Jt2
      · replace h := (if_pos hc).symm.trans h
        refine v_iconst C (n := 1) dL_law_34 ?_
        refine v_goto C (tgt := 39) dL_law_35 rfl ?_
        cases h
        exact Jt2
