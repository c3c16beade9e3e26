set_option maxHeartbeats 4000000 in
set_option maxRecDepth 100000 in
theorem kl_L_isPlan_30 {G : omG} {x : omX} (C : omC G x RL cL_isPlan 8 (4) 0) (v2 : Int) (σ : omH) : ∀ (n : Nat) (v3 : Int) (v4 : Int) (v5 : Int) (t : Int), l_L_isPlan_30 v2 σ n v3 v4 v5 = some t → omV G x 8 339 [(3, .int (omi t))] [] σ 0 → omV G x 8 30 [(0, .ref (G.1 16)), (1, .ref (G.1 43)), (2, .int (omi v2)), (3, .int (omi v3)), (4, .int (omi v4)), (5, .int (omi v5))] [] σ 0 := by
  intro n
  induction n with
  | zero => intro v3 v4 v5 t h K; cases h
  | succ n ih =>
    intro v3 v4 v5 t h K
    rw [l_L_isPlan_30.eq_2] at h
    refine v_iload C (q := 5) rfl dL_isPlan_30 ?_
    refine v_aload_n C (q := 0) rfl rfl dL_isPlan_32 ?_
    obtain ⟨r3, er3, h⟩ := om_bind h
    refine v_invV_i (As := []) C mi_X11_pieces ml_L_34 (k_X11_pieces  σ _ er3) (q := 0) rfl rfl rfl (by decide) (Nat.zero_le _) rfl (Nat.le_of_ble_eq_true rfl) dL_isPlan_33 ?_
    refine v_icmp_ge C (tgt := 339) dL_isPlan_36 rfl (fun hc => ?_) (fun hc => ?_)
    · replace h := (if_neg hc).symm.trans h
      cases h
      exact v_subp [3] rfl K
    · replace h := (if_pos hc).symm.trans h
      refine v_iload_n C (q := 3) rfl rfl dL_isPlan_39 ?_
      refine v_if_eq C (tgt := 339) dL_isPlan_40 rfl (fun hc => ?_) (fun hc => ?_)
      · replace h := (if_pos hc).symm.trans h
        cases h
        exact v_subp [3] rfl K
      · replace h := (if_neg hc).symm.trans h
        refine v_aload_n C (q := 0) rfl rfl dL_isPlan_43 ?_
        refine v_iload C (q := 5) rfl dL_isPlan_44 ?_
        obtain ⟨r4, er4, h⟩ := om_bind h
        rcases r4 with u5 | u5
        · replace h := (Sum.elim_inl _ _ _).symm.trans h
          cases h
        · replace h := (Sum.elim_inr _ _ _).symm.trans h
          refine v_invV_i (As := [.int (omi v5)]) C mi_X11_kindOf ml_L_110 (n_X11_kindOf v5 σ _ er4) (q := 0) rfl rfl rfl (by decide) (Nat.zero_le _) rfl (Nat.le_of_ble_eq_true rfl) dL_isPlan_46 ?_
          refine v_istore C (ls' := [(0, .ref (G.1 16)), (1, .ref (G.1 43)), (2, .int (omi v2)), (3, .int (omi v3)), (4, .int (omi v4)), (5, .int (omi v5)), (6, .int (omi u5))]) (by decide) rfl dL_isPlan_49 ?_
          refine v_aload_n C (q := 0) rfl rfl dL_isPlan_51 ?_
          refine v_iload C (q := 5) rfl dL_isPlan_52 ?_
          obtain ⟨r6, er6, h⟩ := om_bind h
          rcases r6 with u7 | u7
          · replace h := (Sum.elim_inl _ _ _).symm.trans h
            cases h
          · replace h := (Sum.elim_inr _ _ _).symm.trans h
            refine v_invV_i (As := [.int (omi v5)]) C mi_X11_whoseIs ml_L_113 (n_X11_whoseIs v5 σ _ er6) (q := 0) rfl rfl rfl (by decide) (Nat.zero_le _) rfl (Nat.le_of_ble_eq_true rfl) dL_isPlan_54 ?_
            refine v_istore C (ls' := [(0, .ref (G.1 16)), (1, .ref (G.1 43)), (2, .int (omi v2)), (3, .int (omi v3)), (4, .int (omi v4)), (5, .int (omi v5)), (6, .int (omi u5)), (7, .int (omi u7))]) (by decide) rfl dL_isPlan_57 ?_
            refine v_aload_n C (q := 0) rfl rfl dL_isPlan_59 ?_
            refine v_iload C (q := 5) rfl dL_isPlan_60 ?_
            obtain ⟨r8, er8, h⟩ := om_bind h
            rcases r8 with u9 | u9
            · replace h := (Sum.elim_inl _ _ _).symm.trans h
              cases h
            · replace h := (Sum.elim_inr _ _ _).symm.trans h
              refine v_invV_i (As := [.int (omi v5)]) C mi_X11_startOf ml_L_116 (n_X11_startOf v5 σ _ er8) (q := 0) rfl rfl rfl (by decide) (Nat.zero_le _) rfl (Nat.le_of_ble_eq_true rfl) dL_isPlan_62 ?_
              refine v_iload C (q := 5) rfl dL_isPlan_65 ?_
              obtain ⟨t10, et10, h⟩ := om_bind h
              have Jt10 : omV G x 8 82 [(0, .ref (G.1 16)), (1, .ref (G.1 43)), (2, .int (omi v2)), (4, .int (omi v4)), (5, .int (omi v5)), (6, .int (omi u5)), (7, .int (omi u7))] [.int (omi t10), .int (omi u9)] σ 0 := by
                obtain ⟨t11, et11, h⟩ := om_bind h
                have Jt11 : omV G x 8 152 [(0, .ref (G.1 16)), (1, .ref (G.1 43)), (2, .int (omi v2)), (4, .int (omi v4)), (5, .int (omi v5)), (6, .int (omi u5)), (7, .int (omi u7))] [.int (omi t11)] σ 0 := by
                  refine v_istore_n C (ls' := [(0, .ref (G.1 16)), (1, .ref (G.1 43)), (2, .int (omi v2)), (4, .int (omi v4)), (5, .int (omi v5)), (6, .int (omi u5)), (7, .int (omi u7)), (3, .int (omi t11))]) rfl (by decide) rfl dL_isPlan_152 ?_
                  refine v_iload_n C (q := 7) rfl rfl dL_isPlan_153 ?_
                  obtain ⟨t12, et12, h⟩ := om_bind h
                  have Jt12 : omV G x 8 239 [(0, .ref (G.1 16)), (1, .ref (G.1 43)), (2, .int (omi v2)), (3, .int (omi t12)), (4, .int (omi v4)), (5, .int (omi v5)), (6, .int (omi u5)), (7, .int (omi u7))] [] σ 0 := by
                    refine v_iload_n C (q := 3) rfl rfl dL_isPlan_239 ?_
                    refine v_if_eq C (tgt := 333) dL_isPlan_240 rfl (fun hc => ?_) (fun hc => ?_)
                    · replace h := (if_pos hc).symm.trans h
                      refine v_iinc C (q := 5) (ls' := [(0, .ref (G.1 16)), (1, .ref (G.1 43)), (2, .int (omi v2)), (3, .int (omi t12)), (4, .int (omi v4)), (5, .int (omi (v5 + 1))), (6, .int (omi u5)), (7, .int (omi u7))]) rfl (by decide) rfl rfl dL_isPlan_333 ?_
                      refine v_goto C (tgt := 30) dL_isPlan_336 rfl ?_
                      exact v_subp [0, 1, 2, 3, 4, 5] rfl (ih _ _ _ _ h K)
                    · replace h := (if_neg hc).symm.trans h
                      refine v_iload C (q := 6) rfl dL_isPlan_243 ?_
                      refine v_if_ne C (tgt := 333) dL_isPlan_245 rfl (fun hc => ?_) (fun hc => ?_)
                      · replace h := (if_neg hc).symm.trans h
                        refine v_iinc C (q := 5) (ls' := [(0, .ref (G.1 16)), (1, .ref (G.1 43)), (2, .int (omi v2)), (3, .int (omi t12)), (4, .int (omi v4)), (5, .int (omi (v5 + 1))), (6, .int (omi u5)), (7, .int (omi u7))]) rfl (by decide) rfl rfl dL_isPlan_333 ?_
                        refine v_goto C (tgt := 30) dL_isPlan_336 rfl ?_
                        exact v_subp [0, 1, 2, 3, 4, 5] rfl (ih _ _ _ _ h K)
                      · replace h := (if_pos hc).symm.trans h
                        refine v_iload_n C (q := 2) rfl rfl dL_isPlan_248 ?_
                        refine v_iconst C (n := 5) dL_isPlan_249 ?_
                        obtain ⟨t13, et13, h⟩ := om_bind h
                        have Jt13 : omV G x 8 323 [(0, .ref (G.1 16)), (1, .ref (G.1 43)), (2, .int (omi v2)), (5, .int (omi v5)), (7, .int (omi u7))] [.int (omi t13)] σ 0 := by
                          refine v_istore_n C (ls' := [(0, .ref (G.1 16)), (1, .ref (G.1 43)), (2, .int (omi v2)), (5, .int (omi v5)), (7, .int (omi u7)), (3, .int (omi t13))]) rfl (by decide) rfl dL_isPlan_323 ?_
                          refine v_aload_n C (q := 1) rfl rfl dL_isPlan_324 ?_
                          refine v_bipush C (a := 40) (by decide) dL_isPlan_325 ?_
                          refine v_iload C (q := 4) rfl dL_isPlan_327 ?_
                          refine v_iadd C dL_isPlan_329 ?_
                          obtain ⟨g14, h⟩ := omg_some h
                          refine v_iald C (q := 27) (o := 43) (n := 55) rfl g14 dL_isPlan_330 ?_
                          refine v_istore C (ls' := [(0, .ref (G.1 16)), (1, .ref (G.1 43)), (2, .int (omi v2)), (5, .int (omi v5)), (7, .int (omi u7)), (3, .int (omi t13)), (4, .int (omi (σ 43 (omw (40 + u7)).toNat)))]) (by decide) rfl dL_isPlan_331 ?_
                          refine v_iinc C (q := 3) (ls' := [(0, .ref (G.1 16)), (1, .ref (G.1 43)), (2, .int (omi v2)), (5, .int (omi (v5 + 1))), (7, .int (omi u7)), (3, .int (omi t13)), (4, .int (omi (σ 43 (omw (40 + u7)).toNat)))]) rfl (by decide) rfl rfl dL_isPlan_333 ?_
                          refine v_goto C (tgt := 30) dL_isPlan_336 rfl ?_
                          exact v_subp [0, 1, 2, 5, 6, 3] rfl (ih _ _ _ _ h K)
                        clear h
                        have h := et13
                        clear et13
                        refine v_icmp_lt C (tgt := 269) dL_isPlan_250 rfl (fun hc => ?_) (fun hc => ?_)
                        · replace h := (if_pos hc).symm.trans h
                          refine v_iload_n C (q := 2) rfl rfl dL_isPlan_269 ?_
                          refine v_iconst C (n := 4) dL_isPlan_270 ?_
                          refine v_icmp_ne C (tgt := 318) dL_isPlan_271 rfl (fun hc => ?_) (fun hc => ?_)
                          · replace h := (if_neg hc).symm.trans h
                            refine v_iconst C (n := 1) dL_isPlan_318 ?_
                            refine v_goto C (tgt := 323) dL_isPlan_319 rfl ?_
                            cases h
                            exact v_subp [0, 1, 2, 5, 7] rfl Jt13
                          · replace h := (if_pos hc).symm.trans h
                            refine v_aload_n C (q := 1) rfl rfl dL_isPlan_274 ?_
                            refine v_bipush C (a := 40) (by decide) dL_isPlan_275 ?_
                            refine v_iload C (q := 7) rfl dL_isPlan_277 ?_
                            refine v_iadd C dL_isPlan_279 ?_
                            obtain ⟨g15, h⟩ := omg_some h
                            refine v_iald C (q := 27) (o := 43) (n := 55) rfl g15 dL_isPlan_280 ?_
                            refine v_iload C (q := 4) rfl dL_isPlan_281 ?_
                            refine v_icmp_eq C (tgt := 318) dL_isPlan_283 rfl (fun hc => ?_) (fun hc => ?_)
                            · replace h := (if_pos hc).symm.trans h
                              refine v_iconst C (n := 1) dL_isPlan_318 ?_
                              refine v_goto C (tgt := 323) dL_isPlan_319 rfl ?_
                              cases h
                              exact v_subp [0, 1, 2, 5, 7] rfl Jt13
                            · replace h := (if_neg hc).symm.trans h
                              refine v_aload_n C (q := 1) rfl rfl dL_isPlan_286 ?_
                              refine v_bipush C (a := 50) (by decide) dL_isPlan_287 ?_
                              refine v_aload_n C (q := 1) rfl rfl dL_isPlan_289 ?_
                              refine v_bipush C (a := 40) (by decide) dL_isPlan_290 ?_
                              refine v_iload C (q := 7) rfl dL_isPlan_292 ?_
                              refine v_iadd C dL_isPlan_294 ?_
                              obtain ⟨g16, h⟩ := omg_some h
                              refine v_iald C (q := 27) (o := 43) (n := 55) rfl g16 dL_isPlan_295 ?_
                              refine v_iadd C dL_isPlan_296 ?_
                              obtain ⟨g17, h⟩ := omg_some h
                              refine v_iald C (q := 27) (o := 43) (n := 55) rfl g17 dL_isPlan_297 ?_
                              refine v_if_eq C (tgt := 318) dL_isPlan_298 rfl (fun hc => ?_) (fun hc => ?_)
                              · replace h := (if_pos hc).symm.trans h
                                refine v_iconst C (n := 1) dL_isPlan_318 ?_
                                refine v_goto C (tgt := 323) dL_isPlan_319 rfl ?_
                                cases h
                                exact v_subp [0, 1, 2, 5, 7] rfl Jt13
                              · replace h := (if_neg hc).symm.trans h
                                refine v_iload C (q := 5) rfl dL_isPlan_301 ?_
                                refine v_if_le C (tgt := 322) dL_isPlan_303 rfl (fun hc => ?_) (fun hc => ?_)
                                · replace h := (if_neg hc).symm.trans h
                                  refine v_iconst C (n := 0) dL_isPlan_322 ?_
                                  cases h
                                  exact v_subp [0, 1, 2, 5, 7] rfl Jt13
                                · replace h := (if_pos hc).symm.trans h
                                  refine v_aload_n C (q := 0) rfl rfl dL_isPlan_306 ?_
                                  refine v_iload C (q := 5) rfl dL_isPlan_307 ?_
                                  refine v_iconst C (n := 1) dL_isPlan_309 ?_
                                  refine v_isub C dL_isPlan_310 ?_
                                  obtain ⟨r18, er18, h⟩ := om_bind h
                                  rcases r18 with u19 | u19
                                  · replace h := (Sum.elim_inl _ _ _).symm.trans h
                                    cases h
                                  · replace h := (Sum.elim_inr _ _ _).symm.trans h
                                    refine v_invV_i (As := [.int (omi (v5 - 1))]) C mi_X11_kindOf ml_L_110 (n_X11_kindOf (v5 - 1) σ _ er18) (q := 0) rfl rfl rfl (by decide) (Nat.zero_le _) rfl (Nat.le_of_ble_eq_true rfl) dL_isPlan_311 ?_
                                    refine v_iconst C (n := 1) dL_isPlan_314 ?_
                                    refine v_icmp_ne C (tgt := 322) dL_isPlan_315 rfl (fun hc => ?_) (fun hc => ?_)
                                    · replace h := (if_neg hc).symm.trans h
                                      refine v_iconst C (n := 0) dL_isPlan_322 ?_
                                      cases h
                                      exact v_subp [0, 1, 2, 5, 7] rfl Jt13
                                    · replace h := (if_pos hc).symm.trans h
                                      refine v_iconst C (n := 1) dL_isPlan_318 ?_
                                      refine v_goto C (tgt := 323) dL_isPlan_319 rfl ?_
                                      cases h
                                      exact v_subp [0, 1, 2, 5, 7] rfl Jt13
                        · replace h := (if_neg hc).symm.trans h
                          refine v_aload_n C (q := 0) rfl rfl dL_isPlan_253 ?_
                          refine v_iload C (q := 5) rfl dL_isPlan_254 ?_
                          obtain ⟨r20, er20, h⟩ := om_bind h
                          rcases r20 with u21 | u21
                          · replace h := (Sum.elim_inl _ _ _).symm.trans h
                            cases h
                          · replace h := (Sum.elim_inr _ _ _).symm.trans h
                            refine v_invV_i (As := [.int (omi v5)]) C mi_X11_startOf ml_L_116 (n_X11_startOf v5 σ _ er20) (q := 0) rfl rfl rfl (by decide) (Nat.zero_le _) rfl (Nat.le_of_ble_eq_true rfl) dL_isPlan_256 ?_
                            refine v_aload_n C (q := 1) rfl rfl dL_isPlan_259 ?_
                            refine v_bipush C (a := 30) (by decide) dL_isPlan_260 ?_
                            refine v_iload C (q := 7) rfl dL_isPlan_262 ?_
                            refine v_iadd C dL_isPlan_264 ?_
                            obtain ⟨g22, h⟩ := omg_some h
                            refine v_iald C (q := 27) (o := 43) (n := 55) rfl g22 dL_isPlan_265 ?_
                            refine v_icmp_lt C (tgt := 322) dL_isPlan_266 rfl (fun hc => ?_) (fun hc => ?_)
                            · replace h := (if_pos hc).symm.trans h
                              refine v_iconst C (n := 0) dL_isPlan_322 ?_
                              cases h
                              exact v_subp [0, 1, 2, 5, 7] rfl Jt13
                            · replace h := (if_neg hc).symm.trans h
                              refine v_iload_n C (q := 2) rfl rfl dL_isPlan_269 ?_
                              refine v_iconst C (n := 4) dL_isPlan_270 ?_
                              refine v_icmp_ne C (tgt := 318) dL_isPlan_271 rfl (fun hc => ?_) (fun hc => ?_)
                              · replace h := (if_neg hc).symm.trans h
                                refine v_iconst C (n := 1) dL_isPlan_318 ?_
                                refine v_goto C (tgt := 323) dL_isPlan_319 rfl ?_
                                cases h
                                exact v_subp [0, 1, 2, 5, 7] rfl Jt13
                              · replace h := (if_pos hc).symm.trans h
                                refine v_aload_n C (q := 1) rfl rfl dL_isPlan_274 ?_
                                refine v_bipush C (a := 40) (by decide) dL_isPlan_275 ?_
                                refine v_iload C (q := 7) rfl dL_isPlan_277 ?_
                                refine v_iadd C dL_isPlan_279 ?_
                                obtain ⟨g23, h⟩ := omg_some h
                                refine v_iald C (q := 27) (o := 43) (n := 55) rfl g23 dL_isPlan_280 ?_
                                refine v_iload C (q := 4) rfl dL_isPlan_281 ?_
                                refine v_icmp_eq C (tgt := 318) dL_isPlan_283 rfl (fun hc => ?_) (fun hc => ?_)
                                · replace h := (if_pos hc).symm.trans h
                                  refine v_iconst C (n := 1) dL_isPlan_318 ?_
                                  refine v_goto C (tgt := 323) dL_isPlan_319 rfl ?_
                                  cases h
                                  exact v_subp [0, 1, 2, 5, 7] rfl Jt13
                                · replace h := (if_neg hc).symm.trans h
                                  refine v_aload_n C (q := 1) rfl rfl dL_isPlan_286 ?_
                                  refine v_bipush C (a := 50) (by decide) dL_isPlan_287 ?_
                                  refine v_aload_n C (q := 1) rfl rfl dL_isPlan_289 ?_
                                  refine v_bipush C (a := 40) (by decide) dL_isPlan_290 ?_
                                  refine v_iload C (q := 7) rfl dL_isPlan_292 ?_
                                  refine v_iadd C dL_isPlan_294 ?_
                                  obtain ⟨g24, h⟩ := omg_some h
                                  refine v_iald C (q := 27) (o := 43) (n := 55) rfl g24 dL_isPlan_295 ?_
                                  refine v_iadd C dL_isPlan_296 ?_
                                  obtain ⟨g25, h⟩ := omg_some h
                                  refine v_iald C (q := 27) (o := 43) (n := 55) rfl g25 dL_isPlan_297 ?_
                                  refine v_if_eq C (tgt := 318) dL_isPlan_298 rfl (fun hc => ?_) (fun hc => ?_)
                                  · replace h := (if_pos hc).symm.trans h
                                    refine v_iconst C (n := 1) dL_isPlan_318 ?_
                                    refine v_goto C (tgt := 323) dL_isPlan_319 rfl ?_
                                    cases h
                                    exact v_subp [0, 1, 2, 5, 7] rfl Jt13
                                  · replace h := (if_neg hc).symm.trans h
                                    refine v_iload C (q := 5) rfl dL_isPlan_301 ?_
                                    refine v_if_le C (tgt := 322) dL_isPlan_303 rfl (fun hc => ?_) (fun hc => ?_)
                                    · replace h := (if_neg hc).symm.trans h
                                      refine v_iconst C (n := 0) dL_isPlan_322 ?_
                                      cases h
                                      exact v_subp [0, 1, 2, 5, 7] rfl Jt13
                                    · replace h := (if_pos hc).symm.trans h
                                      refine v_aload_n C (q := 0) rfl rfl dL_isPlan_306 ?_
                                      refine v_iload C (q := 5) rfl dL_isPlan_307 ?_
                                      refine v_iconst C (n := 1) dL_isPlan_309 ?_
                                      refine v_isub C dL_isPlan_310 ?_
                                      obtain ⟨r26, er26, h⟩ := om_bind h
                                      rcases r26 with u27 | u27
                                      · replace h := (Sum.elim_inl _ _ _).symm.trans h
                                        cases h
                                      · replace h := (Sum.elim_inr _ _ _).symm.trans h
                                        refine v_invV_i (As := [.int (omi (v5 - 1))]) C mi_X11_kindOf ml_L_110 (n_X11_kindOf (v5 - 1) σ _ er26) (q := 0) rfl rfl rfl (by decide) (Nat.zero_le _) rfl (Nat.le_of_ble_eq_true rfl) dL_isPlan_311 ?_
                                        refine v_iconst C (n := 1) dL_isPlan_314 ?_
                                        refine v_icmp_ne C (tgt := 322) dL_isPlan_315 rfl (fun hc => ?_) (fun hc => ?_)
                                        · replace h := (if_neg hc).symm.trans h
                                          refine v_iconst C (n := 0) dL_isPlan_322 ?_
                                          cases h
                                          exact v_subp [0, 1, 2, 5, 7] rfl Jt13
                                        · replace h := (if_pos hc).symm.trans h
                                          refine v_iconst C (n := 1) dL_isPlan_318 ?_
                                          refine v_goto C (tgt := 323) dL_isPlan_319 rfl ?_
                                          cases h
                                          exact v_subp [0, 1, 2, 5, 7] rfl Jt13
                  clear h
                  have h := et12
                  clear et12
                  refine v_if_eq C (tgt := 239) dL_isPlan_154 rfl (fun hc => ?_) (fun hc => ?_)
                  · replace h := (if_pos hc).symm.trans h
                    cases h
                    exact v_subp [0, 1, 2, 7, 3, 4, 5, 6] rfl Jt12
                  · replace h := (if_neg hc).symm.trans h
                    refine v_iload C (q := 5) rfl dL_isPlan_157 ?_
                    refine v_iconst C (n := 1) dL_isPlan_159 ?_
                    refine v_icmp_ne C (tgt := 239) dL_isPlan_160 rfl (fun hc => ?_) (fun hc => ?_)
                    · replace h := (if_neg hc).symm.trans h
                      cases h
                      exact v_subp [0, 1, 2, 7, 3, 4, 5, 6] rfl Jt12
                    · replace h := (if_pos hc).symm.trans h
                      refine v_aload_n C (q := 0) rfl rfl dL_isPlan_163 ?_
                      refine v_iload C (q := 4) rfl dL_isPlan_164 ?_
                      obtain ⟨r28, er28, h⟩ := om_bind h
                      rcases r28 with u29 | u29
                      · replace h := (Sum.elim_inl _ _ _).symm.trans h
                        cases h
                      · replace h := (Sum.elim_inr _ _ _).symm.trans h
                        refine v_invV_i (As := [.int (omi v5)]) C mi_X11_endOf ml_L_119 (n_X11_endOf v5 σ _ er28) (q := 0) rfl rfl rfl (by decide) (Nat.zero_le _) rfl (Nat.le_of_ble_eq_true rfl) dL_isPlan_166 ?_
                        refine v_aload_n C (q := 0) rfl rfl dL_isPlan_169 ?_
                        refine v_iload C (q := 4) rfl dL_isPlan_170 ?_
                        obtain ⟨r30, er30, h⟩ := om_bind h
                        rcases r30 with u31 | u31
                        · replace h := (Sum.elim_inl _ _ _).symm.trans h
                          cases h
                        · replace h := (Sum.elim_inr _ _ _).symm.trans h
                          refine v_invV_i (As := [.int (omi v5)]) C mi_X11_startOf ml_L_116 (n_X11_startOf v5 σ _ er30) (q := 0) rfl rfl rfl (by decide) (Nat.zero_le _) rfl (Nat.le_of_ble_eq_true rfl) dL_isPlan_172 ?_
                          refine v_isub C dL_isPlan_175 ?_
                          refine v_aload_n C (q := 1) rfl rfl dL_isPlan_176 ?_
                          refine v_bipush C (a := 50) (by decide) dL_isPlan_177 ?_
                          refine v_iload C (q := 6) rfl dL_isPlan_179 ?_
                          refine v_iadd C dL_isPlan_181 ?_
                          obtain ⟨g32, h⟩ := omg_some h
                          refine v_iald C (q := 27) (o := 43) (n := 55) rfl g32 dL_isPlan_182 ?_
                          obtain ⟨t33, et33, h⟩ := om_bind h
                          have Jt33 : omV G x 8 238 [(0, .ref (G.1 16)), (1, .ref (G.1 43)), (2, .int (omi v2)), (4, .int (omi v4)), (5, .int (omi v5)), (6, .int (omi u5)), (7, .int (omi u7))] [.int (omi t33)] σ 0 := by
                            refine v_istore_n C (ls' := [(0, .ref (G.1 16)), (1, .ref (G.1 43)), (2, .int (omi v2)), (4, .int (omi v4)), (5, .int (omi v5)), (6, .int (omi u5)), (7, .int (omi u7)), (3, .int (omi t33))]) rfl (by decide) rfl dL_isPlan_238 ?_
                            cases h
                            exact v_subp [0, 1, 2, 7, 3, 4, 5, 6] rfl Jt12
                          clear h
                          have h := et33
                          clear et33
                          refine v_icmp_ne C (tgt := 237) dL_isPlan_183 rfl (fun hc => ?_) (fun hc => ?_)
                          · replace h := (if_neg hc).symm.trans h
                            refine v_iconst C (n := 0) dL_isPlan_237 ?_
                            cases h
                            exact v_subp [0, 1, 2, 3, 4, 5, 6] rfl Jt33
                          · replace h := (if_pos hc).symm.trans h
                            refine v_iload C (q := 6) rfl dL_isPlan_186 ?_
                            refine v_iload C (q := 3) rfl dL_isPlan_188 ?_
                            refine v_icmp_eq C (tgt := 237) dL_isPlan_190 rfl (fun hc => ?_) (fun hc => ?_)
                            · replace h := (if_pos hc).symm.trans h
                              refine v_iconst C (n := 0) dL_isPlan_237 ?_
                              cases h
                              exact v_subp [0, 1, 2, 3, 4, 5, 6] rfl Jt33
                            · replace h := (if_neg hc).symm.trans h
                              refine v_iload C (q := 4) rfl dL_isPlan_193 ?_
                              refine v_iconst C (n := 1) dL_isPlan_195 ?_
                              refine v_iadd C dL_isPlan_196 ?_
                              refine v_aload_n C (q := 0) rfl rfl dL_isPlan_197 ?_
                              obtain ⟨r34, er34, h⟩ := om_bind h
                              refine v_invV_i (As := []) C mi_X11_pieces ml_L_34 (k_X11_pieces  σ _ er34) (q := 0) rfl rfl rfl (by decide) (Nat.zero_le _) rfl (Nat.le_of_ble_eq_true rfl) dL_isPlan_198 ?_
                              refine v_icmp_ge C (tgt := 237) dL_isPlan_201 rfl (fun hc => ?_) (fun hc => ?_)
                              · replace h := (if_neg hc).symm.trans h
                                refine v_iconst C (n := 0) dL_isPlan_237 ?_
                                cases h
                                exact v_subp [0, 1, 2, 3, 4, 5, 6] rfl Jt33
                              · replace h := (if_pos hc).symm.trans h
                                refine v_aload_n C (q := 0) rfl rfl dL_isPlan_204 ?_
                                refine v_iload C (q := 4) rfl dL_isPlan_205 ?_
                                refine v_iconst C (n := 1) dL_isPlan_207 ?_
                                refine v_iadd C dL_isPlan_208 ?_
                                obtain ⟨r35, er35, h⟩ := om_bind h
                                rcases r35 with u36 | u36
                                · replace h := (Sum.elim_inl _ _ _).symm.trans h
                                  cases h
                                · replace h := (Sum.elim_inr _ _ _).symm.trans h
                                  refine v_invV_i (As := [.int (omi (v5 + 1))]) C mi_X11_kindOf ml_L_110 (n_X11_kindOf (v5 + 1) σ _ er35) (q := 0) rfl rfl rfl (by decide) (Nat.zero_le _) rfl (Nat.le_of_ble_eq_true rfl) dL_isPlan_209 ?_
                                  refine v_if_ne C (tgt := 237) dL_isPlan_212 rfl (fun hc => ?_) (fun hc => ?_)
                                  · replace h := (if_neg hc).symm.trans h
                                    refine v_iconst C (n := 0) dL_isPlan_237 ?_
                                    cases h
                                    exact v_subp [0, 1, 2, 3, 4, 5, 6] rfl Jt33
                                  · replace h := (if_pos hc).symm.trans h
                                    refine v_aload_n C (q := 1) rfl rfl dL_isPlan_215 ?_
                                    refine v_bipush C (a := 40) (by decide) dL_isPlan_216 ?_
                                    refine v_aload_n C (q := 0) rfl rfl dL_isPlan_218 ?_
                                    refine v_iload C (q := 4) rfl dL_isPlan_219 ?_
                                    refine v_iconst C (n := 1) dL_isPlan_221 ?_
                                    refine v_iadd C dL_isPlan_222 ?_
                                    obtain ⟨r37, er37, h⟩ := om_bind h
                                    rcases r37 with u38 | u38
                                    · replace h := (Sum.elim_inl _ _ _).symm.trans h
                                      cases h
                                    · replace h := (Sum.elim_inr _ _ _).symm.trans h
                                      refine v_invV_i (As := [.int (omi (v5 + 1))]) C mi_X11_whoseIs ml_L_113 (n_X11_whoseIs (v5 + 1) σ _ er37) (q := 0) rfl rfl rfl (by decide) (Nat.zero_le _) rfl (Nat.le_of_ble_eq_true rfl) dL_isPlan_223 ?_
                                      refine v_iadd C dL_isPlan_226 ?_
                                      obtain ⟨g39, h⟩ := omg_some h
                                      refine v_iald C (q := 27) (o := 43) (n := 55) rfl g39 dL_isPlan_227 ?_
                                      refine v_iload C (q := 6) rfl dL_isPlan_228 ?_
                                      refine v_icmp_ne C (tgt := 237) dL_isPlan_230 rfl (fun hc => ?_) (fun hc => ?_)
                                      · replace h := (if_neg hc).symm.trans h
                                        refine v_iconst C (n := 0) dL_isPlan_237 ?_
                                        cases h
                                        exact v_subp [0, 1, 2, 3, 4, 5, 6] rfl Jt33
                                      · replace h := (if_pos hc).symm.trans h
                                        refine v_iconst C (n := 1) dL_isPlan_233 ?_
                                        refine v_goto C (tgt := 238) dL_isPlan_234 rfl ?_
                                        cases h
                                        exact v_subp [0, 1, 2, 3, 4, 5, 6] rfl Jt33
                clear h
                have h := et11
                clear et11
                refine v_icmp_ne C (tgt := 151) dL_isPlan_82 rfl (fun hc => ?_) (fun hc => ?_)
                · replace h := (if_neg hc).symm.trans h
                  refine v_iconst C (n := 0) dL_isPlan_151 ?_
                  cases h
                  exact Jt11
                · replace h := (if_pos hc).symm.trans h
                  refine v_aload_n C (q := 0) rfl rfl dL_isPlan_85 ?_
                  refine v_iload C (q := 4) rfl dL_isPlan_86 ?_
                  obtain ⟨r40, er40, h⟩ := om_bind h
                  rcases r40 with u41 | u41
                  · replace h := (Sum.elim_inl _ _ _).symm.trans h
                    cases h
                  · replace h := (Sum.elim_inr _ _ _).symm.trans h
                    refine v_invV_i (As := [.int (omi v5)]) C mi_X11_endOf ml_L_119 (n_X11_endOf v5 σ _ er40) (q := 0) rfl rfl rfl (by decide) (Nat.zero_le _) rfl (Nat.le_of_ble_eq_true rfl) dL_isPlan_88 ?_
                    refine v_aload_n C (q := 0) rfl rfl dL_isPlan_91 ?_
                    refine v_iload C (q := 4) rfl dL_isPlan_92 ?_
                    obtain ⟨r42, er42, h⟩ := om_bind h
                    rcases r42 with u43 | u43
                    · replace h := (Sum.elim_inl _ _ _).symm.trans h
                      cases h
                    · replace h := (Sum.elim_inr _ _ _).symm.trans h
                      refine v_invV_i (As := [.int (omi v5)]) C mi_X11_startOf ml_L_116 (n_X11_startOf v5 σ _ er42) (q := 0) rfl rfl rfl (by decide) (Nat.zero_le _) rfl (Nat.le_of_ble_eq_true rfl) dL_isPlan_94 ?_
                      refine v_icmp_le C (tgt := 151) dL_isPlan_97 rfl (fun hc => ?_) (fun hc => ?_)
                      · replace h := (if_neg hc).symm.trans h
                        refine v_iconst C (n := 0) dL_isPlan_151 ?_
                        cases h
                        exact Jt11
                      · replace h := (if_pos hc).symm.trans h
                        refine v_iload C (q := 5) rfl dL_isPlan_100 ?_
                        refine v_if_ne C (tgt := 122) dL_isPlan_102 rfl (fun hc => ?_) (fun hc => ?_)
                        · replace h := (if_neg hc).symm.trans h
                          refine v_iload C (q := 5) rfl dL_isPlan_122 ?_
                          refine v_iconst C (n := 1) dL_isPlan_124 ?_
                          refine v_icmp_ne C (tgt := 136) dL_isPlan_125 rfl (fun hc => ?_) (fun hc => ?_)
                          · replace h := (if_neg hc).symm.trans h
                            refine v_iload_n C (q := 2) rfl rfl dL_isPlan_136 ?_
                            refine v_iconst C (n := 4) dL_isPlan_137 ?_
                            refine v_icmp_le C (tgt := 151) dL_isPlan_138 rfl (fun hc => ?_) (fun hc => ?_)
                            · replace h := (if_neg hc).symm.trans h
                              refine v_iconst C (n := 0) dL_isPlan_151 ?_
                              cases h
                              exact Jt11
                            · replace h := (if_pos hc).symm.trans h
                              refine v_iload C (q := 6) rfl dL_isPlan_141 ?_
                              refine v_iconst C (n := (-1)) dL_isPlan_143 ?_
                              refine v_icmp_ne C (tgt := 151) dL_isPlan_144 rfl (fun hc => ?_) (fun hc => ?_)
                              · replace h := (if_neg hc).symm.trans h
                                refine v_iconst C (n := 0) dL_isPlan_151 ?_
                                cases h
                                exact Jt11
                              · replace h := (if_pos hc).symm.trans h
                                refine v_iconst C (n := 1) dL_isPlan_147 ?_
                                refine v_goto C (tgt := 152) dL_isPlan_148 rfl ?_
                                cases h
                                exact Jt11
                          · replace h := (if_pos hc).symm.trans h
                            refine v_iload_n C (q := 2) rfl rfl dL_isPlan_128 ?_
                            refine v_iconst C (n := 4) dL_isPlan_129 ?_
                            refine v_icmp_ne C (tgt := 151) dL_isPlan_130 rfl (fun hc => ?_) (fun hc => ?_)
                            · replace h := (if_neg hc).symm.trans h
                              refine v_iconst C (n := 0) dL_isPlan_151 ?_
                              cases h
                              exact Jt11
                            · replace h := (if_pos hc).symm.trans h
                              refine v_goto C (tgt := 147) dL_isPlan_133 rfl ?_
                              refine v_iconst C (n := 1) dL_isPlan_147 ?_
                              refine v_goto C (tgt := 152) dL_isPlan_148 rfl ?_
                              cases h
                              exact Jt11
                        · replace h := (if_pos hc).symm.trans h
                          refine v_iload C (q := 6) rfl dL_isPlan_105 ?_
                          refine v_if_lt C (tgt := 151) dL_isPlan_107 rfl (fun hc => ?_) (fun hc => ?_)
                          · replace h := (if_pos hc).symm.trans h
                            refine v_iconst C (n := 0) dL_isPlan_151 ?_
                            cases h
                            exact Jt11
                          · replace h := (if_neg hc).symm.trans h
                            refine v_iload C (q := 6) rfl dL_isPlan_110 ?_
                            refine v_aload_n C (q := 1) rfl rfl dL_isPlan_112 ?_
                            refine v_bipush C (a := 54) (by decide) dL_isPlan_113 ?_
                            obtain ⟨g44, h⟩ := omg_some h
                            refine v_iald C (q := 27) (o := 43) (n := 55) rfl g44 dL_isPlan_115 ?_
                            refine v_icmp_ge C (tgt := 151) dL_isPlan_116 rfl (fun hc => ?_) (fun hc => ?_)
                            · replace h := (if_neg hc).symm.trans h
                              refine v_iconst C (n := 0) dL_isPlan_151 ?_
                              cases h
                              exact Jt11
                            · replace h := (if_pos hc).symm.trans h
                              refine v_goto C (tgt := 147) dL_isPlan_119 rfl ?_
                              refine v_iconst C (n := 1) dL_isPlan_147 ?_
                              refine v_goto C (tgt := 152) dL_isPlan_148 rfl ?_
                              cases h
                              exact Jt11
              clear h
              have h := et10
              clear et10
              refine v_if_ne C (tgt := 74) dL_isPlan_67 rfl (fun hc => ?_) (fun hc => ?_)
              · replace h := (if_neg hc).symm.trans h
                refine v_aload_n C (q := 0) rfl rfl dL_isPlan_74 ?_
                refine v_iload C (q := 5) rfl dL_isPlan_75 ?_
                refine v_iconst C (n := 1) dL_isPlan_77 ?_
                refine v_isub C dL_isPlan_78 ?_
                obtain ⟨r45, er45, h⟩ := om_bind h
                rcases r45 with u46 | u46
                · replace h := (Sum.elim_inl _ _ _).symm.trans h
                  cases h
                · replace h := (Sum.elim_inr _ _ _).symm.trans h
                  refine v_invV_i (As := [.int (omi (v5 - 1))]) C mi_X11_endOf ml_L_119 (n_X11_endOf (v5 - 1) σ _ er45) (q := 0) rfl rfl rfl (by decide) (Nat.zero_le _) rfl (Nat.le_of_ble_eq_true rfl) dL_isPlan_79 ?_
                  cases h
                  exact v_subp [0, 1, 2, 4, 5, 6, 7] rfl Jt10
              · replace h := (if_pos hc).symm.trans h
                refine v_iconst C (n := 0) dL_isPlan_70 ?_
                refine v_goto C (tgt := 82) dL_isPlan_71 rfl ?_
                cases h
                exact v_subp [0, 1, 2, 4, 5, 6, 7] rfl Jt10
set_option maxHeartbeats 4000000 in
set_option maxRecDepth 100000 in
theorem k_L_isPlan {G : omG} (v2 : Int) (σ : omH) (t : Int) (h : s_L_isPlan v2 σ = some t) : omM G yL_isPlan (.code yL_isPlan cL_isPlan 8 (some .boolean)) 4 0 [.ref (G.1 16), .ref (G.1 43), .int (omi v2)] σ (.inr (some (.int (omi t)))) σ := by
  unfold s_L_isPlan at h
  refine om_head (own := RL) (ls := [(0, .ref (G.1 16)), (1, .ref (G.1 43)), (2, .int (omi v2))]) (by decide +kernel) rfl (by simp [lg_sl, Value.category]) rfl (by simp [Value.category]) (fun x C F => ?_)
  refine v_aload_n C (q := 0) rfl rfl dL_isPlan_0 ?_
  obtain ⟨r1, er1, h⟩ := om_bind h
  refine v_invV_i (As := []) C mi_X11_hasPlan ml_L_26 (k_X11_hasPlan  σ _ er1) (q := 0) rfl rfl rfl (by decide) (Nat.zero_le _) rfl (Nat.le_of_ble_eq_true rfl) dL_isPlan_1 ?_
  obtain ⟨t2, et2, h⟩ := om_bind h
  have Jt2 : omV G x 8 23 [(0, .ref (G.1 16)), (1, .ref (G.1 43)), (2, .int (omi v2))] [.int (omi t2)] σ 0 := by
    refine v_istore_n C (ls' := [(0, .ref (G.1 16)), (1, .ref (G.1 43)), (2, .int (omi v2)), (3, .int (omi t2))]) rfl (by decide) rfl dL_isPlan_23 ?_
    refine v_iconst C (n := (-1)) dL_isPlan_24 ?_
    refine v_istore C (ls' := [(0, .ref (G.1 16)), (1, .ref (G.1 43)), (2, .int (omi v2)), (3, .int (omi t2)), (4, .int (omi (-1)))]) (by decide) rfl dL_isPlan_25 ?_
    refine v_iconst C (n := 0) dL_isPlan_27 ?_
    refine v_istore C (ls' := [(0, .ref (G.1 16)), (1, .ref (G.1 43)), (2, .int (omi v2)), (3, .int (omi t2)), (4, .int (omi (-1))), (5, .int (omi 0))]) (by decide) rfl dL_isPlan_28 ?_
    obtain ⟨t47, et47, h⟩ := om_bind h
    refine kl_L_isPlan_30 C v2 σ FU _ _ _ t47 et47 ?_
    refine v_iload_n C (q := 0) rfl rfl dL_isPlan_339 ?_
    obtain ⟨g48, h⟩ := omg_some h
    cases h
    exact v_zret C g48 F dL_isPlan_340 (Nat.zero_le _)
  clear h
  have h := et2
  clear et2
  refine v_if_eq C (tgt := 22) dL_isPlan_4 rfl (fun hc => ?_) (fun hc => ?_)
  · replace h := (if_pos hc).symm.trans h
    refine v_iconst C (n := 0) dL_isPlan_22 ?_
    cases h
    exact Jt2
  · replace h := (if_neg hc).symm.trans h
    refine v_aload_n C (q := 0) rfl rfl dL_isPlan_7 ?_
    obtain ⟨r49, er49, h⟩ := om_bind h
    refine v_invV_i (As := []) C mi_X11_pieces ml_L_34 (k_X11_pieces  σ _ er49) (q := 0) rfl rfl rfl (by decide) (Nat.zero_le _) rfl (Nat.le_of_ble_eq_true rfl) dL_isPlan_8 ?_
    refine v_aload_n C (q := 1) rfl rfl dL_isPlan_11 ?_
    refine v_bipush C (a := 54) (by decide) dL_isPlan_12 ?_
    obtain ⟨g50, h⟩ := omg_some h
    refine v_iald C (q := 27) (o := 43) (n := 55) rfl g50 dL_isPlan_14 ?_
    refine v_icmp_lt C (tgt := 22) dL_isPlan_15 rfl (fun hc => ?_) (fun hc => ?_)
    · replace h := (if_pos hc).symm.trans h
      refine v_iconst C (n := 0) dL_isPlan_22 ?_
      cases h
      exact Jt2
    · replace h := (if_neg hc).symm.trans h
      refine v_iconst C (n := 1) dL_isPlan_18 ?_
      refine v_goto C (tgt := 23) dL_isPlan_19 rfl ?_
      cases h
      exact Jt2
set_option maxHeartbeats 4000000 in
set_option maxRecDepth 100000 in
theorem kl_L_areJobs_39 {G : omG} {x : omX} (C : omC G x RL cL_areJobs 13 (4) 0) (v2 : Int) (v3 : Int) (v4 : Int) (v5 : Int) (v6 : Int) (v7 : Int) (v8 : Int) (σ : omH) : ∀ (n : Nat) (v9 : Int) (v10 : Int) (v11 : Int) (t : Int × Int), l_L_areJobs_39 v2 v3 v4 v5 v6 v7 v8 σ n v9 v10 v11 = some t → omV G x 13 126 [(0, .ref (G.1 16)), (1, .ref (G.1 43)), (2, .int (omi v2)), (3, .int (omi v3)), (4, .int (omi v4)), (5, .int (omi v5)), (6, .int (omi v6)), (7, .int (omi v7)), (8, .int (omi v8)), (9, .int (omi t.1)), (10, .int (omi t.2))] [] σ 0 → omV G x 13 39 [(0, .ref (G.1 16)), (1, .ref (G.1 43)), (2, .int (omi v2)), (3, .int (omi v3)), (4, .int (omi v4)), (5, .int (omi v5)), (6, .int (omi v6)), (7, .int (omi v7)), (8, .int (omi v8)), (9, .int (omi v9)), (10, .int (omi v10)), (11, .int (omi v11))] [] σ 0 := by
  intro n
  induction n with
  | zero => intro v9 v10 v11 t h K; cases h
  | succ n ih =>
    intro v9 v10 v11 t h K
    rw [l_L_areJobs_39.eq_2] at h
    refine v_iload C (q := 11) rfl dL_areJobs_39 ?_
    refine v_aload_n C (q := 0) rfl rfl dL_areJobs_41 ?_
    obtain ⟨r2, er2, h⟩ := om_bind h
    refine v_invV_i (As := []) C mi_X11_pieces ml_L_34 (k_X11_pieces  σ _ er2) (q := 0) rfl rfl rfl (by decide) (Nat.zero_le _) rfl (Nat.le_of_ble_eq_true rfl) dL_areJobs_42 ?_
    refine v_icmp_ge C (tgt := 126) dL_areJobs_45 rfl (fun hc => ?_) (fun hc => ?_)
    · replace h := (if_neg hc).symm.trans h
      cases h
      exact v_subp [0, 1, 2, 3, 4, 5, 6, 7, 8, 9, 10] rfl K
    · replace h := (if_pos hc).symm.trans h
      refine v_aload_n C (q := 0) rfl rfl dL_areJobs_48 ?_
      refine v_iload C (q := 11) rfl dL_areJobs_49 ?_
      obtain ⟨r3, er3, h⟩ := om_bind h
      rcases r3 with u4 | u4
      · replace h := (Sum.elim_inl _ _ _).symm.trans h
        cases h
      · replace h := (Sum.elim_inr _ _ _).symm.trans h
        refine v_invV_i (As := [.int (omi v11)]) C mi_X11_kindOf ml_L_110 (n_X11_kindOf v11 σ _ er3) (q := 0) rfl rfl rfl (by decide) (Nat.zero_le _) rfl (Nat.le_of_ble_eq_true rfl) dL_areJobs_51 ?_
        obtain ⟨t5, et5, h⟩ := om_bind h
        have Jt5 : omV G x 13 73 [(0, .ref (G.1 16)), (1, .ref (G.1 43)), (2, .int (omi v2)), (3, .int (omi v3)), (4, .int (omi v4)), (5, .int (omi v5)), (6, .int (omi v6)), (7, .int (omi v7)), (8, .int (omi v8)), (9, .int (omi v9)), (10, .int (omi v10)), (11, .int (omi v11))] [.int (omi t5)] σ 0 := by
          refine v_istore C (ls' := [(0, .ref (G.1 16)), (1, .ref (G.1 43)), (2, .int (omi v2)), (3, .int (omi v3)), (4, .int (omi v4)), (5, .int (omi v5)), (6, .int (omi v6)), (7, .int (omi v7)), (8, .int (omi v8)), (9, .int (omi v9)), (10, .int (omi v10)), (11, .int (omi v11)), (12, .int (omi t5))]) (by decide) rfl dL_areJobs_73 ?_
          refine v_iload C (q := 9) rfl dL_areJobs_75 ?_
          refine v_iload C (q := 12) rfl dL_areJobs_77 ?_
          obtain ⟨t6, et6, h⟩ := om_bind h
          have Jt6 : omV G x 13 99 [(0, .ref (G.1 16)), (1, .ref (G.1 43)), (2, .int (omi v2)), (3, .int (omi v3)), (4, .int (omi v4)), (5, .int (omi v5)), (6, .int (omi v6)), (7, .int (omi v7)), (8, .int (omi v8)), (10, .int (omi v10)), (11, .int (omi v11)), (12, .int (omi t5))] [.int (omi t6), .int (omi v9)] σ 0 := by
            refine v_iadd C dL_areJobs_99 ?_
            refine v_istore C (ls' := [(0, .ref (G.1 16)), (1, .ref (G.1 43)), (2, .int (omi v2)), (3, .int (omi v3)), (4, .int (omi v4)), (5, .int (omi v5)), (6, .int (omi v6)), (7, .int (omi v7)), (8, .int (omi v8)), (10, .int (omi v10)), (11, .int (omi v11)), (12, .int (omi t5)), (9, .int (omi (v9 + t6)))]) (by decide) rfl dL_areJobs_100 ?_
            refine v_iload C (q := 11) rfl dL_areJobs_102 ?_
            obtain ⟨t7, et7, h⟩ := om_bind h
            have Jt7 : omV G x 13 118 [(0, .ref (G.1 16)), (1, .ref (G.1 43)), (2, .int (omi v2)), (3, .int (omi v3)), (4, .int (omi v4)), (5, .int (omi v5)), (6, .int (omi v6)), (7, .int (omi v7)), (8, .int (omi v8)), (9, .int (omi (v9 + t6))), (11, .int (omi v11))] [.int (omi t7)] σ 0 := by
              refine v_istore C (ls' := [(0, .ref (G.1 16)), (1, .ref (G.1 43)), (2, .int (omi v2)), (3, .int (omi v3)), (4, .int (omi v4)), (5, .int (omi v5)), (6, .int (omi v6)), (7, .int (omi v7)), (8, .int (omi v8)), (9, .int (omi (v9 + t6))), (11, .int (omi v11)), (10, .int (omi t7))]) (by decide) rfl dL_areJobs_118 ?_
              refine v_iinc C (q := 10) (ls' := [(0, .ref (G.1 16)), (1, .ref (G.1 43)), (2, .int (omi v2)), (3, .int (omi v3)), (4, .int (omi v4)), (5, .int (omi v5)), (6, .int (omi v6)), (7, .int (omi v7)), (8, .int (omi v8)), (9, .int (omi (v9 + t6))), (11, .int (omi (v11 + 1))), (10, .int (omi t7))]) rfl (by decide) rfl rfl dL_areJobs_120 ?_
              refine v_goto C (tgt := 39) dL_areJobs_123 rfl ?_
              exact v_subp [0, 1, 2, 3, 4, 5, 6, 7, 8, 9, 11, 10] rfl (ih _ _ _ _ h K)
            clear h
            have h := et7
            clear et7
            refine v_if_eq C (tgt := 116) dL_areJobs_104 rfl (fun hc => ?_) (fun hc => ?_)
            · replace h := (if_pos hc).symm.trans h
              refine v_iload C (q := 9) rfl dL_areJobs_116 ?_
              cases h
              exact v_subp [0, 1, 2, 3, 4, 5, 6, 7, 8, 12, 10] rfl Jt7
            · replace h := (if_neg hc).symm.trans h
              refine v_aload_n C (q := 0) rfl rfl dL_areJobs_107 ?_
              refine v_iload C (q := 10) rfl dL_areJobs_108 ?_
              obtain ⟨r8, er8, h⟩ := om_bind h
              rcases r8 with u9 | u9
              · replace h := (Sum.elim_inl _ _ _).symm.trans h
                cases h
              · replace h := (Sum.elim_inr _ _ _).symm.trans h
                refine v_invV_i (As := [.int (omi v11)]) C mi_X11_endOf ml_L_119 (n_X11_endOf v11 σ _ er8) (q := 0) rfl rfl rfl (by decide) (Nat.zero_le _) rfl (Nat.le_of_ble_eq_true rfl) dL_areJobs_110 ?_
                refine v_goto C (tgt := 118) dL_areJobs_113 rfl ?_
                cases h
                exact v_subp [0, 1, 2, 3, 4, 5, 6, 7, 8, 12, 10] rfl Jt7
          clear h
          have h := et6
          clear et6
          refine v_if_eq C (tgt := 98) dL_areJobs_79 rfl (fun hc => ?_) (fun hc => ?_)
          · replace h := (if_pos hc).symm.trans h
            refine v_iconst C (n := 0) dL_areJobs_98 ?_
            cases h
            exact v_subp [0, 1, 2, 3, 4, 5, 6, 7, 8, 10, 11, 12] rfl Jt6
          · replace h := (if_neg hc).symm.trans h
            refine v_aload_n C (q := 0) rfl rfl dL_areJobs_82 ?_
            refine v_iload C (q := 11) rfl dL_areJobs_83 ?_
            obtain ⟨r10, er10, h⟩ := om_bind h
            rcases r10 with u11 | u11
            · replace h := (Sum.elim_inl _ _ _).symm.trans h
              cases h
            · replace h := (Sum.elim_inr _ _ _).symm.trans h
              refine v_invV_i (As := [.int (omi v11)]) C mi_X11_endOf ml_L_119 (n_X11_endOf v11 σ _ er10) (q := 0) rfl rfl rfl (by decide) (Nat.zero_le _) rfl (Nat.le_of_ble_eq_true rfl) dL_areJobs_85 ?_
              refine v_aload_n C (q := 0) rfl rfl dL_areJobs_88 ?_
              refine v_iload C (q := 11) rfl dL_areJobs_89 ?_
              obtain ⟨r12, er12, h⟩ := om_bind h
              rcases r12 with u13 | u13
              · replace h := (Sum.elim_inl _ _ _).symm.trans h
                cases h
              · replace h := (Sum.elim_inr _ _ _).symm.trans h
                refine v_invV_i (As := [.int (omi v11)]) C mi_X11_startOf ml_L_116 (n_X11_startOf v11 σ _ er12) (q := 0) rfl rfl rfl (by decide) (Nat.zero_le _) rfl (Nat.le_of_ble_eq_true rfl) dL_areJobs_91 ?_
                refine v_isub C dL_areJobs_94 ?_
                refine v_goto C (tgt := 99) dL_areJobs_95 rfl ?_
                cases h
                exact v_subp [0, 1, 2, 3, 4, 5, 6, 7, 8, 10, 11, 12] rfl Jt6
        clear h
        have h := et5
        clear et5
        refine v_if_ne C (tgt := 72) dL_areJobs_54 rfl (fun hc => ?_) (fun hc => ?_)
        · replace h := (if_neg hc).symm.trans h
          refine v_iconst C (n := 0) dL_areJobs_72 ?_
          cases h
          exact Jt5
        · replace h := (if_pos hc).symm.trans h
          refine v_aload_n C (q := 0) rfl rfl dL_areJobs_57 ?_
          refine v_iload C (q := 11) rfl dL_areJobs_58 ?_
          obtain ⟨r14, er14, h⟩ := om_bind h
          rcases r14 with u15 | u15
          · replace h := (Sum.elim_inl _ _ _).symm.trans h
            cases h
          · replace h := (Sum.elim_inr _ _ _).symm.trans h
            refine v_invV_i (As := [.int (omi v11)]) C mi_X11_whoseIs ml_L_113 (n_X11_whoseIs v11 σ _ er14) (q := 0) rfl rfl rfl (by decide) (Nat.zero_le _) rfl (Nat.le_of_ble_eq_true rfl) dL_areJobs_60 ?_
            refine v_iload C (q := 8) rfl dL_areJobs_63 ?_
            refine v_icmp_ne C (tgt := 72) dL_areJobs_65 rfl (fun hc => ?_) (fun hc => ?_)
            · replace h := (if_neg hc).symm.trans h
              refine v_iconst C (n := 0) dL_areJobs_72 ?_
              cases h
              exact Jt5
            · replace h := (if_pos hc).symm.trans h
              refine v_iconst C (n := 1) dL_areJobs_68 ?_
              refine v_goto C (tgt := 73) dL_areJobs_69 rfl ?_
              cases h
              exact Jt5
set_option maxHeartbeats 4000000 in
set_option maxRecDepth 100000 in
theorem kl_L_areJobs_21 {G : omG} {x : omX} (C : omC G x RL cL_areJobs 13 (4) 0) (σ : omH) : ∀ (n : Nat) (v2 : Int) (v3 : Int) (v4 : Int) (v5 : Int) (v6 : Int) (v7 : Int) (v8 : Int) (t : Int × Int × Int × Int × Int × Int), l_L_areJobs_21  σ n v2 v3 v4 v5 v6 v7 v8 = some t → omV G x 13 259 [(0, .ref (G.1 16)), (2, .int (omi t.1)), (3, .int (omi t.2.1)), (4, .int (omi t.2.2.1)), (5, .int (omi t.2.2.2.1)), (6, .int (omi t.2.2.2.2.1)), (7, .int (omi t.2.2.2.2.2))] [] σ 0 → omV G x 13 21 [(0, .ref (G.1 16)), (1, .ref (G.1 43)), (2, .int (omi v2)), (3, .int (omi v3)), (4, .int (omi v4)), (5, .int (omi v5)), (6, .int (omi v6)), (7, .int (omi v7)), (8, .int (omi v8))] [] σ 0 := by
  intro n
  induction n with
  | zero => intro v2 v3 v4 v5 v6 v7 v8 t h K; cases h
  | succ n ih =>
    intro v2 v3 v4 v5 v6 v7 v8 t h K
    rw [l_L_areJobs_21.eq_2] at h
    refine v_iload C (q := 8) rfl dL_areJobs_21 ?_
    refine v_aload_n C (q := 1) rfl rfl dL_areJobs_23 ?_
    refine v_bipush C (a := 54) (by decide) dL_areJobs_24 ?_
    obtain ⟨g1, h⟩ := omg_some h
    refine v_iald C (q := 27) (o := 43) (n := 55) rfl g1 dL_areJobs_26 ?_
    refine v_icmp_ge C (tgt := 259) dL_areJobs_27 rfl (fun hc => ?_) (fun hc => ?_)
    · replace h := (if_neg hc).symm.trans h
      cases h
      exact v_subp [0, 2, 3, 4, 5, 6, 7] rfl K
    · replace h := (if_pos hc).symm.trans h
      refine v_iconst C (n := 0) dL_areJobs_30 ?_
      refine v_istore C (ls' := [(0, .ref (G.1 16)), (1, .ref (G.1 43)), (2, .int (omi v2)), (3, .int (omi v3)), (4, .int (omi v4)), (5, .int (omi v5)), (6, .int (omi v6)), (7, .int (omi v7)), (8, .int (omi v8)), (9, .int (omi 0))]) (by decide) rfl dL_areJobs_31 ?_
      refine v_iconst C (n := 0) dL_areJobs_33 ?_
      refine v_istore C (ls' := [(0, .ref (G.1 16)), (1, .ref (G.1 43)), (2, .int (omi v2)), (3, .int (omi v3)), (4, .int (omi v4)), (5, .int (omi v5)), (6, .int (omi v6)), (7, .int (omi v7)), (8, .int (omi v8)), (9, .int (omi 0)), (10, .int (omi 0))]) (by decide) rfl dL_areJobs_34 ?_
      refine v_iconst C (n := 0) dL_areJobs_36 ?_
      refine v_istore C (ls' := [(0, .ref (G.1 16)), (1, .ref (G.1 43)), (2, .int (omi v2)), (3, .int (omi v3)), (4, .int (omi v4)), (5, .int (omi v5)), (6, .int (omi v6)), (7, .int (omi v7)), (8, .int (omi v8)), (9, .int (omi 0)), (10, .int (omi 0)), (11, .int (omi 0))]) (by decide) rfl dL_areJobs_37 ?_
      obtain ⟨t16, et16, h⟩ := om_bind h
      refine kl_L_areJobs_39 C v2 v3 v4 v5 v6 v7 v8 σ FU _ _ _ t16 et16 ?_
      refine v_iload C (q := 10) rfl dL_areJobs_126 ?_
      refine v_aload_n C (q := 1) rfl rfl dL_areJobs_128 ?_
      refine v_bipush C (a := 10) (by decide) dL_areJobs_129 ?_
      refine v_iload C (q := 8) rfl dL_areJobs_131 ?_
      refine v_iadd C dL_areJobs_133 ?_
      obtain ⟨g17, h⟩ := omg_some h
      refine v_iald C (q := 27) (o := 43) (n := 55) rfl g17 dL_areJobs_134 ?_
      refine v_isub C dL_areJobs_135 ?_
      refine v_istore C (ls' := [(0, .ref (G.1 16)), (1, .ref (G.1 43)), (2, .int (omi v2)), (3, .int (omi v3)), (4, .int (omi v4)), (5, .int (omi v5)), (6, .int (omi v6)), (7, .int (omi v7)), (8, .int (omi v8)), (9, .int (omi t16.1)), (10, .int (omi t16.2)), (11, .int (omi (t16.2 - (σ 43 (omw (10 + v8)).toNat))))]) (by decide) rfl dL_areJobs_136 ?_
      refine v_iload C (q := 7) rfl dL_areJobs_138 ?_
      obtain ⟨t18, et18, h⟩ := om_bind h
      have Jt18 : omV G x 13 179 [(0, .ref (G.1 16)), (1, .ref (G.1 43)), (2, .int (omi v2)), (3, .int (omi v3)), (4, .int (omi v4)), (5, .int (omi v5)), (6, .int (omi v6)), (8, .int (omi v8)), (10, .int (omi t16.2)), (11, .int (omi (t16.2 - (σ 43 (omw (10 + v8)).toNat))))] [.int (omi t18)] σ 0 := by
        refine v_istore C (ls' := [(0, .ref (G.1 16)), (1, .ref (G.1 43)), (2, .int (omi v2)), (3, .int (omi v3)), (4, .int (omi v4)), (5, .int (omi v5)), (6, .int (omi v6)), (8, .int (omi v8)), (10, .int (omi t16.2)), (11, .int (omi (t16.2 - (σ 43 (omw (10 + v8)).toNat)))), (7, .int (omi t18))]) (by decide) rfl dL_areJobs_179 ?_
        refine v_iload C (q := 9) rfl dL_areJobs_181 ?_
        refine v_iload_n C (q := 2) rfl rfl dL_areJobs_183 ?_
        obtain ⟨t19, et19, h⟩ := om_bind h
        have Jt19 : omV G x 13 193 [(0, .ref (G.1 16)), (1, .ref (G.1 43)), (3, .int (omi v3)), (4, .int (omi v4)), (5, .int (omi v5)), (6, .int (omi v6)), (7, .int (omi t18)), (8, .int (omi v8)), (10, .int (omi t16.2)), (11, .int (omi (t16.2 - (σ 43 (omw (10 + v8)).toNat))))] [.int (omi t19)] σ 0 := by
          refine v_istore_n C (ls' := [(0, .ref (G.1 16)), (1, .ref (G.1 43)), (3, .int (omi v3)), (4, .int (omi v4)), (5, .int (omi v5)), (6, .int (omi v6)), (7, .int (omi t18)), (8, .int (omi v8)), (10, .int (omi t16.2)), (11, .int (omi (t16.2 - (σ 43 (omw (10 + v8)).toNat)))), (2, .int (omi t19))]) rfl (by decide) rfl dL_areJobs_193 ?_
          refine v_iload_n C (q := 2) rfl rfl dL_areJobs_194 ?_
          refine v_iload C (q := 9) rfl dL_areJobs_195 ?_
          obtain ⟨t20, et20, h⟩ := om_bind h
          have Jt20 : omV G x 13 205 [(0, .ref (G.1 16)), (1, .ref (G.1 43)), (2, .int (omi t19)), (4, .int (omi v4)), (5, .int (omi v5)), (6, .int (omi v6)), (7, .int (omi t18)), (8, .int (omi v8)), (10, .int (omi t16.2)), (11, .int (omi (t16.2 - (σ 43 (omw (10 + v8)).toNat))))] [.int (omi t20), .int (omi v3)] σ 0 := by
            refine v_iadd C dL_areJobs_205 ?_
            refine v_istore_n C (ls' := [(0, .ref (G.1 16)), (1, .ref (G.1 43)), (2, .int (omi t19)), (4, .int (omi v4)), (5, .int (omi v5)), (6, .int (omi v6)), (7, .int (omi t18)), (8, .int (omi v8)), (10, .int (omi t16.2)), (11, .int (omi (t16.2 - (σ 43 (omw (10 + v8)).toNat)))), (3, .int (omi (v3 + t20)))]) rfl (by decide) rfl dL_areJobs_206 ?_
            refine v_iload C (q := 3) rfl dL_areJobs_207 ?_
            refine v_iload C (q := 8) rfl dL_areJobs_209 ?_
            refine v_iadd C dL_areJobs_211 ?_
            refine v_istore C (ls' := [(0, .ref (G.1 16)), (1, .ref (G.1 43)), (2, .int (omi t19)), (4, .int (omi (v4 + t16.2))), (5, .int (omi v5)), (6, .int (omi v6)), (7, .int (omi t18)), (8, .int (omi v8)), (10, .int (omi t16.2)), (11, .int (omi (t16.2 - (σ 43 (omw (10 + v8)).toNat)))), (3, .int (omi (v3 + t20)))]) (by decide) rfl dL_areJobs_212 ?_
            refine v_iload C (q := 4) rfl dL_areJobs_214 ?_
            refine v_aload_n C (q := 1) rfl rfl dL_areJobs_216 ?_
            refine v_bipush C (a := 20) (by decide) dL_areJobs_217 ?_
            refine v_iload C (q := 7) rfl dL_areJobs_219 ?_
            refine v_iadd C dL_areJobs_221 ?_
            obtain ⟨g21, h⟩ := omg_some h
            refine v_iald C (q := 27) (o := 43) (n := 55) rfl g21 dL_areJobs_222 ?_
            refine v_iload C (q := 8) rfl dL_areJobs_223 ?_
            refine v_imul C dL_areJobs_225 ?_
            refine v_iadd C dL_areJobs_226 ?_
            refine v_istore C (ls' := [(0, .ref (G.1 16)), (1, .ref (G.1 43)), (2, .int (omi t19)), (4, .int (omi (v4 + t16.2))), (5, .int (omi (v5 + ((σ 43 (omw (20 + v8)).toNat) * t16.2)))), (6, .int (omi v6)), (7, .int (omi t18)), (8, .int (omi v8)), (10, .int (omi t16.2)), (11, .int (omi (t16.2 - (σ 43 (omw (10 + v8)).toNat)))), (3, .int (omi (v3 + t20)))]) (by decide) rfl dL_areJobs_227 ?_
            refine v_iload C (q := 5) rfl dL_areJobs_229 ?_
            refine v_iload C (q := 9) rfl dL_areJobs_231 ?_
            obtain ⟨t22, et22, h⟩ := om_bind h
            have Jt22 : omV G x 13 250 [(0, .ref (G.1 16)), (1, .ref (G.1 43)), (2, .int (omi t19)), (3, .int (omi (v3 + t20))), (4, .int (omi (v4 + t16.2))), (5, .int (omi (v5 + ((σ 43 (omw (20 + v8)).toNat) * t16.2)))), (7, .int (omi t18)), (8, .int (omi v8))] [.int (omi t22), .int (omi v6)] σ 0 := by
              refine v_iadd C dL_areJobs_250 ?_
              refine v_istore C (ls' := [(0, .ref (G.1 16)), (1, .ref (G.1 43)), (2, .int (omi t19)), (3, .int (omi (v3 + t20))), (4, .int (omi (v4 + t16.2))), (5, .int (omi (v5 + ((σ 43 (omw (20 + v8)).toNat) * t16.2)))), (7, .int (omi t18)), (8, .int (omi v8)), (6, .int (omi (v6 + t22)))]) (by decide) rfl dL_areJobs_251 ?_
              refine v_iinc C (q := 7) (ls' := [(0, .ref (G.1 16)), (1, .ref (G.1 43)), (2, .int (omi t19)), (3, .int (omi (v3 + t20))), (4, .int (omi (v4 + t16.2))), (5, .int (omi (v5 + ((σ 43 (omw (20 + v8)).toNat) * t16.2)))), (7, .int (omi t18)), (8, .int (omi (v8 + 1))), (6, .int (omi (v6 + t22)))]) rfl (by decide) rfl rfl dL_areJobs_253 ?_
              refine v_goto C (tgt := 21) dL_areJobs_256 rfl ?_
              exact v_subp [0, 1, 2, 3, 4, 5, 8, 6, 7] rfl (ih _ _ _ _ _ _ _ _ h K)
            clear h
            have h := et22
            clear et22
            refine v_if_le C (tgt := 249) dL_areJobs_233 rfl (fun hc => ?_) (fun hc => ?_)
            · replace h := (if_neg hc).symm.trans h
              refine v_iconst C (n := 0) dL_areJobs_249 ?_
              cases h
              exact v_subp [0, 1, 2, 10, 3, 4, 6, 7] rfl Jt22
            · replace h := (if_pos hc).symm.trans h
              refine v_aload_n C (q := 1) rfl rfl dL_areJobs_236 ?_
              refine v_bipush C (a := 20) (by decide) dL_areJobs_237 ?_
              refine v_iload C (q := 7) rfl dL_areJobs_239 ?_
              refine v_iadd C dL_areJobs_241 ?_
              obtain ⟨g23, h⟩ := omg_some h
              refine v_iald C (q := 27) (o := 43) (n := 55) rfl g23 dL_areJobs_242 ?_
              refine v_iload C (q := 9) rfl dL_areJobs_243 ?_
              refine v_imul C dL_areJobs_245 ?_
              refine v_goto C (tgt := 250) dL_areJobs_246 rfl ?_
              cases h
              exact v_subp [0, 1, 2, 10, 3, 4, 6, 7] rfl Jt22
          clear h
          have h := et20
          clear et20
          refine v_if_le C (tgt := 204) dL_areJobs_197 rfl (fun hc => ?_) (fun hc => ?_)
          · replace h := (if_neg hc).symm.trans h
            refine v_iconst C (n := 0) dL_areJobs_204 ?_
            cases h
            exact v_subp [0, 1, 10, 3, 4, 5, 6, 7, 8, 9] rfl Jt20
          · replace h := (if_pos hc).symm.trans h
            refine v_iconst C (n := 1) dL_areJobs_200 ?_
            refine v_goto C (tgt := 205) dL_areJobs_201 rfl ?_
            cases h
            exact v_subp [0, 1, 10, 3, 4, 5, 6, 7, 8, 9] rfl Jt20
        clear h
        have h := et19
        clear et19
        refine v_icmp_le C (tgt := 192) dL_areJobs_184 rfl (fun hc => ?_) (fun hc => ?_)
        · replace h := (if_neg hc).symm.trans h
          refine v_iload_n C (q := 2) rfl rfl dL_areJobs_192 ?_
          cases h
          exact v_subp [0, 1, 3, 4, 5, 6, 10, 7, 8, 9] rfl Jt19
        · replace h := (if_pos hc).symm.trans h
          refine v_iload C (q := 9) rfl dL_areJobs_187 ?_
          refine v_goto C (tgt := 193) dL_areJobs_189 rfl ?_
          cases h
          exact v_subp [0, 1, 3, 4, 5, 6, 10, 7, 8, 9] rfl Jt19
      clear h
      have h := et18
      clear et18
      refine v_if_eq C (tgt := 178) dL_areJobs_140 rfl (fun hc => ?_) (fun hc => ?_)
      · replace h := (if_pos hc).symm.trans h
        refine v_iconst C (n := 0) dL_areJobs_178 ?_
        cases h
        exact v_subp [0, 1, 2, 3, 4, 5, 6, 8, 10, 11] rfl Jt18
      · replace h := (if_neg hc).symm.trans h
        refine v_iload C (q := 9) rfl dL_areJobs_143 ?_
        refine v_aload_n C (q := 1) rfl rfl dL_areJobs_145 ?_
        refine v_iload C (q := 8) rfl dL_areJobs_146 ?_
        obtain ⟨g24, h⟩ := omg_some h
        refine v_iald C (q := 27) (o := 43) (n := 55) rfl g24 dL_areJobs_148 ?_
        refine v_icmp_ne C (tgt := 178) dL_areJobs_149 rfl (fun hc => ?_) (fun hc => ?_)
        · replace h := (if_neg hc).symm.trans h
          refine v_iconst C (n := 0) dL_areJobs_178 ?_
          cases h
          exact v_subp [0, 1, 2, 3, 4, 5, 6, 8, 10, 11] rfl Jt18
        · replace h := (if_pos hc).symm.trans h
          refine v_aload_n C (q := 0) rfl rfl dL_areJobs_152 ?_
          refine v_iload C (q := 8) rfl dL_areJobs_153 ?_
          obtain ⟨r25, er25, h⟩ := om_bind h
          rcases r25 with u26 | u26
          · replace h := (Sum.elim_inl _ _ _).symm.trans h
            cases h
          · replace h := (Sum.elim_inr _ _ _).symm.trans h
            refine v_invV_i (As := [.int (omi v8)]) C mi_X11_completion ml_L_122 (n_X11_completion v8 σ _ er25) (q := 0) rfl rfl rfl (by decide) (Nat.zero_le _) rfl (Nat.le_of_ble_eq_true rfl) dL_areJobs_155 ?_
            refine v_iload C (q := 10) rfl dL_areJobs_158 ?_
            refine v_icmp_ne C (tgt := 178) dL_areJobs_160 rfl (fun hc => ?_) (fun hc => ?_)
            · replace h := (if_neg hc).symm.trans h
              refine v_iconst C (n := 0) dL_areJobs_178 ?_
              cases h
              exact v_subp [0, 1, 2, 3, 4, 5, 6, 8, 10, 11] rfl Jt18
            · replace h := (if_pos hc).symm.trans h
              refine v_aload_n C (q := 0) rfl rfl dL_areJobs_163 ?_
              refine v_iload C (q := 8) rfl dL_areJobs_164 ?_
              obtain ⟨r27, er27, h⟩ := om_bind h
              rcases r27 with u28 | u28
              · replace h := (Sum.elim_inl _ _ _).symm.trans h
                cases h
              · replace h := (Sum.elim_inr _ _ _).symm.trans h
                refine v_invV_i (As := [.int (omi v8)]) C mi_X11_lateness ml_L_125 (n_X11_lateness v8 σ _ er27) (q := 0) rfl rfl rfl (by decide) (Nat.zero_le _) rfl (Nat.le_of_ble_eq_true rfl) dL_areJobs_166 ?_
                refine v_iload C (q := 11) rfl dL_areJobs_169 ?_
                refine v_icmp_ne C (tgt := 178) dL_areJobs_171 rfl (fun hc => ?_) (fun hc => ?_)
                · replace h := (if_neg hc).symm.trans h
                  refine v_iconst C (n := 0) dL_areJobs_178 ?_
                  cases h
                  exact v_subp [0, 1, 2, 3, 4, 5, 6, 8, 10, 11] rfl Jt18
                · replace h := (if_pos hc).symm.trans h
                  refine v_iconst C (n := 1) dL_areJobs_174 ?_
                  refine v_goto C (tgt := 179) dL_areJobs_175 rfl ?_
                  cases h
                  exact v_subp [0, 1, 2, 3, 4, 5, 6, 8, 10, 11] rfl Jt18
set_option maxHeartbeats 4000000 in
set_option maxRecDepth 100000 in
theorem k_L_areJobs {G : omG}  (σ : omH) (t : Int) (h : s_L_areJobs  σ = some t) : omM G yL_areJobs (.code yL_areJobs cL_areJobs 13 (some .boolean)) 4 0 [.ref (G.1 16), .ref (G.1 43)] σ (.inr (some (.int (omi t)))) σ := by
  unfold s_L_areJobs at h
  refine om_head (own := RL) (ls := [(0, .ref (G.1 16)), (1, .ref (G.1 43))]) (by decide +kernel) rfl (by simp [lg_sl, Value.category]) rfl (by simp [Value.category]) (fun x C F => ?_)
  refine v_sipush C (a := (-1000)) (by decide) dL_areJobs_0 ?_
  refine v_istore_n C (ls' := [(0, .ref (G.1 16)), (1, .ref (G.1 43)), (2, .int (omi (-1000)))]) rfl (by decide) rfl dL_areJobs_3 ?_
  refine v_iconst C (n := 0) dL_areJobs_4 ?_
  refine v_istore_n C (ls' := [(0, .ref (G.1 16)), (1, .ref (G.1 43)), (2, .int (omi (-1000))), (3, .int (omi 0))]) rfl (by decide) rfl dL_areJobs_5 ?_
  refine v_iconst C (n := 0) dL_areJobs_6 ?_
  refine v_istore C (ls' := [(0, .ref (G.1 16)), (1, .ref (G.1 43)), (2, .int (omi (-1000))), (3, .int (omi 0)), (4, .int (omi 0))]) (by decide) rfl dL_areJobs_7 ?_
  refine v_iconst C (n := 0) dL_areJobs_9 ?_
  refine v_istore C (ls' := [(0, .ref (G.1 16)), (1, .ref (G.1 43)), (2, .int (omi (-1000))), (3, .int (omi 0)), (4, .int (omi 0)), (5, .int (omi 0))]) (by decide) rfl dL_areJobs_10 ?_
  refine v_iconst C (n := 0) dL_areJobs_12 ?_
  refine v_istore C (ls' := [(0, .ref (G.1 16)), (1, .ref (G.1 43)), (2, .int (omi (-1000))), (3, .int (omi 0)), (4, .int (omi 0)), (5, .int (omi 0)), (6, .int (omi 0))]) (by decide) rfl dL_areJobs_13 ?_
  refine v_iconst C (n := 1) dL_areJobs_15 ?_
  refine v_istore C (ls' := [(0, .ref (G.1 16)), (1, .ref (G.1 43)), (2, .int (omi (-1000))), (3, .int (omi 0)), (4, .int (omi 0)), (5, .int (omi 0)), (6, .int (omi 0)), (7, .int (omi 1))]) (by decide) rfl dL_areJobs_16 ?_
  refine v_iconst C (n := 0) dL_areJobs_18 ?_
  refine v_istore C (ls' := [(0, .ref (G.1 16)), (1, .ref (G.1 43)), (2, .int (omi (-1000))), (3, .int (omi 0)), (4, .int (omi 0)), (5, .int (omi 0)), (6, .int (omi 0)), (7, .int (omi 1)), (8, .int (omi 0))]) (by decide) rfl dL_areJobs_19 ?_
  obtain ⟨t29, et29, h⟩ := om_bind h
  refine kl_L_areJobs_21 C  σ FU _ _ _ _ _ _ _ t29 et29 ?_
  refine v_iload C (q := 6) rfl dL_areJobs_259 ?_
  refine v_if_eq C (tgt := 311) dL_areJobs_261 rfl (fun hc => ?_) (fun hc => ?_)
  · replace h := (if_pos hc).symm.trans h
    refine v_iconst C (n := 0) dL_areJobs_311 ?_
    cases h
    exact v_zret C (by decide) F dL_areJobs_312 (Nat.zero_le _)
  · replace h := (if_neg hc).symm.trans h
    refine v_aload_n C (q := 0) rfl rfl dL_areJobs_264 ?_
    obtain ⟨r30, er30, h⟩ := om_bind h
    rcases r30 with u31 | u31
    · replace h := (Sum.elim_inl _ _ _).symm.trans h
      cases h
    · replace h := (Sum.elim_inr _ _ _).symm.trans h
      refine v_invV_i (As := []) C mi_X11_maxLateness ml_L_85 (n_X11_maxLateness  σ _ er30) (q := 0) rfl rfl rfl (by decide) (Nat.zero_le _) rfl (Nat.le_of_ble_eq_true rfl) dL_areJobs_265 ?_
      refine v_iload_n C (q := 1) rfl rfl dL_areJobs_268 ?_
      refine v_icmp_ne C (tgt := 311) dL_areJobs_269 rfl (fun hc => ?_) (fun hc => ?_)
      · replace h := (if_neg hc).symm.trans h
        refine v_iconst C (n := 0) dL_areJobs_311 ?_
        cases h
        exact v_zret C (by decide) F dL_areJobs_312 (Nat.zero_le _)
      · replace h := (if_pos hc).symm.trans h
        refine v_aload_n C (q := 0) rfl rfl dL_areJobs_272 ?_
        obtain ⟨r32, er32, h⟩ := om_bind h
        rcases r32 with u33 | u33
        · replace h := (Sum.elim_inl _ _ _).symm.trans h
          cases h
        · replace h := (Sum.elim_inr _ _ _).symm.trans h
          refine v_invV_i (As := []) C mi_X11_lateJobs ml_L_73 (n_X11_lateJobs  σ _ er32) (q := 0) rfl rfl rfl (by decide) (Nat.zero_le _) rfl (Nat.le_of_ble_eq_true rfl) dL_areJobs_273 ?_
          refine v_iload_n C (q := 2) rfl rfl dL_areJobs_276 ?_
          refine v_icmp_ne C (tgt := 311) dL_areJobs_277 rfl (fun hc => ?_) (fun hc => ?_)
          · replace h := (if_neg hc).symm.trans h
            refine v_iconst C (n := 0) dL_areJobs_311 ?_
            cases h
            exact v_zret C (by decide) F dL_areJobs_312 (Nat.zero_le _)
          · replace h := (if_pos hc).symm.trans h
            refine v_aload_n C (q := 0) rfl rfl dL_areJobs_280 ?_
            obtain ⟨r34, er34, h⟩ := om_bind h
            rcases r34 with u35 | u35
            · replace h := (Sum.elim_inl _ _ _).symm.trans h
              cases h
            · replace h := (Sum.elim_inr _ _ _).symm.trans h
              refine v_invV_i (As := []) C mi_X11_completions ml_L_82 (n_X11_completions  σ _ er34) (q := 0) rfl rfl rfl (by decide) (Nat.zero_le _) rfl (Nat.le_of_ble_eq_true rfl) dL_areJobs_281 ?_
              refine v_iload C (q := 3) rfl dL_areJobs_284 ?_
              refine v_icmp_ne C (tgt := 311) dL_areJobs_286 rfl (fun hc => ?_) (fun hc => ?_)
              · replace h := (if_neg hc).symm.trans h
                refine v_iconst C (n := 0) dL_areJobs_311 ?_
                cases h
                exact v_zret C (by decide) F dL_areJobs_312 (Nat.zero_le _)
              · replace h := (if_pos hc).symm.trans h
                refine v_aload_n C (q := 0) rfl rfl dL_areJobs_289 ?_
                obtain ⟨r36, er36, h⟩ := om_bind h
                rcases r36 with u37 | u37
                · replace h := (Sum.elim_inl _ _ _).symm.trans h
                  cases h
                · replace h := (Sum.elim_inr _ _ _).symm.trans h
                  refine v_invV_i (As := []) C mi_X11_weightedCompletions ml_L_76 (n_X11_weightedCompletions  σ _ er36) (q := 0) rfl rfl rfl (by decide) (Nat.zero_le _) rfl (Nat.le_of_ble_eq_true rfl) dL_areJobs_290 ?_
                  refine v_iload C (q := 4) rfl dL_areJobs_293 ?_
                  refine v_icmp_ne C (tgt := 311) dL_areJobs_295 rfl (fun hc => ?_) (fun hc => ?_)
                  · replace h := (if_neg hc).symm.trans h
                    refine v_iconst C (n := 0) dL_areJobs_311 ?_
                    cases h
                    exact v_zret C (by decide) F dL_areJobs_312 (Nat.zero_le _)
                  · replace h := (if_pos hc).symm.trans h
                    refine v_aload_n C (q := 0) rfl rfl dL_areJobs_298 ?_
                    obtain ⟨r38, er38, h⟩ := om_bind h
                    rcases r38 with u39 | u39
                    · replace h := (Sum.elim_inl _ _ _).symm.trans h
                      cases h
                    · replace h := (Sum.elim_inr _ _ _).symm.trans h
                      refine v_invV_i (As := []) C mi_X11_weightedTardiness ml_L_79 (n_X11_weightedTardiness  σ _ er38) (q := 0) rfl rfl rfl (by decide) (Nat.zero_le _) rfl (Nat.le_of_ble_eq_true rfl) dL_areJobs_299 ?_
                      refine v_iload C (q := 5) rfl dL_areJobs_302 ?_
                      refine v_icmp_ne C (tgt := 311) dL_areJobs_304 rfl (fun hc => ?_) (fun hc => ?_)
                      · replace h := (if_neg hc).symm.trans h
                        refine v_iconst C (n := 0) dL_areJobs_311 ?_
                        cases h
                        exact v_zret C (by decide) F dL_areJobs_312 (Nat.zero_le _)
                      · replace h := (if_pos hc).symm.trans h
                        refine v_iconst C (n := 1) dL_areJobs_307 ?_
                        refine v_goto C (tgt := 312) dL_areJobs_308 rfl ?_
                        cases h
                        exact v_zret C (by decide) F dL_areJobs_312 (Nat.zero_le _)
set_option maxHeartbeats 4000000 in
set_option maxRecDepth 100000 in
theorem kl_L_isWindow_4 {G : omG} {x : omX} (C : omC G x RL cL_isWindow 4 (5) 0) : ∀ (n : Nat) (v2 : Int) (v3 : Int) (σ : omH) (t : Int × omH), l_L_isWindow_4  n v2 v3 σ = some t → omV G x 4 54 [(0, .ref (G.1 16)), (2, .int (omi t.1))] [] t.2 0 → omV G x 4 4 [(0, .ref (G.1 16)), (1, .ref (G.1 43)), (2, .int (omi v2)), (3, .int (omi v3))] [] σ 0 := by
  intro n
  induction n with
  | zero => intro v2 v3 σ t h K; cases h
  | succ n ih =>
    intro v2 v3 σ t h K
    rw [l_L_isWindow_4.eq_2] at h
    refine v_iload_n C (q := 3) rfl rfl dL_isWindow_4 ?_
    refine v_aload_n C (q := 1) rfl rfl dL_isWindow_5 ?_
    refine v_bipush C (a := 54) (by decide) dL_isWindow_6 ?_
    obtain ⟨g1, h⟩ := omg_some h
    refine v_iald C (q := 27) (o := 43) (n := 55) rfl g1 dL_isWindow_8 ?_
    refine v_icmp_ge C (tgt := 54) dL_isWindow_9 rfl (fun hc => ?_) (fun hc => ?_)
    · replace h := (if_neg hc).symm.trans h
      cases h
      exact v_subp [0, 2] rfl K
    · replace h := (if_pos hc).symm.trans h
      refine v_iload_n C (q := 2) rfl rfl dL_isWindow_12 ?_
      refine v_aload_n C (q := 1) rfl rfl dL_isWindow_13 ?_
      refine v_bipush C (a := 30) (by decide) dL_isWindow_14 ?_
      refine v_iload_n C (q := 3) rfl rfl dL_isWindow_16 ?_
      refine v_iadd C dL_isWindow_17 ?_
      obtain ⟨g2, h⟩ := omg_some h
      refine v_iald C (q := 27) (o := 43) (n := 55) rfl g2 dL_isWindow_18 ?_
      refine v_aload_n C (q := 0) rfl rfl dL_isWindow_19 ?_
      obtain ⟨r3, er3, h⟩ := om_bind h
      rcases r3 with u4 | u4
      · replace h := (Sum.elim_inl _ _ _).symm.trans h
        cases h
      · replace h := (Sum.elim_inr _ _ _).symm.trans h
        refine v_invV_i (As := []) C mi_X11_windowRelease ml_L_128 (n_X11_windowRelease  σ _ er3) (q := 0) rfl rfl rfl (by decide) (Nat.zero_le _) rfl (Nat.le_of_ble_eq_true rfl) dL_isWindow_20 ?_
        obtain ⟨t5, et5, h⟩ := om_bind h
        have Jt5 : omV G x 4 46 [(0, .ref (G.1 16)), (1, .ref (G.1 43)), (3, .int (omi v3))] [.int (omi t5.1), .int (omi v2)] t5.2 0 := by
          refine v_iadd C dL_isWindow_46 ?_
          refine v_istore_n C (ls' := [(0, .ref (G.1 16)), (1, .ref (G.1 43)), (3, .int (omi v3)), (2, .int (omi (v2 + t5.1)))]) rfl (by decide) rfl dL_isWindow_47 ?_
          refine v_iinc C (q := 2) (ls' := [(0, .ref (G.1 16)), (1, .ref (G.1 43)), (3, .int (omi (v3 + 1))), (2, .int (omi (v2 + t5.1)))]) rfl (by decide) rfl rfl dL_isWindow_48 ?_
          refine v_goto C (tgt := 4) dL_isWindow_51 rfl ?_
          exact v_subp [0, 1, 3, 2] rfl (ih _ _ _ _ h K)
        clear h
        have h := et5
        clear et5
        refine v_icmp_lt C (tgt := 45) dL_isWindow_23 rfl (fun hc => ?_) (fun hc => ?_)
        · replace h := (if_pos hc).symm.trans h
          refine v_iconst C (n := 0) dL_isWindow_45 ?_
          cases h
          exact v_subp [0, 1, 3] rfl Jt5
        · replace h := (if_neg hc).symm.trans h
          refine v_aload_n C (q := 1) rfl rfl dL_isWindow_26 ?_
          refine v_bipush C (a := 10) (by decide) dL_isWindow_27 ?_
          refine v_iload_n C (q := 3) rfl rfl dL_isWindow_29 ?_
          refine v_iadd C dL_isWindow_30 ?_
          obtain ⟨g6, h⟩ := omg_some h
          refine v_iald C (q := 27) (o := 43) (n := 55) rfl g6 dL_isWindow_31 ?_
          refine v_aload_n C (q := 0) rfl rfl dL_isWindow_32 ?_
          obtain ⟨r7, er7, h⟩ := om_bind h
          rcases r7 with u8 | u8
          · replace h := (Sum.elim_inl _ _ _).symm.trans h
            cases h
          · replace h := (Sum.elim_inr _ _ _).symm.trans h
            refine v_invV_i (As := []) C mi_X11_windowDue ml_L_131 (n_X11_windowDue  u4.2 _ er7) (q := 0) rfl rfl rfl (by decide) (Nat.zero_le _) rfl (Nat.le_of_ble_eq_true rfl) dL_isWindow_33 ?_
            refine v_icmp_gt C (tgt := 45) dL_isWindow_36 rfl (fun hc => ?_) (fun hc => ?_)
            · replace h := (if_pos hc).symm.trans h
              refine v_iconst C (n := 0) dL_isWindow_45 ?_
              cases h
              exact v_subp [0, 1, 3] rfl Jt5
            · replace h := (if_neg hc).symm.trans h
              refine v_aload_n C (q := 1) rfl rfl dL_isWindow_39 ?_
              refine v_iload_n C (q := 3) rfl rfl dL_isWindow_40 ?_
              obtain ⟨g9, h⟩ := omg_some h
              refine v_iald C (q := 27) (o := 43) (n := 55) rfl g9 dL_isWindow_41 ?_
              refine v_goto C (tgt := 46) dL_isWindow_42 rfl ?_
              cases h
              exact v_subp [0, 1, 3] rfl Jt5
set_option maxHeartbeats 4000000 in
set_option maxRecDepth 100000 in
theorem k_L_isWindow {G : omG}  (σ : omH) (t : Int × omH) (h : s_L_isWindow  σ = some t) : omM G yL_isWindow (.code yL_isWindow cL_isWindow 4 (some .boolean)) 5 0 [.ref (G.1 16), .ref (G.1 43)] σ (.inr (some (.int (omi t.1)))) t.2 := by
  unfold s_L_isWindow at h
  refine om_head (own := RL) (ls := [(0, .ref (G.1 16)), (1, .ref (G.1 43))]) (by decide +kernel) rfl (by simp [lg_sl, Value.category]) rfl (by simp [Value.category]) (fun x C F => ?_)
  refine v_iconst C (n := 0) dL_isWindow_0 ?_
  refine v_istore_n C (ls' := [(0, .ref (G.1 16)), (1, .ref (G.1 43)), (2, .int (omi 0))]) rfl (by decide) rfl dL_isWindow_1 ?_
  refine v_iconst C (n := 0) dL_isWindow_2 ?_
  refine v_istore_n C (ls' := [(0, .ref (G.1 16)), (1, .ref (G.1 43)), (2, .int (omi 0)), (3, .int (omi 0))]) rfl (by decide) rfl dL_isWindow_3 ?_
  obtain ⟨t10, et10, h⟩ := om_bind h
  refine kl_L_isWindow_4 C  FU _ _ _ t10 et10 ?_
  refine v_iload_n C (q := 1) rfl rfl dL_isWindow_54 ?_
  refine v_if_le C (tgt := 81) dL_isWindow_55 rfl (fun hc => ?_) (fun hc => ?_)
  · replace h := (if_neg hc).symm.trans h
    refine v_iconst C (n := 0) dL_isWindow_81 ?_
    cases h
    exact v_zret C (by decide) F dL_isWindow_82 (Nat.zero_le _)
  · replace h := (if_pos hc).symm.trans h
    refine v_aload_n C (q := 0) rfl rfl dL_isWindow_58 ?_
    refine v_iconst C (n := 1) dL_isWindow_59 ?_
    obtain ⟨r11, er11, h⟩ := om_bind h
    rcases r11 with u12 | u12
    · replace h := (Sum.elim_inl _ _ _).symm.trans h
      cases h
    · replace h := (Sum.elim_inr _ _ _).symm.trans h
      refine v_invV_i (As := [.int (omi 1)]) C mi_X11_windowBound ml_L_88 (n_X11_windowBound 1 t10.2 _ er11) (q := 0) rfl rfl rfl (by decide) (Nat.zero_le _) rfl (Nat.le_of_ble_eq_true rfl) dL_isWindow_60 ?_
      refine v_aload_n C (q := 0) rfl rfl dL_isWindow_63 ?_
      obtain ⟨r13, er13, h⟩ := om_bind h
      rcases r13 with u14 | u14
      · replace h := (Sum.elim_inl _ _ _).symm.trans h
        cases h
      · replace h := (Sum.elim_inr _ _ _).symm.trans h
        refine v_invV_i (As := []) C mi_X11_windowRelease ml_L_128 (n_X11_windowRelease  u12.2 _ er13) (q := 0) rfl rfl rfl (by decide) (Nat.zero_le _) rfl (Nat.le_of_ble_eq_true rfl) dL_isWindow_64 ?_
        refine v_iload_n C (q := 1) rfl rfl dL_isWindow_67 ?_
        refine v_iadd C dL_isWindow_68 ?_
        refine v_aload_n C (q := 0) rfl rfl dL_isWindow_69 ?_
        obtain ⟨r15, er15, h⟩ := om_bind h
        rcases r15 with u16 | u16
        · replace h := (Sum.elim_inl _ _ _).symm.trans h
          cases h
        · replace h := (Sum.elim_inr _ _ _).symm.trans h
          refine v_invV_i (As := []) C mi_X11_windowDue ml_L_131 (n_X11_windowDue  u14.2 _ er15) (q := 0) rfl rfl rfl (by decide) (Nat.zero_le _) rfl (Nat.le_of_ble_eq_true rfl) dL_isWindow_70 ?_
          refine v_isub C dL_isWindow_73 ?_
          refine v_icmp_ne C (tgt := 81) dL_isWindow_74 rfl (fun hc => ?_) (fun hc => ?_)
          · replace h := (if_neg hc).symm.trans h
            refine v_iconst C (n := 0) dL_isWindow_81 ?_
            cases h
            exact v_zret C (by decide) F dL_isWindow_82 (Nat.zero_le _)
          · replace h := (if_pos hc).symm.trans h
            refine v_iconst C (n := 1) dL_isWindow_77 ?_
            refine v_goto C (tgt := 82) dL_isWindow_78 rfl ?_
            cases h
            exact v_zret C (by decide) F dL_isWindow_82 (Nat.zero_le _)
