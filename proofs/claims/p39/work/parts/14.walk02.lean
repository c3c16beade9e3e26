set_option maxHeartbeats 4000000 in
set_option maxRecDepth 100000 in
theorem kl_X7_fillLeastTardiness_38 {G : omG} {x : omX} (C : omC G x RX7 cX7_fillLeastTardiness 5 (3) 0) (v2 : Int) (v3 : Int) : ∀ (n : Nat) (v4 : Int) (σ : omH) (t : omH), l_X7_fillLeastTardiness_38 v2 v3 n v4 σ = some t → omV G x 5 87 [(0, .ref (G.1 29)), (1, .ref (G.1 17)), (2, .int (omi v2))] [] t 0 → omV G x 5 38 [(0, .ref (G.1 29)), (1, .ref (G.1 17)), (2, .int (omi v2)), (3, .int (omi v3)), (4, .int (omi v4))] [] σ 0 := by
  intro n
  induction n with
  | zero => intro v4 σ t h K; cases h
  | succ n ih =>
    intro v4 σ t h K
    rw [l_X7_fillLeastTardiness_38.eq_2] at h
    refine v_iload C (q := 4) rfl dX7_fillLeastTardiness_38 ?_
    refine v_aload_n C (q := 1) rfl rfl dX7_fillLeastTardiness_40 ?_
    refine v_geti C (q := 1) (o := 17) fi_X7_42 rfl rfl dX7_fillLeastTardiness_41 ?_
    refine v_icmp_ge C (tgt := 87) dX7_fillLeastTardiness_44 rfl (fun hc => ?_) (fun hc => ?_)
    · replace h := (if_neg hc).symm.trans h
      cases h
      exact v_subp [0, 1, 2] rfl K
    · replace h := (if_pos hc).symm.trans h
      refine v_aload_n C (q := 1) rfl rfl dX7_fillLeastTardiness_47 ?_
      refine v_iload_n C (q := 2) rfl rfl dX7_fillLeastTardiness_48 ?_
      refine v_iload C (q := 4) rfl dX7_fillLeastTardiness_49 ?_
      obtain ⟨r6, er6, h⟩ := om_bind h
      refine v_invV_i (As := [.int (omi v2), .int (omi v4)]) C mi_X2_isIn ml_X7_61 (k_X2_isIn v2 v4 σ _ er6) (q := 1) rfl rfl rfl (by decide) (Nat.zero_le _) rfl (Nat.le_of_ble_eq_true rfl) dX7_fillLeastTardiness_51 ?_
      refine v_if_ne C (tgt := 81) dX7_fillLeastTardiness_54 rfl (fun hc => ?_) (fun hc => ?_)
      · replace h := (if_neg hc).symm.trans h
        refine v_iinc C (q := 4) (ls' := [(0, .ref (G.1 29)), (1, .ref (G.1 17)), (2, .int (omi v2)), (3, .int (omi v3)), (4, .int (omi (v4 + 1)))]) rfl (by decide) rfl rfl dX7_fillLeastTardiness_81 ?_
        refine v_goto C (tgt := 38) dX7_fillLeastTardiness_84 rfl ?_
        exact ih _ _ _ h K
      · replace h := (if_pos hc).symm.trans h
        refine v_aload_n C (q := 0) rfl rfl dX7_fillLeastTardiness_57 ?_
        refine v_getr C (q := 13) (o := 29) (r := 34) fi_X7_24 rfl rfl rfl dX7_fillLeastTardiness_58 ?_
        refine v_iload_n C (q := 2) rfl rfl dX7_fillLeastTardiness_61 ?_
        refine v_aload_n C (q := 0) rfl rfl dX7_fillLeastTardiness_62 ?_
        refine v_getr C (q := 13) (o := 29) (r := 34) fi_X7_24 rfl rfl rfl dX7_fillLeastTardiness_63 ?_
        refine v_iload_n C (q := 2) rfl rfl dX7_fillLeastTardiness_66 ?_
        obtain ⟨g7, h⟩ := omg_some h
        refine v_iald C (q := 18) (o := 34) (n := 5120) rfl g7 dX7_fillLeastTardiness_67 ?_
        refine v_aload_n C (q := 0) rfl rfl dX7_fillLeastTardiness_68 ?_
        refine v_aload_n C (q := 1) rfl rfl dX7_fillLeastTardiness_69 ?_
        refine v_iload_n C (q := 2) rfl rfl dX7_fillLeastTardiness_70 ?_
        refine v_iload_n C (q := 3) rfl rfl dX7_fillLeastTardiness_71 ?_
        refine v_iload C (q := 4) rfl dX7_fillLeastTardiness_72 ?_
        obtain ⟨r8, er8, h⟩ := om_bind h
        refine v_invV_i (As := [.ref (G.1 17), .int (omi v2), .int (omi v3), .int (omi v4)]) C mi_X7_tardinessBy ml_X7_72 (k_X7_tardinessBy v2 v3 v4 σ _ er8) (q := 13) rfl rfl rfl (by decide) (Nat.zero_le _) rfl (Nat.le_of_ble_eq_true rfl) dX7_fillLeastTardiness_74 ?_
        refine v_mmin C ml_X7_81 ms_min ini_Math mc_min (Nat.le_of_ble_eq_true rfl) (Nat.zero_le _) dX7_fillLeastTardiness_77 ?_
        obtain ⟨g9, h⟩ := omg_some h
        refine v_iast C (q := 18) (o := 34) (n := 5120) rfl g9 dX7_fillLeastTardiness_80 ?_
        refine v_iinc C (q := 4) (ls' := [(0, .ref (G.1 29)), (1, .ref (G.1 17)), (2, .int (omi v2)), (3, .int (omi v3)), (4, .int (omi (v4 + 1)))]) rfl (by decide) rfl rfl dX7_fillLeastTardiness_81 ?_
        refine v_goto C (tgt := 38) dX7_fillLeastTardiness_84 rfl ?_
        exact ih _ _ _ h K
set_option maxHeartbeats 4000000 in
set_option maxRecDepth 100000 in
theorem kl_X7_fillLeastTardiness_17 {G : omG} {x : omX} (C : omC G x RX7 cX7_fillLeastTardiness 5 (3) 0) : ∀ (n : Nat) (v2 : Int) (σ : omH) (t : omH), l_X7_fillLeastTardiness_17  n v2 σ = some t → omV G x 5 93 [] [] t 0 → omV G x 5 17 [(0, .ref (G.1 29)), (1, .ref (G.1 17)), (2, .int (omi v2))] [] σ 0 := by
  intro n
  induction n with
  | zero => intro v2 σ t h K; cases h
  | succ n ih =>
    intro v2 σ t h K
    rw [l_X7_fillLeastTardiness_17.eq_2] at h
    refine v_iload_n C (q := 2) rfl rfl dX7_fillLeastTardiness_17 ?_
    refine v_if_lt C (tgt := 93) dX7_fillLeastTardiness_18 rfl (fun hc => ?_) (fun hc => ?_)
    · replace h := (if_pos hc).symm.trans h
      cases h
      exact v_subp [] rfl K
    · replace h := (if_neg hc).symm.trans h
      refine v_aload_n C (q := 1) rfl rfl dX7_fillLeastTardiness_21 ?_
      refine v_iload_n C (q := 2) rfl rfl dX7_fillLeastTardiness_22 ?_
      obtain ⟨r4, er4, h⟩ := om_bind h
      refine v_invV_i (As := [.int (omi v2)]) C mi_X2_lengthOfSet ml_X7_46 (k_X2_lengthOfSet v2 σ _ er4) (q := 1) rfl rfl rfl (by decide) (Nat.zero_le _) rfl (Nat.le_of_ble_eq_true rfl) dX7_fillLeastTardiness_23 ?_
      refine v_istore_n C (ls' := [(0, .ref (G.1 29)), (1, .ref (G.1 17)), (2, .int (omi v2)), (3, .int (omi r4))]) rfl (by decide) rfl dX7_fillLeastTardiness_26 ?_
      refine v_aload_n C (q := 0) rfl rfl dX7_fillLeastTardiness_27 ?_
      refine v_getr C (q := 13) (o := 29) (r := 34) fi_X7_24 rfl rfl rfl dX7_fillLeastTardiness_28 ?_
      refine v_iload_n C (q := 2) rfl rfl dX7_fillLeastTardiness_31 ?_
      refine v_ldc C kc_X7_80 dX7_fillLeastTardiness_32 ?_
      obtain ⟨g5, h⟩ := omg_some h
      refine v_iast C (q := 18) (o := 34) (n := 5120) rfl g5 dX7_fillLeastTardiness_34 ?_
      refine v_iconst C (n := 0) dX7_fillLeastTardiness_35 ?_
      refine v_istore C (ls' := [(0, .ref (G.1 29)), (1, .ref (G.1 17)), (2, .int (omi v2)), (3, .int (omi r4)), (4, .int (omi 0))]) (by decide) rfl dX7_fillLeastTardiness_36 ?_
      obtain ⟨t10, et10, h⟩ := om_bind h
      refine kl_X7_fillLeastTardiness_38 C v2 r4 FU _ _ t10 et10 ?_
      refine v_iinc C (q := 2) (ls' := [(0, .ref (G.1 29)), (1, .ref (G.1 17)), (2, .int (omi (v2 + (-1))))]) rfl (by decide) rfl rfl dX7_fillLeastTardiness_87 ?_
      refine v_goto C (tgt := 17) dX7_fillLeastTardiness_90 rfl ?_
      exact ih _ _ _ h K
set_option maxHeartbeats 4000000 in
set_option maxRecDepth 100000 in
theorem k_X7_fillLeastTardiness {G : omG}  (σ : omH) (t : omH) (h : s_X7_fillLeastTardiness  σ = some t) : omM G yX7_fillLeastTardiness (.code yX7_fillLeastTardiness cX7_fillLeastTardiness 5 none) 3 0 [.ref (G.1 29), .ref (G.1 17)] σ (.inr none) t := by
  unfold s_X7_fillLeastTardiness at h
  refine om_head (own := RX7) (ls := [(0, .ref (G.1 29)), (1, .ref (G.1 17))]) (by decide +kernel) rfl (by simp [lg_sl, Value.category]) rfl (by simp [Value.category]) (fun x C F => ?_)
  refine v_aload_n C (q := 0) rfl rfl dX7_fillLeastTardiness_0 ?_
  refine v_getr C (q := 13) (o := 29) (r := 34) fi_X7_24 rfl rfl rfl dX7_fillLeastTardiness_1 ?_
  refine v_aload_n C (q := 1) rfl rfl dX7_fillLeastTardiness_4 ?_
  obtain ⟨r1, er1, h⟩ := om_bind h
  refine v_invV_i (As := []) C mi_X2_all ml_X7_76 (k_X2_all  σ _ er1) (q := 1) rfl rfl rfl (by decide) (Nat.zero_le _) rfl (Nat.le_of_ble_eq_true rfl) dX7_fillLeastTardiness_5 ?_
  refine v_iconst C (n := 0) dX7_fillLeastTardiness_8 ?_
  obtain ⟨g2, h⟩ := omg_some h
  refine v_iast C (q := 18) (o := 34) (n := 5120) rfl g2 dX7_fillLeastTardiness_9 ?_
  refine v_aload_n C (q := 1) rfl rfl dX7_fillLeastTardiness_10 ?_
  obtain ⟨r3, er3, h⟩ := om_bind h
  refine v_invV_i (As := []) C mi_X2_all ml_X7_76 (k_X2_all  (omsu σ 34 (omw r1).toNat 0) _ er3) (q := 1) rfl rfl rfl (by decide) (Nat.zero_le _) rfl (Nat.le_of_ble_eq_true rfl) dX7_fillLeastTardiness_11 ?_
  refine v_iconst C (n := 1) dX7_fillLeastTardiness_14 ?_
  refine v_isub C dX7_fillLeastTardiness_15 ?_
  refine v_istore_n C (ls' := [(0, .ref (G.1 29)), (1, .ref (G.1 17)), (2, .int (omi (r3 - 1)))]) rfl (by decide) rfl dX7_fillLeastTardiness_16 ?_
  obtain ⟨t11, et11, h⟩ := om_bind h
  refine kl_X7_fillLeastTardiness_17 C  FU _ _ t11 et11 ?_
  cases h
  exact v_vret C F dX7_fillLeastTardiness_93 (Nat.zero_le _)
set_option maxHeartbeats 4000000 in
set_option maxRecDepth 100000 in
theorem kl_X7_orderByTardiness_27 {G : omG} {x : omX} (C : omC G x RX7 cX7_orderByTardiness 6 (4) 0) (v3 : Int) (v4 : Int) : ∀ (n : Nat) (v2 : Int) (v5 : Int) (σ : omH) (t : Int × omH), l_X7_orderByTardiness_27 v3 v4 n v2 v5 σ = some t → omV G x 6 89 [(0, .ref (G.1 29)), (1, .ref (G.1 17)), (2, .int (omi t.1)), (3, .int (omi v3))] [] t.2 0 → omV G x 6 27 [(0, .ref (G.1 29)), (1, .ref (G.1 17)), (2, .int (omi v2)), (3, .int (omi v3)), (4, .int (omi v4)), (5, .int (omi v5))] [] σ 0 := by
  intro n
  induction n with
  | zero => intro v2 v5 σ t h K; cases h
  | succ n ih =>
    intro v2 v5 σ t h K
    rw [l_X7_orderByTardiness_27.eq_2] at h
    refine v_iload C (q := 5) rfl dX7_orderByTardiness_27 ?_
    refine v_aload_n C (q := 1) rfl rfl dX7_orderByTardiness_29 ?_
    refine v_geti C (q := 1) (o := 17) fi_X7_42 rfl rfl dX7_orderByTardiness_30 ?_
    refine v_icmp_ge C (tgt := 89) dX7_orderByTardiness_33 rfl (fun hc => ?_) (fun hc => ?_)
    · replace h := (if_neg hc).symm.trans h
      cases h
      exact v_subp [0, 1, 2, 3] rfl K
    · replace h := (if_pos hc).symm.trans h
      refine v_aload_n C (q := 1) rfl rfl dX7_orderByTardiness_36 ?_
      refine v_iload_n C (q := 2) rfl rfl dX7_orderByTardiness_37 ?_
      refine v_iload C (q := 5) rfl dX7_orderByTardiness_38 ?_
      obtain ⟨r3, er3, h⟩ := om_bind h
      refine v_invV_i (As := [.int (omi v2), .int (omi v5)]) C mi_X2_isIn ml_X7_61 (k_X2_isIn v2 v5 σ _ er3) (q := 1) rfl rfl rfl (by decide) (Nat.zero_le _) rfl (Nat.le_of_ble_eq_true rfl) dX7_orderByTardiness_40 ?_
      refine v_if_ne C (tgt := 83) dX7_orderByTardiness_43 rfl (fun hc => ?_) (fun hc => ?_)
      · replace h := (if_neg hc).symm.trans h
        refine v_iinc C (q := 5) (ls' := [(0, .ref (G.1 29)), (1, .ref (G.1 17)), (2, .int (omi v2)), (3, .int (omi v3)), (4, .int (omi v4)), (5, .int (omi (v5 + 1)))]) rfl (by decide) rfl rfl dX7_orderByTardiness_83 ?_
        refine v_goto C (tgt := 27) dX7_orderByTardiness_86 rfl ?_
        exact ih _ _ _ _ h K
      · replace h := (if_pos hc).symm.trans h
        refine v_aload_n C (q := 0) rfl rfl dX7_orderByTardiness_46 ?_
        refine v_aload_n C (q := 1) rfl rfl dX7_orderByTardiness_47 ?_
        refine v_iload_n C (q := 2) rfl rfl dX7_orderByTardiness_48 ?_
        refine v_iload C (q := 4) rfl dX7_orderByTardiness_49 ?_
        refine v_iload C (q := 5) rfl dX7_orderByTardiness_51 ?_
        obtain ⟨r4, er4, h⟩ := om_bind h
        refine v_invV_i (As := [.ref (G.1 17), .int (omi v2), .int (omi v4), .int (omi v5)]) C mi_X7_tardinessBy ml_X7_72 (k_X7_tardinessBy v2 v4 v5 σ _ er4) (q := 13) rfl rfl rfl (by decide) (Nat.zero_le _) rfl (Nat.le_of_ble_eq_true rfl) dX7_orderByTardiness_53 ?_
        refine v_aload_n C (q := 0) rfl rfl dX7_orderByTardiness_56 ?_
        refine v_getr C (q := 13) (o := 29) (r := 34) fi_X7_24 rfl rfl rfl dX7_orderByTardiness_57 ?_
        refine v_iload_n C (q := 2) rfl rfl dX7_orderByTardiness_60 ?_
        obtain ⟨g5, h⟩ := omg_some h
        refine v_iald C (q := 18) (o := 34) (n := 5120) rfl g5 dX7_orderByTardiness_61 ?_
        refine v_icmp_ne C (tgt := 83) dX7_orderByTardiness_62 rfl (fun hc => ?_) (fun hc => ?_)
        · replace h := (if_neg hc).symm.trans h
          refine v_iinc C (q := 5) (ls' := [(0, .ref (G.1 29)), (1, .ref (G.1 17)), (2, .int (omi v2)), (3, .int (omi v3)), (4, .int (omi v4)), (5, .int (omi (v5 + 1)))]) rfl (by decide) rfl rfl dX7_orderByTardiness_83 ?_
          refine v_goto C (tgt := 27) dX7_orderByTardiness_86 rfl ?_
          exact ih _ _ _ _ h K
        · replace h := (if_pos hc).symm.trans h
          refine v_aload_n C (q := 0) rfl rfl dX7_orderByTardiness_65 ?_
          refine v_getr C (q := 13) (o := 29) (r := 30) fi_X7_9 rfl rfl rfl dX7_orderByTardiness_66 ?_
          refine v_iload_n C (q := 3) rfl rfl dX7_orderByTardiness_69 ?_
          refine v_iload C (q := 5) rfl dX7_orderByTardiness_70 ?_
          obtain ⟨g6, h⟩ := omg_some h
          refine v_iast C (q := 14) (o := 30) (n := 10) rfl g6 dX7_orderByTardiness_72 ?_
          refine v_iload_n C (q := 2) rfl rfl dX7_orderByTardiness_73 ?_
          refine v_iconst C (n := 1) dX7_orderByTardiness_74 ?_
          refine v_iload C (q := 5) rfl dX7_orderByTardiness_75 ?_
          refine v_ishl C dX7_orderByTardiness_77 ?_
          refine v_ior C dX7_orderByTardiness_78 ?_
          refine v_istore_n C (ls' := [(0, .ref (G.1 29)), (1, .ref (G.1 17)), (2, .int (omi (omor v2 (omshl 1 v5)))), (3, .int (omi v3)), (4, .int (omi v4)), (5, .int (omi v5))]) rfl (by decide) rfl dX7_orderByTardiness_79 ?_
          refine v_goto C (tgt := 89) dX7_orderByTardiness_80 rfl ?_
          cases h
          exact v_subp [0, 1, 2, 3] rfl K
set_option maxHeartbeats 4000000 in
set_option maxRecDepth 100000 in
theorem kl_X7_orderByTardiness_9 {G : omG} {x : omX} (C : omC G x RX7 cX7_orderByTardiness 6 (4) 0) : ∀ (n : Nat) (v2 : Int) (v3 : Int) (σ : omH) (t : omH), l_X7_orderByTardiness_9  n v2 v3 σ = some t → omV G x 6 95 [] [] t 0 → omV G x 6 9 [(0, .ref (G.1 29)), (1, .ref (G.1 17)), (2, .int (omi v2)), (3, .int (omi v3))] [] σ 0 := by
  intro n
  induction n with
  | zero => intro v2 v3 σ t h K; cases h
  | succ n ih =>
    intro v2 v3 σ t h K
    rw [l_X7_orderByTardiness_9.eq_2] at h
    refine v_iload_n C (q := 3) rfl rfl dX7_orderByTardiness_9 ?_
    refine v_aload_n C (q := 1) rfl rfl dX7_orderByTardiness_10 ?_
    refine v_geti C (q := 1) (o := 17) fi_X7_42 rfl rfl dX7_orderByTardiness_11 ?_
    refine v_icmp_ge C (tgt := 95) dX7_orderByTardiness_14 rfl (fun hc => ?_) (fun hc => ?_)
    · replace h := (if_neg hc).symm.trans h
      cases h
      exact v_subp [] rfl K
    · replace h := (if_pos hc).symm.trans h
      refine v_aload_n C (q := 1) rfl rfl dX7_orderByTardiness_17 ?_
      refine v_iload_n C (q := 2) rfl rfl dX7_orderByTardiness_18 ?_
      obtain ⟨r2, er2, h⟩ := om_bind h
      refine v_invV_i (As := [.int (omi v2)]) C mi_X2_lengthOfSet ml_X7_46 (k_X2_lengthOfSet v2 σ _ er2) (q := 1) rfl rfl rfl (by decide) (Nat.zero_le _) rfl (Nat.le_of_ble_eq_true rfl) dX7_orderByTardiness_19 ?_
      refine v_istore C (ls' := [(0, .ref (G.1 29)), (1, .ref (G.1 17)), (2, .int (omi v2)), (3, .int (omi v3)), (4, .int (omi r2))]) (by decide) rfl dX7_orderByTardiness_22 ?_
      refine v_iconst C (n := 0) dX7_orderByTardiness_24 ?_
      refine v_istore C (ls' := [(0, .ref (G.1 29)), (1, .ref (G.1 17)), (2, .int (omi v2)), (3, .int (omi v3)), (4, .int (omi r2)), (5, .int (omi 0))]) (by decide) rfl dX7_orderByTardiness_25 ?_
      obtain ⟨t7, et7, h⟩ := om_bind h
      refine kl_X7_orderByTardiness_27 C v3 r2 FU _ _ _ t7 et7 ?_
      refine v_iinc C (q := 3) (ls' := [(0, .ref (G.1 29)), (1, .ref (G.1 17)), (2, .int (omi t7.1)), (3, .int (omi (v3 + 1)))]) rfl (by decide) rfl rfl dX7_orderByTardiness_89 ?_
      refine v_goto C (tgt := 9) dX7_orderByTardiness_92 rfl ?_
      exact ih _ _ _ _ h K
set_option maxHeartbeats 4000000 in
set_option maxRecDepth 100000 in
theorem k_X7_orderByTardiness {G : omG}  (σ : omH) (t : omH) (h : s_X7_orderByTardiness  σ = some t) : omM G yX7_orderByTardiness (.code yX7_orderByTardiness cX7_orderByTardiness 6 none) 4 0 [.ref (G.1 29), .ref (G.1 17)] σ (.inr none) t := by
  unfold s_X7_orderByTardiness at h
  refine om_head (own := RX7) (ls := [(0, .ref (G.1 29)), (1, .ref (G.1 17))]) (by decide +kernel) rfl (by simp [lg_sl, Value.category]) rfl (by simp [Value.category]) (fun x C F => ?_)
  refine v_aload_n C (q := 0) rfl rfl dX7_orderByTardiness_0 ?_
  refine v_aload_n C (q := 1) rfl rfl dX7_orderByTardiness_1 ?_
  obtain ⟨r1, er1, h⟩ := om_bind h
  refine v_invV_v (As := [.ref (G.1 17)]) C mi_X7_fillLeastTardiness ml_X7_68 (k_X7_fillLeastTardiness  σ _ er1) (q := 13) rfl rfl rfl (by decide) (Nat.zero_le _) rfl (Nat.le_of_ble_eq_true rfl) dX7_orderByTardiness_2 ?_
  refine v_iconst C (n := 0) dX7_orderByTardiness_5 ?_
  refine v_istore_n C (ls' := [(0, .ref (G.1 29)), (1, .ref (G.1 17)), (2, .int (omi 0))]) rfl (by decide) rfl dX7_orderByTardiness_6 ?_
  refine v_iconst C (n := 0) dX7_orderByTardiness_7 ?_
  refine v_istore_n C (ls' := [(0, .ref (G.1 29)), (1, .ref (G.1 17)), (2, .int (omi 0)), (3, .int (omi 0))]) rfl (by decide) rfl dX7_orderByTardiness_8 ?_
  obtain ⟨t8, et8, h⟩ := om_bind h
  refine kl_X7_orderByTardiness_9 C  FU _ _ _ t8 et8 ?_
  cases h
  exact v_vret C F dX7_orderByTardiness_95 (Nat.zero_le _)
set_option maxHeartbeats 4000000 in
set_option maxRecDepth 100000 in
theorem n_X11_planLeastTardiness {G : omG}  (σ : omH) (t : (Int × omH)) (h : s_X11_planLeastTardiness  σ = some (Sum.inr t)) : omM G yX11_planLeastTardiness (.code yX11_planLeastTardiness cX11_planLeastTardiness 1 (some .int)) 5 0 [.ref (G.1 16)] σ (.inr (some (.int (omi t.1)))) t.2 := by
  unfold s_X11_planLeastTardiness at h
  refine om_head (own := RX11) (ls := [(0, .ref (G.1 16))]) (by decide +kernel) rfl (by simp [lg_sl, Value.category]) rfl (by simp [Value.category]) (fun x C F => ?_)
  refine v_aload_n C (q := 0) rfl rfl dX11_planLeastTardiness_0 ?_
  obtain ⟨r1, er1, h⟩ := om_bind h
  rcases r1 with u2 | u2
  · replace h := (Sum.elim_inl _ _ _).symm.trans h
    cases h
  · replace h := (Sum.elim_inr _ _ _).symm.trans h
    refine v_invV_v (As := []) C mi_X11_needSomeJob ml_X11_105 (n_X11_needSomeJob  σ _ er1) (q := 0) rfl rfl rfl (by decide) (Nat.zero_le _) rfl (Nat.le_of_ble_eq_true rfl) dX11_planLeastTardiness_1 ?_
    refine v_aload_n C (q := 0) rfl rfl dX11_planLeastTardiness_4 ?_
    refine v_getr C (q := 0) (o := 16) (r := 29) fi_X11_26 rfl rfl rfl dX11_planLeastTardiness_5 ?_
    refine v_aload_n C (q := 0) rfl rfl dX11_planLeastTardiness_8 ?_
    refine v_getr C (q := 0) (o := 16) (r := 17) fi_X11_12 rfl rfl rfl dX11_planLeastTardiness_9 ?_
    obtain ⟨r3, er3, h⟩ := om_bind h
    refine v_invV_v (As := [.ref (G.1 17)]) C mi_X7_orderByTardiness ml_X11_139 (k_X7_orderByTardiness  σ _ er3) (q := 13) rfl rfl rfl (by decide) (Nat.zero_le _) rfl (Nat.le_of_ble_eq_true rfl) dX11_planLeastTardiness_12 ?_
    refine v_aload_n C (q := 0) rfl rfl dX11_planLeastTardiness_15 ?_
    refine v_getr C (q := 0) (o := 16) (r := 24) fi_X11_19 rfl rfl rfl dX11_planLeastTardiness_16 ?_
    refine v_aload_n C (q := 0) rfl rfl dX11_planLeastTardiness_19 ?_
    refine v_getr C (q := 0) (o := 16) (r := 17) fi_X11_12 rfl rfl rfl dX11_planLeastTardiness_20 ?_
    refine v_aload_n C (q := 0) rfl rfl dX11_planLeastTardiness_23 ?_
    refine v_getr C (q := 0) (o := 16) (r := 29) fi_X11_26 rfl rfl rfl dX11_planLeastTardiness_24 ?_
    refine v_getr C (q := 13) (o := 29) (r := 30) fi_X11_112 rfl rfl rfl dX11_planLeastTardiness_27 ?_
    refine v_iconst C (n := 0) dX11_planLeastTardiness_30 ?_
    obtain ⟨r4, er4, h⟩ := om_bind h
    refine v_invV_v (As := [.ref (G.1 17), .ref (G.1 30), .int (omi 0)]) C mi_X5_follow ml_X11_115 (k_X5_follow 0 r3 _ er4) (q := 8) rfl rfl rfl (by decide) (Nat.zero_le _) rfl (Nat.le_of_ble_eq_true rfl) dX11_planLeastTardiness_31 ?_
    refine v_aload_n C (q := 0) rfl rfl dX11_planLeastTardiness_34 ?_
    refine v_getr C (q := 0) (o := 16) (r := 24) fi_X11_19 rfl rfl rfl dX11_planLeastTardiness_35 ?_
    refine v_aload_n C (q := 0) rfl rfl dX11_planLeastTardiness_38 ?_
    refine v_getr C (q := 0) (o := 16) (r := 17) fi_X11_12 rfl rfl rfl dX11_planLeastTardiness_39 ?_
    refine v_gste C omEn_Cost (i := 4) (cn := 4) (by decide) rfl gs_X11_142 dX11_planLeastTardiness_42 ?_
    obtain ⟨r5, er5, h⟩ := om_bind h
    refine v_invV_i (As := [.ref (G.1 17), .ref (G.1 4)]) C mi_X5_total ml_X11_125 (k_X5_total 4 r4 _ er5) (q := 8) rfl rfl rfl (by decide) (Nat.zero_le _) rfl (Nat.le_of_ble_eq_true rfl) dX11_planLeastTardiness_45 ?_
    cases h
    exact v_iret C F dX11_planLeastTardiness_48 (Nat.zero_le _)
set_option maxHeartbeats 4000000 in
set_option maxRecDepth 100000 in
theorem kl_X7_fillMustBeDone_38 {G : omG} {x : omX} (C : omC G x RX7 cX7_fillMustBeDone 5 (3) 0) (v2 : Int) (v3 : Int) : ∀ (n : Nat) (v4 : Int) (σ : omH) (t : omH), l_X7_fillMustBeDone_38 v2 v3 n v4 σ = some t → omV G x 5 89 [(0, .ref (G.1 29)), (1, .ref (G.1 17)), (2, .int (omi v2))] [] t 0 → omV G x 5 38 [(0, .ref (G.1 29)), (1, .ref (G.1 17)), (2, .int (omi v2)), (3, .int (omi v3)), (4, .int (omi v4))] [] σ 0 := by
  intro n
  induction n with
  | zero => intro v4 σ t h K; cases h
  | succ n ih =>
    intro v4 σ t h K
    rw [l_X7_fillMustBeDone_38.eq_2] at h
    refine v_iload C (q := 4) rfl dX7_fillMustBeDone_38 ?_
    refine v_iload_n C (q := 2) rfl rfl dX7_fillMustBeDone_40 ?_
    refine v_icmp_ge C (tgt := 89) dX7_fillMustBeDone_41 rfl (fun hc => ?_) (fun hc => ?_)
    · replace h := (if_neg hc).symm.trans h
      cases h
      exact v_subp [0, 1, 2] rfl K
    · replace h := (if_pos hc).symm.trans h
      refine v_aload_n C (q := 1) rfl rfl dX7_fillMustBeDone_44 ?_
      refine v_getr C (q := 1) (o := 17) (r := 22) fi_X7_116 rfl rfl rfl dX7_fillMustBeDone_45 ?_
      refine v_aload_n C (q := 0) rfl rfl dX7_fillMustBeDone_48 ?_
      refine v_getr C (q := 13) (o := 29) (r := 31) fi_X7_15 rfl rfl rfl dX7_fillMustBeDone_49 ?_
      refine v_iload C (q := 4) rfl dX7_fillMustBeDone_52 ?_
      obtain ⟨g4, h⟩ := omg_some h
      refine v_iald C (q := 15) (o := 31) (n := 10) rfl g4 dX7_fillMustBeDone_54 ?_
      obtain ⟨g5, h⟩ := omg_some h
      refine v_iald C (q := 6) (o := 22) (n := 10) rfl g5 dX7_fillMustBeDone_55 ?_
      refine v_aload_n C (q := 1) rfl rfl dX7_fillMustBeDone_56 ?_
      refine v_getr C (q := 1) (o := 17) (r := 22) fi_X7_116 rfl rfl rfl dX7_fillMustBeDone_57 ?_
      refine v_iload_n C (q := 3) rfl rfl dX7_fillMustBeDone_60 ?_
      obtain ⟨g6, h⟩ := omg_some h
      refine v_iald C (q := 6) (o := 22) (n := 10) rfl g6 dX7_fillMustBeDone_61 ?_
      refine v_icmp_ne C (tgt := 83) dX7_fillMustBeDone_62 rfl (fun hc => ?_) (fun hc => ?_)
      · replace h := (if_neg hc).symm.trans h
        refine v_iinc C (q := 4) (ls' := [(0, .ref (G.1 29)), (1, .ref (G.1 17)), (2, .int (omi v2)), (3, .int (omi v3)), (4, .int (omi (v4 + 1)))]) rfl (by decide) rfl rfl dX7_fillMustBeDone_83 ?_
        refine v_goto C (tgt := 38) dX7_fillMustBeDone_86 rfl ?_
        exact ih _ _ _ h K
      · replace h := (if_pos hc).symm.trans h
        refine v_aload_n C (q := 0) rfl rfl dX7_fillMustBeDone_65 ?_
        refine v_getr C (q := 13) (o := 29) (r := 33) fi_X7_21 rfl rfl rfl dX7_fillMustBeDone_66 ?_
        refine v_iload_n C (q := 3) rfl rfl dX7_fillMustBeDone_69 ?_
        refine v_dup2 C rfl rfl dX7_fillMustBeDone_70 ?_
        obtain ⟨g7, h⟩ := omg_some h
        refine v_iald C (q := 17) (o := 33) (n := 10) rfl g7 dX7_fillMustBeDone_71 ?_
        refine v_iconst C (n := 1) dX7_fillMustBeDone_72 ?_
        refine v_aload_n C (q := 0) rfl rfl dX7_fillMustBeDone_73 ?_
        refine v_getr C (q := 13) (o := 29) (r := 31) fi_X7_15 rfl rfl rfl dX7_fillMustBeDone_74 ?_
        refine v_iload C (q := 4) rfl dX7_fillMustBeDone_77 ?_
        obtain ⟨g8, h⟩ := omg_some h
        refine v_iald C (q := 15) (o := 31) (n := 10) rfl g8 dX7_fillMustBeDone_79 ?_
        refine v_ishl C dX7_fillMustBeDone_80 ?_
        refine v_ior C dX7_fillMustBeDone_81 ?_
        obtain ⟨g9, h⟩ := omg_some h
        refine v_iast C (q := 17) (o := 33) (n := 10) rfl g9 dX7_fillMustBeDone_82 ?_
        refine v_iinc C (q := 4) (ls' := [(0, .ref (G.1 29)), (1, .ref (G.1 17)), (2, .int (omi v2)), (3, .int (omi v3)), (4, .int (omi (v4 + 1)))]) rfl (by decide) rfl rfl dX7_fillMustBeDone_83 ?_
        refine v_goto C (tgt := 38) dX7_fillMustBeDone_86 rfl ?_
        exact ih _ _ _ h K
set_option maxHeartbeats 4000000 in
set_option maxRecDepth 100000 in
theorem kl_X7_fillMustBeDone_13 {G : omG} {x : omX} (C : omC G x RX7 cX7_fillMustBeDone 5 (3) 0) : ∀ (n : Nat) (v2 : Int) (σ : omH) (t : omH), l_X7_fillMustBeDone_13  n v2 σ = some t → omV G x 5 95 [] [] t 0 → omV G x 5 13 [(0, .ref (G.1 29)), (1, .ref (G.1 17)), (2, .int (omi v2))] [] σ 0 := by
  intro n
  induction n with
  | zero => intro v2 σ t h K; cases h
  | succ n ih =>
    intro v2 σ t h K
    rw [l_X7_fillMustBeDone_13.eq_2] at h
    refine v_iload_n C (q := 2) rfl rfl dX7_fillMustBeDone_13 ?_
    refine v_aload_n C (q := 1) rfl rfl dX7_fillMustBeDone_14 ?_
    refine v_geti C (q := 1) (o := 17) fi_X7_42 rfl rfl dX7_fillMustBeDone_15 ?_
    refine v_icmp_ge C (tgt := 95) dX7_fillMustBeDone_18 rfl (fun hc => ?_) (fun hc => ?_)
    · replace h := (if_neg hc).symm.trans h
      cases h
      exact v_subp [] rfl K
    · replace h := (if_pos hc).symm.trans h
      refine v_aload_n C (q := 0) rfl rfl dX7_fillMustBeDone_21 ?_
      refine v_getr C (q := 13) (o := 29) (r := 31) fi_X7_15 rfl rfl rfl dX7_fillMustBeDone_22 ?_
      refine v_iload_n C (q := 2) rfl rfl dX7_fillMustBeDone_25 ?_
      obtain ⟨g2, h⟩ := omg_some h
      refine v_iald C (q := 15) (o := 31) (n := 10) rfl g2 dX7_fillMustBeDone_26 ?_
      refine v_istore_n C (ls' := [(0, .ref (G.1 29)), (1, .ref (G.1 17)), (2, .int (omi v2)), (3, .int (omi (σ 31 (omw v2).toNat)))]) rfl (by decide) rfl dX7_fillMustBeDone_27 ?_
      refine v_aload_n C (q := 0) rfl rfl dX7_fillMustBeDone_28 ?_
      refine v_getr C (q := 13) (o := 29) (r := 33) fi_X7_21 rfl rfl rfl dX7_fillMustBeDone_29 ?_
      refine v_iload_n C (q := 3) rfl rfl dX7_fillMustBeDone_32 ?_
      refine v_iconst C (n := 0) dX7_fillMustBeDone_33 ?_
      obtain ⟨g3, h⟩ := omg_some h
      refine v_iast C (q := 17) (o := 33) (n := 10) rfl g3 dX7_fillMustBeDone_34 ?_
      refine v_iconst C (n := 0) dX7_fillMustBeDone_35 ?_
      refine v_istore C (ls' := [(0, .ref (G.1 29)), (1, .ref (G.1 17)), (2, .int (omi v2)), (3, .int (omi (σ 31 (omw v2).toNat))), (4, .int (omi 0))]) (by decide) rfl dX7_fillMustBeDone_36 ?_
      obtain ⟨t10, et10, h⟩ := om_bind h
      refine kl_X7_fillMustBeDone_38 C v2 (σ 31 (omw v2).toNat) FU _ _ t10 et10 ?_
      refine v_iinc C (q := 2) (ls' := [(0, .ref (G.1 29)), (1, .ref (G.1 17)), (2, .int (omi (v2 + 1)))]) rfl (by decide) rfl rfl dX7_fillMustBeDone_89 ?_
      refine v_goto C (tgt := 13) dX7_fillMustBeDone_92 rfl ?_
      exact ih _ _ _ h K
set_option maxHeartbeats 4000000 in
set_option maxRecDepth 100000 in
theorem k_X7_fillMustBeDone {G : omG}  (σ : omH) (t : omH) (h : s_X7_fillMustBeDone  σ = some t) : omM G yX7_fillMustBeDone (.code yX7_fillMustBeDone cX7_fillMustBeDone 5 none) 3 0 [.ref (G.1 29), .ref (G.1 17)] σ (.inr none) t := by
  unfold s_X7_fillMustBeDone at h
  refine om_head (own := RX7) (ls := [(0, .ref (G.1 29)), (1, .ref (G.1 17))]) (by decide +kernel) rfl (by simp [lg_sl, Value.category]) rfl (by simp [Value.category]) (fun x C F => ?_)
  refine v_aload_n C (q := 1) rfl rfl dX7_fillMustBeDone_0 ?_
  refine v_aload_n C (q := 0) rfl rfl dX7_fillMustBeDone_1 ?_
  refine v_getr C (q := 13) (o := 29) (r := 31) fi_X7_15 rfl rfl rfl dX7_fillMustBeDone_2 ?_
  refine v_gste C omEn_Key (i := 0) (cn := 5) (by decide) rfl gs_X7_27 dX7_fillMustBeDone_5 ?_
  obtain ⟨r1, er1, h⟩ := om_bind h
  refine v_invV_v (As := [.ref (G.1 31), .ref (G.1 5)]) C mi_X2_fillInOrder ml_X7_33 (k_X2_fillInOrder 31 5 σ _ er1) (q := 1) rfl rfl rfl (by decide) (Nat.zero_le _) rfl (Nat.le_of_ble_eq_true rfl) dX7_fillMustBeDone_8 ?_
  refine v_iconst C (n := 0) dX7_fillMustBeDone_11 ?_
  refine v_istore_n C (ls' := [(0, .ref (G.1 29)), (1, .ref (G.1 17)), (2, .int (omi 0))]) rfl (by decide) rfl dX7_fillMustBeDone_12 ?_
  obtain ⟨t11, et11, h⟩ := om_bind h
  refine kl_X7_fillMustBeDone_13 C  FU _ _ t11 et11 ?_
  cases h
  exact v_vret C F dX7_fillMustBeDone_95 (Nat.zero_le _)
set_option maxHeartbeats 4000000 in
set_option maxRecDepth 100000 in
theorem k_X7_state {G : omG} (v0 : Int) (v1 : Int) (σ : omH) (t : Int) (h : s_X7_state v0 v1 σ = some t) : omM G yX7_state (.code yX7_state cX7_state 2 (some .int)) 1 0 [.int (omi v0), .int (omi v1)] σ (.inr (some (.int (omi t)))) σ := by
  unfold s_X7_state at h
  refine om_head (own := RX7) (ls := [(0, .int (omi v0)), (1, .int (omi v1))]) (by decide +kernel) rfl (by simp [lg_sl, Value.category]) rfl (by simp [Value.category]) (fun x C F => ?_)
  refine v_iload_n C (q := 0) rfl rfl dX7_state_0 ?_
  refine v_iconst C (n := 5) dX7_state_1 ?_
  refine v_imul C dX7_state_2 ?_
  refine v_iload_n C (q := 1) rfl rfl dX7_state_3 ?_
  refine v_iadd C dX7_state_4 ?_
  cases h
  exact v_iret C F dX7_state_5 (Nat.zero_le _)
set_option maxHeartbeats 4000000 in
set_option maxRecDepth 100000 in
theorem kl_X7_keepsFamilyOrders_2 {G : omG} {x : omX} (C : omC G x RX7 cX7_keepsFamilyOrders 4 (2) 0) (v2 : Int) (σ : omH) : ∀ (n : Nat) (v3 : Int) (t : (Int) ⊕ (Unit)), l_X7_keepsFamilyOrders_2 v2 σ n v3 = some t → (∀ r : Int, t = .inl r → omF G x (some .boolean) 0 [] (.inr (some (.int (omi r)))) σ) → omV G x 4 2 [(0, .ref (G.1 29)), (1, .ref (G.1 17)), (2, .int (omi v2)), (3, .int (omi v3))] [] σ 0 := by
  intro n
  induction n with
  | zero => intro v3 t h FR ; cases h
  | succ n ih =>
    intro v3 t h FR 
    rw [l_X7_keepsFamilyOrders_2.eq_2] at h
    refine v_iload_n C (q := 3) rfl rfl dX7_keepsFamilyOrders_2 ?_
    refine v_aload_n C (q := 1) rfl rfl dX7_keepsFamilyOrders_3 ?_
    refine v_geti C (q := 1) (o := 17) fi_X7_42 rfl rfl dX7_keepsFamilyOrders_4 ?_
    refine v_icmp_ge C (tgt := 40) dX7_keepsFamilyOrders_7 rfl (fun hc => ?_) (fun hc => ?_)
    · replace h := (if_neg hc).symm.trans h
      refine v_iconst C (n := 1) dX7_keepsFamilyOrders_40 ?_
      cases h
      exact v_zret C (by decide) (FR _ rfl) dX7_keepsFamilyOrders_41 (Nat.zero_le _)
    · replace h := (if_pos hc).symm.trans h
      refine v_aload_n C (q := 1) rfl rfl dX7_keepsFamilyOrders_10 ?_
      refine v_iload_n C (q := 2) rfl rfl dX7_keepsFamilyOrders_11 ?_
      refine v_iload_n C (q := 3) rfl rfl dX7_keepsFamilyOrders_12 ?_
      obtain ⟨r1, er1, h⟩ := om_bind h
      refine v_invV_i (As := [.int (omi v2), .int (omi v3)]) C mi_X2_isIn ml_X7_61 (k_X2_isIn v2 v3 σ _ er1) (q := 1) rfl rfl rfl (by decide) (Nat.zero_le _) rfl (Nat.le_of_ble_eq_true rfl) dX7_keepsFamilyOrders_13 ?_
      refine v_if_eq C (tgt := 34) dX7_keepsFamilyOrders_16 rfl (fun hc => ?_) (fun hc => ?_)
      · replace h := (if_pos hc).symm.trans h
        refine v_iinc C (q := 3) (ls' := [(0, .ref (G.1 29)), (1, .ref (G.1 17)), (2, .int (omi v2)), (3, .int (omi (v3 + 1)))]) rfl (by decide) rfl rfl dX7_keepsFamilyOrders_34 ?_
        refine v_goto C (tgt := 2) dX7_keepsFamilyOrders_37 rfl ?_
        exact ih _ _ h FR
      · replace h := (if_neg hc).symm.trans h
        refine v_aload_n C (q := 0) rfl rfl dX7_keepsFamilyOrders_19 ?_
        refine v_getr C (q := 13) (o := 29) (r := 33) fi_X7_21 rfl rfl rfl dX7_keepsFamilyOrders_20 ?_
        refine v_iload_n C (q := 3) rfl rfl dX7_keepsFamilyOrders_23 ?_
        obtain ⟨g2, h⟩ := omg_some h
        refine v_iald C (q := 17) (o := 33) (n := 10) rfl g2 dX7_keepsFamilyOrders_24 ?_
        refine v_iload_n C (q := 2) rfl rfl dX7_keepsFamilyOrders_25 ?_
        refine v_iconst C (n := (-1)) dX7_keepsFamilyOrders_26 ?_
        refine v_ixor C dX7_keepsFamilyOrders_27 ?_
        refine v_iand C dX7_keepsFamilyOrders_28 ?_
        refine v_if_eq C (tgt := 34) dX7_keepsFamilyOrders_29 rfl (fun hc => ?_) (fun hc => ?_)
        · replace h := (if_pos hc).symm.trans h
          refine v_iinc C (q := 3) (ls' := [(0, .ref (G.1 29)), (1, .ref (G.1 17)), (2, .int (omi v2)), (3, .int (omi (v3 + 1)))]) rfl (by decide) rfl rfl dX7_keepsFamilyOrders_34 ?_
          refine v_goto C (tgt := 2) dX7_keepsFamilyOrders_37 rfl ?_
          exact ih _ _ h FR
        · replace h := (if_neg hc).symm.trans h
          refine v_iconst C (n := 0) dX7_keepsFamilyOrders_32 ?_
          cases h
          exact v_zret C (by decide) (FR _ rfl) dX7_keepsFamilyOrders_33 (Nat.zero_le _)
set_option maxHeartbeats 4000000 in
set_option maxRecDepth 100000 in
theorem k_X7_keepsFamilyOrders {G : omG} (v2 : Int) (σ : omH) (t : Int) (h : s_X7_keepsFamilyOrders v2 σ = some t) : omM G yX7_keepsFamilyOrders (.code yX7_keepsFamilyOrders cX7_keepsFamilyOrders 4 (some .boolean)) 2 0 [.ref (G.1 29), .ref (G.1 17), .int (omi v2)] σ (.inr (some (.int (omi t)))) σ := by
  unfold s_X7_keepsFamilyOrders at h
  refine om_head (own := RX7) (ls := [(0, .ref (G.1 29)), (1, .ref (G.1 17)), (2, .int (omi v2))]) (by decide +kernel) rfl (by simp [lg_sl, Value.category]) rfl (by simp [Value.category]) (fun x C F => ?_)
  refine v_iconst C (n := 0) dX7_keepsFamilyOrders_0 ?_
  refine v_istore_n C (ls' := [(0, .ref (G.1 29)), (1, .ref (G.1 17)), (2, .int (omi v2)), (3, .int (omi 0))]) rfl (by decide) rfl dX7_keepsFamilyOrders_1 ?_
  obtain ⟨t3, et3, h⟩ := om_bind h
  rcases t3 with u4 | u4
  · replace h := (Sum.elim_inl _ _ _).symm.trans h
    cases h
    exact kl_X7_keepsFamilyOrders_2 C v2 σ FU _ _ et3 (fun r hr => by cases hr; exact F)
  · replace h := (Sum.elim_inr _ _ _).symm.trans h
    refine kl_X7_keepsFamilyOrders_2 C v2 σ FU _ _ et3 (fun r hr => by cases hr)
set_option maxHeartbeats 4000000 in
set_option maxRecDepth 100000 in
theorem k_X7_isNext {G : omG} (v2 : Int) (v3 : Int) (σ : omH) (t : Int) (h : s_X7_isNext v2 v3 σ = some t) : omM G yX7_isNext (.code yX7_isNext cX7_isNext 4 (some .boolean)) 2 0 [.ref (G.1 29), .ref (G.1 17), .int (omi v2), .int (omi v3)] σ (.inr (some (.int (omi t)))) σ := by
  unfold s_X7_isNext at h
  refine om_head (own := RX7) (ls := [(0, .ref (G.1 29)), (1, .ref (G.1 17)), (2, .int (omi v2)), (3, .int (omi v3))]) (by decide +kernel) rfl (by simp [lg_sl, Value.category]) rfl (by simp [Value.category]) (fun x C F => ?_)
  refine v_aload_n C (q := 1) rfl rfl dX7_isNext_0 ?_
  refine v_iload_n C (q := 2) rfl rfl dX7_isNext_1 ?_
  refine v_iload_n C (q := 3) rfl rfl dX7_isNext_2 ?_
  obtain ⟨r1, er1, h⟩ := om_bind h
  refine v_invV_i (As := [.int (omi v2), .int (omi v3)]) C mi_X2_isIn ml_X7_61 (k_X2_isIn v2 v3 σ _ er1) (q := 1) rfl rfl rfl (by decide) (Nat.zero_le _) rfl (Nat.le_of_ble_eq_true rfl) dX7_isNext_3 ?_
  refine v_if_ne C (tgt := 26) dX7_isNext_6 rfl (fun hc => ?_) (fun hc => ?_)
  · replace h := (if_neg hc).symm.trans h
    refine v_iconst C (n := 0) dX7_isNext_26 ?_
    cases h
    exact v_zret C (by decide) F dX7_isNext_27 (Nat.zero_le _)
  · replace h := (if_pos hc).symm.trans h
    refine v_aload_n C (q := 0) rfl rfl dX7_isNext_9 ?_
    refine v_getr C (q := 13) (o := 29) (r := 33) fi_X7_21 rfl rfl rfl dX7_isNext_10 ?_
    refine v_iload_n C (q := 3) rfl rfl dX7_isNext_13 ?_
    obtain ⟨g2, h⟩ := omg_some h
    refine v_iald C (q := 17) (o := 33) (n := 10) rfl g2 dX7_isNext_14 ?_
    refine v_iload_n C (q := 2) rfl rfl dX7_isNext_15 ?_
    refine v_iconst C (n := (-1)) dX7_isNext_16 ?_
    refine v_ixor C dX7_isNext_17 ?_
    refine v_iand C dX7_isNext_18 ?_
    refine v_if_ne C (tgt := 26) dX7_isNext_19 rfl (fun hc => ?_) (fun hc => ?_)
    · replace h := (if_neg hc).symm.trans h
      refine v_iconst C (n := 0) dX7_isNext_26 ?_
      cases h
      exact v_zret C (by decide) F dX7_isNext_27 (Nat.zero_le _)
    · replace h := (if_pos hc).symm.trans h
      refine v_iconst C (n := 1) dX7_isNext_22 ?_
      refine v_goto C (tgt := 27) dX7_isNext_23 rfl ?_
      cases h
      exact v_zret C (by decide) F dX7_isNext_27 (Nat.zero_le _)
set_option maxHeartbeats 4000000 in
set_option maxRecDepth 100000 in
theorem k_X7_latenessBy {G : omG} (v2 : Int) (v3 : Int) (v4 : Int) (σ : omH) (t : Int) (h : s_X7_latenessBy v2 v3 v4 σ = some t) : omM G yX7_latenessBy (.code yX7_latenessBy cX7_latenessBy 6 (some .int)) 2 0 [.ref (G.1 29), .ref (G.1 17), .int (omi v2), .int (omi v3), .int (omi v4)] σ (.inr (some (.int (omi t)))) σ := by
  unfold s_X7_latenessBy at h
  refine om_head (own := RX7) (ls := [(0, .ref (G.1 29)), (1, .ref (G.1 17)), (2, .int (omi v2)), (3, .int (omi v3)), (4, .int (omi v4))]) (by decide +kernel) rfl (by simp [lg_sl, Value.category]) rfl (by simp [Value.category]) (fun x C F => ?_)
  refine v_aload_n C (q := 1) rfl rfl dX7_latenessBy_0 ?_
  refine v_iload_n C (q := 3) rfl rfl dX7_latenessBy_1 ?_
  refine v_iload C (q := 4) rfl dX7_latenessBy_2 ?_
  obtain ⟨r1, er1, h⟩ := om_bind h
  refine v_invV_i (As := [.int (omi v3), .int (omi v4)]) C mi_X2_setupBehind ml_X7_113 (k_X2_setupBehind v3 v4 σ _ er1) (q := 1) rfl rfl rfl (by decide) (Nat.zero_le _) rfl (Nat.le_of_ble_eq_true rfl) dX7_latenessBy_4 ?_
  refine v_aload_n C (q := 1) rfl rfl dX7_latenessBy_7 ?_
  refine v_getr C (q := 1) (o := 17) (r := 18) fi_X7_65 rfl rfl rfl dX7_latenessBy_8 ?_
  refine v_iload C (q := 4) rfl dX7_latenessBy_11 ?_
  obtain ⟨g2, h⟩ := omg_some h
  refine v_iald C (q := 2) (o := 18) (n := 10) rfl g2 dX7_latenessBy_13 ?_
  refine v_iadd C dX7_latenessBy_14 ?_
  refine v_istore C (ls' := [(0, .ref (G.1 29)), (1, .ref (G.1 17)), (2, .int (omi v2)), (3, .int (omi v3)), (4, .int (omi v4)), (5, .int (omi (r1 + (σ 18 (omw v4).toNat))))]) (by decide) rfl dX7_latenessBy_15 ?_
  refine v_iload C (q := 5) rfl dX7_latenessBy_17 ?_
  refine v_aload_n C (q := 1) rfl rfl dX7_latenessBy_19 ?_
  refine v_getr C (q := 1) (o := 17) (r := 19) fi_X7_50 rfl rfl rfl dX7_latenessBy_20 ?_
  refine v_iload C (q := 4) rfl dX7_latenessBy_23 ?_
  obtain ⟨g3, h⟩ := omg_some h
  refine v_iald C (q := 3) (o := 19) (n := 10) rfl g3 dX7_latenessBy_25 ?_
  refine v_ineg C dX7_latenessBy_26 ?_
  refine v_aload_n C (q := 0) rfl rfl dX7_latenessBy_27 ?_
  refine v_getr C (q := 13) (o := 29) (r := 34) fi_X7_24 rfl rfl rfl dX7_latenessBy_28 ?_
  refine v_iload_n C (q := 2) rfl rfl dX7_latenessBy_31 ?_
  refine v_iconst C (n := 1) dX7_latenessBy_32 ?_
  refine v_iload C (q := 4) rfl dX7_latenessBy_33 ?_
  refine v_ishl C dX7_latenessBy_35 ?_
  refine v_ior C dX7_latenessBy_36 ?_
  refine v_aload_n C (q := 1) rfl rfl dX7_latenessBy_37 ?_
  refine v_getr C (q := 1) (o := 17) (r := 22) fi_X7_116 rfl rfl rfl dX7_latenessBy_38 ?_
  refine v_iload C (q := 4) rfl dX7_latenessBy_41 ?_
  obtain ⟨g4, h⟩ := omg_some h
  refine v_iald C (q := 6) (o := 22) (n := 10) rfl g4 dX7_latenessBy_43 ?_
  obtain ⟨r5, er5, h⟩ := om_bind h
  refine v_invS_i (As := [.int (omi (omor v2 (omshl 1 v4))), .int (omi (σ 22 (omw v4).toNat))]) C mi_X7_state ml_X7_103 (k_X7_state (omor v2 (omshl 1 v4)) (σ 22 (omw v4).toNat) σ _ er5) rfl (by decide) (Nat.zero_le _) rfl (Nat.le_of_ble_eq_true rfl) dX7_latenessBy_44 ?_
  obtain ⟨g6, h⟩ := omg_some h
  refine v_iald C (q := 18) (o := 34) (n := 5120) rfl g6 dX7_latenessBy_47 ?_
  refine v_mmax C ml_X7_128 ms_max ini_Math mc_max (Nat.le_of_ble_eq_true rfl) (Nat.zero_le _) dX7_latenessBy_48 ?_
  refine v_iadd C dX7_latenessBy_51 ?_
  cases h
  exact v_iret C F dX7_latenessBy_52 (Nat.zero_le _)
set_option maxHeartbeats 4000000 in
set_option maxRecDepth 100000 in
theorem kl_X7_leastLatenessFrom_7 {G : omG} {x : omX} (C : omC G x RX7 cX7_leastLatenessFrom 6 (3) 0) (v2 : Int) (v3 : Int) (σ : omH) : ∀ (n : Nat) (v4 : Int) (v5 : Int) (t : Int), l_X7_leastLatenessFrom_7 v2 v3 σ n v4 v5 = some t → omV G x 6 49 [(4, .int (omi t))] [] σ 0 → omV G x 6 7 [(0, .ref (G.1 29)), (1, .ref (G.1 17)), (2, .int (omi v2)), (3, .int (omi v3)), (4, .int (omi v4)), (5, .int (omi v5))] [] σ 0 := by
  intro n
  induction n with
  | zero => intro v4 v5 t h K; cases h
  | succ n ih =>
    intro v4 v5 t h K
    rw [l_X7_leastLatenessFrom_7.eq_2] at h
    refine v_iload C (q := 5) rfl dX7_leastLatenessFrom_7 ?_
    refine v_aload_n C (q := 1) rfl rfl dX7_leastLatenessFrom_9 ?_
    refine v_geti C (q := 1) (o := 17) fi_X7_42 rfl rfl dX7_leastLatenessFrom_10 ?_
    refine v_icmp_ge C (tgt := 49) dX7_leastLatenessFrom_13 rfl (fun hc => ?_) (fun hc => ?_)
    · replace h := (if_neg hc).symm.trans h
      cases h
      exact v_subp [4] rfl K
    · replace h := (if_pos hc).symm.trans h
      refine v_aload_n C (q := 0) rfl rfl dX7_leastLatenessFrom_16 ?_
      refine v_aload_n C (q := 1) rfl rfl dX7_leastLatenessFrom_17 ?_
      refine v_iload_n C (q := 2) rfl rfl dX7_leastLatenessFrom_18 ?_
      refine v_iload C (q := 5) rfl dX7_leastLatenessFrom_19 ?_
      obtain ⟨r1, er1, h⟩ := om_bind h
      refine v_invV_i (As := [.ref (G.1 17), .int (omi v2), .int (omi v5)]) C mi_X7_isNext ml_X7_106 (k_X7_isNext v2 v5 σ _ er1) (q := 13) rfl rfl rfl (by decide) (Nat.zero_le _) rfl (Nat.le_of_ble_eq_true rfl) dX7_leastLatenessFrom_21 ?_
      refine v_if_eq C (tgt := 43) dX7_leastLatenessFrom_24 rfl (fun hc => ?_) (fun hc => ?_)
      · replace h := (if_pos hc).symm.trans h
        refine v_iinc C (q := 5) (ls' := [(0, .ref (G.1 29)), (1, .ref (G.1 17)), (2, .int (omi v2)), (3, .int (omi v3)), (4, .int (omi v4)), (5, .int (omi (v5 + 1)))]) rfl (by decide) rfl rfl dX7_leastLatenessFrom_43 ?_
        refine v_goto C (tgt := 7) dX7_leastLatenessFrom_46 rfl ?_
        exact ih _ _ _ h K
      · replace h := (if_neg hc).symm.trans h
        refine v_iload C (q := 4) rfl dX7_leastLatenessFrom_27 ?_
        refine v_aload_n C (q := 0) rfl rfl dX7_leastLatenessFrom_29 ?_
        refine v_aload_n C (q := 1) rfl rfl dX7_leastLatenessFrom_30 ?_
        refine v_iload_n C (q := 2) rfl rfl dX7_leastLatenessFrom_31 ?_
        refine v_iload_n C (q := 3) rfl rfl dX7_leastLatenessFrom_32 ?_
        refine v_iload C (q := 5) rfl dX7_leastLatenessFrom_33 ?_
        obtain ⟨r2, er2, h⟩ := om_bind h
        refine v_invV_i (As := [.ref (G.1 17), .int (omi v2), .int (omi v3), .int (omi v5)]) C mi_X7_latenessBy ml_X7_110 (k_X7_latenessBy v2 v3 v5 σ _ er2) (q := 13) rfl rfl rfl (by decide) (Nat.zero_le _) rfl (Nat.le_of_ble_eq_true rfl) dX7_leastLatenessFrom_35 ?_
        refine v_mmin C ml_X7_81 ms_min ini_Math mc_min (Nat.le_of_ble_eq_true rfl) (Nat.zero_le _) dX7_leastLatenessFrom_38 ?_
        refine v_istore C (ls' := [(0, .ref (G.1 29)), (1, .ref (G.1 17)), (2, .int (omi v2)), (3, .int (omi v3)), (4, .int (omi (min (omw v4) (omw r2)))), (5, .int (omi v5))]) (by decide) rfl dX7_leastLatenessFrom_41 ?_
        refine v_iinc C (q := 5) (ls' := [(0, .ref (G.1 29)), (1, .ref (G.1 17)), (2, .int (omi v2)), (3, .int (omi v3)), (4, .int (omi (min (omw v4) (omw r2)))), (5, .int (omi (v5 + 1)))]) rfl (by decide) rfl rfl dX7_leastLatenessFrom_43 ?_
        refine v_goto C (tgt := 7) dX7_leastLatenessFrom_46 rfl ?_
        exact ih _ _ _ h K
set_option maxHeartbeats 4000000 in
set_option maxRecDepth 100000 in
theorem k_X7_leastLatenessFrom {G : omG} (v2 : Int) (v3 : Int) (σ : omH) (t : Int) (h : s_X7_leastLatenessFrom v2 v3 σ = some t) : omM G yX7_leastLatenessFrom (.code yX7_leastLatenessFrom cX7_leastLatenessFrom 6 (some .int)) 3 0 [.ref (G.1 29), .ref (G.1 17), .int (omi v2), .int (omi v3)] σ (.inr (some (.int (omi t)))) σ := by
  unfold s_X7_leastLatenessFrom at h
  refine om_head (own := RX7) (ls := [(0, .ref (G.1 29)), (1, .ref (G.1 17)), (2, .int (omi v2)), (3, .int (omi v3))]) (by decide +kernel) rfl (by simp [lg_sl, Value.category]) rfl (by simp [Value.category]) (fun x C F => ?_)
  refine v_ldc C kc_X7_80 dX7_leastLatenessFrom_0 ?_
  refine v_istore C (ls' := [(0, .ref (G.1 29)), (1, .ref (G.1 17)), (2, .int (omi v2)), (3, .int (omi v3)), (4, .int (omi 1000000))]) (by decide) rfl dX7_leastLatenessFrom_2 ?_
  refine v_iconst C (n := 0) dX7_leastLatenessFrom_4 ?_
  refine v_istore C (ls' := [(0, .ref (G.1 29)), (1, .ref (G.1 17)), (2, .int (omi v2)), (3, .int (omi v3)), (4, .int (omi 1000000)), (5, .int (omi 0))]) (by decide) rfl dX7_leastLatenessFrom_5 ?_
  obtain ⟨t3, et3, h⟩ := om_bind h
  refine kl_X7_leastLatenessFrom_7 C v2 v3 σ FU _ _ t3 et3 ?_
  refine v_iload C (q := 0) rfl dX7_leastLatenessFrom_49 ?_
  cases h
  exact v_iret C F dX7_leastLatenessFrom_51 (Nat.zero_le _)
set_option maxHeartbeats 4000000 in
set_option maxRecDepth 100000 in
theorem kl_X7_fillLeastLateness_2 {G : omG} {x : omX} (C : omC G x RX7 cX7_fillLeastLateness 4 (4) 0) : ∀ (n : Nat) (v2 : Int) (σ : omH) (t : omH), l_X7_fillLeastLateness_2  n v2 σ = some t → omV G x 4 28 [(0, .ref (G.1 29)), (1, .ref (G.1 17))] [] t 0 → omV G x 4 2 [(0, .ref (G.1 29)), (1, .ref (G.1 17)), (2, .int (omi v2))] [] σ 0 := by
  intro n
  induction n with
  | zero => intro v2 σ t h K; cases h
  | succ n ih =>
    intro v2 σ t h K
    rw [l_X7_fillLeastLateness_2.eq_2] at h
    refine v_iload_n C (q := 2) rfl rfl dX7_fillLeastLateness_2 ?_
    refine v_iconst C (n := 4) dX7_fillLeastLateness_3 ?_
    refine v_icmp_gt C (tgt := 28) dX7_fillLeastLateness_4 rfl (fun hc => ?_) (fun hc => ?_)
    · replace h := (if_pos hc).symm.trans h
      cases h
      exact v_subp [0, 1] rfl K
    · replace h := (if_neg hc).symm.trans h
      refine v_aload_n C (q := 0) rfl rfl dX7_fillLeastLateness_7 ?_
      refine v_getr C (q := 13) (o := 29) (r := 34) fi_X7_24 rfl rfl rfl dX7_fillLeastLateness_8 ?_
      refine v_aload_n C (q := 1) rfl rfl dX7_fillLeastLateness_11 ?_
      obtain ⟨r1, er1, h⟩ := om_bind h
      refine v_invV_i (As := []) C mi_X2_all ml_X7_76 (k_X2_all  σ _ er1) (q := 1) rfl rfl rfl (by decide) (Nat.zero_le _) rfl (Nat.le_of_ble_eq_true rfl) dX7_fillLeastLateness_12 ?_
      refine v_iload_n C (q := 2) rfl rfl dX7_fillLeastLateness_15 ?_
      obtain ⟨r2, er2, h⟩ := om_bind h
      refine v_invS_i (As := [.int (omi r1), .int (omi v2)]) C mi_X7_state ml_X7_103 (k_X7_state r1 v2 σ _ er2) rfl (by decide) (Nat.zero_le _) rfl (Nat.le_of_ble_eq_true rfl) dX7_fillLeastLateness_16 ?_
      refine v_ldc C kc_X7_119 dX7_fillLeastLateness_19 ?_
      obtain ⟨g3, h⟩ := omg_some h
      refine v_iast C (q := 18) (o := 34) (n := 5120) rfl g3 dX7_fillLeastLateness_21 ?_
      refine v_iinc C (q := 2) (ls' := [(0, .ref (G.1 29)), (1, .ref (G.1 17)), (2, .int (omi (v2 + 1)))]) rfl (by decide) rfl rfl dX7_fillLeastLateness_22 ?_
      refine v_goto C (tgt := 2) dX7_fillLeastLateness_25 rfl ?_
      exact ih _ _ _ h K
set_option maxHeartbeats 4000000 in
set_option maxRecDepth 100000 in
theorem kl_X7_fillLeastLateness_50 {G : omG} {x : omX} (C : omC G x RX7 cX7_fillLeastLateness 4 (4) 0) (v2 : Int) : ∀ (n : Nat) (v3 : Int) (σ : omH) (t : omH), l_X7_fillLeastLateness_50 v2 n v3 σ = some t → omV G x 4 78 [(0, .ref (G.1 29)), (1, .ref (G.1 17)), (2, .int (omi v2))] [] t 0 → omV G x 4 50 [(0, .ref (G.1 29)), (1, .ref (G.1 17)), (2, .int (omi v2)), (3, .int (omi v3))] [] σ 0 := by
  intro n
  induction n with
  | zero => intro v3 σ t h K; cases h
  | succ n ih =>
    intro v3 σ t h K
    rw [l_X7_fillLeastLateness_50.eq_2] at h
    refine v_iload_n C (q := 3) rfl rfl dX7_fillLeastLateness_50 ?_
    refine v_iconst C (n := 4) dX7_fillLeastLateness_51 ?_
    refine v_icmp_gt C (tgt := 78) dX7_fillLeastLateness_52 rfl (fun hc => ?_) (fun hc => ?_)
    · replace h := (if_pos hc).symm.trans h
      cases h
      exact v_subp [0, 1, 2] rfl K
    · replace h := (if_neg hc).symm.trans h
      refine v_aload_n C (q := 0) rfl rfl dX7_fillLeastLateness_55 ?_
      refine v_getr C (q := 13) (o := 29) (r := 34) fi_X7_24 rfl rfl rfl dX7_fillLeastLateness_56 ?_
      refine v_iload_n C (q := 2) rfl rfl dX7_fillLeastLateness_59 ?_
      refine v_iload_n C (q := 3) rfl rfl dX7_fillLeastLateness_60 ?_
      obtain ⟨r7, er7, h⟩ := om_bind h
      refine v_invS_i (As := [.int (omi v2), .int (omi v3)]) C mi_X7_state ml_X7_103 (k_X7_state v2 v3 σ _ er7) rfl (by decide) (Nat.zero_le _) rfl (Nat.le_of_ble_eq_true rfl) dX7_fillLeastLateness_61 ?_
      refine v_aload_n C (q := 0) rfl rfl dX7_fillLeastLateness_64 ?_
      refine v_aload_n C (q := 1) rfl rfl dX7_fillLeastLateness_65 ?_
      refine v_iload_n C (q := 2) rfl rfl dX7_fillLeastLateness_66 ?_
      refine v_iload_n C (q := 3) rfl rfl dX7_fillLeastLateness_67 ?_
      obtain ⟨r8, er8, h⟩ := om_bind h
      refine v_invV_i (As := [.ref (G.1 17), .int (omi v2), .int (omi v3)]) C mi_X7_leastLatenessFrom ml_X7_124 (k_X7_leastLatenessFrom v2 v3 σ _ er8) (q := 13) rfl rfl rfl (by decide) (Nat.zero_le _) rfl (Nat.le_of_ble_eq_true rfl) dX7_fillLeastLateness_68 ?_
      obtain ⟨g9, h⟩ := omg_some h
      refine v_iast C (q := 18) (o := 34) (n := 5120) rfl g9 dX7_fillLeastLateness_71 ?_
      refine v_iinc C (q := 3) (ls' := [(0, .ref (G.1 29)), (1, .ref (G.1 17)), (2, .int (omi v2)), (3, .int (omi (v3 + 1)))]) rfl (by decide) rfl rfl dX7_fillLeastLateness_72 ?_
      refine v_goto C (tgt := 50) dX7_fillLeastLateness_75 rfl ?_
      exact ih _ _ _ h K
set_option maxHeartbeats 4000000 in
set_option maxRecDepth 100000 in
theorem kl_X7_fillLeastLateness_35 {G : omG} {x : omX} (C : omC G x RX7 cX7_fillLeastLateness 4 (4) 0) : ∀ (n : Nat) (v2 : Int) (σ : omH) (t : omH), l_X7_fillLeastLateness_35  n v2 σ = some t → omV G x 4 84 [] [] t 0 → omV G x 4 35 [(0, .ref (G.1 29)), (1, .ref (G.1 17)), (2, .int (omi v2))] [] σ 0 := by
  intro n
  induction n with
  | zero => intro v2 σ t h K; cases h
  | succ n ih =>
    intro v2 σ t h K
    rw [l_X7_fillLeastLateness_35.eq_2] at h
    refine v_iload_n C (q := 2) rfl rfl dX7_fillLeastLateness_35 ?_
    refine v_if_lt C (tgt := 84) dX7_fillLeastLateness_36 rfl (fun hc => ?_) (fun hc => ?_)
    · replace h := (if_pos hc).symm.trans h
      cases h
      exact v_subp [] rfl K
    · replace h := (if_neg hc).symm.trans h
      refine v_aload_n C (q := 0) rfl rfl dX7_fillLeastLateness_39 ?_
      refine v_aload_n C (q := 1) rfl rfl dX7_fillLeastLateness_40 ?_
      refine v_iload_n C (q := 2) rfl rfl dX7_fillLeastLateness_41 ?_
      obtain ⟨r6, er6, h⟩ := om_bind h
      refine v_invV_i (As := [.ref (G.1 17), .int (omi v2)]) C mi_X7_keepsFamilyOrders ml_X7_120 (k_X7_keepsFamilyOrders v2 σ _ er6) (q := 13) rfl rfl rfl (by decide) (Nat.zero_le _) rfl (Nat.le_of_ble_eq_true rfl) dX7_fillLeastLateness_42 ?_
      refine v_if_eq C (tgt := 78) dX7_fillLeastLateness_45 rfl (fun hc => ?_) (fun hc => ?_)
      · replace h := (if_pos hc).symm.trans h
        refine v_iinc C (q := 2) (ls' := [(0, .ref (G.1 29)), (1, .ref (G.1 17)), (2, .int (omi (v2 + (-1))))]) rfl (by decide) rfl rfl dX7_fillLeastLateness_78 ?_
        refine v_goto C (tgt := 35) dX7_fillLeastLateness_81 rfl ?_
        exact ih _ _ _ h K
      · replace h := (if_neg hc).symm.trans h
        refine v_iconst C (n := 0) dX7_fillLeastLateness_48 ?_
        refine v_istore_n C (ls' := [(0, .ref (G.1 29)), (1, .ref (G.1 17)), (2, .int (omi v2)), (3, .int (omi 0))]) rfl (by decide) rfl dX7_fillLeastLateness_49 ?_
        obtain ⟨t10, et10, h⟩ := om_bind h
        refine kl_X7_fillLeastLateness_50 C v2 FU _ _ t10 et10 ?_
        refine v_iinc C (q := 2) (ls' := [(0, .ref (G.1 29)), (1, .ref (G.1 17)), (2, .int (omi (v2 + (-1))))]) rfl (by decide) rfl rfl dX7_fillLeastLateness_78 ?_
        refine v_goto C (tgt := 35) dX7_fillLeastLateness_81 rfl ?_
        exact ih _ _ _ h K
set_option maxHeartbeats 4000000 in
set_option maxRecDepth 100000 in
theorem k_X7_fillLeastLateness {G : omG}  (σ : omH) (t : omH) (h : s_X7_fillLeastLateness  σ = some t) : omM G yX7_fillLeastLateness (.code yX7_fillLeastLateness cX7_fillLeastLateness 4 none) 4 0 [.ref (G.1 29), .ref (G.1 17)] σ (.inr none) t := by
  unfold s_X7_fillLeastLateness at h
  refine om_head (own := RX7) (ls := [(0, .ref (G.1 29)), (1, .ref (G.1 17))]) (by decide +kernel) rfl (by simp [lg_sl, Value.category]) rfl (by simp [Value.category]) (fun x C F => ?_)
  refine v_iconst C (n := 0) dX7_fillLeastLateness_0 ?_
  refine v_istore_n C (ls' := [(0, .ref (G.1 29)), (1, .ref (G.1 17)), (2, .int (omi 0))]) rfl (by decide) rfl dX7_fillLeastLateness_1 ?_
  obtain ⟨t4, et4, h⟩ := om_bind h
  refine kl_X7_fillLeastLateness_2 C  FU _ _ t4 et4 ?_
  refine v_aload_n C (q := 1) rfl rfl dX7_fillLeastLateness_28 ?_
  obtain ⟨r5, er5, h⟩ := om_bind h
  refine v_invV_i (As := []) C mi_X2_all ml_X7_76 (k_X2_all  t4 _ er5) (q := 1) rfl rfl rfl (by decide) (Nat.zero_le _) rfl (Nat.le_of_ble_eq_true rfl) dX7_fillLeastLateness_29 ?_
  refine v_iconst C (n := 1) dX7_fillLeastLateness_32 ?_
  refine v_isub C dX7_fillLeastLateness_33 ?_
  refine v_istore_n C (ls' := [(0, .ref (G.1 29)), (1, .ref (G.1 17)), (2, .int (omi (r5 - 1)))]) rfl (by decide) rfl dX7_fillLeastLateness_34 ?_
  obtain ⟨t11, et11, h⟩ := om_bind h
  refine kl_X7_fillLeastLateness_35 C  FU _ _ t11 et11 ?_
  cases h
  exact v_vret C F dX7_fillLeastLateness_84 (Nat.zero_le _)
set_option maxHeartbeats 4000000 in
set_option maxRecDepth 100000 in
theorem kl_X7_orderByFamilies_44 {G : omG} {x : omX} (C : omC G x RX7 cX7_orderByFamilies 8 (5) 0) (v2 : Int) (v6 : Int) : ∀ (n : Nat) (v3 : Int) (v4 : Int) (v5 : Int) (v7 : Int) (σ : omH) (t : Int × Int × Int × omH), l_X7_orderByFamilies_44 v2 v6 n v3 v4 v5 v7 σ = some t → omV G x 8 136 [(0, .ref (G.1 29)), (1, .ref (G.1 17)), (2, .int (omi v2)), (3, .int (omi t.1)), (4, .int (omi t.2.1)), (5, .int (omi t.2.2.1)), (6, .int (omi v6))] [] t.2.2.2 0 → omV G x 8 44 [(0, .ref (G.1 29)), (1, .ref (G.1 17)), (2, .int (omi v2)), (3, .int (omi v3)), (4, .int (omi v4)), (5, .int (omi v5)), (6, .int (omi v6)), (7, .int (omi v7))] [] σ 0 := by
  intro n
  induction n with
  | zero => intro v3 v4 v5 v7 σ t h K; cases h
  | succ n ih =>
    intro v3 v4 v5 v7 σ t h K
    rw [l_X7_orderByFamilies_44.eq_2] at h
    refine v_iload C (q := 7) rfl dX7_orderByFamilies_44 ?_
    refine v_aload_n C (q := 1) rfl rfl dX7_orderByFamilies_46 ?_
    refine v_geti C (q := 1) (o := 17) fi_X7_42 rfl rfl dX7_orderByFamilies_47 ?_
    refine v_icmp_ge C (tgt := 136) dX7_orderByFamilies_50 rfl (fun hc => ?_) (fun hc => ?_)
    · replace h := (if_neg hc).symm.trans h
      cases h
      exact v_subp [0, 1, 2, 3, 4, 5, 6] rfl K
    · replace h := (if_pos hc).symm.trans h
      refine v_aload_n C (q := 0) rfl rfl dX7_orderByFamilies_53 ?_
      refine v_aload_n C (q := 1) rfl rfl dX7_orderByFamilies_54 ?_
      refine v_iload_n C (q := 3) rfl rfl dX7_orderByFamilies_55 ?_
      refine v_iload C (q := 7) rfl dX7_orderByFamilies_56 ?_
      obtain ⟨r5, er5, h⟩ := om_bind h
      refine v_invV_i (As := [.ref (G.1 17), .int (omi v3), .int (omi v7)]) C mi_X7_isNext ml_X7_106 (k_X7_isNext v3 v7 σ _ er5) (q := 13) rfl rfl rfl (by decide) (Nat.zero_le _) rfl (Nat.le_of_ble_eq_true rfl) dX7_orderByFamilies_58 ?_
      refine v_if_eq C (tgt := 130) dX7_orderByFamilies_61 rfl (fun hc => ?_) (fun hc => ?_)
      · replace h := (if_pos hc).symm.trans h
        refine v_iinc C (q := 7) (ls' := [(0, .ref (G.1 29)), (1, .ref (G.1 17)), (2, .int (omi v2)), (3, .int (omi v3)), (4, .int (omi v4)), (5, .int (omi v5)), (6, .int (omi v6)), (7, .int (omi (v7 + 1)))]) rfl (by decide) rfl rfl dX7_orderByFamilies_130 ?_
        refine v_goto C (tgt := 44) dX7_orderByFamilies_133 rfl ?_
        exact ih _ _ _ _ _ _ h K
      · replace h := (if_neg hc).symm.trans h
        refine v_iload C (q := 5) rfl dX7_orderByFamilies_64 ?_
        refine v_aload_n C (q := 0) rfl rfl dX7_orderByFamilies_66 ?_
        refine v_aload_n C (q := 1) rfl rfl dX7_orderByFamilies_67 ?_
        refine v_iload_n C (q := 3) rfl rfl dX7_orderByFamilies_68 ?_
        refine v_iload C (q := 4) rfl dX7_orderByFamilies_69 ?_
        refine v_iload C (q := 7) rfl dX7_orderByFamilies_71 ?_
        obtain ⟨r6, er6, h⟩ := om_bind h
        refine v_invV_i (As := [.ref (G.1 17), .int (omi v3), .int (omi v4), .int (omi v7)]) C mi_X7_latenessBy ml_X7_110 (k_X7_latenessBy v3 v4 v7 σ _ er6) (q := 13) rfl rfl rfl (by decide) (Nat.zero_le _) rfl (Nat.le_of_ble_eq_true rfl) dX7_orderByFamilies_73 ?_
        refine v_iadd C dX7_orderByFamilies_76 ?_
        refine v_iload_n C (q := 2) rfl rfl dX7_orderByFamilies_77 ?_
        refine v_icmp_gt C (tgt := 130) dX7_orderByFamilies_78 rfl (fun hc => ?_) (fun hc => ?_)
        · replace h := (if_pos hc).symm.trans h
          refine v_iinc C (q := 7) (ls' := [(0, .ref (G.1 29)), (1, .ref (G.1 17)), (2, .int (omi v2)), (3, .int (omi v3)), (4, .int (omi v4)), (5, .int (omi v5)), (6, .int (omi v6)), (7, .int (omi (v7 + 1)))]) rfl (by decide) rfl rfl dX7_orderByFamilies_130 ?_
          refine v_goto C (tgt := 44) dX7_orderByFamilies_133 rfl ?_
          exact ih _ _ _ _ _ _ h K
        · replace h := (if_neg hc).symm.trans h
          refine v_aload_n C (q := 0) rfl rfl dX7_orderByFamilies_81 ?_
          refine v_getr C (q := 13) (o := 29) (r := 30) fi_X7_9 rfl rfl rfl dX7_orderByFamilies_82 ?_
          refine v_iload C (q := 6) rfl dX7_orderByFamilies_85 ?_
          refine v_iload C (q := 7) rfl dX7_orderByFamilies_87 ?_
          obtain ⟨g7, h⟩ := omg_some h
          refine v_iast C (q := 14) (o := 30) (n := 10) rfl g7 dX7_orderByFamilies_89 ?_
          refine v_iload C (q := 5) rfl dX7_orderByFamilies_90 ?_
          refine v_aload_n C (q := 1) rfl rfl dX7_orderByFamilies_92 ?_
          refine v_iload C (q := 4) rfl dX7_orderByFamilies_93 ?_
          refine v_iload C (q := 7) rfl dX7_orderByFamilies_95 ?_
          obtain ⟨r8, er8, h⟩ := om_bind h
          refine v_invV_i (As := [.int (omi v4), .int (omi v7)]) C mi_X2_setupBehind ml_X7_113 (k_X2_setupBehind v4 v7 (omsu σ 30 (omw v6).toNat v7) _ er8) (q := 1) rfl rfl rfl (by decide) (Nat.zero_le _) rfl (Nat.le_of_ble_eq_true rfl) dX7_orderByFamilies_97 ?_
          refine v_aload_n C (q := 1) rfl rfl dX7_orderByFamilies_100 ?_
          refine v_getr C (q := 1) (o := 17) (r := 18) fi_X7_65 rfl rfl rfl dX7_orderByFamilies_101 ?_
          refine v_iload C (q := 7) rfl dX7_orderByFamilies_104 ?_
          obtain ⟨g9, h⟩ := omg_some h
          refine v_iald C (q := 2) (o := 18) (n := 10) rfl g9 dX7_orderByFamilies_106 ?_
          refine v_iadd C dX7_orderByFamilies_107 ?_
          refine v_iadd C dX7_orderByFamilies_108 ?_
          refine v_istore C (ls' := [(0, .ref (G.1 29)), (1, .ref (G.1 17)), (2, .int (omi v2)), (3, .int (omi v3)), (4, .int (omi v4)), (5, .int (omi (v5 + (r8 + ((omsu σ 30 (omw v6).toNat v7) 18 (omw v7).toNat))))), (6, .int (omi v6)), (7, .int (omi v7))]) (by decide) rfl dX7_orderByFamilies_109 ?_
          refine v_iload_n C (q := 3) rfl rfl dX7_orderByFamilies_111 ?_
          refine v_iconst C (n := 1) dX7_orderByFamilies_112 ?_
          refine v_iload C (q := 7) rfl dX7_orderByFamilies_113 ?_
          refine v_ishl C dX7_orderByFamilies_115 ?_
          refine v_ior C dX7_orderByFamilies_116 ?_
          refine v_istore_n C (ls' := [(0, .ref (G.1 29)), (1, .ref (G.1 17)), (2, .int (omi v2)), (3, .int (omi (omor v3 (omshl 1 v7)))), (4, .int (omi v4)), (5, .int (omi (v5 + (r8 + ((omsu σ 30 (omw v6).toNat v7) 18 (omw v7).toNat))))), (6, .int (omi v6)), (7, .int (omi v7))]) rfl (by decide) rfl dX7_orderByFamilies_117 ?_
          refine v_aload_n C (q := 1) rfl rfl dX7_orderByFamilies_118 ?_
          refine v_getr C (q := 1) (o := 17) (r := 22) fi_X7_116 rfl rfl rfl dX7_orderByFamilies_119 ?_
          refine v_iload C (q := 7) rfl dX7_orderByFamilies_122 ?_
          obtain ⟨g10, h⟩ := omg_some h
          refine v_iald C (q := 6) (o := 22) (n := 10) rfl g10 dX7_orderByFamilies_124 ?_
          refine v_istore C (ls' := [(0, .ref (G.1 29)), (1, .ref (G.1 17)), (2, .int (omi v2)), (3, .int (omi (omor v3 (omshl 1 v7)))), (4, .int (omi ((omsu σ 30 (omw v6).toNat v7) 22 (omw v7).toNat))), (5, .int (omi (v5 + (r8 + ((omsu σ 30 (omw v6).toNat v7) 18 (omw v7).toNat))))), (6, .int (omi v6)), (7, .int (omi v7))]) (by decide) rfl dX7_orderByFamilies_125 ?_
          refine v_goto C (tgt := 136) dX7_orderByFamilies_127 rfl ?_
          cases h
          exact v_subp [0, 1, 2, 3, 4, 5, 6] rfl K
set_option maxHeartbeats 4000000 in
set_option maxRecDepth 100000 in
theorem kl_X7_orderByFamilies_32 {G : omG} {x : omX} (C : omC G x RX7 cX7_orderByFamilies 8 (5) 0) (v2 : Int) : ∀ (n : Nat) (v3 : Int) (v4 : Int) (v5 : Int) (v6 : Int) (σ : omH) (t : omH), l_X7_orderByFamilies_32 v2 n v3 v4 v5 v6 σ = some t → omV G x 8 142 [] [] t 0 → omV G x 8 32 [(0, .ref (G.1 29)), (1, .ref (G.1 17)), (2, .int (omi v2)), (3, .int (omi v3)), (4, .int (omi v4)), (5, .int (omi v5)), (6, .int (omi v6))] [] σ 0 := by
  intro n
  induction n with
  | zero => intro v3 v4 v5 v6 σ t h K; cases h
  | succ n ih =>
    intro v3 v4 v5 v6 σ t h K
    rw [l_X7_orderByFamilies_32.eq_2] at h
    refine v_iload C (q := 6) rfl dX7_orderByFamilies_32 ?_
    refine v_aload_n C (q := 1) rfl rfl dX7_orderByFamilies_34 ?_
    refine v_geti C (q := 1) (o := 17) fi_X7_42 rfl rfl dX7_orderByFamilies_35 ?_
    refine v_icmp_ge C (tgt := 142) dX7_orderByFamilies_38 rfl (fun hc => ?_) (fun hc => ?_)
    · replace h := (if_neg hc).symm.trans h
      cases h
      exact v_subp [] rfl K
    · replace h := (if_pos hc).symm.trans h
      refine v_iconst C (n := 0) dX7_orderByFamilies_41 ?_
      refine v_istore C (ls' := [(0, .ref (G.1 29)), (1, .ref (G.1 17)), (2, .int (omi v2)), (3, .int (omi v3)), (4, .int (omi v4)), (5, .int (omi v5)), (6, .int (omi v6)), (7, .int (omi 0))]) (by decide) rfl dX7_orderByFamilies_42 ?_
      obtain ⟨t11, et11, h⟩ := om_bind h
      refine kl_X7_orderByFamilies_44 C v2 v6 FU _ _ _ _ _ t11 et11 ?_
      refine v_iinc C (q := 6) (ls' := [(0, .ref (G.1 29)), (1, .ref (G.1 17)), (2, .int (omi v2)), (3, .int (omi t11.1)), (4, .int (omi t11.2.1)), (5, .int (omi t11.2.2.1)), (6, .int (omi (v6 + 1)))]) rfl (by decide) rfl rfl dX7_orderByFamilies_136 ?_
      refine v_goto C (tgt := 32) dX7_orderByFamilies_139 rfl ?_
      exact ih _ _ _ _ _ _ h K
set_option maxHeartbeats 4000000 in
set_option maxRecDepth 100000 in
theorem k_X7_orderByFamilies {G : omG}  (σ : omH) (t : omH) (h : s_X7_orderByFamilies  σ = some t) : omM G yX7_orderByFamilies (.code yX7_orderByFamilies cX7_orderByFamilies 8 none) 5 0 [.ref (G.1 29), .ref (G.1 17)] σ (.inr none) t := by
  unfold s_X7_orderByFamilies at h
  refine om_head (own := RX7) (ls := [(0, .ref (G.1 29)), (1, .ref (G.1 17))]) (by decide +kernel) rfl (by simp [lg_sl, Value.category]) rfl (by simp [Value.category]) (fun x C F => ?_)
  refine v_aload_n C (q := 0) rfl rfl dX7_orderByFamilies_0 ?_
  refine v_aload_n C (q := 1) rfl rfl dX7_orderByFamilies_1 ?_
  obtain ⟨r1, er1, h⟩ := om_bind h
  refine v_invV_v (As := [.ref (G.1 17)]) C mi_X7_fillMustBeDone ml_X7_97 (k_X7_fillMustBeDone  σ _ er1) (q := 13) rfl rfl rfl (by decide) (Nat.zero_le _) rfl (Nat.le_of_ble_eq_true rfl) dX7_orderByFamilies_2 ?_
  refine v_aload_n C (q := 0) rfl rfl dX7_orderByFamilies_5 ?_
  refine v_aload_n C (q := 1) rfl rfl dX7_orderByFamilies_6 ?_
  obtain ⟨r2, er2, h⟩ := om_bind h
  refine v_invV_v (As := [.ref (G.1 17)]) C mi_X7_fillLeastLateness ml_X7_100 (k_X7_fillLeastLateness  r1 _ er2) (q := 13) rfl rfl rfl (by decide) (Nat.zero_le _) rfl (Nat.le_of_ble_eq_true rfl) dX7_orderByFamilies_7 ?_
  refine v_aload_n C (q := 0) rfl rfl dX7_orderByFamilies_10 ?_
  refine v_getr C (q := 13) (o := 29) (r := 34) fi_X7_24 rfl rfl rfl dX7_orderByFamilies_11 ?_
  refine v_iconst C (n := 0) dX7_orderByFamilies_14 ?_
  refine v_iconst C (n := 4) dX7_orderByFamilies_15 ?_
  obtain ⟨r3, er3, h⟩ := om_bind h
  refine v_invS_i (As := [.int (omi 0), .int (omi 4)]) C mi_X7_state ml_X7_103 (k_X7_state 0 4 r2 _ er3) rfl (by decide) (Nat.zero_le _) rfl (Nat.le_of_ble_eq_true rfl) dX7_orderByFamilies_16 ?_
  obtain ⟨g4, h⟩ := omg_some h
  refine v_iald C (q := 18) (o := 34) (n := 5120) rfl g4 dX7_orderByFamilies_19 ?_
  refine v_istore_n C (ls' := [(0, .ref (G.1 29)), (1, .ref (G.1 17)), (2, .int (omi (r2 34 (omw r3).toNat)))]) rfl (by decide) rfl dX7_orderByFamilies_20 ?_
  refine v_iconst C (n := 0) dX7_orderByFamilies_21 ?_
  refine v_istore_n C (ls' := [(0, .ref (G.1 29)), (1, .ref (G.1 17)), (2, .int (omi (r2 34 (omw r3).toNat))), (3, .int (omi 0))]) rfl (by decide) rfl dX7_orderByFamilies_22 ?_
  refine v_iconst C (n := 4) dX7_orderByFamilies_23 ?_
  refine v_istore C (ls' := [(0, .ref (G.1 29)), (1, .ref (G.1 17)), (2, .int (omi (r2 34 (omw r3).toNat))), (3, .int (omi 0)), (4, .int (omi 4))]) (by decide) rfl dX7_orderByFamilies_24 ?_
  refine v_iconst C (n := 0) dX7_orderByFamilies_26 ?_
  refine v_istore C (ls' := [(0, .ref (G.1 29)), (1, .ref (G.1 17)), (2, .int (omi (r2 34 (omw r3).toNat))), (3, .int (omi 0)), (4, .int (omi 4)), (5, .int (omi 0))]) (by decide) rfl dX7_orderByFamilies_27 ?_
  refine v_iconst C (n := 0) dX7_orderByFamilies_29 ?_
  refine v_istore C (ls' := [(0, .ref (G.1 29)), (1, .ref (G.1 17)), (2, .int (omi (r2 34 (omw r3).toNat))), (3, .int (omi 0)), (4, .int (omi 4)), (5, .int (omi 0)), (6, .int (omi 0))]) (by decide) rfl dX7_orderByFamilies_30 ?_
  obtain ⟨t12, et12, h⟩ := om_bind h
  refine kl_X7_orderByFamilies_32 C (r2 34 (omw r3).toNat) FU _ _ _ _ _ t12 et12 ?_
  cases h
  exact v_vret C F dX7_orderByFamilies_142 (Nat.zero_le _)
set_option maxHeartbeats 4000000 in
set_option maxRecDepth 100000 in
theorem n_X11_planByFamilies {G : omG}  (σ : omH) (t : (Int × omH)) (h : s_X11_planByFamilies  σ = some (Sum.inr t)) : omM G yX11_planByFamilies (.code yX11_planByFamilies cX11_planByFamilies 1 (some .int)) 6 0 [.ref (G.1 16)] σ (.inr (some (.int (omi t.1)))) t.2 := by
  unfold s_X11_planByFamilies at h
  refine om_head (own := RX11) (ls := [(0, .ref (G.1 16))]) (by decide +kernel) rfl (by simp [lg_sl, Value.category]) rfl (by simp [Value.category]) (fun x C F => ?_)
  refine v_aload_n C (q := 0) rfl rfl dX11_planByFamilies_0 ?_
  obtain ⟨r1, er1, h⟩ := om_bind h
  rcases r1 with u2 | u2
  · replace h := (Sum.elim_inl _ _ _).symm.trans h
    cases h
  · replace h := (Sum.elim_inr _ _ _).symm.trans h
    refine v_invV_v (As := []) C mi_X11_needSomeJob ml_X11_105 (n_X11_needSomeJob  σ _ er1) (q := 0) rfl rfl rfl (by decide) (Nat.zero_le _) rfl (Nat.le_of_ble_eq_true rfl) dX11_planByFamilies_1 ?_
    refine v_aload_n C (q := 0) rfl rfl dX11_planByFamilies_4 ?_
    refine v_getr C (q := 0) (o := 16) (r := 29) fi_X11_26 rfl rfl rfl dX11_planByFamilies_5 ?_
    refine v_aload_n C (q := 0) rfl rfl dX11_planByFamilies_8 ?_
    refine v_getr C (q := 0) (o := 16) (r := 17) fi_X11_12 rfl rfl rfl dX11_planByFamilies_9 ?_
    obtain ⟨r3, er3, h⟩ := om_bind h
    refine v_invV_v (As := [.ref (G.1 17)]) C mi_X7_orderByFamilies ml_X11_145 (k_X7_orderByFamilies  σ _ er3) (q := 13) rfl rfl rfl (by decide) (Nat.zero_le _) rfl (Nat.le_of_ble_eq_true rfl) dX11_planByFamilies_12 ?_
    refine v_aload_n C (q := 0) rfl rfl dX11_planByFamilies_15 ?_
    refine v_getr C (q := 0) (o := 16) (r := 24) fi_X11_19 rfl rfl rfl dX11_planByFamilies_16 ?_
    refine v_aload_n C (q := 0) rfl rfl dX11_planByFamilies_19 ?_
    refine v_getr C (q := 0) (o := 16) (r := 17) fi_X11_12 rfl rfl rfl dX11_planByFamilies_20 ?_
    refine v_aload_n C (q := 0) rfl rfl dX11_planByFamilies_23 ?_
    refine v_getr C (q := 0) (o := 16) (r := 29) fi_X11_26 rfl rfl rfl dX11_planByFamilies_24 ?_
    refine v_getr C (q := 13) (o := 29) (r := 30) fi_X11_112 rfl rfl rfl dX11_planByFamilies_27 ?_
    refine v_iconst C (n := 1) dX11_planByFamilies_30 ?_
    obtain ⟨r4, er4, h⟩ := om_bind h
    refine v_invV_v (As := [.ref (G.1 17), .ref (G.1 30), .int (omi 1)]) C mi_X5_follow ml_X11_115 (k_X5_follow 1 r3 _ er4) (q := 8) rfl rfl rfl (by decide) (Nat.zero_le _) rfl (Nat.le_of_ble_eq_true rfl) dX11_planByFamilies_31 ?_
    refine v_aload_n C (q := 0) rfl rfl dX11_planByFamilies_34 ?_
    refine v_getr C (q := 0) (o := 16) (r := 24) fi_X11_19 rfl rfl rfl dX11_planByFamilies_35 ?_
    refine v_aload_n C (q := 0) rfl rfl dX11_planByFamilies_38 ?_
    refine v_getr C (q := 0) (o := 16) (r := 17) fi_X11_12 rfl rfl rfl dX11_planByFamilies_39 ?_
    refine v_gste C omEn_Cost (i := 0) (cn := 0) (by decide) rfl gs_X11_119 dX11_planByFamilies_42 ?_
    obtain ⟨r5, er5, h⟩ := om_bind h
    refine v_invV_i (As := [.ref (G.1 17), .ref (G.1 0)]) C mi_X5_total ml_X11_125 (k_X5_total 0 r4 _ er5) (q := 8) rfl rfl rfl (by decide) (Nat.zero_le _) rfl (Nat.le_of_ble_eq_true rfl) dX11_planByFamilies_45 ?_
    cases h
    exact v_iret C F dX11_planByFamilies_48 (Nat.zero_le _)
set_option maxHeartbeats 4000000 in
set_option maxRecDepth 100000 in
theorem k_X6_isOpen {G : omG} (v2 : Int) (v3 : Int) (σ : omH) (t : Int) (h : s_X6_isOpen v2 v3 σ = some t) : omM G yX6_isOpen (.code yX6_isOpen cX6_isOpen 4 (some .boolean)) 1 0 [.ref (G.1 35), .ref (G.1 17), .int (omi v2), .int (omi v3)] σ (.inr (some (.int (omi t)))) σ := by
  unfold s_X6_isOpen at h
  refine om_head (own := RX6) (ls := [(0, .ref (G.1 35)), (1, .ref (G.1 17)), (2, .int (omi v2)), (3, .int (omi v3))]) (by decide +kernel) rfl (by simp [lg_sl, Value.category]) rfl (by simp [Value.category]) (fun x C F => ?_)
  refine v_aload_n C (q := 0) rfl rfl dX6_isOpen_0 ?_
  refine v_getr C (q := 19) (o := 35) (r := 37) fi_X6_15 rfl rfl rfl dX6_isOpen_1 ?_
  refine v_iload_n C (q := 2) rfl rfl dX6_isOpen_4 ?_
  obtain ⟨g1, h⟩ := omg_some h
  refine v_iald C (q := 21) (o := 37) (n := 10) rfl g1 dX6_isOpen_5 ?_
  refine v_if_le C (tgt := 23) dX6_isOpen_6 rfl (fun hc => ?_) (fun hc => ?_)
  · replace h := (if_neg hc).symm.trans h
    refine v_iconst C (n := 0) dX6_isOpen_23 ?_
    cases h
    exact v_zret C (by decide) F dX6_isOpen_24 (Nat.zero_le _)
  · replace h := (if_pos hc).symm.trans h
    refine v_aload_n C (q := 1) rfl rfl dX6_isOpen_9 ?_
    refine v_getr C (q := 1) (o := 17) (r := 21) fi_X6_73 rfl rfl rfl dX6_isOpen_10 ?_
    refine v_iload_n C (q := 2) rfl rfl dX6_isOpen_13 ?_
    obtain ⟨g2, h⟩ := omg_some h
    refine v_iald C (q := 5) (o := 21) (n := 10) rfl g2 dX6_isOpen_14 ?_
    refine v_iload_n C (q := 3) rfl rfl dX6_isOpen_15 ?_
    refine v_icmp_gt C (tgt := 23) dX6_isOpen_16 rfl (fun hc => ?_) (fun hc => ?_)
    · replace h := (if_pos hc).symm.trans h
      refine v_iconst C (n := 0) dX6_isOpen_23 ?_
      cases h
      exact v_zret C (by decide) F dX6_isOpen_24 (Nat.zero_le _)
    · replace h := (if_neg hc).symm.trans h
      refine v_iconst C (n := 1) dX6_isOpen_19 ?_
      refine v_goto C (tgt := 24) dX6_isOpen_20 rfl ?_
      cases h
      exact v_zret C (by decide) F dX6_isOpen_24 (Nat.zero_le _)
set_option maxHeartbeats 4000000 in
set_option maxRecDepth 100000 in
theorem kl_X6_shortestAt_9 {G : omG} {x : omX} (C : omC G x RX6 cX6_shortestAt 6 (2) 0) (v2 : Int) (σ : omH) : ∀ (n : Nat) (v3 : Int) (v4 : Int) (v5 : Int) (t : Int), l_X6_shortestAt_9 v2 σ n v3 v4 v5 = some t → omV G x 6 59 [(3, .int (omi t))] [] σ 0 → omV G x 6 9 [(0, .ref (G.1 35)), (1, .ref (G.1 17)), (2, .int (omi v2)), (3, .int (omi v3)), (4, .int (omi v4)), (5, .int (omi v5))] [] σ 0 := by
  intro n
  induction n with
  | zero => intro v3 v4 v5 t h K; cases h
  | succ n ih =>
    intro v3 v4 v5 t h K
    rw [l_X6_shortestAt_9.eq_2] at h
    refine v_iload C (q := 5) rfl dX6_shortestAt_9 ?_
    refine v_aload_n C (q := 1) rfl rfl dX6_shortestAt_11 ?_
    refine v_geti C (q := 1) (o := 17) fi_X6_76 rfl rfl dX6_shortestAt_12 ?_
    refine v_icmp_ge C (tgt := 59) dX6_shortestAt_15 rfl (fun hc => ?_) (fun hc => ?_)
    · replace h := (if_neg hc).symm.trans h
      cases h
      exact v_subp [3] rfl K
    · replace h := (if_pos hc).symm.trans h
      refine v_aload_n C (q := 0) rfl rfl dX6_shortestAt_18 ?_
      refine v_aload_n C (q := 1) rfl rfl dX6_shortestAt_19 ?_
      refine v_iload C (q := 5) rfl dX6_shortestAt_20 ?_
      refine v_iload_n C (q := 2) rfl rfl dX6_shortestAt_22 ?_
      obtain ⟨r1, er1, h⟩ := om_bind h
      refine v_invV_i (As := [.ref (G.1 17), .int (omi v5), .int (omi v2)]) C mi_X6_isOpen ml_X6_80 (k_X6_isOpen v5 v2 σ _ er1) (q := 19) rfl rfl rfl (by decide) (Nat.zero_le _) rfl (Nat.le_of_ble_eq_true rfl) dX6_shortestAt_23 ?_
      refine v_if_eq C (tgt := 53) dX6_shortestAt_26 rfl (fun hc => ?_) (fun hc => ?_)
      · replace h := (if_pos hc).symm.trans h
        refine v_iinc C (q := 5) (ls' := [(0, .ref (G.1 35)), (1, .ref (G.1 17)), (2, .int (omi v2)), (3, .int (omi v3)), (4, .int (omi v4)), (5, .int (omi (v5 + 1)))]) rfl (by decide) rfl rfl dX6_shortestAt_53 ?_
        refine v_goto C (tgt := 9) dX6_shortestAt_56 rfl ?_
        exact ih _ _ _ _ h K
      · replace h := (if_neg hc).symm.trans h
        refine v_aload_n C (q := 0) rfl rfl dX6_shortestAt_29 ?_
        refine v_getr C (q := 19) (o := 35) (r := 37) fi_X6_15 rfl rfl rfl dX6_shortestAt_30 ?_
        refine v_iload C (q := 5) rfl dX6_shortestAt_33 ?_
        obtain ⟨g2, h⟩ := omg_some h
        refine v_iald C (q := 21) (o := 37) (n := 10) rfl g2 dX6_shortestAt_35 ?_
        refine v_iload C (q := 4) rfl dX6_shortestAt_36 ?_
        refine v_icmp_ge C (tgt := 53) dX6_shortestAt_38 rfl (fun hc => ?_) (fun hc => ?_)
        · replace h := (if_neg hc).symm.trans h
          refine v_iinc C (q := 5) (ls' := [(0, .ref (G.1 35)), (1, .ref (G.1 17)), (2, .int (omi v2)), (3, .int (omi v3)), (4, .int (omi v4)), (5, .int (omi (v5 + 1)))]) rfl (by decide) rfl rfl dX6_shortestAt_53 ?_
          refine v_goto C (tgt := 9) dX6_shortestAt_56 rfl ?_
          exact ih _ _ _ _ h K
        · replace h := (if_pos hc).symm.trans h
          refine v_iload C (q := 5) rfl dX6_shortestAt_41 ?_
          refine v_istore_n C (ls' := [(0, .ref (G.1 35)), (1, .ref (G.1 17)), (2, .int (omi v2)), (3, .int (omi v5)), (4, .int (omi v4)), (5, .int (omi v5))]) rfl (by decide) rfl dX6_shortestAt_43 ?_
          refine v_aload_n C (q := 0) rfl rfl dX6_shortestAt_44 ?_
          refine v_getr C (q := 19) (o := 35) (r := 37) fi_X6_15 rfl rfl rfl dX6_shortestAt_45 ?_
          refine v_iload C (q := 5) rfl dX6_shortestAt_48 ?_
          obtain ⟨g3, h⟩ := omg_some h
          refine v_iald C (q := 21) (o := 37) (n := 10) rfl g3 dX6_shortestAt_50 ?_
          refine v_istore C (ls' := [(0, .ref (G.1 35)), (1, .ref (G.1 17)), (2, .int (omi v2)), (3, .int (omi v5)), (4, .int (omi (σ 37 (omw v5).toNat))), (5, .int (omi v5))]) (by decide) rfl dX6_shortestAt_51 ?_
          refine v_iinc C (q := 5) (ls' := [(0, .ref (G.1 35)), (1, .ref (G.1 17)), (2, .int (omi v2)), (3, .int (omi v5)), (4, .int (omi (σ 37 (omw v5).toNat))), (5, .int (omi (v5 + 1)))]) rfl (by decide) rfl rfl dX6_shortestAt_53 ?_
          refine v_goto C (tgt := 9) dX6_shortestAt_56 rfl ?_
          exact ih _ _ _ _ h K
set_option maxHeartbeats 4000000 in
set_option maxRecDepth 100000 in
theorem k_X6_shortestAt {G : omG} (v2 : Int) (σ : omH) (t : Int) (h : s_X6_shortestAt v2 σ = some t) : omM G yX6_shortestAt (.code yX6_shortestAt cX6_shortestAt 6 (some .int)) 2 0 [.ref (G.1 35), .ref (G.1 17), .int (omi v2)] σ (.inr (some (.int (omi t)))) σ := by
  unfold s_X6_shortestAt at h
  refine om_head (own := RX6) (ls := [(0, .ref (G.1 35)), (1, .ref (G.1 17)), (2, .int (omi v2))]) (by decide +kernel) rfl (by simp [lg_sl, Value.category]) rfl (by simp [Value.category]) (fun x C F => ?_)
  refine v_iconst C (n := (-1)) dX6_shortestAt_0 ?_
  refine v_istore_n C (ls' := [(0, .ref (G.1 35)), (1, .ref (G.1 17)), (2, .int (omi v2)), (3, .int (omi (-1)))]) rfl (by decide) rfl dX6_shortestAt_1 ?_
  refine v_ldc C kc_X6_68 dX6_shortestAt_2 ?_
  refine v_istore C (ls' := [(0, .ref (G.1 35)), (1, .ref (G.1 17)), (2, .int (omi v2)), (3, .int (omi (-1))), (4, .int (omi 1000000))]) (by decide) rfl dX6_shortestAt_4 ?_
  refine v_iconst C (n := 0) dX6_shortestAt_6 ?_
  refine v_istore C (ls' := [(0, .ref (G.1 35)), (1, .ref (G.1 17)), (2, .int (omi v2)), (3, .int (omi (-1))), (4, .int (omi 1000000)), (5, .int (omi 0))]) (by decide) rfl dX6_shortestAt_7 ?_
  obtain ⟨t4, et4, h⟩ := om_bind h
  refine kl_X6_shortestAt_9 C v2 σ FU _ _ _ t4 et4 ?_
  refine v_iload_n C (q := 0) rfl rfl dX6_shortestAt_59 ?_
  cases h
  exact v_iret C F dX6_shortestAt_60 (Nat.zero_le _)
set_option maxHeartbeats 4000000 in
set_option maxRecDepth 100000 in
theorem kl_X6_firstByDateAt_2 {G : omG} {x : omX} (C : omC G x RX6 cX6_firstByDateAt 4 (2) 0) (v2 : Int) (σ : omH) : ∀ (n : Nat) (v3 : Int) (t : (Int) ⊕ (Unit)), l_X6_firstByDateAt_2 v2 σ n v3 = some t → (∀ r : Int, t = .inl r → omF G x (some .int) 0 [] (.inr (some (.int (omi r)))) σ) → omV G x 4 2 [(0, .ref (G.1 35)), (1, .ref (G.1 17)), (2, .int (omi v2)), (3, .int (omi v3))] [] σ 0 := by
  intro n
  induction n with
  | zero => intro v3 t h FR ; cases h
  | succ n ih =>
    intro v3 t h FR 
    rw [l_X6_firstByDateAt_2.eq_2] at h
    refine v_iload_n C (q := 3) rfl rfl dX6_firstByDateAt_2 ?_
    refine v_aload_n C (q := 1) rfl rfl dX6_firstByDateAt_3 ?_
    refine v_geti C (q := 1) (o := 17) fi_X6_76 rfl rfl dX6_firstByDateAt_4 ?_
    refine v_icmp_ge C (tgt := 38) dX6_firstByDateAt_7 rfl (fun hc => ?_) (fun hc => ?_)
    · replace h := (if_neg hc).symm.trans h
      refine v_iconst C (n := (-1)) dX6_firstByDateAt_38 ?_
      cases h
      exact v_iret C (FR _ rfl) dX6_firstByDateAt_39 (Nat.zero_le _)
    · replace h := (if_pos hc).symm.trans h
      refine v_aload_n C (q := 0) rfl rfl dX6_firstByDateAt_10 ?_
      refine v_aload_n C (q := 1) rfl rfl dX6_firstByDateAt_11 ?_
      refine v_aload_n C (q := 0) rfl rfl dX6_firstByDateAt_12 ?_
      refine v_getr C (q := 19) (o := 35) (r := 36) fi_X6_9 rfl rfl rfl dX6_firstByDateAt_13 ?_
      refine v_iload_n C (q := 3) rfl rfl dX6_firstByDateAt_16 ?_
      obtain ⟨g1, h⟩ := omg_some h
      refine v_iald C (q := 20) (o := 36) (n := 10) rfl g1 dX6_firstByDateAt_17 ?_
      refine v_iload_n C (q := 2) rfl rfl dX6_firstByDateAt_18 ?_
      obtain ⟨r2, er2, h⟩ := om_bind h
      refine v_invV_i (As := [.ref (G.1 17), .int (omi (σ 36 (omw v3).toNat)), .int (omi v2)]) C mi_X6_isOpen ml_X6_80 (k_X6_isOpen (σ 36 (omw v3).toNat) v2 σ _ er2) (q := 19) rfl rfl rfl (by decide) (Nat.zero_le _) rfl (Nat.le_of_ble_eq_true rfl) dX6_firstByDateAt_19 ?_
      refine v_if_eq C (tgt := 32) dX6_firstByDateAt_22 rfl (fun hc => ?_) (fun hc => ?_)
      · replace h := (if_pos hc).symm.trans h
        refine v_iinc C (q := 3) (ls' := [(0, .ref (G.1 35)), (1, .ref (G.1 17)), (2, .int (omi v2)), (3, .int (omi (v3 + 1)))]) rfl (by decide) rfl rfl dX6_firstByDateAt_32 ?_
        refine v_goto C (tgt := 2) dX6_firstByDateAt_35 rfl ?_
        exact ih _ _ h FR
      · replace h := (if_neg hc).symm.trans h
        refine v_aload_n C (q := 0) rfl rfl dX6_firstByDateAt_25 ?_
        refine v_getr C (q := 19) (o := 35) (r := 36) fi_X6_9 rfl rfl rfl dX6_firstByDateAt_26 ?_
        refine v_iload_n C (q := 3) rfl rfl dX6_firstByDateAt_29 ?_
        obtain ⟨g3, h⟩ := omg_some h
        refine v_iald C (q := 20) (o := 36) (n := 10) rfl g3 dX6_firstByDateAt_30 ?_
        cases h
        exact v_iret C (FR _ rfl) dX6_firstByDateAt_31 (Nat.zero_le _)
set_option maxHeartbeats 4000000 in
set_option maxRecDepth 100000 in
theorem k_X6_firstByDateAt {G : omG} (v2 : Int) (σ : omH) (t : Int) (h : s_X6_firstByDateAt v2 σ = some t) : omM G yX6_firstByDateAt (.code yX6_firstByDateAt cX6_firstByDateAt 4 (some .int)) 2 0 [.ref (G.1 35), .ref (G.1 17), .int (omi v2)] σ (.inr (some (.int (omi t)))) σ := by
  unfold s_X6_firstByDateAt at h
  refine om_head (own := RX6) (ls := [(0, .ref (G.1 35)), (1, .ref (G.1 17)), (2, .int (omi v2))]) (by decide +kernel) rfl (by simp [lg_sl, Value.category]) rfl (by simp [Value.category]) (fun x C F => ?_)
  refine v_iconst C (n := 0) dX6_firstByDateAt_0 ?_
  refine v_istore_n C (ls' := [(0, .ref (G.1 35)), (1, .ref (G.1 17)), (2, .int (omi v2)), (3, .int (omi 0))]) rfl (by decide) rfl dX6_firstByDateAt_1 ?_
  obtain ⟨t4, et4, h⟩ := om_bind h
  rcases t4 with u5 | u5
  · replace h := (Sum.elim_inl _ _ _).symm.trans h
    cases h
    exact kl_X6_firstByDateAt_2 C v2 σ FU _ _ et4 (fun r hr => by cases hr; exact F)
  · replace h := (Sum.elim_inr _ _ _).symm.trans h
    refine kl_X6_firstByDateAt_2 C v2 σ FU _ _ et4 (fun r hr => by cases hr)
set_option maxHeartbeats 4000000 in
set_option maxRecDepth 100000 in
theorem kl_X6_nextRelease_5 {G : omG} {x : omX} (C : omC G x RX6 cX6_nextRelease 4 (1) 0) (v1 : Int) (σ : omH) : ∀ (n : Nat) (v2 : Int) (v3 : Int) (t : Int), l_X6_nextRelease_5 v1 σ n v2 v3 = some t → omV G x 4 40 [(2, .int (omi t))] [] σ 0 → omV G x 4 5 [(0, .ref (G.1 17)), (1, .int (omi v1)), (2, .int (omi v2)), (3, .int (omi v3))] [] σ 0 := by
  intro n
  induction n with
  | zero => intro v2 v3 t h K; cases h
  | succ n ih =>
    intro v2 v3 t h K
    rw [l_X6_nextRelease_5.eq_2] at h
    refine v_iload_n C (q := 3) rfl rfl dX6_nextRelease_5 ?_
    refine v_aload_n C (q := 0) rfl rfl dX6_nextRelease_6 ?_
    refine v_geti C (q := 1) (o := 17) fi_X6_76 rfl rfl dX6_nextRelease_7 ?_
    refine v_icmp_ge C (tgt := 40) dX6_nextRelease_10 rfl (fun hc => ?_) (fun hc => ?_)
    · replace h := (if_neg hc).symm.trans h
      cases h
      exact v_subp [2] rfl K
    · replace h := (if_pos hc).symm.trans h
      refine v_aload_n C (q := 0) rfl rfl dX6_nextRelease_13 ?_
      refine v_getr C (q := 1) (o := 17) (r := 21) fi_X6_73 rfl rfl rfl dX6_nextRelease_14 ?_
      refine v_iload_n C (q := 3) rfl rfl dX6_nextRelease_17 ?_
      obtain ⟨g1, h⟩ := omg_some h
      refine v_iald C (q := 5) (o := 21) (n := 10) rfl g1 dX6_nextRelease_18 ?_
      refine v_iload_n C (q := 1) rfl rfl dX6_nextRelease_19 ?_
      refine v_icmp_le C (tgt := 34) dX6_nextRelease_20 rfl (fun hc => ?_) (fun hc => ?_)
      · replace h := (if_neg hc).symm.trans h
        refine v_iinc C (q := 3) (ls' := [(0, .ref (G.1 17)), (1, .int (omi v1)), (2, .int (omi v2)), (3, .int (omi (v3 + 1)))]) rfl (by decide) rfl rfl dX6_nextRelease_34 ?_
        refine v_goto C (tgt := 5) dX6_nextRelease_37 rfl ?_
        exact ih _ _ _ h K
      · replace h := (if_pos hc).symm.trans h
        refine v_iload_n C (q := 2) rfl rfl dX6_nextRelease_23 ?_
        refine v_aload_n C (q := 0) rfl rfl dX6_nextRelease_24 ?_
        refine v_getr C (q := 1) (o := 17) (r := 21) fi_X6_73 rfl rfl rfl dX6_nextRelease_25 ?_
        refine v_iload_n C (q := 3) rfl rfl dX6_nextRelease_28 ?_
        obtain ⟨g2, h⟩ := omg_some h
        refine v_iald C (q := 5) (o := 21) (n := 10) rfl g2 dX6_nextRelease_29 ?_
        refine v_mmin C ml_X6_58 ms_min ini_Math mc_min (Nat.le_of_ble_eq_true rfl) (Nat.zero_le _) dX6_nextRelease_30 ?_
        refine v_istore_n C (ls' := [(0, .ref (G.1 17)), (1, .int (omi v1)), (2, .int (omi (min (omw v2) (omw (σ 21 (omw v3).toNat))))), (3, .int (omi v3))]) rfl (by decide) rfl dX6_nextRelease_33 ?_
        refine v_iinc C (q := 3) (ls' := [(0, .ref (G.1 17)), (1, .int (omi v1)), (2, .int (omi (min (omw v2) (omw (σ 21 (omw v3).toNat))))), (3, .int (omi (v3 + 1)))]) rfl (by decide) rfl rfl dX6_nextRelease_34 ?_
        refine v_goto C (tgt := 5) dX6_nextRelease_37 rfl ?_
        exact ih _ _ _ h K
set_option maxHeartbeats 4000000 in
set_option maxRecDepth 100000 in
theorem k_X6_nextRelease {G : omG} (v1 : Int) (σ : omH) (t : Int) (h : s_X6_nextRelease v1 σ = some t) : omM G yX6_nextRelease (.code yX6_nextRelease cX6_nextRelease 4 (some .int)) 1 0 [.ref (G.1 17), .int (omi v1)] σ (.inr (some (.int (omi t)))) σ := by
  unfold s_X6_nextRelease at h
  refine om_head (own := RX6) (ls := [(0, .ref (G.1 17)), (1, .int (omi v1))]) (by decide +kernel) rfl (by simp [lg_sl, Value.category]) rfl (by simp [Value.category]) (fun x C F => ?_)
  refine v_ldc C kc_X6_68 dX6_nextRelease_0 ?_
  refine v_istore_n C (ls' := [(0, .ref (G.1 17)), (1, .int (omi v1)), (2, .int (omi 1000000))]) rfl (by decide) rfl dX6_nextRelease_2 ?_
  refine v_iconst C (n := 0) dX6_nextRelease_3 ?_
  refine v_istore_n C (ls' := [(0, .ref (G.1 17)), (1, .int (omi v1)), (2, .int (omi 1000000)), (3, .int (omi 0))]) rfl (by decide) rfl dX6_nextRelease_4 ?_
  obtain ⟨t3, et3, h⟩ := om_bind h
  refine kl_X6_nextRelease_5 C v1 σ FU _ _ t3 et3 ?_
  refine v_iload_n C (q := 0) rfl rfl dX6_nextRelease_40 ?_
  cases h
  exact v_iret C F dX6_nextRelease_41 (Nat.zero_le _)
set_option maxHeartbeats 4000000 in
set_option maxRecDepth 100000 in
theorem kl_X6_make_33 {G : omG} {x : omX} (C : omC G x RX6 cX6_make 9 (4) 0) (v3 : Int) : ∀ (n : Nat) (v4 : Int) (σ : omH) (t : omH), l_X6_make_33 v3 n v4 σ = some t → omV G x 9 147 [] [] t 0 → omV G x 9 33 [(0, .ref (G.1 35)), (1, .ref (G.1 17)), (2, .ref (G.1 24)), (3, .int (omi v3)), (4, .int (omi v4))] [] σ 0 := by
  intro n
  induction n with
  | zero => intro v4 σ t h K; cases h
  | succ n ih =>
    intro v4 σ t h K
    rw [l_X6_make_33.eq_2] at h
    refine v_iload C (q := 4) rfl dX6_make_33 ?_
    refine v_bipush C (a := 20) (by decide) dX6_make_35 ?_
    refine v_icmp_ge C (tgt := 147) dX6_make_37 rfl (fun hc => ?_) (fun hc => ?_)
    · replace h := (if_neg hc).symm.trans h
      cases h
      exact v_subp [] rfl K
    · replace h := (if_pos hc).symm.trans h
      refine v_aload_n C (q := 2) rfl rfl dX6_make_40 ?_
      obtain ⟨r3, er3, h⟩ := om_bind h
      refine v_invV_i (As := []) C mi_X5_now ml_X6_44 (k_X5_now  σ _ er3) (q := 8) rfl rfl rfl (by decide) (Nat.zero_le _) rfl (Nat.le_of_ble_eq_true rfl) dX6_make_41 ?_
      refine v_istore C (ls' := [(0, .ref (G.1 35)), (1, .ref (G.1 17)), (2, .ref (G.1 24)), (3, .int (omi v3)), (4, .int (omi v4)), (5, .int (omi r3))]) (by decide) rfl dX6_make_44 ?_
      refine v_iload_n C (q := 3) rfl rfl dX6_make_46 ?_
      obtain ⟨t4, et4, h⟩ := om_bind h
      have Jt4 : omV G x 9 67 [(0, .ref (G.1 35)), (1, .ref (G.1 17)), (2, .ref (G.1 24)), (3, .int (omi v3)), (4, .int (omi v4)), (5, .int (omi r3))] [.int (omi t4)] σ 0 := by
        refine v_istore C (ls' := [(0, .ref (G.1 35)), (1, .ref (G.1 17)), (2, .ref (G.1 24)), (3, .int (omi v3)), (4, .int (omi v4)), (5, .int (omi r3)), (6, .int (omi t4))]) (by decide) rfl dX6_make_67 ?_
        refine v_aload_n C (q := 1) rfl rfl dX6_make_69 ?_
        refine v_iload C (q := 5) rfl dX6_make_70 ?_
        obtain ⟨r5, er5, h⟩ := om_bind h
        refine v_invS_i (As := [.ref (G.1 17), .int (omi r3)]) C mi_X6_nextRelease ml_X6_55 (k_X6_nextRelease r3 σ _ er5) rfl (by decide) (Nat.zero_le _) rfl (Nat.le_of_ble_eq_true rfl) dX6_make_72 ?_
        refine v_iload C (q := 5) rfl dX6_make_75 ?_
        refine v_isub C dX6_make_77 ?_
        refine v_istore C (ls' := [(0, .ref (G.1 35)), (1, .ref (G.1 17)), (2, .ref (G.1 24)), (3, .int (omi v3)), (4, .int (omi v4)), (5, .int (omi r3)), (6, .int (omi t4)), (7, .int (omi (r5 - r3)))]) (by decide) rfl dX6_make_78 ?_
        refine v_iload C (q := 6) rfl dX6_make_80 ?_
        refine v_iconst C (n := (-1)) dX6_make_82 ?_
        refine v_icmp_eq C (tgt := 123) dX6_make_83 rfl (fun hc => ?_) (fun hc => ?_)
        · replace h := (if_pos hc).symm.trans h
          refine v_iload C (q := 5) rfl dX6_make_123 ?_
          refine v_iload C (q := 7) rfl dX6_make_125 ?_
          refine v_iadd C dX6_make_127 ?_
          refine v_ldc C kc_X6_68 dX6_make_128 ?_
          refine v_icmp_ge C (tgt := 147) dX6_make_130 rfl (fun hc => ?_) (fun hc => ?_)
          · replace h := (if_neg hc).symm.trans h
            cases h
            exact v_subp [] rfl K
          · replace h := (if_pos hc).symm.trans h
            refine v_aload_n C (q := 2) rfl rfl dX6_make_133 ?_
            refine v_iconst C (n := 2) dX6_make_134 ?_
            refine v_iconst C (n := (-1)) dX6_make_135 ?_
            refine v_iload C (q := 7) rfl dX6_make_136 ?_
            obtain ⟨r6, er6, h⟩ := om_bind h
            refine v_invV_v (As := [.int (omi 2), .int (omi (-1)), .int (omi (r5 - r3))]) C mi_X5_add ml_X6_69 (k_X5_add 2 (-1) (r5 - r3) σ _ er6) (q := 8) rfl rfl rfl (by decide) (Nat.zero_le _) rfl (Nat.le_of_ble_eq_true rfl) dX6_make_138 ?_
            refine v_iinc C (q := 4) (ls' := [(0, .ref (G.1 35)), (1, .ref (G.1 17)), (2, .ref (G.1 24)), (3, .int (omi v3)), (4, .int (omi (v4 + 1))), (5, .int (omi r3)), (6, .int (omi t4)), (7, .int (omi (r5 - r3)))]) rfl (by decide) rfl rfl dX6_make_141 ?_
            refine v_goto C (tgt := 33) dX6_make_144 rfl ?_
            exact v_subp [0, 1, 2, 3, 4] rfl (ih _ _ _ h K)
        · replace h := (if_neg hc).symm.trans h
          refine v_iload C (q := 7) rfl dX6_make_86 ?_
          refine v_aload_n C (q := 0) rfl rfl dX6_make_88 ?_
          refine v_getr C (q := 19) (o := 35) (r := 37) fi_X6_15 rfl rfl rfl dX6_make_89 ?_
          refine v_iload C (q := 6) rfl dX6_make_92 ?_
          obtain ⟨g7, h⟩ := omg_some h
          refine v_iald C (q := 21) (o := 37) (n := 10) rfl g7 dX6_make_94 ?_
          refine v_mmin C ml_X6_58 ms_min ini_Math mc_min (Nat.le_of_ble_eq_true rfl) (Nat.zero_le _) dX6_make_95 ?_
          refine v_istore C (ls' := [(0, .ref (G.1 35)), (1, .ref (G.1 17)), (2, .ref (G.1 24)), (3, .int (omi v3)), (4, .int (omi v4)), (5, .int (omi r3)), (6, .int (omi t4)), (7, .int (omi (r5 - r3))), (8, .int (omi (min (omw (r5 - r3)) (omw (σ 37 (omw t4).toNat)))))]) (by decide) rfl dX6_make_98 ?_
          refine v_aload_n C (q := 0) rfl rfl dX6_make_100 ?_
          refine v_getr C (q := 19) (o := 35) (r := 37) fi_X6_15 rfl rfl rfl dX6_make_101 ?_
          refine v_iload C (q := 6) rfl dX6_make_104 ?_
          refine v_dup2 C rfl rfl dX6_make_106 ?_
          obtain ⟨g8, h⟩ := omg_some h
          refine v_iald C (q := 21) (o := 37) (n := 10) rfl g8 dX6_make_107 ?_
          refine v_iload C (q := 8) rfl dX6_make_108 ?_
          refine v_isub C dX6_make_110 ?_
          obtain ⟨g9, h⟩ := omg_some h
          refine v_iast C (q := 21) (o := 37) (n := 10) rfl g9 dX6_make_111 ?_
          refine v_aload_n C (q := 2) rfl rfl dX6_make_112 ?_
          refine v_iload C (q := 6) rfl dX6_make_113 ?_
          refine v_iload C (q := 8) rfl dX6_make_115 ?_
          obtain ⟨r10, er10, h⟩ := om_bind h
          refine v_invV_v (As := [.int (omi t4), .int (omi (min (omw (r5 - r3)) (omw (σ 37 (omw t4).toNat))))]) C mi_X5_addWork ml_X6_64 (k_X5_addWork t4 (min (omw (r5 - r3)) (omw (σ 37 (omw t4).toNat))) (omsu σ 37 (omw t4).toNat ((σ 37 (omw t4).toNat) - (min (omw (r5 - r3)) (omw (σ 37 (omw t4).toNat))))) _ er10) (q := 8) rfl rfl rfl (by decide) (Nat.zero_le _) rfl (Nat.le_of_ble_eq_true rfl) dX6_make_117 ?_
          refine v_goto C (tgt := 141) dX6_make_120 rfl ?_
          refine v_iinc C (q := 4) (ls' := [(0, .ref (G.1 35)), (1, .ref (G.1 17)), (2, .ref (G.1 24)), (3, .int (omi v3)), (4, .int (omi (v4 + 1))), (5, .int (omi r3)), (6, .int (omi t4)), (7, .int (omi (r5 - r3))), (8, .int (omi (min (omw (r5 - r3)) (omw (σ 37 (omw t4).toNat)))))]) rfl (by decide) rfl rfl dX6_make_141 ?_
          refine v_goto C (tgt := 33) dX6_make_144 rfl ?_
          exact v_subp [0, 1, 2, 3, 4] rfl (ih _ _ _ h K)
      clear h
      have h := et4
      clear et4
      refine v_if_eq C (tgt := 60) dX6_make_47 rfl (fun hc => ?_) (fun hc => ?_)
      · replace h := (if_pos hc).symm.trans h
        refine v_aload_n C (q := 0) rfl rfl dX6_make_60 ?_
        refine v_aload_n C (q := 1) rfl rfl dX6_make_61 ?_
        refine v_iload C (q := 5) rfl dX6_make_62 ?_
        obtain ⟨r11, er11, h⟩ := om_bind h
        refine v_invV_i (As := [.ref (G.1 17), .int (omi r3)]) C mi_X6_firstByDateAt ml_X6_52 (k_X6_firstByDateAt r3 σ _ er11) (q := 19) rfl rfl rfl (by decide) (Nat.zero_le _) rfl (Nat.le_of_ble_eq_true rfl) dX6_make_64 ?_
        cases h
        exact Jt4
      · replace h := (if_neg hc).symm.trans h
        refine v_aload_n C (q := 0) rfl rfl dX6_make_50 ?_
        refine v_aload_n C (q := 1) rfl rfl dX6_make_51 ?_
        refine v_iload C (q := 5) rfl dX6_make_52 ?_
        obtain ⟨r12, er12, h⟩ := om_bind h
        refine v_invV_i (As := [.ref (G.1 17), .int (omi r3)]) C mi_X6_shortestAt ml_X6_48 (k_X6_shortestAt r3 σ _ er12) (q := 19) rfl rfl rfl (by decide) (Nat.zero_le _) rfl (Nat.le_of_ble_eq_true rfl) dX6_make_54 ?_
        refine v_goto C (tgt := 67) dX6_make_57 rfl ?_
        cases h
        exact Jt4
set_option maxHeartbeats 4000000 in
set_option maxRecDepth 100000 in
theorem k_X6_make {G : omG} (v3 : Int) (σ : omH) (t : omH) (h : s_X6_make v3 σ = some t) : omM G yX6_make (.code yX6_make cX6_make 9 none) 4 0 [.ref (G.1 35), .ref (G.1 17), .ref (G.1 24), .int (omi v3)] σ (.inr none) t := by
  unfold s_X6_make at h
  refine om_head (own := RX6) (ls := [(0, .ref (G.1 35)), (1, .ref (G.1 17)), (2, .ref (G.1 24)), (3, .int (omi v3))]) (by decide +kernel) rfl (by simp [lg_sl, Value.category]) rfl (by simp [Value.category]) (fun x C F => ?_)
  refine v_aload_n C (q := 1) rfl rfl dX6_make_0 ?_
  refine v_aload_n C (q := 0) rfl rfl dX6_make_1 ?_
  refine v_getr C (q := 19) (o := 35) (r := 36) fi_X6_9 rfl rfl rfl dX6_make_2 ?_
  refine v_gste C omEn_Key (i := 0) (cn := 5) (by decide) rfl gs_X6_18 dX6_make_5 ?_
  obtain ⟨r1, er1, h⟩ := om_bind h
  refine v_invV_v (As := [.ref (G.1 36), .ref (G.1 5)]) C mi_X2_fillInOrder ml_X6_24 (k_X2_fillInOrder 36 5 σ _ er1) (q := 1) rfl rfl rfl (by decide) (Nat.zero_le _) rfl (Nat.le_of_ble_eq_true rfl) dX6_make_8 ?_
  refine v_aload_n C (q := 1) rfl rfl dX6_make_11 ?_
  refine v_getr C (q := 1) (o := 17) (r := 18) fi_X6_30 rfl rfl rfl dX6_make_12 ?_
  refine v_iconst C (n := 0) dX6_make_15 ?_
  refine v_aload_n C (q := 0) rfl rfl dX6_make_16 ?_
  refine v_getr C (q := 19) (o := 35) (r := 37) fi_X6_15 rfl rfl rfl dX6_make_17 ?_
  refine v_iconst C (n := 0) dX6_make_20 ?_
  refine v_bipush C (a := 10) (by decide) dX6_make_21 ?_
  refine v_acopy C ml_X6_33 ac_nat ac_stat ini_Sys (Nat.le_of_ble_eq_true rfl) dX6_make_23 ?_
  refine v_aload_n C (q := 2) rfl rfl dX6_make_26 ?_
  obtain ⟨r2, er2, h⟩ := om_bind h
  refine v_invV_v (As := []) C mi_X5_begin ml_X6_39 (k_X5_begin  (omcpy r1) _ er2) (q := 8) rfl rfl rfl (by decide) (Nat.zero_le _) rfl (Nat.le_of_ble_eq_true rfl) dX6_make_27 ?_
  refine v_iconst C (n := 0) dX6_make_30 ?_
  refine v_istore C (ls' := [(0, .ref (G.1 35)), (1, .ref (G.1 17)), (2, .ref (G.1 24)), (3, .int (omi v3)), (4, .int (omi 0))]) (by decide) rfl dX6_make_31 ?_
  obtain ⟨t13, et13, h⟩ := om_bind h
  refine kl_X6_make_33 C v3 FU _ _ t13 et13 ?_
  cases h
  exact v_vret C F dX6_make_147 (Nat.zero_le _)
set_option maxHeartbeats 4000000 in
set_option maxRecDepth 100000 in
theorem n_X11_planPreemptiveByDates {G : omG}  (σ : omH) (t : (Int × omH)) (h : s_X11_planPreemptiveByDates  σ = some (Sum.inr t)) : omM G yX11_planPreemptiveByDates (.code yX11_planPreemptiveByDates cX11_planPreemptiveByDates 1 (some .int)) 5 0 [.ref (G.1 16)] σ (.inr (some (.int (omi t.1)))) t.2 := by
  unfold s_X11_planPreemptiveByDates at h
  refine om_head (own := RX11) (ls := [(0, .ref (G.1 16))]) (by decide +kernel) rfl (by simp [lg_sl, Value.category]) rfl (by simp [Value.category]) (fun x C F => ?_)
  refine v_aload_n C (q := 0) rfl rfl dX11_planPreemptiveByDates_0 ?_
  obtain ⟨r1, er1, h⟩ := om_bind h
  rcases r1 with u2 | u2
  · replace h := (Sum.elim_inl _ _ _).symm.trans h
    cases h
  · replace h := (Sum.elim_inr _ _ _).symm.trans h
    refine v_invV_v (As := []) C mi_X11_needSomeJob ml_X11_105 (n_X11_needSomeJob  σ _ er1) (q := 0) rfl rfl rfl (by decide) (Nat.zero_le _) rfl (Nat.le_of_ble_eq_true rfl) dX11_planPreemptiveByDates_1 ?_
    refine v_aload_n C (q := 0) rfl rfl dX11_planPreemptiveByDates_4 ?_
    refine v_getr C (q := 0) (o := 16) (r := 35) fi_X11_33 rfl rfl rfl dX11_planPreemptiveByDates_5 ?_
    refine v_aload_n C (q := 0) rfl rfl dX11_planPreemptiveByDates_8 ?_
    refine v_getr C (q := 0) (o := 16) (r := 17) fi_X11_12 rfl rfl rfl dX11_planPreemptiveByDates_9 ?_
    refine v_aload_n C (q := 0) rfl rfl dX11_planPreemptiveByDates_12 ?_
    refine v_getr C (q := 0) (o := 16) (r := 24) fi_X11_19 rfl rfl rfl dX11_planPreemptiveByDates_13 ?_
    refine v_iconst C (n := 0) dX11_planPreemptiveByDates_16 ?_
    obtain ⟨r3, er3, h⟩ := om_bind h
    refine v_invV_v (As := [.ref (G.1 17), .ref (G.1 24), .int (omi 0)]) C mi_X6_make ml_X11_148 (k_X6_make 0 σ _ er3) (q := 19) rfl rfl rfl (by decide) (Nat.zero_le _) rfl (Nat.le_of_ble_eq_true rfl) dX11_planPreemptiveByDates_17 ?_
    refine v_aload_n C (q := 0) rfl rfl dX11_planPreemptiveByDates_20 ?_
    refine v_getr C (q := 0) (o := 16) (r := 24) fi_X11_19 rfl rfl rfl dX11_planPreemptiveByDates_21 ?_
    refine v_aload_n C (q := 0) rfl rfl dX11_planPreemptiveByDates_24 ?_
    refine v_getr C (q := 0) (o := 16) (r := 17) fi_X11_12 rfl rfl rfl dX11_planPreemptiveByDates_25 ?_
    refine v_gste C omEn_Cost (i := 0) (cn := 0) (by decide) rfl gs_X11_119 dX11_planPreemptiveByDates_28 ?_
    obtain ⟨r4, er4, h⟩ := om_bind h
    refine v_invV_i (As := [.ref (G.1 17), .ref (G.1 0)]) C mi_X5_total ml_X11_125 (k_X5_total 0 r3 _ er4) (q := 8) rfl rfl rfl (by decide) (Nat.zero_le _) rfl (Nat.le_of_ble_eq_true rfl) dX11_planPreemptiveByDates_31 ?_
    cases h
    exact v_iret C F dX11_planPreemptiveByDates_34 (Nat.zero_le _)
set_option maxHeartbeats 4000000 in
set_option maxRecDepth 100000 in
theorem n_X11_planPreemptiveShortest {G : omG}  (σ : omH) (t : (Int × omH)) (h : s_X11_planPreemptiveShortest  σ = some (Sum.inr t)) : omM G yX11_planPreemptiveShortest (.code yX11_planPreemptiveShortest cX11_planPreemptiveShortest 1 (some .int)) 5 0 [.ref (G.1 16)] σ (.inr (some (.int (omi t.1)))) t.2 := by
  unfold s_X11_planPreemptiveShortest at h
  refine om_head (own := RX11) (ls := [(0, .ref (G.1 16))]) (by decide +kernel) rfl (by simp [lg_sl, Value.category]) rfl (by simp [Value.category]) (fun x C F => ?_)
  refine v_aload_n C (q := 0) rfl rfl dX11_planPreemptiveShortest_0 ?_
  obtain ⟨r1, er1, h⟩ := om_bind h
  rcases r1 with u2 | u2
  · replace h := (Sum.elim_inl _ _ _).symm.trans h
    cases h
  · replace h := (Sum.elim_inr _ _ _).symm.trans h
    refine v_invV_v (As := []) C mi_X11_needSomeJob ml_X11_105 (n_X11_needSomeJob  σ _ er1) (q := 0) rfl rfl rfl (by decide) (Nat.zero_le _) rfl (Nat.le_of_ble_eq_true rfl) dX11_planPreemptiveShortest_1 ?_
    refine v_aload_n C (q := 0) rfl rfl dX11_planPreemptiveShortest_4 ?_
    refine v_getr C (q := 0) (o := 16) (r := 35) fi_X11_33 rfl rfl rfl dX11_planPreemptiveShortest_5 ?_
    refine v_aload_n C (q := 0) rfl rfl dX11_planPreemptiveShortest_8 ?_
    refine v_getr C (q := 0) (o := 16) (r := 17) fi_X11_12 rfl rfl rfl dX11_planPreemptiveShortest_9 ?_
    refine v_aload_n C (q := 0) rfl rfl dX11_planPreemptiveShortest_12 ?_
    refine v_getr C (q := 0) (o := 16) (r := 24) fi_X11_19 rfl rfl rfl dX11_planPreemptiveShortest_13 ?_
    refine v_iconst C (n := 1) dX11_planPreemptiveShortest_16 ?_
    obtain ⟨r3, er3, h⟩ := om_bind h
    refine v_invV_v (As := [.ref (G.1 17), .ref (G.1 24), .int (omi 1)]) C mi_X6_make ml_X11_148 (k_X6_make 1 σ _ er3) (q := 19) rfl rfl rfl (by decide) (Nat.zero_le _) rfl (Nat.le_of_ble_eq_true rfl) dX11_planPreemptiveShortest_17 ?_
    refine v_aload_n C (q := 0) rfl rfl dX11_planPreemptiveShortest_20 ?_
    refine v_getr C (q := 0) (o := 16) (r := 24) fi_X11_19 rfl rfl rfl dX11_planPreemptiveShortest_21 ?_
    refine v_aload_n C (q := 0) rfl rfl dX11_planPreemptiveShortest_24 ?_
    refine v_getr C (q := 0) (o := 16) (r := 17) fi_X11_12 rfl rfl rfl dX11_planPreemptiveShortest_25 ?_
    refine v_gste C omEn_Cost (i := 2) (cn := 2) (by decide) rfl gs_X11_152 dX11_planPreemptiveShortest_28 ?_
    obtain ⟨r4, er4, h⟩ := om_bind h
    refine v_invV_i (As := [.ref (G.1 17), .ref (G.1 2)]) C mi_X5_total ml_X11_125 (k_X5_total 2 r3 _ er4) (q := 8) rfl rfl rfl (by decide) (Nat.zero_le _) rfl (Nat.le_of_ble_eq_true rfl) dX11_planPreemptiveShortest_31 ?_
    cases h
    exact v_iret C F dX11_planPreemptiveShortest_34 (Nat.zero_le _)
set_option maxHeartbeats 4000000 in
set_option maxRecDepth 100000 in
theorem k_X11_hasPlan {G : omG}  (σ : omH) (t : Int) (h : s_X11_hasPlan  σ = some t) : omM G yX11_hasPlan (.code yX11_hasPlan cX11_hasPlan 1 (some .boolean)) 1 0 [.ref (G.1 16)] σ (.inr (some (.int (omi t)))) σ := by
  unfold s_X11_hasPlan at h
  refine om_head (own := RX11) (ls := [(0, .ref (G.1 16))]) (by decide +kernel) rfl (by simp [lg_sl, Value.category]) rfl (by simp [Value.category]) (fun x C F => ?_)
  refine v_aload_n C (q := 0) rfl rfl dX11_hasPlan_0 ?_
  refine v_getr C (q := 0) (o := 16) (r := 24) fi_X11_19 rfl rfl rfl dX11_hasPlan_1 ?_
  refine v_geti C (q := 8) (o := 24) fi_X11_155 rfl rfl dX11_hasPlan_4 ?_
  obtain ⟨g1, h⟩ := omg_some h
  cases h
  exact v_zret C g1 F dX11_hasPlan_7 (Nat.zero_le _)
set_option maxHeartbeats 4000000 in
set_option maxRecDepth 100000 in
theorem k_X11_pieces {G : omG}  (σ : omH) (t : Int) (h : s_X11_pieces  σ = some t) : omM G yX11_pieces (.code yX11_pieces cX11_pieces 1 (some .int)) 1 0 [.ref (G.1 16)] σ (.inr (some (.int (omi t)))) σ := by
  unfold s_X11_pieces at h
  refine om_head (own := RX11) (ls := [(0, .ref (G.1 16))]) (by decide +kernel) rfl (by simp [lg_sl, Value.category]) rfl (by simp [Value.category]) (fun x C F => ?_)
  refine v_aload_n C (q := 0) rfl rfl dX11_pieces_0 ?_
  refine v_getr C (q := 0) (o := 16) (r := 24) fi_X11_19 rfl rfl rfl dX11_pieces_1 ?_
  refine v_geti C (q := 8) (o := 24) fi_X11_159 rfl rfl dX11_pieces_4 ?_
  cases h
  exact v_iret C F dX11_pieces_7 (Nat.zero_le _)
set_option maxHeartbeats 4000000 in
set_option maxRecDepth 100000 in
theorem n_X11_needPiece {G : omG} (v1 : Int) (σ : omH) (t : Unit) (h : s_X11_needPiece v1 σ = some (Sum.inr t)) : omM G yX11_needPiece (.code yX11_needPiece cX11_needPiece 2 none) 2 0 [.ref (G.1 16), .int (omi v1)] σ (.inr none) σ := by
  unfold s_X11_needPiece at h
  refine om_head (own := RX11) (ls := [(0, .ref (G.1 16)), (1, .int (omi v1))]) (by decide +kernel) rfl (by simp [lg_sl, Value.category]) rfl (by simp [Value.category]) (fun x C F => ?_)
  refine v_iload_n C (q := 1) rfl rfl dX11_needPiece_0 ?_
  refine v_iconst C (n := 0) dX11_needPiece_1 ?_
  refine v_aload_n C (q := 0) rfl rfl dX11_needPiece_2 ?_
  refine v_getr C (q := 0) (o := 16) (r := 24) fi_X11_19 rfl rfl rfl dX11_needPiece_3 ?_
  refine v_geti C (q := 8) (o := 24) fi_X11_159 rfl rfl dX11_needPiece_6 ?_
  refine v_iconst C (n := 1) dX11_needPiece_9 ?_
  refine v_isub C dX11_needPiece_10 ?_
  obtain ⟨r1, er1, h⟩ := om_bind h
  refine v_invS_i (As := [.int (omi v1), .int (omi 0), .int (omi ((σ 24 1) - 1))]) C mi_X11_isWithin ml_X11_87 (k_X11_isWithin v1 0 ((σ 24 1) - 1) σ _ er1) rfl (by decide) (Nat.zero_le _) rfl (Nat.le_of_ble_eq_true rfl) dX11_needPiece_11 ?_
  refine v_if_ne C (tgt := 27) dX11_needPiece_14 rfl (fun hc => ?_) (fun hc => ?_)
  · replace h := (if_neg hc).symm.trans h
    cases h
    exact v_vret C F dX11_needPiece_27 (Nat.zero_le _)
  · replace h := (if_pos hc).symm.trans h
    cases h
set_option maxHeartbeats 4000000 in
set_option maxRecDepth 100000 in
theorem n_X11_kindOf {G : omG} (v1 : Int) (σ : omH) (t : Int) (h : s_X11_kindOf v1 σ = some (Sum.inr t)) : omM G yX11_kindOf (.code yX11_kindOf cX11_kindOf 2 (some .int)) 3 0 [.ref (G.1 16), .int (omi v1)] σ (.inr (some (.int (omi t)))) σ := by
  unfold s_X11_kindOf at h
  refine om_head (own := RX11) (ls := [(0, .ref (G.1 16)), (1, .int (omi v1))]) (by decide +kernel) rfl (by simp [lg_sl, Value.category]) rfl (by simp [Value.category]) (fun x C F => ?_)
  refine v_aload_n C (q := 0) rfl rfl dX11_kindOf_0 ?_
  refine v_iload_n C (q := 1) rfl rfl dX11_kindOf_1 ?_
  obtain ⟨r1, er1, h⟩ := om_bind h
  rcases r1 with u2 | u2
  · replace h := (Sum.elim_inl _ _ _).symm.trans h
    cases h
  · replace h := (Sum.elim_inr _ _ _).symm.trans h
    refine v_invV_v (As := [.int (omi v1)]) C mi_X11_needPiece ml_X11_160 (n_X11_needPiece v1 σ _ er1) (q := 0) rfl rfl rfl (by decide) (Nat.zero_le _) rfl (Nat.le_of_ble_eq_true rfl) dX11_kindOf_2 ?_
    refine v_aload_n C (q := 0) rfl rfl dX11_kindOf_5 ?_
    refine v_getr C (q := 0) (o := 16) (r := 24) fi_X11_19 rfl rfl rfl dX11_kindOf_6 ?_
    refine v_getr C (q := 8) (o := 24) (r := 25) fi_X11_163 rfl rfl rfl dX11_kindOf_9 ?_
    refine v_iload_n C (q := 1) rfl rfl dX11_kindOf_12 ?_
    obtain ⟨g3, h⟩ := omg_some h
    refine v_iald C (q := 9) (o := 25) (n := 20) rfl g3 dX11_kindOf_13 ?_
    cases h
    exact v_iret C F dX11_kindOf_14 (Nat.zero_le _)
set_option maxHeartbeats 4000000 in
set_option maxRecDepth 100000 in
theorem n_X11_whoseIs {G : omG} (v1 : Int) (σ : omH) (t : Int) (h : s_X11_whoseIs v1 σ = some (Sum.inr t)) : omM G yX11_whoseIs (.code yX11_whoseIs cX11_whoseIs 2 (some .int)) 3 0 [.ref (G.1 16), .int (omi v1)] σ (.inr (some (.int (omi t)))) σ := by
  unfold s_X11_whoseIs at h
  refine om_head (own := RX11) (ls := [(0, .ref (G.1 16)), (1, .int (omi v1))]) (by decide +kernel) rfl (by simp [lg_sl, Value.category]) rfl (by simp [Value.category]) (fun x C F => ?_)
  refine v_aload_n C (q := 0) rfl rfl dX11_whoseIs_0 ?_
  refine v_iload_n C (q := 1) rfl rfl dX11_whoseIs_1 ?_
  obtain ⟨r1, er1, h⟩ := om_bind h
  rcases r1 with u2 | u2
  · replace h := (Sum.elim_inl _ _ _).symm.trans h
    cases h
  · replace h := (Sum.elim_inr _ _ _).symm.trans h
    refine v_invV_v (As := [.int (omi v1)]) C mi_X11_needPiece ml_X11_160 (n_X11_needPiece v1 σ _ er1) (q := 0) rfl rfl rfl (by decide) (Nat.zero_le _) rfl (Nat.le_of_ble_eq_true rfl) dX11_whoseIs_2 ?_
    refine v_aload_n C (q := 0) rfl rfl dX11_whoseIs_5 ?_
    refine v_getr C (q := 0) (o := 16) (r := 24) fi_X11_19 rfl rfl rfl dX11_whoseIs_6 ?_
    refine v_getr C (q := 8) (o := 24) (r := 26) fi_X11_166 rfl rfl rfl dX11_whoseIs_9 ?_
    refine v_iload_n C (q := 1) rfl rfl dX11_whoseIs_12 ?_
    obtain ⟨g3, h⟩ := omg_some h
    refine v_iald C (q := 10) (o := 26) (n := 20) rfl g3 dX11_whoseIs_13 ?_
    cases h
    exact v_iret C F dX11_whoseIs_14 (Nat.zero_le _)
set_option maxHeartbeats 4000000 in
set_option maxRecDepth 100000 in
theorem n_X11_startOf {G : omG} (v1 : Int) (σ : omH) (t : Int) (h : s_X11_startOf v1 σ = some (Sum.inr t)) : omM G yX11_startOf (.code yX11_startOf cX11_startOf 2 (some .int)) 3 0 [.ref (G.1 16), .int (omi v1)] σ (.inr (some (.int (omi t)))) σ := by
  unfold s_X11_startOf at h
  refine om_head (own := RX11) (ls := [(0, .ref (G.1 16)), (1, .int (omi v1))]) (by decide +kernel) rfl (by simp [lg_sl, Value.category]) rfl (by simp [Value.category]) (fun x C F => ?_)
  refine v_aload_n C (q := 0) rfl rfl dX11_startOf_0 ?_
  refine v_iload_n C (q := 1) rfl rfl dX11_startOf_1 ?_
  obtain ⟨r1, er1, h⟩ := om_bind h
  rcases r1 with u2 | u2
  · replace h := (Sum.elim_inl _ _ _).symm.trans h
    cases h
  · replace h := (Sum.elim_inr _ _ _).symm.trans h
    refine v_invV_v (As := [.int (omi v1)]) C mi_X11_needPiece ml_X11_160 (n_X11_needPiece v1 σ _ er1) (q := 0) rfl rfl rfl (by decide) (Nat.zero_le _) rfl (Nat.le_of_ble_eq_true rfl) dX11_startOf_2 ?_
    refine v_iload_n C (q := 1) rfl rfl dX11_startOf_5 ?_
    refine v_if_ne C (tgt := 13) dX11_startOf_6 rfl (fun hc => ?_) (fun hc => ?_)
    · replace h := (if_neg hc).symm.trans h
      refine v_aload_n C (q := 0) rfl rfl dX11_startOf_13 ?_
      refine v_getr C (q := 0) (o := 16) (r := 24) fi_X11_19 rfl rfl rfl dX11_startOf_14 ?_
      refine v_getr C (q := 8) (o := 24) (r := 27) fi_X11_169 rfl rfl rfl dX11_startOf_17 ?_
      refine v_iload_n C (q := 1) rfl rfl dX11_startOf_20 ?_
      refine v_iconst C (n := 1) dX11_startOf_21 ?_
      refine v_isub C dX11_startOf_22 ?_
      obtain ⟨g3, h⟩ := omg_some h
      refine v_iald C (q := 11) (o := 27) (n := 20) rfl g3 dX11_startOf_23 ?_
      cases h
      exact v_iret C F dX11_startOf_24 (Nat.zero_le _)
    · replace h := (if_pos hc).symm.trans h
      refine v_iconst C (n := 0) dX11_startOf_9 ?_
      refine v_goto C (tgt := 24) dX11_startOf_10 rfl ?_
      cases h
      exact v_iret C F dX11_startOf_24 (Nat.zero_le _)
set_option maxHeartbeats 4000000 in
set_option maxRecDepth 100000 in
theorem n_X11_endOf {G : omG} (v1 : Int) (σ : omH) (t : Int) (h : s_X11_endOf v1 σ = some (Sum.inr t)) : omM G yX11_endOf (.code yX11_endOf cX11_endOf 2 (some .int)) 3 0 [.ref (G.1 16), .int (omi v1)] σ (.inr (some (.int (omi t)))) σ := by
  unfold s_X11_endOf at h
  refine om_head (own := RX11) (ls := [(0, .ref (G.1 16)), (1, .int (omi v1))]) (by decide +kernel) rfl (by simp [lg_sl, Value.category]) rfl (by simp [Value.category]) (fun x C F => ?_)
  refine v_aload_n C (q := 0) rfl rfl dX11_endOf_0 ?_
  refine v_iload_n C (q := 1) rfl rfl dX11_endOf_1 ?_
  obtain ⟨r1, er1, h⟩ := om_bind h
  rcases r1 with u2 | u2
  · replace h := (Sum.elim_inl _ _ _).symm.trans h
    cases h
  · replace h := (Sum.elim_inr _ _ _).symm.trans h
    refine v_invV_v (As := [.int (omi v1)]) C mi_X11_needPiece ml_X11_160 (n_X11_needPiece v1 σ _ er1) (q := 0) rfl rfl rfl (by decide) (Nat.zero_le _) rfl (Nat.le_of_ble_eq_true rfl) dX11_endOf_2 ?_
    refine v_aload_n C (q := 0) rfl rfl dX11_endOf_5 ?_
    refine v_getr C (q := 0) (o := 16) (r := 24) fi_X11_19 rfl rfl rfl dX11_endOf_6 ?_
    refine v_getr C (q := 8) (o := 24) (r := 27) fi_X11_169 rfl rfl rfl dX11_endOf_9 ?_
    refine v_iload_n C (q := 1) rfl rfl dX11_endOf_12 ?_
    obtain ⟨g3, h⟩ := omg_some h
    refine v_iald C (q := 11) (o := 27) (n := 20) rfl g3 dX11_endOf_13 ?_
    cases h
    exact v_iret C F dX11_endOf_14 (Nat.zero_le _)
set_option maxHeartbeats 4000000 in
set_option maxRecDepth 100000 in
theorem n_X11_needPlan {G : omG}  (σ : omH) (t : Unit) (h : s_X11_needPlan  σ = some (Sum.inr t)) : omM G yX11_needPlan (.code yX11_needPlan cX11_needPlan 1 none) 1 0 [.ref (G.1 16)] σ (.inr none) σ := by
  unfold s_X11_needPlan at h
  refine om_head (own := RX11) (ls := [(0, .ref (G.1 16))]) (by decide +kernel) rfl (by simp [lg_sl, Value.category]) rfl (by simp [Value.category]) (fun x C F => ?_)
  refine v_aload_n C (q := 0) rfl rfl dX11_needPlan_0 ?_
  refine v_getr C (q := 0) (o := 16) (r := 24) fi_X11_19 rfl rfl rfl dX11_needPlan_1 ?_
  refine v_geti C (q := 8) (o := 24) fi_X11_155 rfl rfl dX11_needPlan_4 ?_
  refine v_if_ne C (tgt := 20) dX11_needPlan_7 rfl (fun hc => ?_) (fun hc => ?_)
  · replace h := (if_neg hc).symm.trans h
    cases h
    exact v_vret C F dX11_needPlan_20 (Nat.zero_le _)
  · replace h := (if_pos hc).symm.trans h
    cases h
set_option maxHeartbeats 4000000 in
set_option maxRecDepth 100000 in
theorem n_X11_completion {G : omG} (v1 : Int) (σ : omH) (t : Int) (h : s_X11_completion v1 σ = some (Sum.inr t)) : omM G yX11_completion (.code yX11_completion cX11_completion 2 (some .int)) 3 0 [.ref (G.1 16), .int (omi v1)] σ (.inr (some (.int (omi t)))) σ := by
  unfold s_X11_completion at h
  refine om_head (own := RX11) (ls := [(0, .ref (G.1 16)), (1, .int (omi v1))]) (by decide +kernel) rfl (by simp [lg_sl, Value.category]) rfl (by simp [Value.category]) (fun x C F => ?_)
  refine v_aload_n C (q := 0) rfl rfl dX11_completion_0 ?_
  refine v_iload_n C (q := 1) rfl rfl dX11_completion_1 ?_
  obtain ⟨r1, er1, h⟩ := om_bind h
  rcases r1 with u2 | u2
  · replace h := (Sum.elim_inl _ _ _).symm.trans h
    cases h
  · replace h := (Sum.elim_inr _ _ _).symm.trans h
    refine v_invV_v (As := [.int (omi v1)]) C mi_X11_needJob ml_X11_80 (n_X11_needJob v1 σ _ er1) (q := 0) rfl rfl rfl (by decide) (Nat.zero_le _) rfl (Nat.le_of_ble_eq_true rfl) dX11_completion_2 ?_
    refine v_aload_n C (q := 0) rfl rfl dX11_completion_5 ?_
    obtain ⟨r3, er3, h⟩ := om_bind h
    rcases r3 with u4 | u4
    · replace h := (Sum.elim_inl _ _ _).symm.trans h
      cases h
    · replace h := (Sum.elim_inr _ _ _).symm.trans h
      refine v_invV_v (As := []) C mi_X11_needPlan ml_X11_172 (n_X11_needPlan  σ _ er3) (q := 0) rfl rfl rfl (by decide) (Nat.zero_le _) rfl (Nat.le_of_ble_eq_true rfl) dX11_completion_6 ?_
      refine v_aload_n C (q := 0) rfl rfl dX11_completion_9 ?_
      refine v_getr C (q := 0) (o := 16) (r := 24) fi_X11_19 rfl rfl rfl dX11_completion_10 ?_
      refine v_getr C (q := 8) (o := 24) (r := 28) fi_X11_175 rfl rfl rfl dX11_completion_13 ?_
      refine v_iload_n C (q := 1) rfl rfl dX11_completion_16 ?_
      obtain ⟨g5, h⟩ := omg_some h
      refine v_iald C (q := 12) (o := 28) (n := 10) rfl g5 dX11_completion_17 ?_
      cases h
      exact v_iret C F dX11_completion_18 (Nat.zero_le _)
