set_option maxHeartbeats 4000000 in
set_option maxRecDepth 100000 in
theorem k_X12_changeJob {G : omG} (v1 : Int) (v2 : Int) (v3 : Int) (v4 : Int) (v5 : Int) (v6 : Int) (σ : omH) (t : omH) (h : s_X12_changeJob v1 v2 v3 v4 v5 v6 σ = some t) : omM G yX12_changeJob (.code yX12_changeJob cX12_changeJob 7 none) 3 0 [.ref (G.1 43), .int (omi v1), .int (omi v2), .int (omi v3), .int (omi v4), .int (omi v5), .int (omi v6)] σ (.inr none) t := by
  unfold s_X12_changeJob at h
  refine om_head (own := RX12) (ls := [(0, .ref (G.1 43)), (1, .int (omi v1)), (2, .int (omi v2)), (3, .int (omi v3)), (4, .int (omi v4)), (5, .int (omi v5)), (6, .int (omi v6))]) (by decide +kernel) rfl (by simp [lg_sl, Value.category]) rfl (by simp [Value.category]) (fun x C F => ?_)
  refine v_aload_n C (q := 0) rfl rfl dX12_changeJob_0 ?_
  refine v_aload_n C (q := 0) rfl rfl dX12_changeJob_1 ?_
  refine v_iload_n C (q := 1) rfl rfl dX12_changeJob_2 ?_
  obtain ⟨r1, er1, h⟩ := om_bind h
  refine v_invV_i (As := [.int (omi v1)]) C mi_X12_isJob ml_X12_92 (k_X12_isJob v1 σ _ er1) (q := 27) rfl rfl rfl (by decide) (Nat.zero_le _) rfl (Nat.le_of_ble_eq_true rfl) dX12_changeJob_3 ?_
  obtain ⟨t2, et2, h⟩ := om_bind h
  have Jt2 : omV G x 7 32 [(0, .ref (G.1 43)), (1, .int (omi v1)), (2, .int (omi v2)), (3, .int (omi v3)), (4, .int (omi v4)), (5, .int (omi v5)), (6, .int (omi v6))] [.int (omi t2), .ref (G.1 43)] σ 0 := by
    obtain ⟨r3, er3, h⟩ := om_bind h
    refine v_invV_i (As := [.int (omi t2)]) C mi_X12_holds ml_X12_84 (k_X12_holds t2 σ _ er3) (q := 27) rfl rfl rfl (by decide) (Nat.zero_le _) rfl (Nat.le_of_ble_eq_true rfl) dX12_changeJob_32 ?_
    refine v_if_eq C (tgt := 51) dX12_changeJob_35 rfl (fun hc => ?_) (fun hc => ?_)
    · replace h := (if_pos hc).symm.trans h
      cases h
      exact v_vret C F dX12_changeJob_51 (Nat.zero_le _)
    · replace h := (if_neg hc).symm.trans h
      refine v_aload_n C (q := 0) rfl rfl dX12_changeJob_38 ?_
      refine v_iload_n C (q := 1) rfl rfl dX12_changeJob_39 ?_
      refine v_iload_n C (q := 2) rfl rfl dX12_changeJob_40 ?_
      refine v_iload_n C (q := 3) rfl rfl dX12_changeJob_41 ?_
      refine v_iload C (q := 4) rfl dX12_changeJob_42 ?_
      refine v_iload C (q := 5) rfl dX12_changeJob_44 ?_
      refine v_iload C (q := 6) rfl dX12_changeJob_46 ?_
      obtain ⟨r4, er4, h⟩ := om_bind h
      refine v_invV_v (As := [.int (omi v1), .int (omi v2), .int (omi v3), .int (omi v4), .int (omi v5), .int (omi v6)]) C mi_X12_lays ml_X12_88 (k_X12_lays v1 v2 v3 v4 v5 v6 r3.2 _ er4) (q := 27) rfl rfl rfl (by decide) (Nat.zero_le _) rfl (Nat.le_of_ble_eq_true rfl) dX12_changeJob_48 ?_
      cases h
      exact v_vret C F dX12_changeJob_51 (Nat.zero_le _)
  clear h
  have h := et2
  clear et2
  refine v_if_ne C (tgt := 13) dX12_changeJob_6 rfl (fun hc => ?_) (fun hc => ?_)
  · replace h := (if_neg hc).symm.trans h
    refine v_iload_n C (q := 2) rfl rfl dX12_changeJob_13 ?_
    refine v_iload_n C (q := 3) rfl rfl dX12_changeJob_14 ?_
    refine v_iload C (q := 4) rfl dX12_changeJob_15 ?_
    refine v_iload C (q := 5) rfl dX12_changeJob_17 ?_
    refine v_iload C (q := 6) rfl dX12_changeJob_19 ?_
    obtain ⟨r5, er5, h⟩ := om_bind h
    refine v_invS_i (As := [.int (omi v2), .int (omi v3), .int (omi v4), .int (omi v5), .int (omi v6)]) C mi_X12_areRight ml_X12_80 (k_X12_areRight v2 v3 v4 v5 v6 σ _ er5) rfl (by decide) (Nat.zero_le _) rfl (Nat.le_of_ble_eq_true rfl) dX12_changeJob_21 ?_
    refine v_if_eq C (tgt := 31) dX12_changeJob_24 rfl (fun hc => ?_) (fun hc => ?_)
    · replace h := (if_pos hc).symm.trans h
      refine v_iconst C (n := 2) dX12_changeJob_31 ?_
      cases h
      exact Jt2
    · replace h := (if_neg hc).symm.trans h
      refine v_iconst C (n := 0) dX12_changeJob_27 ?_
      refine v_goto C (tgt := 32) dX12_changeJob_28 rfl ?_
      cases h
      exact Jt2
  · replace h := (if_pos hc).symm.trans h
    refine v_iconst C (n := 1) dX12_changeJob_9 ?_
    refine v_goto C (tgt := 32) dX12_changeJob_10 rfl ?_
    cases h
    exact Jt2
set_option maxHeartbeats 4000000 in
set_option maxRecDepth 100000 in
theorem kl_X12_removeJob_38 {G : omG} {x : omX} (C : omC G x RX12 cX12_removeJob 3 (3) 0) : ∀ (n : Nat) (v2 : Int) (σ : omH) (t : omH), l_X12_removeJob_38  n v2 σ = some t → omV G x 3 97 [(0, .ref (G.1 43))] [] t 0 → omV G x 3 38 [(0, .ref (G.1 43)), (2, .int (omi v2))] [] σ 0 := by
  intro n
  induction n with
  | zero => intro v2 σ t h K; cases h
  | succ n ih =>
    intro v2 σ t h K
    rw [l_X12_removeJob_38.eq_2] at h
    refine v_iload_n C (q := 1) rfl rfl dX12_removeJob_38 ?_
    refine v_aload_n C (q := 0) rfl rfl dX12_removeJob_39 ?_
    refine v_geti C (q := 27) (o := 43) fi_X12_63 rfl rfl dX12_removeJob_40 ?_
    refine v_icmp_ge C (tgt := 97) dX12_removeJob_43 rfl (fun hc => ?_) (fun hc => ?_)
    · replace h := (if_neg hc).symm.trans h
      cases h
      exact v_subp [0] rfl K
    · replace h := (if_pos hc).symm.trans h
      refine v_aload_n C (q := 0) rfl rfl dX12_removeJob_46 ?_
      refine v_iload_n C (q := 1) rfl rfl dX12_removeJob_47 ?_
      refine v_aload_n C (q := 0) rfl rfl dX12_removeJob_48 ?_
      refine v_getr C (q := 27) (o := 43) (r := 44) fi_X12_7 rfl rfl rfl dX12_removeJob_49 ?_
      refine v_iload_n C (q := 1) rfl rfl dX12_removeJob_52 ?_
      refine v_iconst C (n := 1) dX12_removeJob_53 ?_
      refine v_iadd C dX12_removeJob_54 ?_
      obtain ⟨g5, h⟩ := omg_some h
      refine v_iald C (q := 28) (o := 44) (n := 10) rfl g5 dX12_removeJob_55 ?_
      refine v_aload_n C (q := 0) rfl rfl dX12_removeJob_56 ?_
      refine v_getr C (q := 27) (o := 43) (r := 45) fi_X12_13 rfl rfl rfl dX12_removeJob_57 ?_
      refine v_iload_n C (q := 1) rfl rfl dX12_removeJob_60 ?_
      refine v_iconst C (n := 1) dX12_removeJob_61 ?_
      refine v_iadd C dX12_removeJob_62 ?_
      obtain ⟨g6, h⟩ := omg_some h
      refine v_iald C (q := 29) (o := 45) (n := 10) rfl g6 dX12_removeJob_63 ?_
      refine v_aload_n C (q := 0) rfl rfl dX12_removeJob_64 ?_
      refine v_getr C (q := 27) (o := 43) (r := 46) fi_X12_16 rfl rfl rfl dX12_removeJob_65 ?_
      refine v_iload_n C (q := 1) rfl rfl dX12_removeJob_68 ?_
      refine v_iconst C (n := 1) dX12_removeJob_69 ?_
      refine v_iadd C dX12_removeJob_70 ?_
      obtain ⟨g7, h⟩ := omg_some h
      refine v_iald C (q := 30) (o := 46) (n := 10) rfl g7 dX12_removeJob_71 ?_
      refine v_aload_n C (q := 0) rfl rfl dX12_removeJob_72 ?_
      refine v_getr C (q := 27) (o := 43) (r := 47) fi_X12_19 rfl rfl rfl dX12_removeJob_73 ?_
      refine v_iload_n C (q := 1) rfl rfl dX12_removeJob_76 ?_
      refine v_iconst C (n := 1) dX12_removeJob_77 ?_
      refine v_iadd C dX12_removeJob_78 ?_
      obtain ⟨g8, h⟩ := omg_some h
      refine v_iald C (q := 31) (o := 47) (n := 10) rfl g8 dX12_removeJob_79 ?_
      refine v_aload_n C (q := 0) rfl rfl dX12_removeJob_80 ?_
      refine v_getr C (q := 27) (o := 43) (r := 48) fi_X12_22 rfl rfl rfl dX12_removeJob_81 ?_
      refine v_iload_n C (q := 1) rfl rfl dX12_removeJob_84 ?_
      refine v_iconst C (n := 1) dX12_removeJob_85 ?_
      refine v_iadd C dX12_removeJob_86 ?_
      obtain ⟨g9, h⟩ := omg_some h
      refine v_iald C (q := 32) (o := 48) (n := 10) rfl g9 dX12_removeJob_87 ?_
      obtain ⟨r10, er10, h⟩ := om_bind h
      refine v_invV_v (As := [.int (omi v2), .int (omi (σ 44 (omw (v2 + 1)).toNat)), .int (omi (σ 45 (omw (v2 + 1)).toNat)), .int (omi (σ 46 (omw (v2 + 1)).toNat)), .int (omi (σ 47 (omw (v2 + 1)).toNat)), .int (omi (σ 48 (omw (v2 + 1)).toNat))]) C mi_X12_lays ml_X12_88 (k_X12_lays v2 (σ 44 (omw (v2 + 1)).toNat) (σ 45 (omw (v2 + 1)).toNat) (σ 46 (omw (v2 + 1)).toNat) (σ 47 (omw (v2 + 1)).toNat) (σ 48 (omw (v2 + 1)).toNat) σ _ er10) (q := 27) rfl rfl rfl (by decide) (Nat.zero_le _) rfl (Nat.le_of_ble_eq_true rfl) dX12_removeJob_88 ?_
      refine v_iinc C (q := 1) (ls' := [(0, .ref (G.1 43)), (2, .int (omi (v2 + 1)))]) rfl (by decide) rfl rfl dX12_removeJob_91 ?_
      refine v_goto C (tgt := 38) dX12_removeJob_94 rfl ?_
      exact ih _ _ _ h K
set_option maxHeartbeats 4000000 in
set_option maxRecDepth 100000 in
theorem k_X12_removeJob {G : omG} (v1 : Int) (σ : omH) (t : Int × omH) (h : s_X12_removeJob v1 σ = some t) : omM G yX12_removeJob (.code yX12_removeJob cX12_removeJob 3 (some .int)) 3 0 [.ref (G.1 43), .int (omi v1)] σ (.inr (some (.int (omi t.1)))) t.2 := by
  unfold s_X12_removeJob at h
  refine om_head (own := RX12) (ls := [(0, .ref (G.1 43)), (1, .int (omi v1))]) (by decide +kernel) rfl (by simp [lg_sl, Value.category]) rfl (by simp [Value.category]) (fun x C F => ?_)
  refine v_aload_n C (q := 0) rfl rfl dX12_removeJob_0 ?_
  refine v_aload_n C (q := 0) rfl rfl dX12_removeJob_1 ?_
  refine v_iload_n C (q := 1) rfl rfl dX12_removeJob_2 ?_
  obtain ⟨r1, er1, h⟩ := om_bind h
  refine v_invV_i (As := [.int (omi v1)]) C mi_X12_isJob ml_X12_92 (k_X12_isJob v1 σ _ er1) (q := 27) rfl rfl rfl (by decide) (Nat.zero_le _) rfl (Nat.le_of_ble_eq_true rfl) dX12_removeJob_3 ?_
  obtain ⟨t2, et2, h⟩ := om_bind h
  have Jt2 : omV G x 3 14 [(0, .ref (G.1 43)), (1, .int (omi v1))] [.int (omi t2), .ref (G.1 43)] σ 0 := by
    obtain ⟨r3, er3, h⟩ := om_bind h
    refine v_invV_i (As := [.int (omi t2)]) C mi_X12_holds ml_X12_84 (k_X12_holds t2 σ _ er3) (q := 27) rfl rfl rfl (by decide) (Nat.zero_le _) rfl (Nat.le_of_ble_eq_true rfl) dX12_removeJob_14 ?_
    refine v_if_ne C (tgt := 22) dX12_removeJob_17 rfl (fun hc => ?_) (fun hc => ?_)
    · replace h := (if_neg hc).symm.trans h
      refine v_aload_n C (q := 0) rfl rfl dX12_removeJob_22 ?_
      obtain ⟨r4, er4, h⟩ := om_bind h
      refine v_invV_v (As := []) C mi_X12_drops ml_X12_77 (k_X12_drops  r3.2 _ er4) (q := 27) rfl rfl rfl (by decide) (Nat.zero_le _) rfl (Nat.le_of_ble_eq_true rfl) dX12_removeJob_23 ?_
      refine v_aload_n C (q := 0) rfl rfl dX12_removeJob_26 ?_
      refine v_dup C rfl dX12_removeJob_27 ?_
      refine v_geti C (q := 27) (o := 43) fi_X12_63 rfl rfl dX12_removeJob_28 ?_
      refine v_iconst C (n := 1) dX12_removeJob_31 ?_
      refine v_isub C dX12_removeJob_32 ?_
      refine v_puti C (q := 27) (o := 43) fp_X12_63 rfl rfl dX12_removeJob_33 ?_
      refine v_iload_n C (q := 1) rfl rfl dX12_removeJob_36 ?_
      refine v_istore_n C (ls' := [(0, .ref (G.1 43)), (1, .int (omi v1)), (2, .int (omi v1))]) rfl (by decide) rfl dX12_removeJob_37 ?_
      obtain ⟨t11, et11, h⟩ := om_bind h
      refine v_subp (ls' := [(0, .ref (G.1 43)), (2, .int (omi v1))]) [0, 2] rfl ?_
      refine kl_X12_removeJob_38 C  FU _ _ t11 et11 ?_
      refine v_aload_n C (q := 0) rfl rfl dX12_removeJob_97 ?_
      refine v_geti C (q := 27) (o := 43) fi_X12_63 rfl rfl dX12_removeJob_98 ?_
      cases h
      exact v_iret C F dX12_removeJob_101 (Nat.zero_le _)
    · replace h := (if_pos hc).symm.trans h
      refine v_iconst C (n := 0) dX12_removeJob_20 ?_
      cases h
      exact v_iret C F dX12_removeJob_21 (Nat.zero_le _)
  clear h
  have h := et2
  clear et2
  refine v_if_eq C (tgt := 13) dX12_removeJob_6 rfl (fun hc => ?_) (fun hc => ?_)
  · replace h := (if_pos hc).symm.trans h
    refine v_iconst C (n := 1) dX12_removeJob_13 ?_
    cases h
    exact Jt2
  · replace h := (if_neg hc).symm.trans h
    refine v_iconst C (n := 0) dX12_removeJob_9 ?_
    refine v_goto C (tgt := 14) dX12_removeJob_10 rfl ?_
    cases h
    exact Jt2
set_option maxHeartbeats 4000000 in
set_option maxRecDepth 100000 in
theorem k_X12_setSetup {G : omG} (v1 : Int) (v2 : Int) (σ : omH) (t : Int × omH) (h : s_X12_setSetup v1 v2 σ = some t) : omM G yX12_setSetup (.code yX12_setSetup cX12_setSetup 4 (some .int)) 2 0 [.ref (G.1 43), .int (omi v1), .int (omi v2)] σ (.inr (some (.int (omi t.1)))) t.2 := by
  unfold s_X12_setSetup at h
  refine om_head (own := RX12) (ls := [(0, .ref (G.1 43)), (1, .int (omi v1)), (2, .int (omi v2))]) (by decide +kernel) rfl (by simp [lg_sl, Value.category]) rfl (by simp [Value.category]) (fun x C F => ?_)
  refine v_aload_n C (q := 0) rfl rfl dX12_setSetup_0 ?_
  refine v_iload_n C (q := 1) rfl rfl dX12_setSetup_1 ?_
  refine v_iconst C (n := 0) dX12_setSetup_2 ?_
  refine v_iconst C (n := 3) dX12_setSetup_3 ?_
  obtain ⟨r1, er1, h⟩ := om_bind h
  refine v_invS_i (As := [.int (omi v1), .int (omi 0), .int (omi 3)]) C mi_X12_isIn ml_X12_66 (k_X12_isIn v1 0 3 σ _ er1) rfl (by decide) (Nat.zero_le _) rfl (Nat.le_of_ble_eq_true rfl) dX12_setSetup_4 ?_
  obtain ⟨t2, et2, h⟩ := om_bind h
  have Jt2 : omV G x 4 29 [(0, .ref (G.1 43)), (1, .int (omi v1)), (2, .int (omi v2))] [.int (omi t2), .ref (G.1 43)] σ 0 := by
    obtain ⟨r3, er3, h⟩ := om_bind h
    refine v_invV_i (As := [.int (omi t2)]) C mi_X12_holds ml_X12_84 (k_X12_holds t2 σ _ er3) (q := 27) rfl rfl rfl (by decide) (Nat.zero_le _) rfl (Nat.le_of_ble_eq_true rfl) dX12_setSetup_29 ?_
    refine v_if_ne C (tgt := 37) dX12_setSetup_32 rfl (fun hc => ?_) (fun hc => ?_)
    · replace h := (if_neg hc).symm.trans h
      refine v_aload_n C (q := 0) rfl rfl dX12_setSetup_37 ?_
      refine v_getr C (q := 27) (o := 43) (r := 49) fi_X12_25 rfl rfl rfl dX12_setSetup_38 ?_
      refine v_iload_n C (q := 1) rfl rfl dX12_setSetup_41 ?_
      obtain ⟨g4, h⟩ := omg_some h
      refine v_iald C (q := 33) (o := 49) (n := 4) rfl g4 dX12_setSetup_42 ?_
      refine v_istore_n C (ls' := [(0, .ref (G.1 43)), (1, .int (omi v1)), (2, .int (omi v2)), (3, .int (omi (r3.2 49 (omw v1).toNat)))]) rfl (by decide) rfl dX12_setSetup_43 ?_
      refine v_aload_n C (q := 0) rfl rfl dX12_setSetup_44 ?_
      refine v_getr C (q := 27) (o := 43) (r := 49) fi_X12_25 rfl rfl rfl dX12_setSetup_45 ?_
      refine v_iload_n C (q := 1) rfl rfl dX12_setSetup_48 ?_
      refine v_iload_n C (q := 2) rfl rfl dX12_setSetup_49 ?_
      obtain ⟨g5, h⟩ := omg_some h
      refine v_iast C (q := 33) (o := 49) (n := 4) rfl g5 dX12_setSetup_50 ?_
      refine v_aload_n C (q := 0) rfl rfl dX12_setSetup_51 ?_
      obtain ⟨r6, er6, h⟩ := om_bind h
      refine v_invV_v (As := []) C mi_X12_drops ml_X12_77 (k_X12_drops  (omsu r3.2 49 (omw v1).toNat v2) _ er6) (q := 27) rfl rfl rfl (by decide) (Nat.zero_le _) rfl (Nat.le_of_ble_eq_true rfl) dX12_setSetup_52 ?_
      refine v_iload_n C (q := 3) rfl rfl dX12_setSetup_55 ?_
      cases h
      exact v_iret C F dX12_setSetup_56 (Nat.zero_le _)
    · replace h := (if_pos hc).symm.trans h
      refine v_iconst C (n := 0) dX12_setSetup_35 ?_
      cases h
      exact v_iret C F dX12_setSetup_36 (Nat.zero_le _)
  clear h
  have h := et2
  clear et2
  refine v_if_ne C (tgt := 14) dX12_setSetup_7 rfl (fun hc => ?_) (fun hc => ?_)
  · replace h := (if_neg hc).symm.trans h
    refine v_iload_n C (q := 2) rfl rfl dX12_setSetup_14 ?_
    refine v_iconst C (n := 0) dX12_setSetup_15 ?_
    refine v_bipush C (a := 20) (by decide) dX12_setSetup_16 ?_
    obtain ⟨r7, er7, h⟩ := om_bind h
    refine v_invS_i (As := [.int (omi v2), .int (omi 0), .int (omi 20)]) C mi_X12_isIn ml_X12_66 (k_X12_isIn v2 0 20 σ _ er7) rfl (by decide) (Nat.zero_le _) rfl (Nat.le_of_ble_eq_true rfl) dX12_setSetup_18 ?_
    refine v_if_eq C (tgt := 28) dX12_setSetup_21 rfl (fun hc => ?_) (fun hc => ?_)
    · replace h := (if_pos hc).symm.trans h
      refine v_iconst C (n := 2) dX12_setSetup_28 ?_
      cases h
      exact Jt2
    · replace h := (if_neg hc).symm.trans h
      refine v_iconst C (n := 0) dX12_setSetup_24 ?_
      refine v_goto C (tgt := 29) dX12_setSetup_25 rfl ?_
      cases h
      exact Jt2
  · replace h := (if_pos hc).symm.trans h
    refine v_iconst C (n := 1) dX12_setSetup_10 ?_
    refine v_goto C (tgt := 29) dX12_setSetup_11 rfl ?_
    cases h
    exact Jt2
set_option maxHeartbeats 4000000 in
set_option maxRecDepth 100000 in
theorem k_X12_jobs {G : omG}  (σ : omH) (t : Int × omH) (h : s_X12_jobs  σ = some t) : omM G yX12_jobs (.code yX12_jobs cX12_jobs 1 (some .int)) 1 0 [.ref (G.1 43)] σ (.inr (some (.int (omi t.1)))) t.2 := by
  unfold s_X12_jobs at h
  refine om_head (own := RX12) (ls := [(0, .ref (G.1 43))]) (by decide +kernel) rfl (by simp [lg_sl, Value.category]) rfl (by simp [Value.category]) (fun x C F => ?_)
  refine v_aload_n C (q := 0) rfl rfl dX12_jobs_0 ?_
  refine v_iconst C (n := 0) dX12_jobs_1 ?_
  refine v_puti C (q := 27) (o := 43) fp_X12_59 rfl rfl dX12_jobs_2 ?_
  refine v_aload_n C (q := 0) rfl rfl dX12_jobs_5 ?_
  refine v_geti C (q := 27) (o := 43) fi_X12_63 rfl rfl dX12_jobs_6 ?_
  cases h
  exact v_iret C F dX12_jobs_9 (Nat.zero_le _)
set_option maxHeartbeats 4000000 in
set_option maxRecDepth 100000 in
theorem k_X12_comesByDue {G : omG} (v1 : Int) (v2 : Int) (σ : omH) (t : Int) (h : s_X12_comesByDue v1 v2 σ = some t) : omM G yX12_comesByDue (.code yX12_comesByDue cX12_comesByDue 3 (some .boolean)) 1 0 [.ref (G.1 43), .int (omi v1), .int (omi v2)] σ (.inr (some (.int (omi t)))) σ := by
  unfold s_X12_comesByDue at h
  refine om_head (own := RX12) (ls := [(0, .ref (G.1 43)), (1, .int (omi v1)), (2, .int (omi v2))]) (by decide +kernel) rfl (by simp [lg_sl, Value.category]) rfl (by simp [Value.category]) (fun x C F => ?_)
  refine v_aload_n C (q := 0) rfl rfl dX12_comesByDue_0 ?_
  refine v_getr C (q := 27) (o := 43) (r := 45) fi_X12_13 rfl rfl rfl dX12_comesByDue_1 ?_
  refine v_iload_n C (q := 1) rfl rfl dX12_comesByDue_4 ?_
  obtain ⟨g1, h⟩ := omg_some h
  refine v_iald C (q := 29) (o := 45) (n := 10) rfl g1 dX12_comesByDue_5 ?_
  refine v_aload_n C (q := 0) rfl rfl dX12_comesByDue_6 ?_
  refine v_getr C (q := 27) (o := 43) (r := 45) fi_X12_13 rfl rfl rfl dX12_comesByDue_7 ?_
  refine v_iload_n C (q := 2) rfl rfl dX12_comesByDue_10 ?_
  obtain ⟨g2, h⟩ := omg_some h
  refine v_iald C (q := 29) (o := 45) (n := 10) rfl g2 dX12_comesByDue_11 ?_
  refine v_icmp_lt C (tgt := 35) dX12_comesByDue_12 rfl (fun hc => ?_) (fun hc => ?_)
  · replace h := (if_pos hc).symm.trans h
    refine v_iconst C (n := 1) dX12_comesByDue_35 ?_
    refine v_goto C (tgt := 40) dX12_comesByDue_36 rfl ?_
    cases h
    exact v_zret C (by decide) F dX12_comesByDue_40 (Nat.zero_le _)
  · replace h := (if_neg hc).symm.trans h
    refine v_aload_n C (q := 0) rfl rfl dX12_comesByDue_15 ?_
    refine v_getr C (q := 27) (o := 43) (r := 45) fi_X12_13 rfl rfl rfl dX12_comesByDue_16 ?_
    refine v_iload_n C (q := 1) rfl rfl dX12_comesByDue_19 ?_
    obtain ⟨g3, h⟩ := omg_some h
    refine v_iald C (q := 29) (o := 45) (n := 10) rfl g3 dX12_comesByDue_20 ?_
    refine v_aload_n C (q := 0) rfl rfl dX12_comesByDue_21 ?_
    refine v_getr C (q := 27) (o := 43) (r := 45) fi_X12_13 rfl rfl rfl dX12_comesByDue_22 ?_
    refine v_iload_n C (q := 2) rfl rfl dX12_comesByDue_25 ?_
    obtain ⟨g4, h⟩ := omg_some h
    refine v_iald C (q := 29) (o := 45) (n := 10) rfl g4 dX12_comesByDue_26 ?_
    refine v_icmp_ne C (tgt := 39) dX12_comesByDue_27 rfl (fun hc => ?_) (fun hc => ?_)
    · replace h := (if_neg hc).symm.trans h
      refine v_iconst C (n := 0) dX12_comesByDue_39 ?_
      cases h
      exact v_zret C (by decide) F dX12_comesByDue_40 (Nat.zero_le _)
    · replace h := (if_pos hc).symm.trans h
      refine v_iload_n C (q := 1) rfl rfl dX12_comesByDue_30 ?_
      refine v_iload_n C (q := 2) rfl rfl dX12_comesByDue_31 ?_
      refine v_icmp_ge C (tgt := 39) dX12_comesByDue_32 rfl (fun hc => ?_) (fun hc => ?_)
      · replace h := (if_neg hc).symm.trans h
        refine v_iconst C (n := 0) dX12_comesByDue_39 ?_
        cases h
        exact v_zret C (by decide) F dX12_comesByDue_40 (Nat.zero_le _)
      · replace h := (if_pos hc).symm.trans h
        refine v_iconst C (n := 1) dX12_comesByDue_35 ?_
        refine v_goto C (tgt := 40) dX12_comesByDue_36 rfl ?_
        cases h
        exact v_zret C (by decide) F dX12_comesByDue_40 (Nat.zero_le _)
set_option maxHeartbeats 4000000 in
set_option maxRecDepth 100000 in
theorem k_X12_comesByRatio {G : omG} (v1 : Int) (v2 : Int) (σ : omH) (t : Int) (h : s_X12_comesByRatio v1 v2 σ = some t) : omM G yX12_comesByRatio (.code yX12_comesByRatio cX12_comesByRatio 5 (some .boolean)) 1 0 [.ref (G.1 43), .int (omi v1), .int (omi v2)] σ (.inr (some (.int (omi t)))) σ := by
  unfold s_X12_comesByRatio at h
  refine om_head (own := RX12) (ls := [(0, .ref (G.1 43)), (1, .int (omi v1)), (2, .int (omi v2))]) (by decide +kernel) rfl (by simp [lg_sl, Value.category]) rfl (by simp [Value.category]) (fun x C F => ?_)
  refine v_aload_n C (q := 0) rfl rfl dX12_comesByRatio_0 ?_
  refine v_getr C (q := 27) (o := 43) (r := 46) fi_X12_16 rfl rfl rfl dX12_comesByRatio_1 ?_
  refine v_iload_n C (q := 1) rfl rfl dX12_comesByRatio_4 ?_
  obtain ⟨g1, h⟩ := omg_some h
  refine v_iald C (q := 30) (o := 46) (n := 10) rfl g1 dX12_comesByRatio_5 ?_
  refine v_aload_n C (q := 0) rfl rfl dX12_comesByRatio_6 ?_
  refine v_getr C (q := 27) (o := 43) (r := 44) fi_X12_7 rfl rfl rfl dX12_comesByRatio_7 ?_
  refine v_iload_n C (q := 2) rfl rfl dX12_comesByRatio_10 ?_
  obtain ⟨g2, h⟩ := omg_some h
  refine v_iald C (q := 28) (o := 44) (n := 10) rfl g2 dX12_comesByRatio_11 ?_
  refine v_imul C dX12_comesByRatio_12 ?_
  refine v_istore_n C (ls' := [(0, .ref (G.1 43)), (1, .int (omi v1)), (2, .int (omi v2)), (3, .int (omi ((σ 46 (omw v1).toNat) * (σ 44 (omw v2).toNat))))]) rfl (by decide) rfl dX12_comesByRatio_13 ?_
  refine v_aload_n C (q := 0) rfl rfl dX12_comesByRatio_14 ?_
  refine v_getr C (q := 27) (o := 43) (r := 46) fi_X12_16 rfl rfl rfl dX12_comesByRatio_15 ?_
  refine v_iload_n C (q := 2) rfl rfl dX12_comesByRatio_18 ?_
  obtain ⟨g3, h⟩ := omg_some h
  refine v_iald C (q := 30) (o := 46) (n := 10) rfl g3 dX12_comesByRatio_19 ?_
  refine v_aload_n C (q := 0) rfl rfl dX12_comesByRatio_20 ?_
  refine v_getr C (q := 27) (o := 43) (r := 44) fi_X12_7 rfl rfl rfl dX12_comesByRatio_21 ?_
  refine v_iload_n C (q := 1) rfl rfl dX12_comesByRatio_24 ?_
  obtain ⟨g4, h⟩ := omg_some h
  refine v_iald C (q := 28) (o := 44) (n := 10) rfl g4 dX12_comesByRatio_25 ?_
  refine v_imul C dX12_comesByRatio_26 ?_
  refine v_istore C (ls' := [(0, .ref (G.1 43)), (1, .int (omi v1)), (2, .int (omi v2)), (3, .int (omi ((σ 46 (omw v1).toNat) * (σ 44 (omw v2).toNat)))), (4, .int (omi ((σ 46 (omw v2).toNat) * (σ 44 (omw v1).toNat))))]) (by decide) rfl dX12_comesByRatio_27 ?_
  refine v_iload_n C (q := 3) rfl rfl dX12_comesByRatio_29 ?_
  refine v_iload C (q := 4) rfl dX12_comesByRatio_30 ?_
  refine v_icmp_gt C (tgt := 46) dX12_comesByRatio_32 rfl (fun hc => ?_) (fun hc => ?_)
  · replace h := (if_pos hc).symm.trans h
    refine v_iconst C (n := 1) dX12_comesByRatio_46 ?_
    refine v_goto C (tgt := 51) dX12_comesByRatio_47 rfl ?_
    cases h
    exact v_zret C (by decide) F dX12_comesByRatio_51 (Nat.zero_le _)
  · replace h := (if_neg hc).symm.trans h
    refine v_iload_n C (q := 3) rfl rfl dX12_comesByRatio_35 ?_
    refine v_iload C (q := 4) rfl dX12_comesByRatio_36 ?_
    refine v_icmp_ne C (tgt := 50) dX12_comesByRatio_38 rfl (fun hc => ?_) (fun hc => ?_)
    · replace h := (if_neg hc).symm.trans h
      refine v_iconst C (n := 0) dX12_comesByRatio_50 ?_
      cases h
      exact v_zret C (by decide) F dX12_comesByRatio_51 (Nat.zero_le _)
    · replace h := (if_pos hc).symm.trans h
      refine v_iload_n C (q := 1) rfl rfl dX12_comesByRatio_41 ?_
      refine v_iload_n C (q := 2) rfl rfl dX12_comesByRatio_42 ?_
      refine v_icmp_ge C (tgt := 50) dX12_comesByRatio_43 rfl (fun hc => ?_) (fun hc => ?_)
      · replace h := (if_neg hc).symm.trans h
        refine v_iconst C (n := 0) dX12_comesByRatio_50 ?_
        cases h
        exact v_zret C (by decide) F dX12_comesByRatio_51 (Nat.zero_le _)
      · replace h := (if_pos hc).symm.trans h
        refine v_iconst C (n := 1) dX12_comesByRatio_46 ?_
        refine v_goto C (tgt := 51) dX12_comesByRatio_47 rfl ?_
        cases h
        exact v_zret C (by decide) F dX12_comesByRatio_51 (Nat.zero_le _)
set_option maxHeartbeats 4000000 in
set_option maxRecDepth 100000 in
theorem kl_X12_laysOrder_15 {G : omG} {x : omX} (C : omC G x RX12 cX12_laysOrder 6 (2) 0) (v1 : Int) (v2 : Int) (σ : omH) : ∀ (n : Nat) (v3 : Int) (v4 : Int) (t : Int), l_X12_laysOrder_15 v1 v2 σ n v3 v4 = some t → omV G x 6 72 [(0, .ref (G.1 43)), (1, .int (omi v1)), (2, .int (omi v2)), (3, .int (omi t))] [] σ 0 → omV G x 6 15 [(0, .ref (G.1 43)), (1, .int (omi v1)), (2, .int (omi v2)), (3, .int (omi v3)), (4, .int (omi v4))] [] σ 0 := by
  intro n
  induction n with
  | zero => intro v3 v4 t h K; cases h
  | succ n ih =>
    intro v3 v4 t h K
    rw [l_X12_laysOrder_15.eq_2] at h
    refine v_iload C (q := 4) rfl dX12_laysOrder_15 ?_
    refine v_aload_n C (q := 0) rfl rfl dX12_laysOrder_17 ?_
    refine v_geti C (q := 27) (o := 43) fi_X12_63 rfl rfl dX12_laysOrder_18 ?_
    refine v_icmp_ge C (tgt := 72) dX12_laysOrder_21 rfl (fun hc => ?_) (fun hc => ?_)
    · replace h := (if_neg hc).symm.trans h
      cases h
      exact v_subp [0, 1, 2, 3] rfl K
    · replace h := (if_pos hc).symm.trans h
      refine v_iload_n C (q := 1) rfl rfl dX12_laysOrder_24 ?_
      obtain ⟨t1, et1, h⟩ := om_bind h
      have Jt1 : omV G x 6 45 [(0, .ref (G.1 43)), (1, .int (omi v1)), (2, .int (omi v2)), (3, .int (omi v3)), (4, .int (omi v4))] [.int (omi t1)] σ 0 := by
        refine v_istore C (ls' := [(0, .ref (G.1 43)), (1, .int (omi v1)), (2, .int (omi v2)), (3, .int (omi v3)), (4, .int (omi v4)), (5, .int (omi t1))]) (by decide) rfl dX12_laysOrder_45 ?_
        refine v_iload_n C (q := 3) rfl rfl dX12_laysOrder_47 ?_
        refine v_iload C (q := 4) rfl dX12_laysOrder_48 ?_
        refine v_iload_n C (q := 2) rfl rfl dX12_laysOrder_50 ?_
        obtain ⟨t2, et2, h⟩ := om_bind h
        have Jt2 : omV G x 6 64 [(0, .ref (G.1 43)), (1, .int (omi v1)), (2, .int (omi v2)), (4, .int (omi v4))] [.int (omi t2), .int (omi v3)] σ 0 := by
          refine v_iadd C dX12_laysOrder_64 ?_
          refine v_istore_n C (ls' := [(0, .ref (G.1 43)), (1, .int (omi v1)), (2, .int (omi v2)), (4, .int (omi v4)), (3, .int (omi (v3 + t2)))]) rfl (by decide) rfl dX12_laysOrder_65 ?_
          refine v_iinc C (q := 3) (ls' := [(0, .ref (G.1 43)), (1, .int (omi v1)), (2, .int (omi v2)), (4, .int (omi (v4 + 1))), (3, .int (omi (v3 + t2)))]) rfl (by decide) rfl rfl dX12_laysOrder_66 ?_
          refine v_goto C (tgt := 15) dX12_laysOrder_69 rfl ?_
          exact v_subp [0, 1, 2, 4, 3] rfl (ih _ _ _ h K)
        clear h
        have h := et2
        clear et2
        refine v_icmp_eq C (tgt := 63) dX12_laysOrder_51 rfl (fun hc => ?_) (fun hc => ?_)
        · replace h := (if_pos hc).symm.trans h
          refine v_iconst C (n := 0) dX12_laysOrder_63 ?_
          cases h
          exact v_subp [0, 1, 2, 4] rfl Jt2
        · replace h := (if_neg hc).symm.trans h
          refine v_iload C (q := 5) rfl dX12_laysOrder_54 ?_
          refine v_if_eq C (tgt := 63) dX12_laysOrder_56 rfl (fun hc => ?_) (fun hc => ?_)
          · replace h := (if_pos hc).symm.trans h
            refine v_iconst C (n := 0) dX12_laysOrder_63 ?_
            cases h
            exact v_subp [0, 1, 2, 4] rfl Jt2
          · replace h := (if_neg hc).symm.trans h
            refine v_iconst C (n := 1) dX12_laysOrder_59 ?_
            refine v_goto C (tgt := 64) dX12_laysOrder_60 rfl ?_
            cases h
            exact v_subp [0, 1, 2, 4] rfl Jt2
      clear h
      have h := et1
      clear et1
      refine v_if_eq C (tgt := 38) dX12_laysOrder_25 rfl (fun hc => ?_) (fun hc => ?_)
      · replace h := (if_pos hc).symm.trans h
        refine v_aload_n C (q := 0) rfl rfl dX12_laysOrder_38 ?_
        refine v_iload C (q := 4) rfl dX12_laysOrder_39 ?_
        refine v_iload_n C (q := 2) rfl rfl dX12_laysOrder_41 ?_
        obtain ⟨r3, er3, h⟩ := om_bind h
        refine v_invV_i (As := [.int (omi v4), .int (omi v2)]) C mi_X12_comesByRatio ml_X12_99 (k_X12_comesByRatio v4 v2 σ _ er3) (q := 27) rfl rfl rfl (by decide) (Nat.zero_le _) rfl (Nat.le_of_ble_eq_true rfl) dX12_laysOrder_42 ?_
        cases h
        exact Jt1
      · replace h := (if_neg hc).symm.trans h
        refine v_aload_n C (q := 0) rfl rfl dX12_laysOrder_28 ?_
        refine v_iload C (q := 4) rfl dX12_laysOrder_29 ?_
        refine v_iload_n C (q := 2) rfl rfl dX12_laysOrder_31 ?_
        obtain ⟨r4, er4, h⟩ := om_bind h
        refine v_invV_i (As := [.int (omi v4), .int (omi v2)]) C mi_X12_comesByDue ml_X12_95 (k_X12_comesByDue v4 v2 σ _ er4) (q := 27) rfl rfl rfl (by decide) (Nat.zero_le _) rfl (Nat.le_of_ble_eq_true rfl) dX12_laysOrder_32 ?_
        refine v_goto C (tgt := 45) dX12_laysOrder_35 rfl ?_
        cases h
        exact Jt1
set_option maxHeartbeats 4000000 in
set_option maxRecDepth 100000 in
theorem kl_X12_laysOrder_2 {G : omG} {x : omX} (C : omC G x RX12 cX12_laysOrder 6 (2) 0) (v1 : Int) : ∀ (n : Nat) (v2 : Int) (σ : omH) (t : omH), l_X12_laysOrder_2 v1 n v2 σ = some t → omV G x 6 85 [] [] t 0 → omV G x 6 2 [(0, .ref (G.1 43)), (1, .int (omi v1)), (2, .int (omi v2))] [] σ 0 := by
  intro n
  induction n with
  | zero => intro v2 σ t h K; cases h
  | succ n ih =>
    intro v2 σ t h K
    rw [l_X12_laysOrder_2.eq_2] at h
    refine v_iload_n C (q := 2) rfl rfl dX12_laysOrder_2 ?_
    refine v_aload_n C (q := 0) rfl rfl dX12_laysOrder_3 ?_
    refine v_geti C (q := 27) (o := 43) fi_X12_63 rfl rfl dX12_laysOrder_4 ?_
    refine v_icmp_ge C (tgt := 85) dX12_laysOrder_7 rfl (fun hc => ?_) (fun hc => ?_)
    · replace h := (if_neg hc).symm.trans h
      cases h
      exact v_subp [] rfl K
    · replace h := (if_pos hc).symm.trans h
      refine v_iconst C (n := 0) dX12_laysOrder_10 ?_
      refine v_istore_n C (ls' := [(0, .ref (G.1 43)), (1, .int (omi v1)), (2, .int (omi v2)), (3, .int (omi 0))]) rfl (by decide) rfl dX12_laysOrder_11 ?_
      refine v_iconst C (n := 0) dX12_laysOrder_12 ?_
      refine v_istore C (ls' := [(0, .ref (G.1 43)), (1, .int (omi v1)), (2, .int (omi v2)), (3, .int (omi 0)), (4, .int (omi 0))]) (by decide) rfl dX12_laysOrder_13 ?_
      obtain ⟨t5, et5, h⟩ := om_bind h
      refine kl_X12_laysOrder_15 C v1 v2 σ FU _ _ t5 et5 ?_
      refine v_aload_n C (q := 0) rfl rfl dX12_laysOrder_72 ?_
      refine v_getr C (q := 27) (o := 43) (r := 54) fi_X12_40 rfl rfl rfl dX12_laysOrder_73 ?_
      refine v_iload_n C (q := 3) rfl rfl dX12_laysOrder_76 ?_
      refine v_iload_n C (q := 2) rfl rfl dX12_laysOrder_77 ?_
      obtain ⟨g6, h⟩ := omg_some h
      refine v_iast C (q := 38) (o := 54) (n := 10) rfl g6 dX12_laysOrder_78 ?_
      refine v_iinc C (q := 2) (ls' := [(0, .ref (G.1 43)), (1, .int (omi v1)), (2, .int (omi (v2 + 1))), (3, .int (omi t5))]) rfl (by decide) rfl rfl dX12_laysOrder_79 ?_
      refine v_goto C (tgt := 2) dX12_laysOrder_82 rfl ?_
      exact v_subp [0, 1, 2] rfl (ih _ _ _ h K)
set_option maxHeartbeats 4000000 in
set_option maxRecDepth 100000 in
theorem k_X12_laysOrder {G : omG} (v1 : Int) (σ : omH) (t : omH) (h : s_X12_laysOrder v1 σ = some t) : omM G yX12_laysOrder (.code yX12_laysOrder cX12_laysOrder 6 none) 2 0 [.ref (G.1 43), .int (omi v1)] σ (.inr none) t := by
  unfold s_X12_laysOrder at h
  refine om_head (own := RX12) (ls := [(0, .ref (G.1 43)), (1, .int (omi v1))]) (by decide +kernel) rfl (by simp [lg_sl, Value.category]) rfl (by simp [Value.category]) (fun x C F => ?_)
  refine v_iconst C (n := 0) dX12_laysOrder_0 ?_
  refine v_istore_n C (ls' := [(0, .ref (G.1 43)), (1, .int (omi v1)), (2, .int (omi 0))]) rfl (by decide) rfl dX12_laysOrder_1 ?_
  obtain ⟨t7, et7, h⟩ := om_bind h
  refine kl_X12_laysOrder_2 C v1 FU _ _ t7 et7 ?_
  cases h
  exact v_vret C F dX12_laysOrder_85 (Nat.zero_le _)
set_option maxHeartbeats 4000000 in
set_option maxRecDepth 100000 in
theorem kl_X12_lengthOf_4 {G : omG} {x : omX} (C : omC G x RX12 cX12_lengthOf 4 (1) 0) (v1 : Int) (σ : omH) : ∀ (n : Nat) (v2 : Int) (v3 : Int) (t : Int), l_X12_lengthOf_4 v1 σ n v2 v3 = some t → omV G x 4 40 [(2, .int (omi t))] [] σ 0 → omV G x 4 4 [(0, .ref (G.1 43)), (1, .int (omi v1)), (2, .int (omi v2)), (3, .int (omi v3))] [] σ 0 := by
  intro n
  induction n with
  | zero => intro v2 v3 t h K; cases h
  | succ n ih =>
    intro v2 v3 t h K
    rw [l_X12_lengthOf_4.eq_2] at h
    refine v_iload_n C (q := 3) rfl rfl dX12_lengthOf_4 ?_
    refine v_aload_n C (q := 0) rfl rfl dX12_lengthOf_5 ?_
    refine v_geti C (q := 27) (o := 43) fi_X12_63 rfl rfl dX12_lengthOf_6 ?_
    refine v_icmp_ge C (tgt := 40) dX12_lengthOf_9 rfl (fun hc => ?_) (fun hc => ?_)
    · replace h := (if_neg hc).symm.trans h
      cases h
      exact v_subp [2] rfl K
    · replace h := (if_pos hc).symm.trans h
      refine v_iload_n C (q := 2) rfl rfl dX12_lengthOf_12 ?_
      refine v_iload_n C (q := 1) rfl rfl dX12_lengthOf_13 ?_
      refine v_iload_n C (q := 3) rfl rfl dX12_lengthOf_14 ?_
      refine v_ishr C dX12_lengthOf_15 ?_
      refine v_iconst C (n := 1) dX12_lengthOf_16 ?_
      refine v_iand C dX12_lengthOf_17 ?_
      refine v_iconst C (n := 1) dX12_lengthOf_18 ?_
      obtain ⟨t1, et1, h⟩ := om_bind h
      have Jt1 : omV G x 4 32 [(0, .ref (G.1 43)), (1, .int (omi v1)), (3, .int (omi v3))] [.int (omi t1), .int (omi v2)] σ 0 := by
        refine v_iadd C dX12_lengthOf_32 ?_
        refine v_istore_n C (ls' := [(0, .ref (G.1 43)), (1, .int (omi v1)), (3, .int (omi v3)), (2, .int (omi (v2 + t1)))]) rfl (by decide) rfl dX12_lengthOf_33 ?_
        refine v_iinc C (q := 2) (ls' := [(0, .ref (G.1 43)), (1, .int (omi v1)), (3, .int (omi (v3 + 1))), (2, .int (omi (v2 + t1)))]) rfl (by decide) rfl rfl dX12_lengthOf_34 ?_
        refine v_goto C (tgt := 4) dX12_lengthOf_37 rfl ?_
        exact v_subp [0, 1, 3, 2] rfl (ih _ _ _ h K)
      clear h
      have h := et1
      clear et1
      refine v_icmp_ne C (tgt := 31) dX12_lengthOf_19 rfl (fun hc => ?_) (fun hc => ?_)
      · replace h := (if_neg hc).symm.trans h
        refine v_iconst C (n := 0) dX12_lengthOf_31 ?_
        cases h
        exact v_subp [0, 1, 3] rfl Jt1
      · replace h := (if_pos hc).symm.trans h
        refine v_aload_n C (q := 0) rfl rfl dX12_lengthOf_22 ?_
        refine v_getr C (q := 27) (o := 43) (r := 44) fi_X12_7 rfl rfl rfl dX12_lengthOf_23 ?_
        refine v_iload_n C (q := 3) rfl rfl dX12_lengthOf_26 ?_
        obtain ⟨g2, h⟩ := omg_some h
        refine v_iald C (q := 28) (o := 44) (n := 10) rfl g2 dX12_lengthOf_27 ?_
        refine v_goto C (tgt := 32) dX12_lengthOf_28 rfl ?_
        cases h
        exact v_subp [0, 1, 3] rfl Jt1
set_option maxHeartbeats 4000000 in
set_option maxRecDepth 100000 in
theorem k_X12_lengthOf {G : omG} (v1 : Int) (σ : omH) (t : Int) (h : s_X12_lengthOf v1 σ = some t) : omM G yX12_lengthOf (.code yX12_lengthOf cX12_lengthOf 4 (some .int)) 1 0 [.ref (G.1 43), .int (omi v1)] σ (.inr (some (.int (omi t)))) σ := by
  unfold s_X12_lengthOf at h
  refine om_head (own := RX12) (ls := [(0, .ref (G.1 43)), (1, .int (omi v1))]) (by decide +kernel) rfl (by simp [lg_sl, Value.category]) rfl (by simp [Value.category]) (fun x C F => ?_)
  refine v_iconst C (n := 0) dX12_lengthOf_0 ?_
  refine v_istore_n C (ls' := [(0, .ref (G.1 43)), (1, .int (omi v1)), (2, .int (omi 0))]) rfl (by decide) rfl dX12_lengthOf_1 ?_
  refine v_iconst C (n := 0) dX12_lengthOf_2 ?_
  refine v_istore_n C (ls' := [(0, .ref (G.1 43)), (1, .int (omi v1)), (2, .int (omi 0)), (3, .int (omi 0))]) rfl (by decide) rfl dX12_lengthOf_3 ?_
  obtain ⟨t3, et3, h⟩ := om_bind h
  refine kl_X12_lengthOf_4 C v1 σ FU _ _ t3 et3 ?_
  refine v_iload_n C (q := 0) rfl rfl dX12_lengthOf_40 ?_
  cases h
  exact v_iret C F dX12_lengthOf_41 (Nat.zero_le _)
set_option maxHeartbeats 4000000 in
set_option maxRecDepth 100000 in
theorem k_X12_tardy {G : omG} (v1 : Int) (v2 : Int) (σ : omH) (t : Int) (h : s_X12_tardy v1 v2 σ = some t) : omM G yX12_tardy (.code yX12_tardy cX12_tardy 3 (some .int)) 1 0 [.ref (G.1 43), .int (omi v1), .int (omi v2)] σ (.inr (some (.int (omi t)))) σ := by
  unfold s_X12_tardy at h
  refine om_head (own := RX12) (ls := [(0, .ref (G.1 43)), (1, .int (omi v1)), (2, .int (omi v2))]) (by decide +kernel) rfl (by simp [lg_sl, Value.category]) rfl (by simp [Value.category]) (fun x C F => ?_)
  refine v_iload_n C (q := 2) rfl rfl dX12_tardy_0 ?_
  refine v_aload_n C (q := 0) rfl rfl dX12_tardy_1 ?_
  refine v_getr C (q := 27) (o := 43) (r := 45) fi_X12_13 rfl rfl rfl dX12_tardy_2 ?_
  refine v_iload_n C (q := 1) rfl rfl dX12_tardy_5 ?_
  obtain ⟨g1, h⟩ := omg_some h
  refine v_iald C (q := 29) (o := 45) (n := 10) rfl g1 dX12_tardy_6 ?_
  refine v_icmp_le C (tgt := 28) dX12_tardy_7 rfl (fun hc => ?_) (fun hc => ?_)
  · replace h := (if_neg hc).symm.trans h
    refine v_iconst C (n := 0) dX12_tardy_28 ?_
    cases h
    exact v_iret C F dX12_tardy_29 (Nat.zero_le _)
  · replace h := (if_pos hc).symm.trans h
    refine v_aload_n C (q := 0) rfl rfl dX12_tardy_10 ?_
    refine v_getr C (q := 27) (o := 43) (r := 46) fi_X12_16 rfl rfl rfl dX12_tardy_11 ?_
    refine v_iload_n C (q := 1) rfl rfl dX12_tardy_14 ?_
    obtain ⟨g2, h⟩ := omg_some h
    refine v_iald C (q := 30) (o := 46) (n := 10) rfl g2 dX12_tardy_15 ?_
    refine v_iload_n C (q := 2) rfl rfl dX12_tardy_16 ?_
    refine v_aload_n C (q := 0) rfl rfl dX12_tardy_17 ?_
    refine v_getr C (q := 27) (o := 43) (r := 45) fi_X12_13 rfl rfl rfl dX12_tardy_18 ?_
    refine v_iload_n C (q := 1) rfl rfl dX12_tardy_21 ?_
    obtain ⟨g3, h⟩ := omg_some h
    refine v_iald C (q := 29) (o := 45) (n := 10) rfl g3 dX12_tardy_22 ?_
    refine v_isub C dX12_tardy_23 ?_
    refine v_imul C dX12_tardy_24 ?_
    refine v_goto C (tgt := 29) dX12_tardy_25 rfl ?_
    cases h
    exact v_iret C F dX12_tardy_29 (Nat.zero_le _)
set_option maxHeartbeats 4000000 in
set_option maxRecDepth 100000 in
theorem k_X12_joined {G : omG} (v1 : Int) (v2 : Int) (v3 : Int) (v4 : Int) (σ : omH) (t : Int) (h : s_X12_joined v1 v2 v3 v4 σ = some t) : omM G yX12_joined (.code yX12_joined cX12_joined 6 (some .int)) 2 0 [.ref (G.1 43), .int (omi v1), .int (omi v2), .int (omi v3), .int (omi v4)] σ (.inr (some (.int (omi t)))) σ := by
  unfold s_X12_joined at h
  refine om_head (own := RX12) (ls := [(0, .ref (G.1 43)), (1, .int (omi v1)), (2, .int (omi v2)), (3, .int (omi v3)), (4, .int (omi v4))]) (by decide +kernel) rfl (by simp [lg_sl, Value.category]) rfl (by simp [Value.category]) (fun x C F => ?_)
  refine v_iload_n C (q := 3) rfl rfl dX12_joined_0 ?_
  refine v_aload_n C (q := 0) rfl rfl dX12_joined_1 ?_
  refine v_getr C (q := 27) (o := 43) (r := 45) fi_X12_13 rfl rfl rfl dX12_joined_2 ?_
  refine v_iload_n C (q := 2) rfl rfl dX12_joined_5 ?_
  obtain ⟨g1, h⟩ := omg_some h
  refine v_iald C (q := 29) (o := 45) (n := 10) rfl g1 dX12_joined_6 ?_
  refine v_isub C dX12_joined_7 ?_
  refine v_istore C (ls' := [(0, .ref (G.1 43)), (1, .int (omi v1)), (2, .int (omi v2)), (3, .int (omi v3)), (4, .int (omi v4)), (5, .int (omi (v3 - (σ 45 (omw v2).toNat))))]) (by decide) rfl dX12_joined_8 ?_
  refine v_iload_n C (q := 1) rfl rfl dX12_joined_10 ?_
  refine v_if_ne C (tgt := 31) dX12_joined_11 rfl (fun hc => ?_) (fun hc => ?_)
  · replace h := (if_neg hc).symm.trans h
    refine v_iload C (q := 4) rfl dX12_joined_31 ?_
    refine v_iload_n C (q := 1) rfl rfl dX12_joined_33 ?_
    refine v_iconst C (n := 1) dX12_joined_34 ?_
    obtain ⟨t2, et2, h⟩ := om_bind h
    have Jt2 : omV G x 6 55 [] [.int (omi t2), .int (omi v4)] σ 0 := by
      refine v_iadd C dX12_joined_55 ?_
      cases h
      exact v_iret C F dX12_joined_56 (Nat.zero_le _)
    clear h
    have h := et2
    clear et2
    refine v_icmp_ne C (tgt := 49) dX12_joined_35 rfl (fun hc => ?_) (fun hc => ?_)
    · replace h := (if_neg hc).symm.trans h
      refine v_aload_n C (q := 0) rfl rfl dX12_joined_49 ?_
      refine v_iload_n C (q := 2) rfl rfl dX12_joined_50 ?_
      refine v_iload_n C (q := 3) rfl rfl dX12_joined_51 ?_
      obtain ⟨r3, er3, h⟩ := om_bind h
      refine v_invV_i (As := [.int (omi v2), .int (omi v3)]) C mi_X12_tardy ml_X12_102 (k_X12_tardy v2 v3 σ _ er3) (q := 27) rfl rfl rfl (by decide) (Nat.zero_le _) rfl (Nat.le_of_ble_eq_true rfl) dX12_joined_52 ?_
      cases h
      exact v_subp [] rfl Jt2
    · replace h := (if_pos hc).symm.trans h
      refine v_aload_n C (q := 0) rfl rfl dX12_joined_38 ?_
      refine v_getr C (q := 27) (o := 43) (r := 46) fi_X12_16 rfl rfl rfl dX12_joined_39 ?_
      refine v_iload_n C (q := 2) rfl rfl dX12_joined_42 ?_
      obtain ⟨g4, h⟩ := omg_some h
      refine v_iald C (q := 30) (o := 46) (n := 10) rfl g4 dX12_joined_43 ?_
      refine v_iload_n C (q := 3) rfl rfl dX12_joined_44 ?_
      refine v_imul C dX12_joined_45 ?_
      refine v_goto C (tgt := 55) dX12_joined_46 rfl ?_
      cases h
      exact v_subp [] rfl Jt2
  · replace h := (if_pos hc).symm.trans h
    refine v_iload C (q := 5) rfl dX12_joined_14 ?_
    refine v_iload C (q := 4) rfl dX12_joined_16 ?_
    refine v_icmp_le C (tgt := 26) dX12_joined_18 rfl (fun hc => ?_) (fun hc => ?_)
    · replace h := (if_neg hc).symm.trans h
      refine v_iload C (q := 4) rfl dX12_joined_26 ?_
      refine v_goto C (tgt := 56) dX12_joined_28 rfl ?_
      cases h
      exact v_iret C F dX12_joined_56 (Nat.zero_le _)
    · replace h := (if_pos hc).symm.trans h
      refine v_iload C (q := 5) rfl dX12_joined_21 ?_
      refine v_goto C (tgt := 56) dX12_joined_23 rfl ?_
      cases h
      exact v_iret C F dX12_joined_56 (Nat.zero_le _)
set_option maxHeartbeats 4000000 in
set_option maxRecDepth 100000 in
theorem kl_X12_costs_51 {G : omG} {x : omX} (C : omC G x RX12 cX12_costs 7 (3) 0) (v1 : Int) (v2 : Int) (v3 : Int) (v4 : Int) : ∀ (n : Nat) (v5 : Int) (σ : omH) (t : omH), l_X12_costs_51 v1 v2 v3 v4 n v5 σ = some t → omV G x 7 133 [(0, .ref (G.1 43)), (1, .int (omi v1)), (2, .int (omi v2)), (3, .int (omi v3))] [] t 0 → omV G x 7 51 [(0, .ref (G.1 43)), (1, .int (omi v1)), (2, .int (omi v2)), (3, .int (omi v3)), (4, .int (omi v4)), (5, .int (omi v5))] [] σ 0 := by
  intro n
  induction n with
  | zero => intro v5 σ t h K; cases h
  | succ n ih =>
    intro v5 σ t h K
    rw [l_X12_costs_51.eq_2] at h
    refine v_iload C (q := 5) rfl dX12_costs_51 ?_
    refine v_aload_n C (q := 0) rfl rfl dX12_costs_53 ?_
    refine v_geti C (q := 27) (o := 43) fi_X12_63 rfl rfl dX12_costs_54 ?_
    refine v_icmp_ge C (tgt := 133) dX12_costs_57 rfl (fun hc => ?_) (fun hc => ?_)
    · replace h := (if_neg hc).symm.trans h
      cases h
      exact v_subp [0, 1, 2, 3] rfl K
    · replace h := (if_pos hc).symm.trans h
      refine v_iload_n C (q := 3) rfl rfl dX12_costs_60 ?_
      refine v_iload C (q := 5) rfl dX12_costs_61 ?_
      refine v_ishr C dX12_costs_63 ?_
      refine v_iconst C (n := 1) dX12_costs_64 ?_
      refine v_iand C dX12_costs_65 ?_
      refine v_if_ne C (tgt := 127) dX12_costs_66 rfl (fun hc => ?_) (fun hc => ?_)
      · replace h := (if_neg hc).symm.trans h
        refine v_iinc C (q := 5) (ls' := [(0, .ref (G.1 43)), (1, .int (omi v1)), (2, .int (omi v2)), (3, .int (omi v3)), (4, .int (omi v4)), (5, .int (omi (v5 + 1)))]) rfl (by decide) rfl rfl dX12_costs_127 ?_
        refine v_goto C (tgt := 51) dX12_costs_130 rfl ?_
        exact ih _ _ _ h K
      · replace h := (if_pos hc).symm.trans h
        refine v_aload_n C (q := 0) rfl rfl dX12_costs_69 ?_
        refine v_iload_n C (q := 1) rfl rfl dX12_costs_70 ?_
        refine v_iload C (q := 5) rfl dX12_costs_71 ?_
        refine v_iload C (q := 4) rfl dX12_costs_73 ?_
        refine v_aload_n C (q := 0) rfl rfl dX12_costs_75 ?_
        refine v_getr C (q := 27) (o := 43) (r := 44) fi_X12_7 rfl rfl rfl dX12_costs_76 ?_
        refine v_iload C (q := 5) rfl dX12_costs_79 ?_
        obtain ⟨g4, h⟩ := omg_some h
        refine v_iald C (q := 28) (o := 44) (n := 10) rfl g4 dX12_costs_81 ?_
        refine v_iadd C dX12_costs_82 ?_
        refine v_aload_n C (q := 0) rfl rfl dX12_costs_83 ?_
        refine v_getr C (q := 27) (o := 43) (r := 56) fi_X12_46 rfl rfl rfl dX12_costs_84 ?_
        refine v_iload_n C (q := 3) rfl rfl dX12_costs_87 ?_
        refine v_iconst C (n := 1) dX12_costs_88 ?_
        refine v_iload C (q := 5) rfl dX12_costs_89 ?_
        refine v_ishl C dX12_costs_91 ?_
        refine v_ior C dX12_costs_92 ?_
        obtain ⟨g5, h⟩ := omg_some h
        refine v_iald C (q := 40) (o := 56) (n := 1024) rfl g5 dX12_costs_93 ?_
        obtain ⟨r6, er6, h⟩ := om_bind h
        refine v_invV_i (As := [.int (omi v1), .int (omi v5), .int (omi (v4 + (σ 44 (omw v5).toNat))), .int (omi (σ 56 (omw (omor v3 (omshl 1 v5))).toNat))]) C mi_X12_joined ml_X12_112 (k_X12_joined v1 v5 (v4 + (σ 44 (omw v5).toNat)) (σ 56 (omw (omor v3 (omshl 1 v5))).toNat) σ _ er6) (q := 27) rfl rfl rfl (by decide) (Nat.zero_le _) rfl (Nat.le_of_ble_eq_true rfl) dX12_costs_94 ?_
        refine v_istore C (ls' := [(0, .ref (G.1 43)), (1, .int (omi v1)), (2, .int (omi v2)), (3, .int (omi v3)), (4, .int (omi v4)), (5, .int (omi v5)), (6, .int (omi r6))]) (by decide) rfl dX12_costs_97 ?_
        refine v_aload_n C (q := 0) rfl rfl dX12_costs_99 ?_
        refine v_getr C (q := 27) (o := 43) (r := 56) fi_X12_46 rfl rfl rfl dX12_costs_100 ?_
        refine v_iload_n C (q := 3) rfl rfl dX12_costs_103 ?_
        refine v_iload C (q := 6) rfl dX12_costs_104 ?_
        refine v_aload_n C (q := 0) rfl rfl dX12_costs_106 ?_
        refine v_getr C (q := 27) (o := 43) (r := 56) fi_X12_46 rfl rfl rfl dX12_costs_107 ?_
        refine v_iload_n C (q := 3) rfl rfl dX12_costs_110 ?_
        obtain ⟨g7, h⟩ := omg_some h
        refine v_iald C (q := 40) (o := 56) (n := 1024) rfl g7 dX12_costs_111 ?_
        obtain ⟨t8, et8, h⟩ := om_bind h
        have Jt8 : omV G x 7 126 [(0, .ref (G.1 43)), (1, .int (omi v1)), (2, .int (omi v2)), (3, .int (omi v3)), (4, .int (omi v4)), (5, .int (omi v5))] [.int (omi t8), .int (omi v3), .ref (G.1 56)] σ 0 := by
          obtain ⟨g9, h⟩ := omg_some h
          refine v_iast C (q := 40) (o := 56) (n := 1024) rfl g9 dX12_costs_126 ?_
          refine v_iinc C (q := 5) (ls' := [(0, .ref (G.1 43)), (1, .int (omi v1)), (2, .int (omi v2)), (3, .int (omi v3)), (4, .int (omi v4)), (5, .int (omi (v5 + 1)))]) rfl (by decide) rfl rfl dX12_costs_127 ?_
          refine v_goto C (tgt := 51) dX12_costs_130 rfl ?_
          exact ih _ _ _ h K
        clear h
        have h := et8
        clear et8
        refine v_icmp_ge C (tgt := 120) dX12_costs_112 rfl (fun hc => ?_) (fun hc => ?_)
        · replace h := (if_neg hc).symm.trans h
          refine v_aload_n C (q := 0) rfl rfl dX12_costs_120 ?_
          refine v_getr C (q := 27) (o := 43) (r := 56) fi_X12_46 rfl rfl rfl dX12_costs_121 ?_
          refine v_iload_n C (q := 3) rfl rfl dX12_costs_124 ?_
          obtain ⟨g10, h⟩ := omg_some h
          refine v_iald C (q := 40) (o := 56) (n := 1024) rfl g10 dX12_costs_125 ?_
          cases h
          exact v_subp [0, 1, 2, 3, 4, 5] rfl Jt8
        · replace h := (if_pos hc).symm.trans h
          refine v_iload C (q := 6) rfl dX12_costs_115 ?_
          refine v_goto C (tgt := 126) dX12_costs_117 rfl ?_
          cases h
          exact v_subp [0, 1, 2, 3, 4, 5] rfl Jt8
set_option maxHeartbeats 4000000 in
set_option maxRecDepth 100000 in
theorem kl_X12_costs_11 {G : omG} {x : omX} (C : omC G x RX12 cX12_costs 7 (3) 0) (v1 : Int) (v2 : Int) : ∀ (n : Nat) (v3 : Int) (σ : omH) (t : omH), l_X12_costs_11 v1 v2 n v3 σ = some t → omV G x 7 139 [] [] t 0 → omV G x 7 11 [(0, .ref (G.1 43)), (1, .int (omi v1)), (2, .int (omi v2)), (3, .int (omi v3))] [] σ 0 := by
  intro n
  induction n with
  | zero => intro v3 σ t h K; cases h
  | succ n ih =>
    intro v3 σ t h K
    rw [l_X12_costs_11.eq_2] at h
    refine v_iload_n C (q := 3) rfl rfl dX12_costs_11 ?_
    refine v_if_lt C (tgt := 139) dX12_costs_12 rfl (fun hc => ?_) (fun hc => ?_)
    · replace h := (if_pos hc).symm.trans h
      cases h
      exact v_subp [] rfl K
    · replace h := (if_neg hc).symm.trans h
      refine v_aload_n C (q := 0) rfl rfl dX12_costs_15 ?_
      refine v_iload_n C (q := 3) rfl rfl dX12_costs_16 ?_
      obtain ⟨r1, er1, h⟩ := om_bind h
      refine v_invV_i (As := [.int (omi v3)]) C mi_X12_lengthOf ml_X12_106 (k_X12_lengthOf v3 σ _ er1) (q := 27) rfl rfl rfl (by decide) (Nat.zero_le _) rfl (Nat.le_of_ble_eq_true rfl) dX12_costs_17 ?_
      refine v_istore C (ls' := [(0, .ref (G.1 43)), (1, .int (omi v1)), (2, .int (omi v2)), (3, .int (omi v3)), (4, .int (omi r1))]) (by decide) rfl dX12_costs_20 ?_
      refine v_aload_n C (q := 0) rfl rfl dX12_costs_22 ?_
      refine v_getr C (q := 27) (o := 43) (r := 56) fi_X12_46 rfl rfl rfl dX12_costs_23 ?_
      refine v_iload_n C (q := 3) rfl rfl dX12_costs_26 ?_
      refine v_iload_n C (q := 3) rfl rfl dX12_costs_27 ?_
      refine v_iload_n C (q := 2) rfl rfl dX12_costs_28 ?_
      obtain ⟨t2, et2, h⟩ := om_bind h
      have Jt2 : omV G x 7 47 [(0, .ref (G.1 43)), (1, .int (omi v1)), (2, .int (omi v2)), (3, .int (omi v3)), (4, .int (omi r1))] [.int (omi t2), .int (omi v3), .ref (G.1 56)] σ 0 := by
        obtain ⟨g3, h⟩ := omg_some h
        refine v_iast C (q := 40) (o := 56) (n := 1024) rfl g3 dX12_costs_47 ?_
        refine v_iconst C (n := 0) dX12_costs_48 ?_
        refine v_istore C (ls' := [(0, .ref (G.1 43)), (1, .int (omi v1)), (2, .int (omi v2)), (3, .int (omi v3)), (4, .int (omi r1)), (5, .int (omi 0))]) (by decide) rfl dX12_costs_49 ?_
        obtain ⟨t11, et11, h⟩ := om_bind h
        refine kl_X12_costs_51 C v1 v2 v3 r1 FU _ _ t11 et11 ?_
        refine v_iinc C (q := 3) (ls' := [(0, .ref (G.1 43)), (1, .int (omi v1)), (2, .int (omi v2)), (3, .int (omi (v3 + (-1))))]) rfl (by decide) rfl rfl dX12_costs_133 ?_
        refine v_goto C (tgt := 11) dX12_costs_136 rfl ?_
        exact ih _ _ _ h K
      clear h
      have h := et2
      clear et2
      refine v_icmp_ge C (tgt := 37) dX12_costs_29 rfl (fun hc => ?_) (fun hc => ?_)
      · replace h := (if_neg hc).symm.trans h
        refine v_iload_n C (q := 1) rfl rfl dX12_costs_37 ?_
        refine v_if_ne C (tgt := 46) dX12_costs_38 rfl (fun hc => ?_) (fun hc => ?_)
        · replace h := (if_neg hc).symm.trans h
          refine v_iconst C (n := 0) dX12_costs_46 ?_
          cases h
          exact Jt2
        · replace h := (if_pos hc).symm.trans h
          refine v_ldc C kc_X12_111 dX12_costs_41 ?_
          refine v_goto C (tgt := 47) dX12_costs_43 rfl ?_
          cases h
          exact Jt2
      · replace h := (if_pos hc).symm.trans h
        refine v_ldc C kc_X12_110 dX12_costs_32 ?_
        refine v_goto C (tgt := 47) dX12_costs_34 rfl ?_
        cases h
        exact Jt2
set_option maxHeartbeats 4000000 in
set_option maxRecDepth 100000 in
theorem k_X12_costs {G : omG} (v1 : Int) (σ : omH) (t : omH) (h : s_X12_costs v1 σ = some t) : omM G yX12_costs (.code yX12_costs cX12_costs 7 none) 3 0 [.ref (G.1 43), .int (omi v1)] σ (.inr none) t := by
  unfold s_X12_costs at h
  refine om_head (own := RX12) (ls := [(0, .ref (G.1 43)), (1, .int (omi v1))]) (by decide +kernel) rfl (by simp [lg_sl, Value.category]) rfl (by simp [Value.category]) (fun x C F => ?_)
  refine v_iconst C (n := 1) dX12_costs_0 ?_
  refine v_aload_n C (q := 0) rfl rfl dX12_costs_1 ?_
  refine v_geti C (q := 27) (o := 43) fi_X12_63 rfl rfl dX12_costs_2 ?_
  refine v_ishl C dX12_costs_5 ?_
  refine v_iconst C (n := 1) dX12_costs_6 ?_
  refine v_isub C dX12_costs_7 ?_
  refine v_istore_n C (ls' := [(0, .ref (G.1 43)), (1, .int (omi v1)), (2, .int (omi ((omshl 1 (σ 43 1)) - 1)))]) rfl (by decide) rfl dX12_costs_8 ?_
  refine v_iload_n C (q := 2) rfl rfl dX12_costs_9 ?_
  refine v_istore_n C (ls' := [(0, .ref (G.1 43)), (1, .int (omi v1)), (2, .int (omi ((omshl 1 (σ 43 1)) - 1))), (3, .int (omi ((omshl 1 (σ 43 1)) - 1)))]) rfl (by decide) rfl dX12_costs_10 ?_
  obtain ⟨t12, et12, h⟩ := om_bind h
  refine kl_X12_costs_11 C v1 ((omshl 1 (σ 43 1)) - 1) FU _ _ t12 et12 ?_
  cases h
  exact v_vret C F dX12_costs_139 (Nat.zero_le _)
set_option maxHeartbeats 4000000 in
set_option maxRecDepth 100000 in
theorem kl_X12_isNext_17 {G : omG} {x : omX} (C : omC G x RX12 cX12_isNext 6 (2) 0) (v1 : Int) (v2 : Int) (σ : omH) : ∀ (n : Nat) (v3 : Int) (v4 : Int) (t : Int), l_X12_isNext_17 v1 v2 σ n v3 v4 = some t → omV G x 6 95 [(3, .int (omi t))] [] σ 0 → omV G x 6 17 [(0, .ref (G.1 43)), (1, .int (omi v1)), (2, .int (omi v2)), (3, .int (omi v3)), (4, .int (omi v4))] [] σ 0 := by
  intro n
  induction n with
  | zero => intro v3 v4 t h K; cases h
  | succ n ih =>
    intro v3 v4 t h K
    rw [l_X12_isNext_17.eq_2] at h
    refine v_iload C (q := 4) rfl dX12_isNext_17 ?_
    refine v_aload_n C (q := 0) rfl rfl dX12_isNext_19 ?_
    refine v_geti C (q := 27) (o := 43) fi_X12_63 rfl rfl dX12_isNext_20 ?_
    refine v_icmp_ge C (tgt := 95) dX12_isNext_23 rfl (fun hc => ?_) (fun hc => ?_)
    · replace h := (if_neg hc).symm.trans h
      cases h
      exact v_subp [3] rfl K
    · replace h := (if_pos hc).symm.trans h
      refine v_iload C (q := 4) rfl dX12_isNext_26 ?_
      refine v_iload_n C (q := 2) rfl rfl dX12_isNext_28 ?_
      obtain ⟨t2, et2, h⟩ := om_bind h
      have Jt2 : omV G x 6 72 [(0, .ref (G.1 43)), (1, .int (omi v1)), (2, .int (omi v2)), (3, .int (omi v3)), (4, .int (omi v4))] [.int (omi t2)] σ 0 := by
        refine v_istore C (ls' := [(0, .ref (G.1 43)), (1, .int (omi v1)), (2, .int (omi v2)), (3, .int (omi v3)), (4, .int (omi v4)), (5, .int (omi t2))]) (by decide) rfl dX12_isNext_72 ?_
        refine v_iload_n C (q := 3) rfl rfl dX12_isNext_74 ?_
        obtain ⟨t3, et3, h⟩ := om_bind h
        have Jt3 : omV G x 6 88 [(0, .ref (G.1 43)), (1, .int (omi v1)), (2, .int (omi v2)), (4, .int (omi v4))] [.int (omi t3)] σ 0 := by
          refine v_istore_n C (ls' := [(0, .ref (G.1 43)), (1, .int (omi v1)), (2, .int (omi v2)), (4, .int (omi v4)), (3, .int (omi t3))]) rfl (by decide) rfl dX12_isNext_88 ?_
          refine v_iinc C (q := 3) (ls' := [(0, .ref (G.1 43)), (1, .int (omi v1)), (2, .int (omi v2)), (4, .int (omi (v4 + 1))), (3, .int (omi t3))]) rfl (by decide) rfl rfl dX12_isNext_89 ?_
          refine v_goto C (tgt := 17) dX12_isNext_92 rfl ?_
          exact v_subp [0, 1, 2, 4, 3] rfl (ih _ _ _ h K)
        clear h
        have h := et3
        clear et3
        refine v_if_eq C (tgt := 87) dX12_isNext_75 rfl (fun hc => ?_) (fun hc => ?_)
        · replace h := (if_pos hc).symm.trans h
          refine v_iconst C (n := 0) dX12_isNext_87 ?_
          cases h
          exact v_subp [0, 1, 2, 4] rfl Jt3
        · replace h := (if_neg hc).symm.trans h
          refine v_iload C (q := 5) rfl dX12_isNext_78 ?_
          refine v_if_ne C (tgt := 87) dX12_isNext_80 rfl (fun hc => ?_) (fun hc => ?_)
          · replace h := (if_neg hc).symm.trans h
            refine v_iconst C (n := 0) dX12_isNext_87 ?_
            cases h
            exact v_subp [0, 1, 2, 4] rfl Jt3
          · replace h := (if_pos hc).symm.trans h
            refine v_iconst C (n := 1) dX12_isNext_83 ?_
            refine v_goto C (tgt := 88) dX12_isNext_84 rfl ?_
            cases h
            exact v_subp [0, 1, 2, 4] rfl Jt3
      clear h
      have h := et2
      clear et2
      refine v_icmp_eq C (tgt := 71) dX12_isNext_29 rfl (fun hc => ?_) (fun hc => ?_)
      · replace h := (if_pos hc).symm.trans h
        refine v_iconst C (n := 0) dX12_isNext_71 ?_
        cases h
        exact Jt2
      · replace h := (if_neg hc).symm.trans h
        refine v_aload_n C (q := 0) rfl rfl dX12_isNext_32 ?_
        refine v_getr C (q := 27) (o := 43) (r := 48) fi_X12_22 rfl rfl rfl dX12_isNext_33 ?_
        refine v_iload C (q := 4) rfl dX12_isNext_36 ?_
        obtain ⟨g4, h⟩ := omg_some h
        refine v_iald C (q := 32) (o := 48) (n := 10) rfl g4 dX12_isNext_38 ?_
        refine v_aload_n C (q := 0) rfl rfl dX12_isNext_39 ?_
        refine v_getr C (q := 27) (o := 43) (r := 48) fi_X12_22 rfl rfl rfl dX12_isNext_40 ?_
        refine v_iload_n C (q := 2) rfl rfl dX12_isNext_43 ?_
        obtain ⟨g5, h⟩ := omg_some h
        refine v_iald C (q := 32) (o := 48) (n := 10) rfl g5 dX12_isNext_44 ?_
        refine v_icmp_ne C (tgt := 71) dX12_isNext_45 rfl (fun hc => ?_) (fun hc => ?_)
        · replace h := (if_neg hc).symm.trans h
          refine v_iconst C (n := 0) dX12_isNext_71 ?_
          cases h
          exact Jt2
        · replace h := (if_pos hc).symm.trans h
          refine v_iload_n C (q := 1) rfl rfl dX12_isNext_48 ?_
          refine v_iload C (q := 4) rfl dX12_isNext_49 ?_
          refine v_ishr C dX12_isNext_51 ?_
          refine v_iconst C (n := 1) dX12_isNext_52 ?_
          refine v_iand C dX12_isNext_53 ?_
          refine v_if_ne C (tgt := 71) dX12_isNext_54 rfl (fun hc => ?_) (fun hc => ?_)
          · replace h := (if_neg hc).symm.trans h
            refine v_iconst C (n := 0) dX12_isNext_71 ?_
            cases h
            exact Jt2
          · replace h := (if_pos hc).symm.trans h
            refine v_aload_n C (q := 0) rfl rfl dX12_isNext_57 ?_
            refine v_iload C (q := 4) rfl dX12_isNext_58 ?_
            refine v_iload_n C (q := 2) rfl rfl dX12_isNext_60 ?_
            obtain ⟨r6, er6, h⟩ := om_bind h
            refine v_invV_i (As := [.int (omi v4), .int (omi v2)]) C mi_X12_comesByDue ml_X12_95 (k_X12_comesByDue v4 v2 σ _ er6) (q := 27) rfl rfl rfl (by decide) (Nat.zero_le _) rfl (Nat.le_of_ble_eq_true rfl) dX12_isNext_61 ?_
            refine v_if_eq C (tgt := 71) dX12_isNext_64 rfl (fun hc => ?_) (fun hc => ?_)
            · replace h := (if_pos hc).symm.trans h
              refine v_iconst C (n := 0) dX12_isNext_71 ?_
              cases h
              exact Jt2
            · replace h := (if_neg hc).symm.trans h
              refine v_iconst C (n := 1) dX12_isNext_67 ?_
              refine v_goto C (tgt := 72) dX12_isNext_68 rfl ?_
              cases h
              exact Jt2
set_option maxHeartbeats 4000000 in
set_option maxRecDepth 100000 in
theorem k_X12_isNext {G : omG} (v1 : Int) (v2 : Int) (σ : omH) (t : Int) (h : s_X12_isNext v1 v2 σ = some t) : omM G yX12_isNext (.code yX12_isNext cX12_isNext 6 (some .boolean)) 2 0 [.ref (G.1 43), .int (omi v1), .int (omi v2)] σ (.inr (some (.int (omi t)))) σ := by
  unfold s_X12_isNext at h
  refine om_head (own := RX12) (ls := [(0, .ref (G.1 43)), (1, .int (omi v1)), (2, .int (omi v2))]) (by decide +kernel) rfl (by simp [lg_sl, Value.category]) rfl (by simp [Value.category]) (fun x C F => ?_)
  refine v_iload_n C (q := 1) rfl rfl dX12_isNext_0 ?_
  refine v_iload_n C (q := 2) rfl rfl dX12_isNext_1 ?_
  refine v_ishr C dX12_isNext_2 ?_
  refine v_iconst C (n := 1) dX12_isNext_3 ?_
  refine v_iand C dX12_isNext_4 ?_
  obtain ⟨t1, et1, h⟩ := om_bind h
  have Jt1 : omV G x 6 13 [(0, .ref (G.1 43)), (1, .int (omi v1)), (2, .int (omi v2))] [.int (omi t1)] σ 0 := by
    refine v_istore_n C (ls' := [(0, .ref (G.1 43)), (1, .int (omi v1)), (2, .int (omi v2)), (3, .int (omi t1))]) rfl (by decide) rfl dX12_isNext_13 ?_
    refine v_iconst C (n := 0) dX12_isNext_14 ?_
    refine v_istore C (ls' := [(0, .ref (G.1 43)), (1, .int (omi v1)), (2, .int (omi v2)), (3, .int (omi t1)), (4, .int (omi 0))]) (by decide) rfl dX12_isNext_15 ?_
    obtain ⟨t7, et7, h⟩ := om_bind h
    refine kl_X12_isNext_17 C v1 v2 σ FU _ _ t7 et7 ?_
    refine v_iload_n C (q := 0) rfl rfl dX12_isNext_95 ?_
    obtain ⟨g8, h⟩ := omg_some h
    cases h
    exact v_zret C g8 F dX12_isNext_96 (Nat.zero_le _)
  clear h
  have h := et1
  clear et1
  refine v_if_ne C (tgt := 12) dX12_isNext_5 rfl (fun hc => ?_) (fun hc => ?_)
  · replace h := (if_neg hc).symm.trans h
    refine v_iconst C (n := 0) dX12_isNext_12 ?_
    cases h
    exact Jt1
  · replace h := (if_pos hc).symm.trans h
    refine v_iconst C (n := 1) dX12_isNext_8 ?_
    refine v_goto C (tgt := 13) dX12_isNext_9 rfl ?_
    cases h
    exact Jt1
set_option maxHeartbeats 4000000 in
set_option maxRecDepth 100000 in
theorem k_X12_taken {G : omG} (v1 : Int) (v2 : Int) (σ : omH) (t : Int) (h : s_X12_taken v1 v2 σ = some t) : omM G yX12_taken (.code yX12_taken cX12_taken 3 (some .int)) 1 0 [.ref (G.1 43), .int (omi v1), .int (omi v2)] σ (.inr (some (.int (omi t)))) σ := by
  unfold s_X12_taken at h
  refine om_head (own := RX12) (ls := [(0, .ref (G.1 43)), (1, .int (omi v1)), (2, .int (omi v2))]) (by decide +kernel) rfl (by simp [lg_sl, Value.category]) rfl (by simp [Value.category]) (fun x C F => ?_)
  refine v_aload_n C (q := 0) rfl rfl dX12_taken_0 ?_
  refine v_getr C (q := 27) (o := 43) (r := 44) fi_X12_7 rfl rfl rfl dX12_taken_1 ?_
  refine v_iload_n C (q := 1) rfl rfl dX12_taken_4 ?_
  obtain ⟨g1, h⟩ := omg_some h
  refine v_iald C (q := 28) (o := 44) (n := 10) rfl g1 dX12_taken_5 ?_
  refine v_aload_n C (q := 0) rfl rfl dX12_taken_6 ?_
  refine v_getr C (q := 27) (o := 43) (r := 48) fi_X12_22 rfl rfl rfl dX12_taken_7 ?_
  refine v_iload_n C (q := 1) rfl rfl dX12_taken_10 ?_
  obtain ⟨g2, h⟩ := omg_some h
  refine v_iald C (q := 32) (o := 48) (n := 10) rfl g2 dX12_taken_11 ?_
  refine v_iload_n C (q := 2) rfl rfl dX12_taken_12 ?_
  obtain ⟨t3, et3, h⟩ := om_bind h
  have Jt3 : omV G x 3 31 [] [.int (omi t3), .int (omi (σ 44 (omw v1).toNat))] σ 0 := by
    refine v_iadd C dX12_taken_31 ?_
    cases h
    exact v_iret C F dX12_taken_32 (Nat.zero_le _)
  clear h
  have h := et3
  clear et3
  refine v_icmp_ne C (tgt := 20) dX12_taken_13 rfl (fun hc => ?_) (fun hc => ?_)
  · replace h := (if_neg hc).symm.trans h
    refine v_aload_n C (q := 0) rfl rfl dX12_taken_20 ?_
    refine v_getr C (q := 27) (o := 43) (r := 49) fi_X12_25 rfl rfl rfl dX12_taken_21 ?_
    refine v_aload_n C (q := 0) rfl rfl dX12_taken_24 ?_
    refine v_getr C (q := 27) (o := 43) (r := 48) fi_X12_22 rfl rfl rfl dX12_taken_25 ?_
    refine v_iload_n C (q := 1) rfl rfl dX12_taken_28 ?_
    obtain ⟨g4, h⟩ := omg_some h
    refine v_iald C (q := 32) (o := 48) (n := 10) rfl g4 dX12_taken_29 ?_
    obtain ⟨g5, h⟩ := omg_some h
    refine v_iald C (q := 33) (o := 49) (n := 4) rfl g5 dX12_taken_30 ?_
    cases h
    exact v_subp [] rfl Jt3
  · replace h := (if_pos hc).symm.trans h
    refine v_iconst C (n := 0) dX12_taken_16 ?_
    refine v_goto C (tgt := 31) dX12_taken_17 rfl ?_
    cases h
    exact v_subp [] rfl Jt3
set_option maxHeartbeats 4000000 in
set_option maxRecDepth 100000 in
theorem kl_X12_costsBehind_46 {G : omG} {x : omX} (C : omC G x RX12 cX12_costsBehind 9 (3) 0) (v1 : Int) (v2 : Int) (v3 : Int) (v4 : Int) : ∀ (n : Nat) (v5 : Int) (σ : omH) (t : omH), l_X12_costsBehind_46 v1 v2 v3 v4 n v5 σ = some t → omV G x 9 184 [(0, .ref (G.1 43)), (1, .int (omi v1)), (2, .int (omi v2)), (3, .int (omi v3))] [] t 0 → omV G x 9 46 [(0, .ref (G.1 43)), (1, .int (omi v1)), (2, .int (omi v2)), (3, .int (omi v3)), (4, .int (omi v4)), (5, .int (omi v5))] [] σ 0 := by
  intro n
  induction n with
  | zero => intro v5 σ t h K; cases h
  | succ n ih =>
    intro v5 σ t h K
    rw [l_X12_costsBehind_46.eq_2] at h
    refine v_iload C (q := 5) rfl dX12_costsBehind_46 ?_
    refine v_aload_n C (q := 0) rfl rfl dX12_costsBehind_48 ?_
    refine v_geti C (q := 27) (o := 43) fi_X12_63 rfl rfl dX12_costsBehind_49 ?_
    refine v_icmp_ge C (tgt := 184) dX12_costsBehind_52 rfl (fun hc => ?_) (fun hc => ?_)
    · replace h := (if_neg hc).symm.trans h
      cases h
      exact v_subp [0, 1, 2, 3] rfl K
    · replace h := (if_pos hc).symm.trans h
      refine v_iload C (q := 4) rfl dX12_costsBehind_55 ?_
      refine v_iload C (q := 5) rfl dX12_costsBehind_57 ?_
      refine v_ishr C dX12_costsBehind_59 ?_
      refine v_iconst C (n := 1) dX12_costsBehind_60 ?_
      refine v_iand C dX12_costsBehind_61 ?_
      refine v_if_ne C (tgt := 178) dX12_costsBehind_62 rfl (fun hc => ?_) (fun hc => ?_)
      · replace h := (if_neg hc).symm.trans h
        refine v_iinc C (q := 5) (ls' := [(0, .ref (G.1 43)), (1, .int (omi v1)), (2, .int (omi v2)), (3, .int (omi v3)), (4, .int (omi v4)), (5, .int (omi (v5 + 1)))]) rfl (by decide) rfl rfl dX12_costsBehind_178 ?_
        refine v_goto C (tgt := 46) dX12_costsBehind_181 rfl ?_
        exact ih _ _ _ h K
      · replace h := (if_pos hc).symm.trans h
        refine v_iload_n C (q := 1) rfl rfl dX12_costsBehind_65 ?_
        refine v_if_eq C (tgt := 80) dX12_costsBehind_66 rfl (fun hc => ?_) (fun hc => ?_)
        · replace h := (if_pos hc).symm.trans h
          refine v_aload_n C (q := 0) rfl rfl dX12_costsBehind_80 ?_
          refine v_iload C (q := 5) rfl dX12_costsBehind_81 ?_
          refine v_iload_n C (q := 3) rfl rfl dX12_costsBehind_83 ?_
          refine v_iconst C (n := 5) dX12_costsBehind_84 ?_
          obtain ⟨g4, h⟩ := omg_some h
          refine v_irem C g4 dX12_costsBehind_85 ?_
          obtain ⟨r5, er5, h⟩ := om_bind h
          refine v_invV_i (As := [.int (omi v5), .int (omi ((omw v3).tmod (omw 5)))]) C mi_X12_taken ml_X12_119 (k_X12_taken v5 ((omw v3).tmod (omw 5)) σ _ er5) (q := 27) rfl rfl rfl (by decide) (Nat.zero_le _) rfl (Nat.le_of_ble_eq_true rfl) dX12_costsBehind_86 ?_
          refine v_istore C (ls' := [(0, .ref (G.1 43)), (1, .int (omi v1)), (2, .int (omi v2)), (3, .int (omi v3)), (4, .int (omi v4)), (5, .int (omi v5)), (6, .int (omi r5))]) (by decide) rfl dX12_costsBehind_89 ?_
          refine v_iload C (q := 6) rfl dX12_costsBehind_91 ?_
          refine v_aload_n C (q := 0) rfl rfl dX12_costsBehind_93 ?_
          refine v_getr C (q := 27) (o := 43) (r := 57) fi_X12_49 rfl rfl rfl dX12_costsBehind_94 ?_
          refine v_iconst C (n := 5) dX12_costsBehind_97 ?_
          refine v_iload C (q := 4) rfl dX12_costsBehind_98 ?_
          refine v_iconst C (n := 1) dX12_costsBehind_100 ?_
          refine v_iload C (q := 5) rfl dX12_costsBehind_101 ?_
          refine v_ishl C dX12_costsBehind_103 ?_
          refine v_ior C dX12_costsBehind_104 ?_
          refine v_imul C dX12_costsBehind_105 ?_
          refine v_aload_n C (q := 0) rfl rfl dX12_costsBehind_106 ?_
          refine v_getr C (q := 27) (o := 43) (r := 48) fi_X12_22 rfl rfl rfl dX12_costsBehind_107 ?_
          refine v_iload C (q := 5) rfl dX12_costsBehind_110 ?_
          obtain ⟨g6, h⟩ := omg_some h
          refine v_iald C (q := 32) (o := 48) (n := 10) rfl g6 dX12_costsBehind_112 ?_
          refine v_iadd C dX12_costsBehind_113 ?_
          obtain ⟨g7, h⟩ := omg_some h
          refine v_iald C (q := 41) (o := 57) (n := 5120) rfl g7 dX12_costsBehind_114 ?_
          refine v_iadd C dX12_costsBehind_115 ?_
          refine v_istore C (ls' := [(0, .ref (G.1 43)), (1, .int (omi v1)), (2, .int (omi v2)), (3, .int (omi v3)), (4, .int (omi v4)), (5, .int (omi v5)), (6, .int (omi r5)), (7, .int (omi (r5 + (σ 57 (omw ((5 * (omor v4 (omshl 1 v5))) + (σ 48 (omw v5).toNat))).toNat))))]) (by decide) rfl dX12_costsBehind_116 ?_
          refine v_iload C (q := 7) rfl dX12_costsBehind_118 ?_
          refine v_iload C (q := 6) rfl dX12_costsBehind_120 ?_
          refine v_aload_n C (q := 0) rfl rfl dX12_costsBehind_122 ?_
          refine v_getr C (q := 27) (o := 43) (r := 45) fi_X12_13 rfl rfl rfl dX12_costsBehind_123 ?_
          refine v_iload C (q := 5) rfl dX12_costsBehind_126 ?_
          obtain ⟨g8, h⟩ := omg_some h
          refine v_iald C (q := 29) (o := 45) (n := 10) rfl g8 dX12_costsBehind_128 ?_
          refine v_isub C dX12_costsBehind_129 ?_
          obtain ⟨t9, et9, h⟩ := om_bind h
          have Jt9 : omV G x 9 148 [(0, .ref (G.1 43)), (1, .int (omi v1)), (2, .int (omi v2)), (3, .int (omi v3)), (4, .int (omi v4)), (5, .int (omi v5))] [.int (omi t9)] σ 0 := by
            refine v_istore C (ls' := [(0, .ref (G.1 43)), (1, .int (omi v1)), (2, .int (omi v2)), (3, .int (omi v3)), (4, .int (omi v4)), (5, .int (omi v5)), (8, .int (omi t9))]) (by decide) rfl dX12_costsBehind_148 ?_
            refine v_aload_n C (q := 0) rfl rfl dX12_costsBehind_150 ?_
            refine v_getr C (q := 27) (o := 43) (r := 57) fi_X12_49 rfl rfl rfl dX12_costsBehind_151 ?_
            refine v_iload_n C (q := 3) rfl rfl dX12_costsBehind_154 ?_
            refine v_iload C (q := 6) rfl dX12_costsBehind_155 ?_
            refine v_aload_n C (q := 0) rfl rfl dX12_costsBehind_157 ?_
            refine v_getr C (q := 27) (o := 43) (r := 57) fi_X12_49 rfl rfl rfl dX12_costsBehind_158 ?_
            refine v_iload_n C (q := 3) rfl rfl dX12_costsBehind_161 ?_
            obtain ⟨g10, h⟩ := omg_some h
            refine v_iald C (q := 41) (o := 57) (n := 5120) rfl g10 dX12_costsBehind_162 ?_
            obtain ⟨t11, et11, h⟩ := om_bind h
            have Jt11 : omV G x 9 177 [(0, .ref (G.1 43)), (1, .int (omi v1)), (2, .int (omi v2)), (3, .int (omi v3)), (4, .int (omi v4)), (5, .int (omi v5))] [.int (omi t11), .int (omi v3), .ref (G.1 57)] σ 0 := by
              obtain ⟨g12, h⟩ := omg_some h
              refine v_iast C (q := 41) (o := 57) (n := 5120) rfl g12 dX12_costsBehind_177 ?_
              refine v_iinc C (q := 5) (ls' := [(0, .ref (G.1 43)), (1, .int (omi v1)), (2, .int (omi v2)), (3, .int (omi v3)), (4, .int (omi v4)), (5, .int (omi (v5 + 1)))]) rfl (by decide) rfl rfl dX12_costsBehind_178 ?_
              refine v_goto C (tgt := 46) dX12_costsBehind_181 rfl ?_
              exact ih _ _ _ h K
            clear h
            have h := et11
            clear et11
            refine v_icmp_ge C (tgt := 171) dX12_costsBehind_163 rfl (fun hc => ?_) (fun hc => ?_)
            · replace h := (if_neg hc).symm.trans h
              refine v_aload_n C (q := 0) rfl rfl dX12_costsBehind_171 ?_
              refine v_getr C (q := 27) (o := 43) (r := 57) fi_X12_49 rfl rfl rfl dX12_costsBehind_172 ?_
              refine v_iload_n C (q := 3) rfl rfl dX12_costsBehind_175 ?_
              obtain ⟨g13, h⟩ := omg_some h
              refine v_iald C (q := 41) (o := 57) (n := 5120) rfl g13 dX12_costsBehind_176 ?_
              cases h
              exact v_subp [0, 1, 2, 3, 4, 5] rfl Jt11
            · replace h := (if_pos hc).symm.trans h
              refine v_iload C (q := 6) rfl dX12_costsBehind_166 ?_
              refine v_goto C (tgt := 177) dX12_costsBehind_168 rfl ?_
              cases h
              exact v_subp [0, 1, 2, 3, 4, 5] rfl Jt11
          clear h
          have h := et9
          clear et9
          refine v_icmp_le C (tgt := 138) dX12_costsBehind_130 rfl (fun hc => ?_) (fun hc => ?_)
          · replace h := (if_neg hc).symm.trans h
            refine v_iload C (q := 6) rfl dX12_costsBehind_138 ?_
            refine v_aload_n C (q := 0) rfl rfl dX12_costsBehind_140 ?_
            refine v_getr C (q := 27) (o := 43) (r := 45) fi_X12_13 rfl rfl rfl dX12_costsBehind_141 ?_
            refine v_iload C (q := 5) rfl dX12_costsBehind_144 ?_
            obtain ⟨g14, h⟩ := omg_some h
            refine v_iald C (q := 29) (o := 45) (n := 10) rfl g14 dX12_costsBehind_146 ?_
            refine v_isub C dX12_costsBehind_147 ?_
            cases h
            exact v_subp [0, 1, 2, 3, 4, 5] rfl Jt9
          · replace h := (if_pos hc).symm.trans h
            refine v_iload C (q := 7) rfl dX12_costsBehind_133 ?_
            refine v_goto C (tgt := 148) dX12_costsBehind_135 rfl ?_
            cases h
            exact v_subp [0, 1, 2, 3, 4, 5] rfl Jt9
        · replace h := (if_neg hc).symm.trans h
          refine v_aload_n C (q := 0) rfl rfl dX12_costsBehind_69 ?_
          refine v_iload C (q := 4) rfl dX12_costsBehind_70 ?_
          refine v_iload C (q := 5) rfl dX12_costsBehind_72 ?_
          obtain ⟨r15, er15, h⟩ := om_bind h
          refine v_invV_i (As := [.int (omi v4), .int (omi v5)]) C mi_X12_isNext ml_X12_116 (k_X12_isNext v4 v5 σ _ er15) (q := 27) rfl rfl rfl (by decide) (Nat.zero_le _) rfl (Nat.le_of_ble_eq_true rfl) dX12_costsBehind_74 ?_
          refine v_if_eq C (tgt := 178) dX12_costsBehind_77 rfl (fun hc => ?_) (fun hc => ?_)
          · replace h := (if_pos hc).symm.trans h
            refine v_iinc C (q := 5) (ls' := [(0, .ref (G.1 43)), (1, .int (omi v1)), (2, .int (omi v2)), (3, .int (omi v3)), (4, .int (omi v4)), (5, .int (omi (v5 + 1)))]) rfl (by decide) rfl rfl dX12_costsBehind_178 ?_
            refine v_goto C (tgt := 46) dX12_costsBehind_181 rfl ?_
            exact ih _ _ _ h K
          · replace h := (if_neg hc).symm.trans h
            refine v_aload_n C (q := 0) rfl rfl dX12_costsBehind_80 ?_
            refine v_iload C (q := 5) rfl dX12_costsBehind_81 ?_
            refine v_iload_n C (q := 3) rfl rfl dX12_costsBehind_83 ?_
            refine v_iconst C (n := 5) dX12_costsBehind_84 ?_
            obtain ⟨g16, h⟩ := omg_some h
            refine v_irem C g16 dX12_costsBehind_85 ?_
            obtain ⟨r17, er17, h⟩ := om_bind h
            refine v_invV_i (As := [.int (omi v5), .int (omi ((omw v3).tmod (omw 5)))]) C mi_X12_taken ml_X12_119 (k_X12_taken v5 ((omw v3).tmod (omw 5)) σ _ er17) (q := 27) rfl rfl rfl (by decide) (Nat.zero_le _) rfl (Nat.le_of_ble_eq_true rfl) dX12_costsBehind_86 ?_
            refine v_istore C (ls' := [(0, .ref (G.1 43)), (1, .int (omi v1)), (2, .int (omi v2)), (3, .int (omi v3)), (4, .int (omi v4)), (5, .int (omi v5)), (6, .int (omi r17))]) (by decide) rfl dX12_costsBehind_89 ?_
            refine v_iload C (q := 6) rfl dX12_costsBehind_91 ?_
            refine v_aload_n C (q := 0) rfl rfl dX12_costsBehind_93 ?_
            refine v_getr C (q := 27) (o := 43) (r := 57) fi_X12_49 rfl rfl rfl dX12_costsBehind_94 ?_
            refine v_iconst C (n := 5) dX12_costsBehind_97 ?_
            refine v_iload C (q := 4) rfl dX12_costsBehind_98 ?_
            refine v_iconst C (n := 1) dX12_costsBehind_100 ?_
            refine v_iload C (q := 5) rfl dX12_costsBehind_101 ?_
            refine v_ishl C dX12_costsBehind_103 ?_
            refine v_ior C dX12_costsBehind_104 ?_
            refine v_imul C dX12_costsBehind_105 ?_
            refine v_aload_n C (q := 0) rfl rfl dX12_costsBehind_106 ?_
            refine v_getr C (q := 27) (o := 43) (r := 48) fi_X12_22 rfl rfl rfl dX12_costsBehind_107 ?_
            refine v_iload C (q := 5) rfl dX12_costsBehind_110 ?_
            obtain ⟨g18, h⟩ := omg_some h
            refine v_iald C (q := 32) (o := 48) (n := 10) rfl g18 dX12_costsBehind_112 ?_
            refine v_iadd C dX12_costsBehind_113 ?_
            obtain ⟨g19, h⟩ := omg_some h
            refine v_iald C (q := 41) (o := 57) (n := 5120) rfl g19 dX12_costsBehind_114 ?_
            refine v_iadd C dX12_costsBehind_115 ?_
            refine v_istore C (ls' := [(0, .ref (G.1 43)), (1, .int (omi v1)), (2, .int (omi v2)), (3, .int (omi v3)), (4, .int (omi v4)), (5, .int (omi v5)), (6, .int (omi r17)), (7, .int (omi (r17 + (σ 57 (omw ((5 * (omor v4 (omshl 1 v5))) + (σ 48 (omw v5).toNat))).toNat))))]) (by decide) rfl dX12_costsBehind_116 ?_
            refine v_iload C (q := 7) rfl dX12_costsBehind_118 ?_
            refine v_iload C (q := 6) rfl dX12_costsBehind_120 ?_
            refine v_aload_n C (q := 0) rfl rfl dX12_costsBehind_122 ?_
            refine v_getr C (q := 27) (o := 43) (r := 45) fi_X12_13 rfl rfl rfl dX12_costsBehind_123 ?_
            refine v_iload C (q := 5) rfl dX12_costsBehind_126 ?_
            obtain ⟨g20, h⟩ := omg_some h
            refine v_iald C (q := 29) (o := 45) (n := 10) rfl g20 dX12_costsBehind_128 ?_
            refine v_isub C dX12_costsBehind_129 ?_
            obtain ⟨t21, et21, h⟩ := om_bind h
            have Jt21 : omV G x 9 148 [(0, .ref (G.1 43)), (1, .int (omi v1)), (2, .int (omi v2)), (3, .int (omi v3)), (4, .int (omi v4)), (5, .int (omi v5))] [.int (omi t21)] σ 0 := by
              refine v_istore C (ls' := [(0, .ref (G.1 43)), (1, .int (omi v1)), (2, .int (omi v2)), (3, .int (omi v3)), (4, .int (omi v4)), (5, .int (omi v5)), (8, .int (omi t21))]) (by decide) rfl dX12_costsBehind_148 ?_
              refine v_aload_n C (q := 0) rfl rfl dX12_costsBehind_150 ?_
              refine v_getr C (q := 27) (o := 43) (r := 57) fi_X12_49 rfl rfl rfl dX12_costsBehind_151 ?_
              refine v_iload_n C (q := 3) rfl rfl dX12_costsBehind_154 ?_
              refine v_iload C (q := 6) rfl dX12_costsBehind_155 ?_
              refine v_aload_n C (q := 0) rfl rfl dX12_costsBehind_157 ?_
              refine v_getr C (q := 27) (o := 43) (r := 57) fi_X12_49 rfl rfl rfl dX12_costsBehind_158 ?_
              refine v_iload_n C (q := 3) rfl rfl dX12_costsBehind_161 ?_
              obtain ⟨g22, h⟩ := omg_some h
              refine v_iald C (q := 41) (o := 57) (n := 5120) rfl g22 dX12_costsBehind_162 ?_
              obtain ⟨t23, et23, h⟩ := om_bind h
              have Jt23 : omV G x 9 177 [(0, .ref (G.1 43)), (1, .int (omi v1)), (2, .int (omi v2)), (3, .int (omi v3)), (4, .int (omi v4)), (5, .int (omi v5))] [.int (omi t23), .int (omi v3), .ref (G.1 57)] σ 0 := by
                obtain ⟨g24, h⟩ := omg_some h
                refine v_iast C (q := 41) (o := 57) (n := 5120) rfl g24 dX12_costsBehind_177 ?_
                refine v_iinc C (q := 5) (ls' := [(0, .ref (G.1 43)), (1, .int (omi v1)), (2, .int (omi v2)), (3, .int (omi v3)), (4, .int (omi v4)), (5, .int (omi (v5 + 1)))]) rfl (by decide) rfl rfl dX12_costsBehind_178 ?_
                refine v_goto C (tgt := 46) dX12_costsBehind_181 rfl ?_
                exact ih _ _ _ h K
              clear h
              have h := et23
              clear et23
              refine v_icmp_ge C (tgt := 171) dX12_costsBehind_163 rfl (fun hc => ?_) (fun hc => ?_)
              · replace h := (if_neg hc).symm.trans h
                refine v_aload_n C (q := 0) rfl rfl dX12_costsBehind_171 ?_
                refine v_getr C (q := 27) (o := 43) (r := 57) fi_X12_49 rfl rfl rfl dX12_costsBehind_172 ?_
                refine v_iload_n C (q := 3) rfl rfl dX12_costsBehind_175 ?_
                obtain ⟨g25, h⟩ := omg_some h
                refine v_iald C (q := 41) (o := 57) (n := 5120) rfl g25 dX12_costsBehind_176 ?_
                cases h
                exact v_subp [0, 1, 2, 3, 4, 5] rfl Jt23
              · replace h := (if_pos hc).symm.trans h
                refine v_iload C (q := 6) rfl dX12_costsBehind_166 ?_
                refine v_goto C (tgt := 177) dX12_costsBehind_168 rfl ?_
                cases h
                exact v_subp [0, 1, 2, 3, 4, 5] rfl Jt23
            clear h
            have h := et21
            clear et21
            refine v_icmp_le C (tgt := 138) dX12_costsBehind_130 rfl (fun hc => ?_) (fun hc => ?_)
            · replace h := (if_neg hc).symm.trans h
              refine v_iload C (q := 6) rfl dX12_costsBehind_138 ?_
              refine v_aload_n C (q := 0) rfl rfl dX12_costsBehind_140 ?_
              refine v_getr C (q := 27) (o := 43) (r := 45) fi_X12_13 rfl rfl rfl dX12_costsBehind_141 ?_
              refine v_iload C (q := 5) rfl dX12_costsBehind_144 ?_
              obtain ⟨g26, h⟩ := omg_some h
              refine v_iald C (q := 29) (o := 45) (n := 10) rfl g26 dX12_costsBehind_146 ?_
              refine v_isub C dX12_costsBehind_147 ?_
              cases h
              exact v_subp [0, 1, 2, 3, 4, 5] rfl Jt21
            · replace h := (if_pos hc).symm.trans h
              refine v_iload C (q := 7) rfl dX12_costsBehind_133 ?_
              refine v_goto C (tgt := 148) dX12_costsBehind_135 rfl ?_
              cases h
              exact v_subp [0, 1, 2, 3, 4, 5] rfl Jt21
set_option maxHeartbeats 4000000 in
set_option maxRecDepth 100000 in
theorem kl_X12_costsBehind_15 {G : omG} {x : omX} (C : omC G x RX12 cX12_costsBehind 9 (3) 0) (v1 : Int) (v2 : Int) : ∀ (n : Nat) (v3 : Int) (σ : omH) (t : omH), l_X12_costsBehind_15 v1 v2 n v3 σ = some t → omV G x 9 190 [] [] t 0 → omV G x 9 15 [(0, .ref (G.1 43)), (1, .int (omi v1)), (2, .int (omi v2)), (3, .int (omi v3))] [] σ 0 := by
  intro n
  induction n with
  | zero => intro v3 σ t h K; cases h
  | succ n ih =>
    intro v3 σ t h K
    rw [l_X12_costsBehind_15.eq_2] at h
    refine v_iload_n C (q := 3) rfl rfl dX12_costsBehind_15 ?_
    refine v_if_lt C (tgt := 190) dX12_costsBehind_16 rfl (fun hc => ?_) (fun hc => ?_)
    · replace h := (if_pos hc).symm.trans h
      cases h
      exact v_subp [] rfl K
    · replace h := (if_neg hc).symm.trans h
      refine v_iload_n C (q := 3) rfl rfl dX12_costsBehind_19 ?_
      refine v_iconst C (n := 5) dX12_costsBehind_20 ?_
      obtain ⟨g1, h⟩ := omg_some h
      refine v_idiv C g1 dX12_costsBehind_21 ?_
      refine v_istore C (ls' := [(0, .ref (G.1 43)), (1, .int (omi v1)), (2, .int (omi v2)), (3, .int (omi v3)), (4, .int (omi ((omw v3).tdiv (omw 5))))]) (by decide) rfl dX12_costsBehind_22 ?_
      refine v_aload_n C (q := 0) rfl rfl dX12_costsBehind_24 ?_
      refine v_getr C (q := 27) (o := 43) (r := 57) fi_X12_49 rfl rfl rfl dX12_costsBehind_25 ?_
      refine v_iload_n C (q := 3) rfl rfl dX12_costsBehind_28 ?_
      refine v_iload C (q := 4) rfl dX12_costsBehind_29 ?_
      refine v_iload_n C (q := 2) rfl rfl dX12_costsBehind_31 ?_
      obtain ⟨t2, et2, h⟩ := om_bind h
      have Jt2 : omV G x 9 42 [(0, .ref (G.1 43)), (1, .int (omi v1)), (2, .int (omi v2)), (3, .int (omi v3)), (4, .int (omi ((omw v3).tdiv (omw 5))))] [.int (omi t2), .int (omi v3), .ref (G.1 57)] σ 0 := by
        obtain ⟨g3, h⟩ := omg_some h
        refine v_iast C (q := 41) (o := 57) (n := 5120) rfl g3 dX12_costsBehind_42 ?_
        refine v_iconst C (n := 0) dX12_costsBehind_43 ?_
        refine v_istore C (ls' := [(0, .ref (G.1 43)), (1, .int (omi v1)), (2, .int (omi v2)), (3, .int (omi v3)), (4, .int (omi ((omw v3).tdiv (omw 5)))), (5, .int (omi 0))]) (by decide) rfl dX12_costsBehind_44 ?_
        obtain ⟨t27, et27, h⟩ := om_bind h
        refine kl_X12_costsBehind_46 C v1 v2 v3 ((omw v3).tdiv (omw 5)) FU _ _ t27 et27 ?_
        refine v_iinc C (q := 3) (ls' := [(0, .ref (G.1 43)), (1, .int (omi v1)), (2, .int (omi v2)), (3, .int (omi (v3 + (-1))))]) rfl (by decide) rfl rfl dX12_costsBehind_184 ?_
        refine v_goto C (tgt := 15) dX12_costsBehind_187 rfl ?_
        exact ih _ _ _ h K
      clear h
      have h := et2
      clear et2
      refine v_icmp_ge C (tgt := 40) dX12_costsBehind_32 rfl (fun hc => ?_) (fun hc => ?_)
      · replace h := (if_neg hc).symm.trans h
        refine v_ldc C kc_X12_111 dX12_costsBehind_40 ?_
        cases h
        exact Jt2
      · replace h := (if_pos hc).symm.trans h
        refine v_ldc C kc_X12_110 dX12_costsBehind_35 ?_
        refine v_goto C (tgt := 42) dX12_costsBehind_37 rfl ?_
        cases h
        exact Jt2
set_option maxHeartbeats 4000000 in
set_option maxRecDepth 100000 in
theorem k_X12_costsBehind {G : omG} (v1 : Int) (σ : omH) (t : omH) (h : s_X12_costsBehind v1 σ = some t) : omM G yX12_costsBehind (.code yX12_costsBehind cX12_costsBehind 9 none) 3 0 [.ref (G.1 43), .int (omi v1)] σ (.inr none) t := by
  unfold s_X12_costsBehind at h
  refine om_head (own := RX12) (ls := [(0, .ref (G.1 43)), (1, .int (omi v1))]) (by decide +kernel) rfl (by simp [lg_sl, Value.category]) rfl (by simp [Value.category]) (fun x C F => ?_)
  refine v_iconst C (n := 1) dX12_costsBehind_0 ?_
  refine v_aload_n C (q := 0) rfl rfl dX12_costsBehind_1 ?_
  refine v_geti C (q := 27) (o := 43) fi_X12_63 rfl rfl dX12_costsBehind_2 ?_
  refine v_ishl C dX12_costsBehind_5 ?_
  refine v_iconst C (n := 1) dX12_costsBehind_6 ?_
  refine v_isub C dX12_costsBehind_7 ?_
  refine v_istore_n C (ls' := [(0, .ref (G.1 43)), (1, .int (omi v1)), (2, .int (omi ((omshl 1 (σ 43 1)) - 1)))]) rfl (by decide) rfl dX12_costsBehind_8 ?_
  refine v_iconst C (n := 5) dX12_costsBehind_9 ?_
  refine v_iload_n C (q := 2) rfl rfl dX12_costsBehind_10 ?_
  refine v_imul C dX12_costsBehind_11 ?_
  refine v_iconst C (n := 4) dX12_costsBehind_12 ?_
  refine v_iadd C dX12_costsBehind_13 ?_
  refine v_istore_n C (ls' := [(0, .ref (G.1 43)), (1, .int (omi v1)), (2, .int (omi ((omshl 1 (σ 43 1)) - 1))), (3, .int (omi ((5 * ((omshl 1 (σ 43 1)) - 1)) + 4)))]) rfl (by decide) rfl dX12_costsBehind_14 ?_
  obtain ⟨t28, et28, h⟩ := om_bind h
  refine kl_X12_costsBehind_15 C v1 ((omshl 1 (σ 43 1)) - 1) FU _ _ t28 et28 ?_
  cases h
  exact v_vret C F dX12_costsBehind_190 (Nat.zero_le _)
set_option maxHeartbeats 4000000 in
set_option maxRecDepth 100000 in
theorem k_X12_begins {G : omG}  (σ : omH) (t : omH) (h : s_X12_begins  σ = some t) : omM G yX12_begins (.code yX12_begins cX12_begins 1 none) 1 0 [.ref (G.1 43)] σ (.inr none) t := by
  unfold s_X12_begins at h
  refine om_head (own := RX12) (ls := [(0, .ref (G.1 43))]) (by decide +kernel) rfl (by simp [lg_sl, Value.category]) rfl (by simp [Value.category]) (fun x C F => ?_)
  refine v_aload_n C (q := 0) rfl rfl dX12_begins_0 ?_
  refine v_iconst C (n := 1) dX12_begins_1 ?_
  refine v_putz C (q := 27) (o := 43) fp_X12_70 (by decide) rfl rfl dX12_begins_2 ?_
  refine v_aload_n C (q := 0) rfl rfl dX12_begins_5 ?_
  refine v_iconst C (n := 0) dX12_begins_6 ?_
  refine v_puti C (q := 27) (o := 43) fp_X12_74 rfl rfl dX12_begins_7 ?_
  cases h
  exact v_vret C F dX12_begins_10 (Nat.zero_le _)
set_option maxHeartbeats 4000000 in
set_option maxRecDepth 100000 in
theorem k_X12_now {G : omG}  (σ : omH) (t : Int) (h : s_X12_now  σ = some t) : omM G yX12_now (.code yX12_now cX12_now 1 (some .int)) 1 0 [.ref (G.1 43)] σ (.inr (some (.int (omi t)))) σ := by
  unfold s_X12_now at h
  refine om_head (own := RX12) (ls := [(0, .ref (G.1 43))]) (by decide +kernel) rfl (by simp [lg_sl, Value.category]) rfl (by simp [Value.category]) (fun x C F => ?_)
  refine v_aload_n C (q := 0) rfl rfl dX12_now_0 ?_
  refine v_geti C (q := 27) (o := 43) fi_X12_74 rfl rfl dX12_now_1 ?_
  refine v_if_ne C (tgt := 11) dX12_now_4 rfl (fun hc => ?_) (fun hc => ?_)
  · replace h := (if_neg hc).symm.trans h
    refine v_aload_n C (q := 0) rfl rfl dX12_now_11 ?_
    refine v_getr C (q := 27) (o := 43) (r := 52) fi_X12_34 rfl rfl rfl dX12_now_12 ?_
    refine v_aload_n C (q := 0) rfl rfl dX12_now_15 ?_
    refine v_geti C (q := 27) (o := 43) fi_X12_74 rfl rfl dX12_now_16 ?_
    refine v_iconst C (n := 1) dX12_now_19 ?_
    refine v_isub C dX12_now_20 ?_
    obtain ⟨g1, h⟩ := omg_some h
    refine v_iald C (q := 36) (o := 52) (n := 64) rfl g1 dX12_now_21 ?_
    cases h
    exact v_iret C F dX12_now_22 (Nat.zero_le _)
  · replace h := (if_pos hc).symm.trans h
    refine v_iconst C (n := 0) dX12_now_7 ?_
    refine v_goto C (tgt := 22) dX12_now_8 rfl ?_
    cases h
    exact v_iret C F dX12_now_22 (Nat.zero_le _)
set_option maxHeartbeats 4000000 in
set_option maxRecDepth 100000 in
theorem k_X12_works {G : omG} (v1 : Int) (v2 : Int) (v3 : Int) (σ : omH) (t : omH) (h : s_X12_works v1 v2 v3 σ = some t) : omM G yX12_works (.code yX12_works cX12_works 5 none) 2 0 [.ref (G.1 43), .int (omi v1), .int (omi v2), .int (omi v3)] σ (.inr none) t := by
  unfold s_X12_works at h
  refine om_head (own := RX12) (ls := [(0, .ref (G.1 43)), (1, .int (omi v1)), (2, .int (omi v2)), (3, .int (omi v3))]) (by decide +kernel) rfl (by simp [lg_sl, Value.category]) rfl (by simp [Value.category]) (fun x C F => ?_)
  refine v_aload_n C (q := 0) rfl rfl dX12_works_0 ?_
  obtain ⟨r1, er1, h⟩ := om_bind h
  refine v_invV_i (As := []) C mi_X12_now ml_X12_122 (k_X12_now  σ _ er1) (q := 27) rfl rfl rfl (by decide) (Nat.zero_le _) rfl (Nat.le_of_ble_eq_true rfl) dX12_works_1 ?_
  refine v_iload_n C (q := 3) rfl rfl dX12_works_4 ?_
  refine v_iadd C dX12_works_5 ?_
  refine v_istore C (ls' := [(0, .ref (G.1 43)), (1, .int (omi v1)), (2, .int (omi v2)), (3, .int (omi v3)), (4, .int (omi (r1 + v3)))]) (by decide) rfl dX12_works_6 ?_
  refine v_iload_n C (q := 3) rfl rfl dX12_works_8 ?_
  obtain ⟨t2, et2, h⟩ := om_bind h
  have Jt2 : omV G x 5 79 [(0, .ref (G.1 43)), (1, .int (omi v1)), (2, .int (omi v2)), (3, .int (omi v3)), (4, .int (omi (r1 + v3)))] [] t2 0 := by
    refine v_iload_n C (q := 3) rfl rfl dX12_works_79 ?_
    obtain ⟨t3, et3, h⟩ := om_bind h
    have Jt3 : omV G x 5 96 [(0, .ref (G.1 43)), (1, .int (omi v1)), (2, .int (omi v2)), (4, .int (omi (r1 + v3)))] [] t3 0 := by
      refine v_iload_n C (q := 1) rfl rfl dX12_works_96 ?_
      refine v_if_ne C (tgt := 108) dX12_works_97 rfl (fun hc => ?_) (fun hc => ?_)
      · replace h := (if_neg hc).symm.trans h
        cases h
        exact v_vret C F dX12_works_108 (Nat.zero_le _)
      · replace h := (if_pos hc).symm.trans h
        refine v_aload_n C (q := 0) rfl rfl dX12_works_100 ?_
        refine v_getr C (q := 27) (o := 43) (r := 53) fi_X12_37 rfl rfl rfl dX12_works_101 ?_
        refine v_iload_n C (q := 2) rfl rfl dX12_works_104 ?_
        refine v_iload C (q := 3) rfl dX12_works_105 ?_
        obtain ⟨g4, h⟩ := omg_some h
        refine v_iast C (q := 37) (o := 53) (n := 10) rfl g4 dX12_works_107 ?_
        cases h
        exact v_vret C F dX12_works_108 (Nat.zero_le _)
    clear h
    have h := et3
    clear et3
    refine v_if_le C (tgt := 96) dX12_works_80 rfl (fun hc => ?_) (fun hc => ?_)
    · replace h := (if_neg hc).symm.trans h
      cases h
      exact v_subp [0, 1, 2, 4] rfl Jt3
    · replace h := (if_pos hc).symm.trans h
      refine v_aload_n C (q := 0) rfl rfl dX12_works_83 ?_
      refine v_getr C (q := 27) (o := 43) (r := 52) fi_X12_34 rfl rfl rfl dX12_works_84 ?_
      refine v_aload_n C (q := 0) rfl rfl dX12_works_87 ?_
      refine v_geti C (q := 27) (o := 43) fi_X12_74 rfl rfl dX12_works_88 ?_
      refine v_iconst C (n := 1) dX12_works_91 ?_
      refine v_isub C dX12_works_92 ?_
      refine v_iload C (q := 4) rfl dX12_works_93 ?_
      obtain ⟨g5, h⟩ := omg_some h
      refine v_iast C (q := 36) (o := 52) (n := 64) rfl g5 dX12_works_95 ?_
      cases h
      exact v_subp [0, 1, 2, 4] rfl Jt3
  clear h
  have h := et2
  clear et2
  refine v_if_le C (tgt := 79) dX12_works_9 rfl (fun hc => ?_) (fun hc => ?_)
  · replace h := (if_neg hc).symm.trans h
    cases h
    exact Jt2
  · replace h := (if_pos hc).symm.trans h
    refine v_aload_n C (q := 0) rfl rfl dX12_works_12 ?_
    refine v_geti C (q := 27) (o := 43) fi_X12_74 rfl rfl dX12_works_13 ?_
    refine v_if_eq C (tgt := 49) dX12_works_16 rfl (fun hc => ?_) (fun hc => ?_)
    · replace h := (if_pos hc).symm.trans h
      refine v_aload_n C (q := 0) rfl rfl dX12_works_49 ?_
      refine v_getr C (q := 27) (o := 43) (r := 50) fi_X12_28 rfl rfl rfl dX12_works_50 ?_
      refine v_aload_n C (q := 0) rfl rfl dX12_works_53 ?_
      refine v_geti C (q := 27) (o := 43) fi_X12_74 rfl rfl dX12_works_54 ?_
      refine v_iload_n C (q := 1) rfl rfl dX12_works_57 ?_
      obtain ⟨g6, h⟩ := omg_some h
      refine v_iast C (q := 34) (o := 50) (n := 64) rfl g6 dX12_works_58 ?_
      refine v_aload_n C (q := 0) rfl rfl dX12_works_59 ?_
      refine v_getr C (q := 27) (o := 43) (r := 51) fi_X12_31 rfl rfl rfl dX12_works_60 ?_
      refine v_aload_n C (q := 0) rfl rfl dX12_works_63 ?_
      refine v_geti C (q := 27) (o := 43) fi_X12_74 rfl rfl dX12_works_64 ?_
      refine v_iload_n C (q := 2) rfl rfl dX12_works_67 ?_
      obtain ⟨g7, h⟩ := omg_some h
      refine v_iast C (q := 35) (o := 51) (n := 64) rfl g7 dX12_works_68 ?_
      refine v_aload_n C (q := 0) rfl rfl dX12_works_69 ?_
      refine v_dup C rfl dX12_works_70 ?_
      refine v_geti C (q := 27) (o := 43) fi_X12_74 rfl rfl dX12_works_71 ?_
      refine v_iconst C (n := 1) dX12_works_74 ?_
      refine v_iadd C dX12_works_75 ?_
      refine v_puti C (q := 27) (o := 43) fp_X12_74 rfl rfl dX12_works_76 ?_
      cases h
      exact Jt2
    · replace h := (if_neg hc).symm.trans h
      refine v_aload_n C (q := 0) rfl rfl dX12_works_19 ?_
      refine v_getr C (q := 27) (o := 43) (r := 50) fi_X12_28 rfl rfl rfl dX12_works_20 ?_
      refine v_aload_n C (q := 0) rfl rfl dX12_works_23 ?_
      refine v_geti C (q := 27) (o := 43) fi_X12_74 rfl rfl dX12_works_24 ?_
      refine v_iconst C (n := 1) dX12_works_27 ?_
      refine v_isub C dX12_works_28 ?_
      obtain ⟨g8, h⟩ := omg_some h
      refine v_iald C (q := 34) (o := 50) (n := 64) rfl g8 dX12_works_29 ?_
      refine v_iload_n C (q := 1) rfl rfl dX12_works_30 ?_
      refine v_icmp_ne C (tgt := 49) dX12_works_31 rfl (fun hc => ?_) (fun hc => ?_)
      · replace h := (if_neg hc).symm.trans h
        refine v_aload_n C (q := 0) rfl rfl dX12_works_49 ?_
        refine v_getr C (q := 27) (o := 43) (r := 50) fi_X12_28 rfl rfl rfl dX12_works_50 ?_
        refine v_aload_n C (q := 0) rfl rfl dX12_works_53 ?_
        refine v_geti C (q := 27) (o := 43) fi_X12_74 rfl rfl dX12_works_54 ?_
        refine v_iload_n C (q := 1) rfl rfl dX12_works_57 ?_
        obtain ⟨g9, h⟩ := omg_some h
        refine v_iast C (q := 34) (o := 50) (n := 64) rfl g9 dX12_works_58 ?_
        refine v_aload_n C (q := 0) rfl rfl dX12_works_59 ?_
        refine v_getr C (q := 27) (o := 43) (r := 51) fi_X12_31 rfl rfl rfl dX12_works_60 ?_
        refine v_aload_n C (q := 0) rfl rfl dX12_works_63 ?_
        refine v_geti C (q := 27) (o := 43) fi_X12_74 rfl rfl dX12_works_64 ?_
        refine v_iload_n C (q := 2) rfl rfl dX12_works_67 ?_
        obtain ⟨g10, h⟩ := omg_some h
        refine v_iast C (q := 35) (o := 51) (n := 64) rfl g10 dX12_works_68 ?_
        refine v_aload_n C (q := 0) rfl rfl dX12_works_69 ?_
        refine v_dup C rfl dX12_works_70 ?_
        refine v_geti C (q := 27) (o := 43) fi_X12_74 rfl rfl dX12_works_71 ?_
        refine v_iconst C (n := 1) dX12_works_74 ?_
        refine v_iadd C dX12_works_75 ?_
        refine v_puti C (q := 27) (o := 43) fp_X12_74 rfl rfl dX12_works_76 ?_
        cases h
        exact Jt2
      · replace h := (if_pos hc).symm.trans h
        refine v_aload_n C (q := 0) rfl rfl dX12_works_34 ?_
        refine v_getr C (q := 27) (o := 43) (r := 51) fi_X12_31 rfl rfl rfl dX12_works_35 ?_
        refine v_aload_n C (q := 0) rfl rfl dX12_works_38 ?_
        refine v_geti C (q := 27) (o := 43) fi_X12_74 rfl rfl dX12_works_39 ?_
        refine v_iconst C (n := 1) dX12_works_42 ?_
        refine v_isub C dX12_works_43 ?_
        obtain ⟨g11, h⟩ := omg_some h
        refine v_iald C (q := 35) (o := 51) (n := 64) rfl g11 dX12_works_44 ?_
        refine v_iload_n C (q := 2) rfl rfl dX12_works_45 ?_
        refine v_icmp_eq C (tgt := 79) dX12_works_46 rfl (fun hc => ?_) (fun hc => ?_)
        · replace h := (if_pos hc).symm.trans h
          cases h
          exact Jt2
        · replace h := (if_neg hc).symm.trans h
          refine v_aload_n C (q := 0) rfl rfl dX12_works_49 ?_
          refine v_getr C (q := 27) (o := 43) (r := 50) fi_X12_28 rfl rfl rfl dX12_works_50 ?_
          refine v_aload_n C (q := 0) rfl rfl dX12_works_53 ?_
          refine v_geti C (q := 27) (o := 43) fi_X12_74 rfl rfl dX12_works_54 ?_
          refine v_iload_n C (q := 1) rfl rfl dX12_works_57 ?_
          obtain ⟨g12, h⟩ := omg_some h
          refine v_iast C (q := 34) (o := 50) (n := 64) rfl g12 dX12_works_58 ?_
          refine v_aload_n C (q := 0) rfl rfl dX12_works_59 ?_
          refine v_getr C (q := 27) (o := 43) (r := 51) fi_X12_31 rfl rfl rfl dX12_works_60 ?_
          refine v_aload_n C (q := 0) rfl rfl dX12_works_63 ?_
          refine v_geti C (q := 27) (o := 43) fi_X12_74 rfl rfl dX12_works_64 ?_
          refine v_iload_n C (q := 2) rfl rfl dX12_works_67 ?_
          obtain ⟨g13, h⟩ := omg_some h
          refine v_iast C (q := 35) (o := 51) (n := 64) rfl g13 dX12_works_68 ?_
          refine v_aload_n C (q := 0) rfl rfl dX12_works_69 ?_
          refine v_dup C rfl dX12_works_70 ?_
          refine v_geti C (q := 27) (o := 43) fi_X12_74 rfl rfl dX12_works_71 ?_
          refine v_iconst C (n := 1) dX12_works_74 ?_
          refine v_iadd C dX12_works_75 ?_
          refine v_puti C (q := 27) (o := 43) fp_X12_74 rfl rfl dX12_works_76 ?_
          cases h
          exact Jt2
set_option maxHeartbeats 4000000 in
set_option maxRecDepth 100000 in
theorem kl_X12_worksInOrder_6 {G : omG} {x : omX} (C : omC G x RX12 cX12_worksInOrder 2 (3) 0) : ∀ (n : Nat) (v1 : Int) (σ : omH) (t : omH), l_X12_worksInOrder_6  n v1 σ = some t → omV G x 2 42 [] [] t 0 → omV G x 2 6 [(0, .ref (G.1 43)), (1, .int (omi v1))] [] σ 0 := by
  intro n
  induction n with
  | zero => intro v1 σ t h K; cases h
  | succ n ih =>
    intro v1 σ t h K
    rw [l_X12_worksInOrder_6.eq_2] at h
    refine v_iload_n C (q := 1) rfl rfl dX12_worksInOrder_6 ?_
    refine v_aload_n C (q := 0) rfl rfl dX12_worksInOrder_7 ?_
    refine v_geti C (q := 27) (o := 43) fi_X12_63 rfl rfl dX12_worksInOrder_8 ?_
    refine v_icmp_ge C (tgt := 42) dX12_worksInOrder_11 rfl (fun hc => ?_) (fun hc => ?_)
    · replace h := (if_neg hc).symm.trans h
      cases h
      exact v_subp [] rfl K
    · replace h := (if_pos hc).symm.trans h
      refine v_aload_n C (q := 0) rfl rfl dX12_worksInOrder_14 ?_
      refine v_iconst C (n := 0) dX12_worksInOrder_15 ?_
      refine v_aload_n C (q := 0) rfl rfl dX12_worksInOrder_16 ?_
      refine v_getr C (q := 27) (o := 43) (r := 54) fi_X12_40 rfl rfl rfl dX12_worksInOrder_17 ?_
      refine v_iload_n C (q := 1) rfl rfl dX12_worksInOrder_20 ?_
      obtain ⟨g2, h⟩ := omg_some h
      refine v_iald C (q := 38) (o := 54) (n := 10) rfl g2 dX12_worksInOrder_21 ?_
      refine v_aload_n C (q := 0) rfl rfl dX12_worksInOrder_22 ?_
      refine v_getr C (q := 27) (o := 43) (r := 44) fi_X12_7 rfl rfl rfl dX12_worksInOrder_23 ?_
      refine v_aload_n C (q := 0) rfl rfl dX12_worksInOrder_26 ?_
      refine v_getr C (q := 27) (o := 43) (r := 54) fi_X12_40 rfl rfl rfl dX12_worksInOrder_27 ?_
      refine v_iload_n C (q := 1) rfl rfl dX12_worksInOrder_30 ?_
      obtain ⟨g3, h⟩ := omg_some h
      refine v_iald C (q := 38) (o := 54) (n := 10) rfl g3 dX12_worksInOrder_31 ?_
      obtain ⟨g4, h⟩ := omg_some h
      refine v_iald C (q := 28) (o := 44) (n := 10) rfl g4 dX12_worksInOrder_32 ?_
      obtain ⟨r5, er5, h⟩ := om_bind h
      refine v_invV_v (As := [.int (omi 0), .int (omi (σ 54 (omw v1).toNat)), .int (omi (σ 44 (omw (σ 54 (omw v1).toNat)).toNat))]) C mi_X12_works ml_X12_129 (k_X12_works 0 (σ 54 (omw v1).toNat) (σ 44 (omw (σ 54 (omw v1).toNat)).toNat) σ _ er5) (q := 27) rfl rfl rfl (by decide) (Nat.zero_le _) rfl (Nat.le_of_ble_eq_true rfl) dX12_worksInOrder_33 ?_
      refine v_iinc C (q := 1) (ls' := [(0, .ref (G.1 43)), (1, .int (omi (v1 + 1)))]) rfl (by decide) rfl rfl dX12_worksInOrder_36 ?_
      refine v_goto C (tgt := 6) dX12_worksInOrder_39 rfl ?_
      exact ih _ _ _ h K
set_option maxHeartbeats 4000000 in
set_option maxRecDepth 100000 in
theorem k_X12_worksInOrder {G : omG}  (σ : omH) (t : omH) (h : s_X12_worksInOrder  σ = some t) : omM G yX12_worksInOrder (.code yX12_worksInOrder cX12_worksInOrder 2 none) 3 0 [.ref (G.1 43)] σ (.inr none) t := by
  unfold s_X12_worksInOrder at h
  refine om_head (own := RX12) (ls := [(0, .ref (G.1 43))]) (by decide +kernel) rfl (by simp [lg_sl, Value.category]) rfl (by simp [Value.category]) (fun x C F => ?_)
  refine v_aload_n C (q := 0) rfl rfl dX12_worksInOrder_0 ?_
  obtain ⟨r1, er1, h⟩ := om_bind h
  refine v_invV_v (As := []) C mi_X12_begins ml_X12_126 (k_X12_begins  σ _ er1) (q := 27) rfl rfl rfl (by decide) (Nat.zero_le _) rfl (Nat.le_of_ble_eq_true rfl) dX12_worksInOrder_1 ?_
  refine v_iconst C (n := 0) dX12_worksInOrder_4 ?_
  refine v_istore_n C (ls' := [(0, .ref (G.1 43)), (1, .int (omi 0))]) rfl (by decide) rfl dX12_worksInOrder_5 ?_
  obtain ⟨t6, et6, h⟩ := om_bind h
  refine kl_X12_worksInOrder_6 C  FU _ _ t6 et6 ?_
  cases h
  exact v_vret C F dX12_worksInOrder_42 (Nat.zero_le _)
set_option maxHeartbeats 4000000 in
set_option maxRecDepth 100000 in
theorem kl_X12_greatest_5 {G : omG} {x : omX} (C : omC G x RX12 cX12_greatest 4 (1) 0) (σ : omH) : ∀ (n : Nat) (v1 : Int) (v2 : Int) (t : Int), l_X12_greatest_5  σ n v1 v2 = some t → omV G x 4 44 [(1, .int (omi t))] [] σ 0 → omV G x 4 5 [(0, .ref (G.1 43)), (1, .int (omi v1)), (2, .int (omi v2))] [] σ 0 := by
  intro n
  induction n with
  | zero => intro v1 v2 t h K; cases h
  | succ n ih =>
    intro v1 v2 t h K
    rw [l_X12_greatest_5.eq_2] at h
    refine v_iload_n C (q := 2) rfl rfl dX12_greatest_5 ?_
    refine v_aload_n C (q := 0) rfl rfl dX12_greatest_6 ?_
    refine v_geti C (q := 27) (o := 43) fi_X12_63 rfl rfl dX12_greatest_7 ?_
    refine v_icmp_ge C (tgt := 44) dX12_greatest_10 rfl (fun hc => ?_) (fun hc => ?_)
    · replace h := (if_neg hc).symm.trans h
      cases h
      exact v_subp [1] rfl K
    · replace h := (if_pos hc).symm.trans h
      refine v_aload_n C (q := 0) rfl rfl dX12_greatest_13 ?_
      refine v_getr C (q := 27) (o := 43) (r := 53) fi_X12_37 rfl rfl rfl dX12_greatest_14 ?_
      refine v_iload_n C (q := 2) rfl rfl dX12_greatest_17 ?_
      obtain ⟨g1, h⟩ := omg_some h
      refine v_iald C (q := 37) (o := 53) (n := 10) rfl g1 dX12_greatest_18 ?_
      refine v_aload_n C (q := 0) rfl rfl dX12_greatest_19 ?_
      refine v_getr C (q := 27) (o := 43) (r := 45) fi_X12_13 rfl rfl rfl dX12_greatest_20 ?_
      refine v_iload_n C (q := 2) rfl rfl dX12_greatest_23 ?_
      obtain ⟨g2, h⟩ := omg_some h
      refine v_iald C (q := 29) (o := 45) (n := 10) rfl g2 dX12_greatest_24 ?_
      refine v_isub C dX12_greatest_25 ?_
      refine v_istore_n C (ls' := [(0, .ref (G.1 43)), (1, .int (omi v1)), (2, .int (omi v2)), (3, .int (omi ((σ 53 (omw v2).toNat) - (σ 45 (omw v2).toNat))))]) rfl (by decide) rfl dX12_greatest_26 ?_
      refine v_iload_n C (q := 3) rfl rfl dX12_greatest_27 ?_
      refine v_iload_n C (q := 1) rfl rfl dX12_greatest_28 ?_
      obtain ⟨t3, et3, h⟩ := om_bind h
      have Jt3 : omV G x 4 37 [(0, .ref (G.1 43)), (2, .int (omi v2))] [.int (omi t3)] σ 0 := by
        refine v_istore_n C (ls' := [(0, .ref (G.1 43)), (2, .int (omi v2)), (1, .int (omi t3))]) rfl (by decide) rfl dX12_greatest_37 ?_
        refine v_iinc C (q := 1) (ls' := [(0, .ref (G.1 43)), (2, .int (omi (v2 + 1))), (1, .int (omi t3))]) rfl (by decide) rfl rfl dX12_greatest_38 ?_
        refine v_goto C (tgt := 5) dX12_greatest_41 rfl ?_
        exact v_subp [0, 2, 1] rfl (ih _ _ _ h K)
      clear h
      have h := et3
      clear et3
      refine v_icmp_le C (tgt := 36) dX12_greatest_29 rfl (fun hc => ?_) (fun hc => ?_)
      · replace h := (if_neg hc).symm.trans h
        refine v_iload_n C (q := 1) rfl rfl dX12_greatest_36 ?_
        cases h
        exact v_subp [0, 2] rfl Jt3
      · replace h := (if_pos hc).symm.trans h
        refine v_iload_n C (q := 3) rfl rfl dX12_greatest_32 ?_
        refine v_goto C (tgt := 37) dX12_greatest_33 rfl ?_
        cases h
        exact v_subp [0, 2] rfl Jt3
set_option maxHeartbeats 4000000 in
set_option maxRecDepth 100000 in
theorem k_X12_greatest {G : omG}  (σ : omH) (t : Int) (h : s_X12_greatest  σ = some t) : omM G yX12_greatest (.code yX12_greatest cX12_greatest 4 (some .int)) 1 0 [.ref (G.1 43)] σ (.inr (some (.int (omi t)))) σ := by
  unfold s_X12_greatest at h
  refine om_head (own := RX12) (ls := [(0, .ref (G.1 43))]) (by decide +kernel) rfl (by simp [lg_sl, Value.category]) rfl (by simp [Value.category]) (fun x C F => ?_)
  refine v_ldc C kc_X12_111 dX12_greatest_0 ?_
  refine v_istore_n C (ls' := [(0, .ref (G.1 43)), (1, .int (omi (-1000000)))]) rfl (by decide) rfl dX12_greatest_2 ?_
  refine v_iconst C (n := 0) dX12_greatest_3 ?_
  refine v_istore_n C (ls' := [(0, .ref (G.1 43)), (1, .int (omi (-1000000))), (2, .int (omi 0))]) rfl (by decide) rfl dX12_greatest_4 ?_
  obtain ⟨t4, et4, h⟩ := om_bind h
  refine kl_X12_greatest_5 C  σ FU _ _ t4 et4 ?_
  refine v_iload_n C (q := 0) rfl rfl dX12_greatest_44 ?_
  cases h
  exact v_iret C F dX12_greatest_45 (Nat.zero_le _)
set_option maxHeartbeats 4000000 in
set_option maxRecDepth 100000 in
theorem kl_X12_sum_4 {G : omG} {x : omX} (C : omC G x RX12 cX12_sum 5 (2) 0) (v1 : Int) (σ : omH) : ∀ (n : Nat) (v2 : Int) (v3 : Int) (t : Int), l_X12_sum_4 v1 σ n v2 v3 = some t → omV G x 5 98 [(2, .int (omi t))] [] σ 0 → omV G x 5 4 [(0, .ref (G.1 43)), (1, .int (omi v1)), (2, .int (omi v2)), (3, .int (omi v3))] [] σ 0 := by
  intro n
  induction n with
  | zero => intro v2 v3 t h K; cases h
  | succ n ih =>
    intro v2 v3 t h K
    rw [l_X12_sum_4.eq_2] at h
    refine v_iload_n C (q := 3) rfl rfl dX12_sum_4 ?_
    refine v_aload_n C (q := 0) rfl rfl dX12_sum_5 ?_
    refine v_geti C (q := 27) (o := 43) fi_X12_63 rfl rfl dX12_sum_6 ?_
    refine v_icmp_ge C (tgt := 98) dX12_sum_9 rfl (fun hc => ?_) (fun hc => ?_)
    · replace h := (if_neg hc).symm.trans h
      cases h
      exact v_subp [2] rfl K
    · replace h := (if_pos hc).symm.trans h
      refine v_aload_n C (q := 0) rfl rfl dX12_sum_12 ?_
      refine v_getr C (q := 27) (o := 43) (r := 53) fi_X12_37 rfl rfl rfl dX12_sum_13 ?_
      refine v_iload_n C (q := 3) rfl rfl dX12_sum_16 ?_
      obtain ⟨g1, h⟩ := omg_some h
      refine v_iald C (q := 37) (o := 53) (n := 10) rfl g1 dX12_sum_17 ?_
      refine v_aload_n C (q := 0) rfl rfl dX12_sum_18 ?_
      refine v_getr C (q := 27) (o := 43) (r := 45) fi_X12_13 rfl rfl rfl dX12_sum_19 ?_
      refine v_iload_n C (q := 3) rfl rfl dX12_sum_22 ?_
      obtain ⟨g2, h⟩ := omg_some h
      refine v_iald C (q := 29) (o := 45) (n := 10) rfl g2 dX12_sum_23 ?_
      obtain ⟨t3, et3, h⟩ := om_bind h
      have Jt3 : omV G x 5 32 [(0, .ref (G.1 43)), (1, .int (omi v1)), (2, .int (omi v2)), (3, .int (omi v3))] [.int (omi t3)] σ 0 := by
        refine v_istore C (ls' := [(0, .ref (G.1 43)), (1, .int (omi v1)), (2, .int (omi v2)), (3, .int (omi v3)), (4, .int (omi t3))]) (by decide) rfl dX12_sum_32 ?_
        refine v_iload_n C (q := 2) rfl rfl dX12_sum_34 ?_
        refine v_iload_n C (q := 1) rfl rfl dX12_sum_35 ?_
        obtain ⟨t4, et4, h⟩ := om_bind h
        have Jt4 : omV G x 5 90 [(0, .ref (G.1 43)), (1, .int (omi v1)), (3, .int (omi v3))] [.int (omi t4), .int (omi v2)] σ 0 := by
          refine v_iadd C dX12_sum_90 ?_
          refine v_istore_n C (ls' := [(0, .ref (G.1 43)), (1, .int (omi v1)), (3, .int (omi v3)), (2, .int (omi (v2 + t4)))]) rfl (by decide) rfl dX12_sum_91 ?_
          refine v_iinc C (q := 2) (ls' := [(0, .ref (G.1 43)), (1, .int (omi v1)), (3, .int (omi (v3 + 1))), (2, .int (omi (v2 + t4)))]) rfl (by decide) rfl rfl dX12_sum_92 ?_
          refine v_goto C (tgt := 4) dX12_sum_95 rfl ?_
          exact v_subp [0, 1, 3, 2] rfl (ih _ _ _ h K)
        clear h
        have h := et4
        clear et4
        refine v_if_ne C (tgt := 44) dX12_sum_36 rfl (fun hc => ?_) (fun hc => ?_)
        · replace h := (if_neg hc).symm.trans h
          refine v_iload_n C (q := 1) rfl rfl dX12_sum_44 ?_
          refine v_iconst C (n := 1) dX12_sum_45 ?_
          refine v_icmp_ne C (tgt := 58) dX12_sum_46 rfl (fun hc => ?_) (fun hc => ?_)
          · replace h := (if_neg hc).symm.trans h
            refine v_iload_n C (q := 1) rfl rfl dX12_sum_58 ?_
            refine v_iconst C (n := 2) dX12_sum_59 ?_
            refine v_icmp_ne C (tgt := 79) dX12_sum_60 rfl (fun hc => ?_) (fun hc => ?_)
            · replace h := (if_neg hc).symm.trans h
              refine v_aload_n C (q := 0) rfl rfl dX12_sum_79 ?_
              refine v_iload_n C (q := 3) rfl rfl dX12_sum_80 ?_
              refine v_aload_n C (q := 0) rfl rfl dX12_sum_81 ?_
              refine v_getr C (q := 27) (o := 43) (r := 53) fi_X12_37 rfl rfl rfl dX12_sum_82 ?_
              refine v_iload_n C (q := 3) rfl rfl dX12_sum_85 ?_
              obtain ⟨g5, h⟩ := omg_some h
              refine v_iald C (q := 37) (o := 53) (n := 10) rfl g5 dX12_sum_86 ?_
              obtain ⟨r6, er6, h⟩ := om_bind h
              refine v_invV_i (As := [.int (omi v3), .int (omi (σ 53 (omw v3).toNat))]) C mi_X12_tardy ml_X12_102 (k_X12_tardy v3 (σ 53 (omw v3).toNat) σ _ er6) (q := 27) rfl rfl rfl (by decide) (Nat.zero_le _) rfl (Nat.le_of_ble_eq_true rfl) dX12_sum_87 ?_
              cases h
              exact v_subp [0, 1, 3] rfl Jt4
            · replace h := (if_pos hc).symm.trans h
              refine v_aload_n C (q := 0) rfl rfl dX12_sum_63 ?_
              refine v_getr C (q := 27) (o := 43) (r := 46) fi_X12_16 rfl rfl rfl dX12_sum_64 ?_
              refine v_iload_n C (q := 3) rfl rfl dX12_sum_67 ?_
              obtain ⟨g7, h⟩ := omg_some h
              refine v_iald C (q := 30) (o := 46) (n := 10) rfl g7 dX12_sum_68 ?_
              refine v_aload_n C (q := 0) rfl rfl dX12_sum_69 ?_
              refine v_getr C (q := 27) (o := 43) (r := 53) fi_X12_37 rfl rfl rfl dX12_sum_70 ?_
              refine v_iload_n C (q := 3) rfl rfl dX12_sum_73 ?_
              obtain ⟨g8, h⟩ := omg_some h
              refine v_iald C (q := 37) (o := 53) (n := 10) rfl g8 dX12_sum_74 ?_
              refine v_imul C dX12_sum_75 ?_
              refine v_goto C (tgt := 90) dX12_sum_76 rfl ?_
              cases h
              exact v_subp [0, 1, 3] rfl Jt4
          · replace h := (if_pos hc).symm.trans h
            refine v_aload_n C (q := 0) rfl rfl dX12_sum_49 ?_
            refine v_getr C (q := 27) (o := 43) (r := 53) fi_X12_37 rfl rfl rfl dX12_sum_50 ?_
            refine v_iload_n C (q := 3) rfl rfl dX12_sum_53 ?_
            obtain ⟨g9, h⟩ := omg_some h
            refine v_iald C (q := 37) (o := 53) (n := 10) rfl g9 dX12_sum_54 ?_
            refine v_goto C (tgt := 90) dX12_sum_55 rfl ?_
            cases h
            exact v_subp [0, 1, 3] rfl Jt4
        · replace h := (if_pos hc).symm.trans h
          refine v_iload C (q := 4) rfl dX12_sum_39 ?_
          refine v_goto C (tgt := 90) dX12_sum_41 rfl ?_
          cases h
          exact v_subp [0, 1, 3] rfl Jt4
      clear h
      have h := et3
      clear et3
      refine v_icmp_le C (tgt := 31) dX12_sum_24 rfl (fun hc => ?_) (fun hc => ?_)
      · replace h := (if_neg hc).symm.trans h
        refine v_iconst C (n := 0) dX12_sum_31 ?_
        cases h
        exact Jt3
      · replace h := (if_pos hc).symm.trans h
        refine v_iconst C (n := 1) dX12_sum_27 ?_
        refine v_goto C (tgt := 32) dX12_sum_28 rfl ?_
        cases h
        exact Jt3
set_option maxHeartbeats 4000000 in
set_option maxRecDepth 100000 in
theorem k_X12_sum {G : omG} (v1 : Int) (σ : omH) (t : Int) (h : s_X12_sum v1 σ = some t) : omM G yX12_sum (.code yX12_sum cX12_sum 5 (some .int)) 2 0 [.ref (G.1 43), .int (omi v1)] σ (.inr (some (.int (omi t)))) σ := by
  unfold s_X12_sum at h
  refine om_head (own := RX12) (ls := [(0, .ref (G.1 43)), (1, .int (omi v1))]) (by decide +kernel) rfl (by simp [lg_sl, Value.category]) rfl (by simp [Value.category]) (fun x C F => ?_)
  refine v_iconst C (n := 0) dX12_sum_0 ?_
  refine v_istore_n C (ls' := [(0, .ref (G.1 43)), (1, .int (omi v1)), (2, .int (omi 0))]) rfl (by decide) rfl dX12_sum_1 ?_
  refine v_iconst C (n := 0) dX12_sum_2 ?_
  refine v_istore_n C (ls' := [(0, .ref (G.1 43)), (1, .int (omi v1)), (2, .int (omi 0)), (3, .int (omi 0))]) rfl (by decide) rfl dX12_sum_3 ?_
  obtain ⟨t10, et10, h⟩ := om_bind h
  refine kl_X12_sum_4 C v1 σ FU _ _ t10 et10 ?_
  refine v_iload_n C (q := 0) rfl rfl dX12_sum_98 ?_
  cases h
  exact v_iret C F dX12_sum_99 (Nat.zero_le _)
set_option maxHeartbeats 4000000 in
set_option maxRecDepth 100000 in
theorem kl_X12_worked_5 {G : omG} {x : omX} (C : omC G x RX12 cX12_worked 7 (2) 0) (v1 : Int) (v2 : Int) (σ : omH) : ∀ (n : Nat) (v3 : Int) (v4 : Int) (t : Int), l_X12_worked_5 v1 v2 σ n v3 v4 = some t → omV G x 7 110 [(3, .int (omi t))] [] σ 0 → omV G x 7 5 [(0, .ref (G.1 43)), (1, .int (omi v1)), (2, .int (omi v2)), (3, .int (omi v3)), (4, .int (omi v4))] [] σ 0 := by
  intro n
  induction n with
  | zero => intro v3 v4 t h K; cases h
  | succ n ih =>
    intro v3 v4 t h K
    rw [l_X12_worked_5.eq_2] at h
    refine v_iload C (q := 4) rfl dX12_worked_5 ?_
    refine v_aload_n C (q := 0) rfl rfl dX12_worked_7 ?_
    refine v_geti C (q := 27) (o := 43) fi_X12_63 rfl rfl dX12_worked_8 ?_
    refine v_icmp_ge C (tgt := 110) dX12_worked_11 rfl (fun hc => ?_) (fun hc => ?_)
    · replace h := (if_neg hc).symm.trans h
      cases h
      exact v_subp [3] rfl K
    · replace h := (if_pos hc).symm.trans h
      refine v_aload_n C (q := 0) rfl rfl dX12_worked_14 ?_
      refine v_getr C (q := 27) (o := 43) (r := 47) fi_X12_19 rfl rfl rfl dX12_worked_15 ?_
      refine v_iload C (q := 4) rfl dX12_worked_18 ?_
      obtain ⟨g1, h⟩ := omg_some h
      refine v_iald C (q := 31) (o := 47) (n := 10) rfl g1 dX12_worked_20 ?_
      refine v_iload_n C (q := 1) rfl rfl dX12_worked_21 ?_
      obtain ⟨t2, et2, h⟩ := om_bind h
      have Jt2 : omV G x 7 40 [(0, .ref (G.1 43)), (1, .int (omi v1)), (2, .int (omi v2)), (3, .int (omi v3)), (4, .int (omi v4))] [.int (omi t2)] σ 0 := by
        refine v_istore C (ls' := [(0, .ref (G.1 43)), (1, .int (omi v1)), (2, .int (omi v2)), (3, .int (omi v3)), (4, .int (omi v4)), (5, .int (omi t2))]) (by decide) rfl dX12_worked_40 ?_
        refine v_iload_n C (q := 3) rfl rfl dX12_worked_42 ?_
        refine v_iconst C (n := (-1)) dX12_worked_43 ?_
        obtain ⟨t3, et3, h⟩ := om_bind h
        have Jt3 : omV G x 7 85 [(0, .ref (G.1 43)), (1, .int (omi v1)), (2, .int (omi v2)), (3, .int (omi v3)), (4, .int (omi v4)), (5, .int (omi t2))] [.int (omi t3)] σ 0 := by
          refine v_istore C (ls' := [(0, .ref (G.1 43)), (1, .int (omi v1)), (2, .int (omi v2)), (3, .int (omi v3)), (4, .int (omi v4)), (5, .int (omi t2)), (6, .int (omi t3))]) (by decide) rfl dX12_worked_85 ?_
          refine v_iload C (q := 5) rfl dX12_worked_87 ?_
          obtain ⟨t4, et4, h⟩ := om_bind h
          have Jt4 : omV G x 7 103 [(0, .ref (G.1 43)), (1, .int (omi v1)), (2, .int (omi v2)), (4, .int (omi v4))] [.int (omi t4)] σ 0 := by
            refine v_istore_n C (ls' := [(0, .ref (G.1 43)), (1, .int (omi v1)), (2, .int (omi v2)), (4, .int (omi v4)), (3, .int (omi t4))]) rfl (by decide) rfl dX12_worked_103 ?_
            refine v_iinc C (q := 3) (ls' := [(0, .ref (G.1 43)), (1, .int (omi v1)), (2, .int (omi v2)), (4, .int (omi (v4 + 1))), (3, .int (omi t4))]) rfl (by decide) rfl rfl dX12_worked_104 ?_
            refine v_goto C (tgt := 5) dX12_worked_107 rfl ?_
            exact v_subp [0, 1, 2, 4, 3] rfl (ih _ _ _ h K)
          clear h
          have h := et4
          clear et4
          refine v_if_eq C (tgt := 102) dX12_worked_89 rfl (fun hc => ?_) (fun hc => ?_)
          · replace h := (if_pos hc).symm.trans h
            refine v_iload_n C (q := 3) rfl rfl dX12_worked_102 ?_
            cases h
            exact v_subp [0, 1, 2, 4] rfl Jt4
          · replace h := (if_neg hc).symm.trans h
            refine v_iload C (q := 6) rfl dX12_worked_92 ?_
            refine v_if_eq C (tgt := 102) dX12_worked_94 rfl (fun hc => ?_) (fun hc => ?_)
            · replace h := (if_pos hc).symm.trans h
              refine v_iload_n C (q := 3) rfl rfl dX12_worked_102 ?_
              cases h
              exact v_subp [0, 1, 2, 4] rfl Jt4
            · replace h := (if_neg hc).symm.trans h
              refine v_iload C (q := 4) rfl dX12_worked_97 ?_
              refine v_goto C (tgt := 103) dX12_worked_99 rfl ?_
              cases h
              exact v_subp [0, 1, 2, 4] rfl Jt4
        clear h
        have h := et3
        clear et3
        refine v_icmp_eq C (tgt := 80) dX12_worked_44 rfl (fun hc => ?_) (fun hc => ?_)
        · replace h := (if_pos hc).symm.trans h
          refine v_iconst C (n := 1) dX12_worked_80 ?_
          refine v_goto C (tgt := 85) dX12_worked_81 rfl ?_
          cases h
          exact Jt3
        · replace h := (if_neg hc).symm.trans h
          refine v_iload_n C (q := 2) rfl rfl dX12_worked_47 ?_
          refine v_if_eq C (tgt := 64) dX12_worked_48 rfl (fun hc => ?_) (fun hc => ?_)
          · replace h := (if_pos hc).symm.trans h
            refine v_aload_n C (q := 0) rfl rfl dX12_worked_64 ?_
            refine v_getr C (q := 27) (o := 43) (r := 55) fi_X12_43 rfl rfl rfl dX12_worked_65 ?_
            refine v_iload C (q := 4) rfl dX12_worked_68 ?_
            obtain ⟨g5, h⟩ := omg_some h
            refine v_iald C (q := 39) (o := 55) (n := 10) rfl g5 dX12_worked_70 ?_
            refine v_aload_n C (q := 0) rfl rfl dX12_worked_71 ?_
            refine v_getr C (q := 27) (o := 43) (r := 55) fi_X12_43 rfl rfl rfl dX12_worked_72 ?_
            refine v_iload_n C (q := 3) rfl rfl dX12_worked_75 ?_
            obtain ⟨g6, h⟩ := omg_some h
            refine v_iald C (q := 39) (o := 55) (n := 10) rfl g6 dX12_worked_76 ?_
            refine v_icmp_ge C (tgt := 84) dX12_worked_77 rfl (fun hc => ?_) (fun hc => ?_)
            · replace h := (if_neg hc).symm.trans h
              refine v_iconst C (n := 0) dX12_worked_84 ?_
              cases h
              exact Jt3
            · replace h := (if_pos hc).symm.trans h
              refine v_iconst C (n := 1) dX12_worked_80 ?_
              refine v_goto C (tgt := 85) dX12_worked_81 rfl ?_
              cases h
              exact Jt3
          · replace h := (if_neg hc).symm.trans h
            refine v_aload_n C (q := 0) rfl rfl dX12_worked_51 ?_
            refine v_iload C (q := 4) rfl dX12_worked_52 ?_
            refine v_iload_n C (q := 3) rfl rfl dX12_worked_54 ?_
            obtain ⟨r7, er7, h⟩ := om_bind h
            refine v_invV_i (As := [.int (omi v4), .int (omi v3)]) C mi_X12_comesByDue ml_X12_95 (k_X12_comesByDue v4 v3 σ _ er7) (q := 27) rfl rfl rfl (by decide) (Nat.zero_le _) rfl (Nat.le_of_ble_eq_true rfl) dX12_worked_55 ?_
            refine v_if_eq C (tgt := 84) dX12_worked_58 rfl (fun hc => ?_) (fun hc => ?_)
            · replace h := (if_pos hc).symm.trans h
              refine v_iconst C (n := 0) dX12_worked_84 ?_
              cases h
              exact Jt3
            · replace h := (if_neg hc).symm.trans h
              refine v_goto C (tgt := 80) dX12_worked_61 rfl ?_
              refine v_iconst C (n := 1) dX12_worked_80 ?_
              refine v_goto C (tgt := 85) dX12_worked_81 rfl ?_
              cases h
              exact Jt3
      clear h
      have h := et2
      clear et2
      refine v_icmp_gt C (tgt := 39) dX12_worked_22 rfl (fun hc => ?_) (fun hc => ?_)
      · replace h := (if_pos hc).symm.trans h
        refine v_iconst C (n := 0) dX12_worked_39 ?_
        cases h
        exact Jt2
      · replace h := (if_neg hc).symm.trans h
        refine v_aload_n C (q := 0) rfl rfl dX12_worked_25 ?_
        refine v_getr C (q := 27) (o := 43) (r := 55) fi_X12_43 rfl rfl rfl dX12_worked_26 ?_
        refine v_iload C (q := 4) rfl dX12_worked_29 ?_
        obtain ⟨g8, h⟩ := omg_some h
        refine v_iald C (q := 39) (o := 55) (n := 10) rfl g8 dX12_worked_31 ?_
        refine v_if_le C (tgt := 39) dX12_worked_32 rfl (fun hc => ?_) (fun hc => ?_)
        · replace h := (if_neg hc).symm.trans h
          refine v_iconst C (n := 0) dX12_worked_39 ?_
          cases h
          exact Jt2
        · replace h := (if_pos hc).symm.trans h
          refine v_iconst C (n := 1) dX12_worked_35 ?_
          refine v_goto C (tgt := 40) dX12_worked_36 rfl ?_
          cases h
          exact Jt2
set_option maxHeartbeats 4000000 in
set_option maxRecDepth 100000 in
theorem k_X12_worked {G : omG} (v1 : Int) (v2 : Int) (σ : omH) (t : Int) (h : s_X12_worked v1 v2 σ = some t) : omM G yX12_worked (.code yX12_worked cX12_worked 7 (some .int)) 2 0 [.ref (G.1 43), .int (omi v1), .int (omi v2)] σ (.inr (some (.int (omi t)))) σ := by
  unfold s_X12_worked at h
  refine om_head (own := RX12) (ls := [(0, .ref (G.1 43)), (1, .int (omi v1)), (2, .int (omi v2))]) (by decide +kernel) rfl (by simp [lg_sl, Value.category]) rfl (by simp [Value.category]) (fun x C F => ?_)
  refine v_iconst C (n := (-1)) dX12_worked_0 ?_
  refine v_istore_n C (ls' := [(0, .ref (G.1 43)), (1, .int (omi v1)), (2, .int (omi v2)), (3, .int (omi (-1)))]) rfl (by decide) rfl dX12_worked_1 ?_
  refine v_iconst C (n := 0) dX12_worked_2 ?_
  refine v_istore C (ls' := [(0, .ref (G.1 43)), (1, .int (omi v1)), (2, .int (omi v2)), (3, .int (omi (-1))), (4, .int (omi 0))]) (by decide) rfl dX12_worked_3 ?_
  obtain ⟨t9, et9, h⟩ := om_bind h
  refine kl_X12_worked_5 C v1 v2 σ FU _ _ t9 et9 ?_
  refine v_iload_n C (q := 0) rfl rfl dX12_worked_110 ?_
  cases h
  exact v_iret C F dX12_worked_111 (Nat.zero_le _)
set_option maxHeartbeats 4000000 in
set_option maxRecDepth 100000 in
theorem kl_X12_worksByTime_8 {G : omG} {x : omX} (C : omC G x RX12 cX12_worksByTime 4 (3) 0) (v1 : Int) : ∀ (n : Nat) (v2 : Int) (v3 : Int) (σ : omH) (t : Int × omH), l_X12_worksByTime_8 v1 n v2 v3 σ = some t → omV G x 4 43 [(0, .ref (G.1 43)), (1, .int (omi v1)), (2, .int (omi t.1))] [] t.2 0 → omV G x 4 8 [(0, .ref (G.1 43)), (1, .int (omi v1)), (2, .int (omi v2)), (3, .int (omi v3))] [] σ 0 := by
  intro n
  induction n with
  | zero => intro v2 v3 σ t h K; cases h
  | succ n ih =>
    intro v2 v3 σ t h K
    rw [l_X12_worksByTime_8.eq_2] at h
    refine v_iload_n C (q := 3) rfl rfl dX12_worksByTime_8 ?_
    refine v_aload_n C (q := 0) rfl rfl dX12_worksByTime_9 ?_
    refine v_geti C (q := 27) (o := 43) fi_X12_63 rfl rfl dX12_worksByTime_10 ?_
    refine v_icmp_ge C (tgt := 43) dX12_worksByTime_13 rfl (fun hc => ?_) (fun hc => ?_)
    · replace h := (if_neg hc).symm.trans h
      cases h
      exact v_subp [0, 1, 2] rfl K
    · replace h := (if_pos hc).symm.trans h
      refine v_aload_n C (q := 0) rfl rfl dX12_worksByTime_16 ?_
      refine v_getr C (q := 27) (o := 43) (r := 55) fi_X12_43 rfl rfl rfl dX12_worksByTime_17 ?_
      refine v_iload_n C (q := 3) rfl rfl dX12_worksByTime_20 ?_
      refine v_aload_n C (q := 0) rfl rfl dX12_worksByTime_21 ?_
      refine v_getr C (q := 27) (o := 43) (r := 44) fi_X12_7 rfl rfl rfl dX12_worksByTime_22 ?_
      refine v_iload_n C (q := 3) rfl rfl dX12_worksByTime_25 ?_
      obtain ⟨g2, h⟩ := omg_some h
      refine v_iald C (q := 28) (o := 44) (n := 10) rfl g2 dX12_worksByTime_26 ?_
      obtain ⟨g3, h⟩ := omg_some h
      refine v_iast C (q := 39) (o := 55) (n := 10) rfl g3 dX12_worksByTime_27 ?_
      refine v_iload_n C (q := 2) rfl rfl dX12_worksByTime_28 ?_
      refine v_aload_n C (q := 0) rfl rfl dX12_worksByTime_29 ?_
      refine v_getr C (q := 27) (o := 43) (r := 44) fi_X12_7 rfl rfl rfl dX12_worksByTime_30 ?_
      refine v_iload_n C (q := 3) rfl rfl dX12_worksByTime_33 ?_
      obtain ⟨g4, h⟩ := omg_some h
      refine v_iald C (q := 28) (o := 44) (n := 10) rfl g4 dX12_worksByTime_34 ?_
      refine v_iadd C dX12_worksByTime_35 ?_
      refine v_istore_n C (ls' := [(0, .ref (G.1 43)), (1, .int (omi v1)), (2, .int (omi (v2 + ((omsu σ 55 (omw v3).toNat (σ 44 (omw v3).toNat)) 44 (omw v3).toNat)))), (3, .int (omi v3))]) rfl (by decide) rfl dX12_worksByTime_36 ?_
      refine v_iinc C (q := 3) (ls' := [(0, .ref (G.1 43)), (1, .int (omi v1)), (2, .int (omi (v2 + ((omsu σ 55 (omw v3).toNat (σ 44 (omw v3).toNat)) 44 (omw v3).toNat)))), (3, .int (omi (v3 + 1)))]) rfl (by decide) rfl rfl dX12_worksByTime_37 ?_
      refine v_goto C (tgt := 8) dX12_worksByTime_40 rfl ?_
      exact ih _ _ _ _ h K
set_option maxHeartbeats 4000000 in
set_option maxRecDepth 100000 in
theorem kl_X12_worksByTime_43 {G : omG} {x : omX} (C : omC G x RX12 cX12_worksByTime 4 (3) 0) (v1 : Int) : ∀ (n : Nat) (v2 : Int) (σ : omH) (t : omH), l_X12_worksByTime_43 v1 n v2 σ = some t → omV G x 4 94 [] [] t 0 → omV G x 4 43 [(0, .ref (G.1 43)), (1, .int (omi v1)), (2, .int (omi v2))] [] σ 0 := by
  intro n
  induction n with
  | zero => intro v2 σ t h K; cases h
  | succ n ih =>
    intro v2 σ t h K
    rw [l_X12_worksByTime_43.eq_2] at h
    refine v_iload_n C (q := 2) rfl rfl dX12_worksByTime_43 ?_
    refine v_if_le C (tgt := 94) dX12_worksByTime_44 rfl (fun hc => ?_) (fun hc => ?_)
    · replace h := (if_neg hc).symm.trans h
      cases h
      exact v_subp [] rfl K
    · replace h := (if_pos hc).symm.trans h
      refine v_aload_n C (q := 0) rfl rfl dX12_worksByTime_47 ?_
      refine v_aload_n C (q := 0) rfl rfl dX12_worksByTime_48 ?_
      obtain ⟨r6, er6, h⟩ := om_bind h
      refine v_invV_i (As := []) C mi_X12_now ml_X12_122 (k_X12_now  σ _ er6) (q := 27) rfl rfl rfl (by decide) (Nat.zero_le _) rfl (Nat.le_of_ble_eq_true rfl) dX12_worksByTime_49 ?_
      refine v_iload_n C (q := 1) rfl rfl dX12_worksByTime_52 ?_
      obtain ⟨r7, er7, h⟩ := om_bind h
      refine v_invV_i (As := [.int (omi r6), .int (omi v1)]) C mi_X12_worked ml_X12_133 (k_X12_worked r6 v1 σ _ er7) (q := 27) rfl rfl rfl (by decide) (Nat.zero_le _) rfl (Nat.le_of_ble_eq_true rfl) dX12_worksByTime_53 ?_
      refine v_istore_n C (ls' := [(0, .ref (G.1 43)), (1, .int (omi v1)), (2, .int (omi v2)), (3, .int (omi r7))]) rfl (by decide) rfl dX12_worksByTime_56 ?_
      refine v_aload_n C (q := 0) rfl rfl dX12_worksByTime_57 ?_
      refine v_iload_n C (q := 3) rfl rfl dX12_worksByTime_58 ?_
      refine v_iconst C (n := (-1)) dX12_worksByTime_59 ?_
      obtain ⟨t8, et8, h⟩ := om_bind h
      have Jt8 : omV G x 4 68 [(0, .ref (G.1 43)), (1, .int (omi v1)), (2, .int (omi v2)), (3, .int (omi r7))] [.int (omi t8), .ref (G.1 43)] σ 0 := by
        refine v_iload_n C (q := 3) rfl rfl dX12_worksByTime_68 ?_
        refine v_iconst C (n := 1) dX12_worksByTime_69 ?_
        obtain ⟨r9, er9, h⟩ := om_bind h
        refine v_invV_v (As := [.int (omi t8), .int (omi r7), .int (omi 1)]) C mi_X12_works ml_X12_129 (k_X12_works t8 r7 1 σ _ er9) (q := 27) rfl rfl rfl (by decide) (Nat.zero_le _) rfl (Nat.le_of_ble_eq_true rfl) dX12_worksByTime_70 ?_
        refine v_iload_n C (q := 3) rfl rfl dX12_worksByTime_73 ?_
        refine v_iconst C (n := (-1)) dX12_worksByTime_74 ?_
        refine v_icmp_eq C (tgt := 91) dX12_worksByTime_75 rfl (fun hc => ?_) (fun hc => ?_)
        · replace h := (if_pos hc).symm.trans h
          refine v_goto C (tgt := 43) dX12_worksByTime_91 rfl ?_
          exact v_subp [0, 1, 2] rfl (ih _ _ _ h K)
        · replace h := (if_neg hc).symm.trans h
          refine v_aload_n C (q := 0) rfl rfl dX12_worksByTime_78 ?_
          refine v_getr C (q := 27) (o := 43) (r := 55) fi_X12_43 rfl rfl rfl dX12_worksByTime_79 ?_
          refine v_iload_n C (q := 3) rfl rfl dX12_worksByTime_82 ?_
          refine v_dup2 C rfl rfl dX12_worksByTime_83 ?_
          obtain ⟨g10, h⟩ := omg_some h
          refine v_iald C (q := 39) (o := 55) (n := 10) rfl g10 dX12_worksByTime_84 ?_
          refine v_iconst C (n := 1) dX12_worksByTime_85 ?_
          refine v_isub C dX12_worksByTime_86 ?_
          obtain ⟨g11, h⟩ := omg_some h
          refine v_iast C (q := 39) (o := 55) (n := 10) rfl g11 dX12_worksByTime_87 ?_
          refine v_iinc C (q := 2) (ls' := [(0, .ref (G.1 43)), (1, .int (omi v1)), (2, .int (omi (v2 + (-1)))), (3, .int (omi r7))]) rfl (by decide) rfl rfl dX12_worksByTime_88 ?_
          refine v_goto C (tgt := 43) dX12_worksByTime_91 rfl ?_
          exact v_subp [0, 1, 2] rfl (ih _ _ _ h K)
      clear h
      have h := et8
      clear et8
      refine v_icmp_ne C (tgt := 67) dX12_worksByTime_60 rfl (fun hc => ?_) (fun hc => ?_)
      · replace h := (if_neg hc).symm.trans h
        refine v_iconst C (n := 0) dX12_worksByTime_67 ?_
        cases h
        exact Jt8
      · replace h := (if_pos hc).symm.trans h
        refine v_iconst C (n := 2) dX12_worksByTime_63 ?_
        refine v_goto C (tgt := 68) dX12_worksByTime_64 rfl ?_
        cases h
        exact Jt8
set_option maxHeartbeats 4000000 in
set_option maxRecDepth 100000 in
theorem k_X12_worksByTime {G : omG} (v1 : Int) (σ : omH) (t : omH) (h : s_X12_worksByTime v1 σ = some t) : omM G yX12_worksByTime (.code yX12_worksByTime cX12_worksByTime 4 none) 3 0 [.ref (G.1 43), .int (omi v1)] σ (.inr none) t := by
  unfold s_X12_worksByTime at h
  refine om_head (own := RX12) (ls := [(0, .ref (G.1 43)), (1, .int (omi v1))]) (by decide +kernel) rfl (by simp [lg_sl, Value.category]) rfl (by simp [Value.category]) (fun x C F => ?_)
  refine v_aload_n C (q := 0) rfl rfl dX12_worksByTime_0 ?_
  obtain ⟨r1, er1, h⟩ := om_bind h
  refine v_invV_v (As := []) C mi_X12_begins ml_X12_126 (k_X12_begins  σ _ er1) (q := 27) rfl rfl rfl (by decide) (Nat.zero_le _) rfl (Nat.le_of_ble_eq_true rfl) dX12_worksByTime_1 ?_
  refine v_iconst C (n := 0) dX12_worksByTime_4 ?_
  refine v_istore_n C (ls' := [(0, .ref (G.1 43)), (1, .int (omi v1)), (2, .int (omi 0))]) rfl (by decide) rfl dX12_worksByTime_5 ?_
  refine v_iconst C (n := 0) dX12_worksByTime_6 ?_
  refine v_istore_n C (ls' := [(0, .ref (G.1 43)), (1, .int (omi v1)), (2, .int (omi 0)), (3, .int (omi 0))]) rfl (by decide) rfl dX12_worksByTime_7 ?_
  obtain ⟨t5, et5, h⟩ := om_bind h
  refine kl_X12_worksByTime_8 C v1 FU _ _ _ t5 et5 ?_
  obtain ⟨t12, et12, h⟩ := om_bind h
  refine kl_X12_worksByTime_43 C v1 FU _ _ t12 et12 ?_
  cases h
  exact v_vret C F dX12_worksByTime_94 (Nat.zero_le _)
set_option maxHeartbeats 4000000 in
set_option maxRecDepth 100000 in
theorem k_X12_hasJobs {G : omG}  (σ : omH) (t : Int × omH) (h : s_X12_hasJobs  σ = some t) : omM G yX12_hasJobs (.code yX12_hasJobs cX12_hasJobs 1 (some .boolean)) 2 0 [.ref (G.1 43)] σ (.inr (some (.int (omi t.1)))) t.2 := by
  unfold s_X12_hasJobs at h
  refine om_head (own := RX12) (ls := [(0, .ref (G.1 43))]) (by decide +kernel) rfl (by simp [lg_sl, Value.category]) rfl (by simp [Value.category]) (fun x C F => ?_)
  refine v_aload_n C (q := 0) rfl rfl dX12_hasJobs_0 ?_
  refine v_aload_n C (q := 0) rfl rfl dX12_hasJobs_1 ?_
  refine v_geti C (q := 27) (o := 43) fi_X12_63 rfl rfl dX12_hasJobs_2 ?_
  obtain ⟨t1, et1, h⟩ := om_bind h
  have Jt1 : omV G x 1 13 [] [.int (omi t1), .ref (G.1 43)] σ 0 := by
    obtain ⟨r2, er2, h⟩ := om_bind h
    refine v_invV_i (As := [.int (omi t1)]) C mi_X12_holds ml_X12_84 (k_X12_holds t1 σ _ er2) (q := 27) rfl rfl rfl (by decide) (Nat.zero_le _) rfl (Nat.le_of_ble_eq_true rfl) dX12_hasJobs_13 ?_
    obtain ⟨g3, h⟩ := omg_some h
    cases h
    exact v_zret C g3 F dX12_hasJobs_16 (Nat.zero_le _)
  clear h
  have h := et1
  clear et1
  refine v_if_ne C (tgt := 12) dX12_hasJobs_5 rfl (fun hc => ?_) (fun hc => ?_)
  · replace h := (if_neg hc).symm.trans h
    refine v_iconst C (n := 0) dX12_hasJobs_12 ?_
    cases h
    exact v_subp [] rfl Jt1
  · replace h := (if_pos hc).symm.trans h
    refine v_iconst C (n := 1) dX12_hasJobs_8 ?_
    refine v_goto C (tgt := 13) dX12_hasJobs_9 rfl ?_
    cases h
    exact v_subp [] rfl Jt1
set_option maxHeartbeats 4000000 in
set_option maxRecDepth 100000 in
theorem k_X12_planByDueDates {G : omG}  (σ : omH) (t : Int × omH) (h : s_X12_planByDueDates  σ = some t) : omM G yX12_planByDueDates (.code yX12_planByDueDates cX12_planByDueDates 1 (some .int)) 4 0 [.ref (G.1 43)] σ (.inr (some (.int (omi t.1)))) t.2 := by
  unfold s_X12_planByDueDates at h
  refine om_head (own := RX12) (ls := [(0, .ref (G.1 43))]) (by decide +kernel) rfl (by simp [lg_sl, Value.category]) rfl (by simp [Value.category]) (fun x C F => ?_)
  refine v_aload_n C (q := 0) rfl rfl dX12_planByDueDates_0 ?_
  obtain ⟨r1, er1, h⟩ := om_bind h
  refine v_invV_i (As := []) C mi_X12_hasJobs ml_X12_137 (k_X12_hasJobs  σ _ er1) (q := 27) rfl rfl rfl (by decide) (Nat.zero_le _) rfl (Nat.le_of_ble_eq_true rfl) dX12_planByDueDates_1 ?_
  refine v_if_ne C (tgt := 9) dX12_planByDueDates_4 rfl (fun hc => ?_) (fun hc => ?_)
  · replace h := (if_neg hc).symm.trans h
    refine v_aload_n C (q := 0) rfl rfl dX12_planByDueDates_9 ?_
    refine v_iconst C (n := 1) dX12_planByDueDates_10 ?_
    obtain ⟨r2, er2, h⟩ := om_bind h
    refine v_invV_v (As := [.int (omi 1)]) C mi_X12_laysOrder ml_X12_141 (k_X12_laysOrder 1 r1.2 _ er2) (q := 27) rfl rfl rfl (by decide) (Nat.zero_le _) rfl (Nat.le_of_ble_eq_true rfl) dX12_planByDueDates_11 ?_
    refine v_aload_n C (q := 0) rfl rfl dX12_planByDueDates_14 ?_
    obtain ⟨r3, er3, h⟩ := om_bind h
    refine v_invV_v (As := []) C mi_X12_worksInOrder ml_X12_145 (k_X12_worksInOrder  r2 _ er3) (q := 27) rfl rfl rfl (by decide) (Nat.zero_le _) rfl (Nat.le_of_ble_eq_true rfl) dX12_planByDueDates_15 ?_
    refine v_aload_n C (q := 0) rfl rfl dX12_planByDueDates_18 ?_
    obtain ⟨r4, er4, h⟩ := om_bind h
    refine v_invV_i (As := []) C mi_X12_greatest ml_X12_148 (k_X12_greatest  r3 _ er4) (q := 27) rfl rfl rfl (by decide) (Nat.zero_le _) rfl (Nat.le_of_ble_eq_true rfl) dX12_planByDueDates_19 ?_
    cases h
    exact v_iret C F dX12_planByDueDates_22 (Nat.zero_le _)
  · replace h := (if_pos hc).symm.trans h
    refine v_iconst C (n := 0) dX12_planByDueDates_7 ?_
    cases h
    exact v_iret C F dX12_planByDueDates_8 (Nat.zero_le _)
set_option maxHeartbeats 4000000 in
set_option maxRecDepth 100000 in
theorem kl_X12_planFewestLate_68 {G : omG} {x : omX} (C : omC G x RX12 cX12_planFewestLate 7 (3) 0) (v1 : Int) (v2 : Int) (v3 : Int) (σ : omH) : ∀ (n : Nat) (v5 : Int) (v6 : Int) (t : Int), l_X12_planFewestLate_68 v1 v2 v3 σ n v5 v6 = some t → omV G x 7 125 [(0, .ref (G.1 43)), (1, .int (omi v1)), (2, .int (omi v2)), (3, .int (omi v3)), (5, .int (omi t))] [] σ 0 → omV G x 7 68 [(0, .ref (G.1 43)), (1, .int (omi v1)), (2, .int (omi v2)), (3, .int (omi v3)), (5, .int (omi v5)), (6, .int (omi v6))] [] σ 0 := by
  intro n
  induction n with
  | zero => intro v5 v6 t h K; cases h
  | succ n ih =>
    intro v5 v6 t h K
    rw [l_X12_planFewestLate_68.eq_2] at h
    refine v_iload C (q := 5) rfl dX12_planFewestLate_68 ?_
    refine v_aload_n C (q := 0) rfl rfl dX12_planFewestLate_70 ?_
    refine v_geti C (q := 27) (o := 43) fi_X12_63 rfl rfl dX12_planFewestLate_71 ?_
    refine v_icmp_ge C (tgt := 125) dX12_planFewestLate_74 rfl (fun hc => ?_) (fun hc => ?_)
    · replace h := (if_neg hc).symm.trans h
      cases h
      exact v_subp [0, 1, 2, 3, 4] rfl K
    · replace h := (if_pos hc).symm.trans h
      refine v_iload_n C (q := 1) rfl rfl dX12_planFewestLate_77 ?_
      refine v_iload C (q := 5) rfl dX12_planFewestLate_78 ?_
      refine v_ishr C dX12_planFewestLate_80 ?_
      refine v_iconst C (n := 1) dX12_planFewestLate_81 ?_
      refine v_iand C dX12_planFewestLate_82 ?_
      refine v_iconst C (n := 1) dX12_planFewestLate_83 ?_
      obtain ⟨t7, et7, h⟩ := om_bind h
      have Jt7 : omV G x 7 117 [(0, .ref (G.1 43)), (1, .int (omi v1)), (2, .int (omi v2)), (3, .int (omi v3)), (6, .int (omi v6))] [.int (omi t7)] σ 0 := by
        refine v_istore C (ls' := [(0, .ref (G.1 43)), (1, .int (omi v1)), (2, .int (omi v2)), (3, .int (omi v3)), (6, .int (omi v6)), (5, .int (omi t7))]) (by decide) rfl dX12_planFewestLate_117 ?_
        refine v_iinc C (q := 4) (ls' := [(0, .ref (G.1 43)), (1, .int (omi v1)), (2, .int (omi v2)), (3, .int (omi v3)), (6, .int (omi (v6 + 1))), (5, .int (omi t7))]) rfl (by decide) rfl rfl dX12_planFewestLate_119 ?_
        refine v_goto C (tgt := 68) dX12_planFewestLate_122 rfl ?_
        exact v_subp [0, 1, 2, 3, 5, 4] rfl (ih _ _ _ h K)
      clear h
      have h := et7
      clear et7
      refine v_icmp_ne C (tgt := 115) dX12_planFewestLate_84 rfl (fun hc => ?_) (fun hc => ?_)
      · replace h := (if_neg hc).symm.trans h
        refine v_iload C (q := 4) rfl dX12_planFewestLate_115 ?_
        cases h
        exact v_subp [0, 1, 2, 3, 5] rfl Jt7
      · replace h := (if_pos hc).symm.trans h
        refine v_iload C (q := 4) rfl dX12_planFewestLate_87 ?_
        refine v_iconst C (n := (-1)) dX12_planFewestLate_89 ?_
        refine v_icmp_eq C (tgt := 110) dX12_planFewestLate_90 rfl (fun hc => ?_) (fun hc => ?_)
        · replace h := (if_pos hc).symm.trans h
          refine v_iload C (q := 5) rfl dX12_planFewestLate_110 ?_
          refine v_goto C (tgt := 117) dX12_planFewestLate_112 rfl ?_
          cases h
          exact v_subp [0, 1, 2, 3, 5] rfl Jt7
        · replace h := (if_neg hc).symm.trans h
          refine v_aload_n C (q := 0) rfl rfl dX12_planFewestLate_93 ?_
          refine v_getr C (q := 27) (o := 43) (r := 44) fi_X12_7 rfl rfl rfl dX12_planFewestLate_94 ?_
          refine v_iload C (q := 5) rfl dX12_planFewestLate_97 ?_
          obtain ⟨g8, h⟩ := omg_some h
          refine v_iald C (q := 28) (o := 44) (n := 10) rfl g8 dX12_planFewestLate_99 ?_
          refine v_aload_n C (q := 0) rfl rfl dX12_planFewestLate_100 ?_
          refine v_getr C (q := 27) (o := 43) (r := 44) fi_X12_7 rfl rfl rfl dX12_planFewestLate_101 ?_
          refine v_iload C (q := 4) rfl dX12_planFewestLate_104 ?_
          obtain ⟨g9, h⟩ := omg_some h
          refine v_iald C (q := 28) (o := 44) (n := 10) rfl g9 dX12_planFewestLate_106 ?_
          refine v_icmp_lt C (tgt := 115) dX12_planFewestLate_107 rfl (fun hc => ?_) (fun hc => ?_)
          · replace h := (if_pos hc).symm.trans h
            refine v_iload C (q := 4) rfl dX12_planFewestLate_115 ?_
            cases h
            exact v_subp [0, 1, 2, 3, 5] rfl Jt7
          · replace h := (if_neg hc).symm.trans h
            refine v_iload C (q := 5) rfl dX12_planFewestLate_110 ?_
            refine v_goto C (tgt := 117) dX12_planFewestLate_112 rfl ?_
            cases h
            exact v_subp [0, 1, 2, 3, 5] rfl Jt7
set_option maxHeartbeats 4000000 in
set_option maxRecDepth 100000 in
theorem kl_X12_planFewestLate_24 {G : omG} {x : omX} (C : omC G x RX12 cX12_planFewestLate 7 (3) 0) : ∀ (n : Nat) (v1 : Int) (v2 : Int) (v3 : Int) (σ : omH) (t : Int × Int × omH), l_X12_planFewestLate_24  n v1 v2 v3 σ = some t → omV G x 7 151 [(0, .ref (G.1 43)), (1, .int (omi t.1)), (2, .int (omi t.2.1))] [] t.2.2 0 → omV G x 7 24 [(0, .ref (G.1 43)), (1, .int (omi v1)), (2, .int (omi v2)), (3, .int (omi v3))] [] σ 0 := by
  intro n
  induction n with
  | zero => intro v1 v2 v3 σ t h K; cases h
  | succ n ih =>
    intro v1 v2 v3 σ t h K
    rw [l_X12_planFewestLate_24.eq_2] at h
    refine v_iload_n C (q := 3) rfl rfl dX12_planFewestLate_24 ?_
    refine v_aload_n C (q := 0) rfl rfl dX12_planFewestLate_25 ?_
    refine v_geti C (q := 27) (o := 43) fi_X12_63 rfl rfl dX12_planFewestLate_26 ?_
    refine v_icmp_ge C (tgt := 151) dX12_planFewestLate_29 rfl (fun hc => ?_) (fun hc => ?_)
    · replace h := (if_neg hc).symm.trans h
      cases h
      exact v_subp [0, 1, 2] rfl K
    · replace h := (if_pos hc).symm.trans h
      refine v_aload_n C (q := 0) rfl rfl dX12_planFewestLate_32 ?_
      refine v_getr C (q := 27) (o := 43) (r := 54) fi_X12_40 rfl rfl rfl dX12_planFewestLate_33 ?_
      refine v_iload_n C (q := 3) rfl rfl dX12_planFewestLate_36 ?_
      obtain ⟨g4, h⟩ := omg_some h
      refine v_iald C (q := 38) (o := 54) (n := 10) rfl g4 dX12_planFewestLate_37 ?_
      refine v_istore C (ls' := [(0, .ref (G.1 43)), (1, .int (omi v1)), (2, .int (omi v2)), (3, .int (omi v3)), (4, .int (omi (σ 54 (omw v3).toNat)))]) (by decide) rfl dX12_planFewestLate_38 ?_
      refine v_iload_n C (q := 1) rfl rfl dX12_planFewestLate_40 ?_
      refine v_iconst C (n := 1) dX12_planFewestLate_41 ?_
      refine v_iload C (q := 4) rfl dX12_planFewestLate_42 ?_
      refine v_ishl C dX12_planFewestLate_44 ?_
      refine v_ior C dX12_planFewestLate_45 ?_
      refine v_istore_n C (ls' := [(0, .ref (G.1 43)), (1, .int (omi (omor v1 (omshl 1 (σ 54 (omw v3).toNat))))), (2, .int (omi v2)), (3, .int (omi v3)), (4, .int (omi (σ 54 (omw v3).toNat)))]) rfl (by decide) rfl dX12_planFewestLate_46 ?_
      refine v_aload_n C (q := 0) rfl rfl dX12_planFewestLate_47 ?_
      refine v_iload_n C (q := 1) rfl rfl dX12_planFewestLate_48 ?_
      obtain ⟨r5, er5, h⟩ := om_bind h
      refine v_invV_i (As := [.int (omi (omor v1 (omshl 1 (σ 54 (omw v3).toNat))))]) C mi_X12_lengthOf ml_X12_106 (k_X12_lengthOf (omor v1 (omshl 1 (σ 54 (omw v3).toNat))) σ _ er5) (q := 27) rfl rfl rfl (by decide) (Nat.zero_le _) rfl (Nat.le_of_ble_eq_true rfl) dX12_planFewestLate_49 ?_
      refine v_aload_n C (q := 0) rfl rfl dX12_planFewestLate_52 ?_
      refine v_getr C (q := 27) (o := 43) (r := 45) fi_X12_13 rfl rfl rfl dX12_planFewestLate_53 ?_
      refine v_iload C (q := 4) rfl dX12_planFewestLate_56 ?_
      obtain ⟨g6, h⟩ := omg_some h
      refine v_iald C (q := 29) (o := 45) (n := 10) rfl g6 dX12_planFewestLate_58 ?_
      refine v_icmp_le C (tgt := 145) dX12_planFewestLate_59 rfl (fun hc => ?_) (fun hc => ?_)
      · replace h := (if_neg hc).symm.trans h
        refine v_iinc C (q := 3) (ls' := [(0, .ref (G.1 43)), (1, .int (omi (omor v1 (omshl 1 (σ 54 (omw v3).toNat))))), (2, .int (omi v2)), (3, .int (omi (v3 + 1))), (4, .int (omi (σ 54 (omw v3).toNat)))]) rfl (by decide) rfl rfl dX12_planFewestLate_145 ?_
        refine v_goto C (tgt := 24) dX12_planFewestLate_148 rfl ?_
        exact v_subp [0, 1, 2, 3] rfl (ih _ _ _ _ _ h K)
      · replace h := (if_pos hc).symm.trans h
        refine v_iconst C (n := (-1)) dX12_planFewestLate_62 ?_
        refine v_istore C (ls' := [(0, .ref (G.1 43)), (1, .int (omi (omor v1 (omshl 1 (σ 54 (omw v3).toNat))))), (2, .int (omi v2)), (3, .int (omi v3)), (4, .int (omi (σ 54 (omw v3).toNat))), (5, .int (omi (-1)))]) (by decide) rfl dX12_planFewestLate_63 ?_
        refine v_iconst C (n := 0) dX12_planFewestLate_65 ?_
        refine v_istore C (ls' := [(0, .ref (G.1 43)), (1, .int (omi (omor v1 (omshl 1 (σ 54 (omw v3).toNat))))), (2, .int (omi v2)), (3, .int (omi v3)), (4, .int (omi (σ 54 (omw v3).toNat))), (5, .int (omi (-1))), (6, .int (omi 0))]) (by decide) rfl dX12_planFewestLate_66 ?_
        obtain ⟨t10, et10, h⟩ := om_bind h
        refine v_subp (ls' := [(0, .ref (G.1 43)), (1, .int (omi (omor v1 (omshl 1 (σ 54 (omw v3).toNat))))), (2, .int (omi v2)), (3, .int (omi v3)), (5, .int (omi (-1))), (6, .int (omi 0))]) [0, 1, 2, 3, 5, 6] rfl ?_
        refine kl_X12_planFewestLate_68 C (omor v1 (omshl 1 (σ 54 (omw v3).toNat))) v2 v3 σ FU _ _ t10 et10 ?_
        refine v_iload_n C (q := 1) rfl rfl dX12_planFewestLate_125 ?_
        refine v_iconst C (n := 1) dX12_planFewestLate_126 ?_
        refine v_iload C (q := 4) rfl dX12_planFewestLate_127 ?_
        refine v_ishl C dX12_planFewestLate_129 ?_
        refine v_iconst C (n := (-1)) dX12_planFewestLate_130 ?_
        refine v_ixor C dX12_planFewestLate_131 ?_
        refine v_iand C dX12_planFewestLate_132 ?_
        refine v_istore_n C (ls' := [(0, .ref (G.1 43)), (1, .int (omi (omand (omor v1 (omshl 1 (σ 54 (omw v3).toNat))) (omxor (omshl 1 t10) (-1))))), (2, .int (omi v2)), (3, .int (omi v3)), (5, .int (omi t10))]) rfl (by decide) rfl dX12_planFewestLate_133 ?_
        refine v_aload_n C (q := 0) rfl rfl dX12_planFewestLate_134 ?_
        refine v_getr C (q := 27) (o := 43) (r := 55) fi_X12_43 rfl rfl rfl dX12_planFewestLate_135 ?_
        refine v_iload_n C (q := 2) rfl rfl dX12_planFewestLate_138 ?_
        refine v_iload C (q := 4) rfl dX12_planFewestLate_139 ?_
        obtain ⟨g11, h⟩ := omg_some h
        refine v_iast C (q := 39) (o := 55) (n := 10) rfl g11 dX12_planFewestLate_141 ?_
        refine v_iinc C (q := 2) (ls' := [(0, .ref (G.1 43)), (1, .int (omi (omand (omor v1 (omshl 1 (σ 54 (omw v3).toNat))) (omxor (omshl 1 t10) (-1))))), (2, .int (omi (v2 + 1))), (3, .int (omi v3)), (5, .int (omi t10))]) rfl (by decide) rfl rfl dX12_planFewestLate_142 ?_
        refine v_iinc C (q := 3) (ls' := [(0, .ref (G.1 43)), (1, .int (omi (omand (omor v1 (omshl 1 (σ 54 (omw v3).toNat))) (omxor (omshl 1 t10) (-1))))), (2, .int (omi (v2 + 1))), (3, .int (omi (v3 + 1))), (5, .int (omi t10))]) rfl (by decide) rfl rfl dX12_planFewestLate_145 ?_
        refine v_goto C (tgt := 24) dX12_planFewestLate_148 rfl ?_
        exact v_subp [0, 1, 2, 3] rfl (ih _ _ _ _ _ h K)
set_option maxHeartbeats 4000000 in
set_option maxRecDepth 100000 in
theorem kl_X12_planFewestLate_153 {G : omG} {x : omX} (C : omC G x RX12 cX12_planFewestLate 7 (3) 0) (v1 : Int) (v2 : Int) : ∀ (n : Nat) (v3 : Int) (σ : omH) (t : omH), l_X12_planFewestLate_153 v1 v2 n v3 σ = some t → omV G x 7 203 [(0, .ref (G.1 43)), (2, .int (omi v2))] [] t 0 → omV G x 7 153 [(0, .ref (G.1 43)), (1, .int (omi v1)), (2, .int (omi v2)), (3, .int (omi v3))] [] σ 0 := by
  intro n
  induction n with
  | zero => intro v3 σ t h K; cases h
  | succ n ih =>
    intro v3 σ t h K
    rw [l_X12_planFewestLate_153.eq_2] at h
    refine v_iload_n C (q := 3) rfl rfl dX12_planFewestLate_153 ?_
    refine v_aload_n C (q := 0) rfl rfl dX12_planFewestLate_154 ?_
    refine v_geti C (q := 27) (o := 43) fi_X12_63 rfl rfl dX12_planFewestLate_155 ?_
    refine v_icmp_ge C (tgt := 203) dX12_planFewestLate_158 rfl (fun hc => ?_) (fun hc => ?_)
    · replace h := (if_neg hc).symm.trans h
      cases h
      exact v_subp [0, 2] rfl K
    · replace h := (if_pos hc).symm.trans h
      refine v_iload_n C (q := 1) rfl rfl dX12_planFewestLate_161 ?_
      refine v_aload_n C (q := 0) rfl rfl dX12_planFewestLate_162 ?_
      refine v_getr C (q := 27) (o := 43) (r := 54) fi_X12_40 rfl rfl rfl dX12_planFewestLate_163 ?_
      refine v_iload_n C (q := 3) rfl rfl dX12_planFewestLate_166 ?_
      obtain ⟨g13, h⟩ := omg_some h
      refine v_iald C (q := 38) (o := 54) (n := 10) rfl g13 dX12_planFewestLate_167 ?_
      refine v_ishr C dX12_planFewestLate_168 ?_
      refine v_iconst C (n := 1) dX12_planFewestLate_169 ?_
      refine v_iand C dX12_planFewestLate_170 ?_
      refine v_iconst C (n := 1) dX12_planFewestLate_171 ?_
      refine v_icmp_ne C (tgt := 197) dX12_planFewestLate_172 rfl (fun hc => ?_) (fun hc => ?_)
      · replace h := (if_neg hc).symm.trans h
        refine v_iinc C (q := 3) (ls' := [(0, .ref (G.1 43)), (1, .int (omi v1)), (2, .int (omi v2)), (3, .int (omi (v3 + 1)))]) rfl (by decide) rfl rfl dX12_planFewestLate_197 ?_
        refine v_goto C (tgt := 153) dX12_planFewestLate_200 rfl ?_
        exact ih _ _ _ h K
      · replace h := (if_pos hc).symm.trans h
        refine v_aload_n C (q := 0) rfl rfl dX12_planFewestLate_175 ?_
        refine v_iconst C (n := 0) dX12_planFewestLate_176 ?_
        refine v_aload_n C (q := 0) rfl rfl dX12_planFewestLate_177 ?_
        refine v_getr C (q := 27) (o := 43) (r := 54) fi_X12_40 rfl rfl rfl dX12_planFewestLate_178 ?_
        refine v_iload_n C (q := 3) rfl rfl dX12_planFewestLate_181 ?_
        obtain ⟨g14, h⟩ := omg_some h
        refine v_iald C (q := 38) (o := 54) (n := 10) rfl g14 dX12_planFewestLate_182 ?_
        refine v_aload_n C (q := 0) rfl rfl dX12_planFewestLate_183 ?_
        refine v_getr C (q := 27) (o := 43) (r := 44) fi_X12_7 rfl rfl rfl dX12_planFewestLate_184 ?_
        refine v_aload_n C (q := 0) rfl rfl dX12_planFewestLate_187 ?_
        refine v_getr C (q := 27) (o := 43) (r := 54) fi_X12_40 rfl rfl rfl dX12_planFewestLate_188 ?_
        refine v_iload_n C (q := 3) rfl rfl dX12_planFewestLate_191 ?_
        obtain ⟨g15, h⟩ := omg_some h
        refine v_iald C (q := 38) (o := 54) (n := 10) rfl g15 dX12_planFewestLate_192 ?_
        obtain ⟨g16, h⟩ := omg_some h
        refine v_iald C (q := 28) (o := 44) (n := 10) rfl g16 dX12_planFewestLate_193 ?_
        obtain ⟨r17, er17, h⟩ := om_bind h
        refine v_invV_v (As := [.int (omi 0), .int (omi (σ 54 (omw v3).toNat)), .int (omi (σ 44 (omw (σ 54 (omw v3).toNat)).toNat))]) C mi_X12_works ml_X12_129 (k_X12_works 0 (σ 54 (omw v3).toNat) (σ 44 (omw (σ 54 (omw v3).toNat)).toNat) σ _ er17) (q := 27) rfl rfl rfl (by decide) (Nat.zero_le _) rfl (Nat.le_of_ble_eq_true rfl) dX12_planFewestLate_194 ?_
        refine v_iinc C (q := 3) (ls' := [(0, .ref (G.1 43)), (1, .int (omi v1)), (2, .int (omi v2)), (3, .int (omi (v3 + 1)))]) rfl (by decide) rfl rfl dX12_planFewestLate_197 ?_
        refine v_goto C (tgt := 153) dX12_planFewestLate_200 rfl ?_
        exact ih _ _ _ h K
set_option maxHeartbeats 4000000 in
set_option maxRecDepth 100000 in
theorem kl_X12_planFewestLate_205 {G : omG} {x : omX} (C : omC G x RX12 cX12_planFewestLate 7 (3) 0) (v2 : Int) : ∀ (n : Nat) (v3 : Int) (σ : omH) (t : omH), l_X12_planFewestLate_205 v2 n v3 σ = some t → omV G x 7 238 [(2, .int (omi v2))] [] t 0 → omV G x 7 205 [(0, .ref (G.1 43)), (2, .int (omi v2)), (3, .int (omi v3))] [] σ 0 := by
  intro n
  induction n with
  | zero => intro v3 σ t h K; cases h
  | succ n ih =>
    intro v3 σ t h K
    rw [l_X12_planFewestLate_205.eq_2] at h
    refine v_iload_n C (q := 2) rfl rfl dX12_planFewestLate_205 ?_
    refine v_iload_n C (q := 1) rfl rfl dX12_planFewestLate_206 ?_
    refine v_icmp_ge C (tgt := 238) dX12_planFewestLate_207 rfl (fun hc => ?_) (fun hc => ?_)
    · replace h := (if_neg hc).symm.trans h
      cases h
      exact v_subp [1] rfl K
    · replace h := (if_pos hc).symm.trans h
      refine v_aload_n C (q := 0) rfl rfl dX12_planFewestLate_210 ?_
      refine v_iconst C (n := 0) dX12_planFewestLate_211 ?_
      refine v_aload_n C (q := 0) rfl rfl dX12_planFewestLate_212 ?_
      refine v_getr C (q := 27) (o := 43) (r := 55) fi_X12_43 rfl rfl rfl dX12_planFewestLate_213 ?_
      refine v_iload_n C (q := 2) rfl rfl dX12_planFewestLate_216 ?_
      obtain ⟨g19, h⟩ := omg_some h
      refine v_iald C (q := 39) (o := 55) (n := 10) rfl g19 dX12_planFewestLate_217 ?_
      refine v_aload_n C (q := 0) rfl rfl dX12_planFewestLate_218 ?_
      refine v_getr C (q := 27) (o := 43) (r := 44) fi_X12_7 rfl rfl rfl dX12_planFewestLate_219 ?_
      refine v_aload_n C (q := 0) rfl rfl dX12_planFewestLate_222 ?_
      refine v_getr C (q := 27) (o := 43) (r := 55) fi_X12_43 rfl rfl rfl dX12_planFewestLate_223 ?_
      refine v_iload_n C (q := 2) rfl rfl dX12_planFewestLate_226 ?_
      obtain ⟨g20, h⟩ := omg_some h
      refine v_iald C (q := 39) (o := 55) (n := 10) rfl g20 dX12_planFewestLate_227 ?_
      obtain ⟨g21, h⟩ := omg_some h
      refine v_iald C (q := 28) (o := 44) (n := 10) rfl g21 dX12_planFewestLate_228 ?_
      obtain ⟨r22, er22, h⟩ := om_bind h
      refine v_invV_v (As := [.int (omi 0), .int (omi (σ 55 (omw v3).toNat)), .int (omi (σ 44 (omw (σ 55 (omw v3).toNat)).toNat))]) C mi_X12_works ml_X12_129 (k_X12_works 0 (σ 55 (omw v3).toNat) (σ 44 (omw (σ 55 (omw v3).toNat)).toNat) σ _ er22) (q := 27) rfl rfl rfl (by decide) (Nat.zero_le _) rfl (Nat.le_of_ble_eq_true rfl) dX12_planFewestLate_229 ?_
      refine v_iinc C (q := 2) (ls' := [(0, .ref (G.1 43)), (2, .int (omi v2)), (3, .int (omi (v3 + 1)))]) rfl (by decide) rfl rfl dX12_planFewestLate_232 ?_
      refine v_goto C (tgt := 205) dX12_planFewestLate_235 rfl ?_
      exact ih _ _ _ h K
set_option maxHeartbeats 4000000 in
set_option maxRecDepth 100000 in
theorem k_X12_planFewestLate {G : omG}  (σ : omH) (t : Int × omH) (h : s_X12_planFewestLate  σ = some t) : omM G yX12_planFewestLate (.code yX12_planFewestLate cX12_planFewestLate 7 (some .int)) 3 0 [.ref (G.1 43)] σ (.inr (some (.int (omi t.1)))) t.2 := by
  unfold s_X12_planFewestLate at h
  refine om_head (own := RX12) (ls := [(0, .ref (G.1 43))]) (by decide +kernel) rfl (by simp [lg_sl, Value.category]) rfl (by simp [Value.category]) (fun x C F => ?_)
  refine v_aload_n C (q := 0) rfl rfl dX12_planFewestLate_0 ?_
  obtain ⟨r1, er1, h⟩ := om_bind h
  refine v_invV_i (As := []) C mi_X12_hasJobs ml_X12_137 (k_X12_hasJobs  σ _ er1) (q := 27) rfl rfl rfl (by decide) (Nat.zero_le _) rfl (Nat.le_of_ble_eq_true rfl) dX12_planFewestLate_1 ?_
  refine v_if_ne C (tgt := 9) dX12_planFewestLate_4 rfl (fun hc => ?_) (fun hc => ?_)
  · replace h := (if_neg hc).symm.trans h
    refine v_aload_n C (q := 0) rfl rfl dX12_planFewestLate_9 ?_
    refine v_iconst C (n := 1) dX12_planFewestLate_10 ?_
    obtain ⟨r2, er2, h⟩ := om_bind h
    refine v_invV_v (As := [.int (omi 1)]) C mi_X12_laysOrder ml_X12_141 (k_X12_laysOrder 1 r1.2 _ er2) (q := 27) rfl rfl rfl (by decide) (Nat.zero_le _) rfl (Nat.le_of_ble_eq_true rfl) dX12_planFewestLate_11 ?_
    refine v_aload_n C (q := 0) rfl rfl dX12_planFewestLate_14 ?_
    obtain ⟨r3, er3, h⟩ := om_bind h
    refine v_invV_v (As := []) C mi_X12_begins ml_X12_126 (k_X12_begins  r2 _ er3) (q := 27) rfl rfl rfl (by decide) (Nat.zero_le _) rfl (Nat.le_of_ble_eq_true rfl) dX12_planFewestLate_15 ?_
    refine v_iconst C (n := 0) dX12_planFewestLate_18 ?_
    refine v_istore_n C (ls' := [(0, .ref (G.1 43)), (1, .int (omi 0))]) rfl (by decide) rfl dX12_planFewestLate_19 ?_
    refine v_iconst C (n := 0) dX12_planFewestLate_20 ?_
    refine v_istore_n C (ls' := [(0, .ref (G.1 43)), (1, .int (omi 0)), (2, .int (omi 0))]) rfl (by decide) rfl dX12_planFewestLate_21 ?_
    refine v_iconst C (n := 0) dX12_planFewestLate_22 ?_
    refine v_istore_n C (ls' := [(0, .ref (G.1 43)), (1, .int (omi 0)), (2, .int (omi 0)), (3, .int (omi 0))]) rfl (by decide) rfl dX12_planFewestLate_23 ?_
    obtain ⟨t12, et12, h⟩ := om_bind h
    refine kl_X12_planFewestLate_24 C  FU _ _ _ _ t12 et12 ?_
    refine v_iconst C (n := 0) dX12_planFewestLate_151 ?_
    refine v_istore_n C (ls' := [(0, .ref (G.1 43)), (1, .int (omi t12.1)), (2, .int (omi t12.2.1)), (3, .int (omi 0))]) rfl (by decide) rfl dX12_planFewestLate_152 ?_
    obtain ⟨t18, et18, h⟩ := om_bind h
    refine kl_X12_planFewestLate_153 C t12.1 t12.2.1 FU _ _ t18 et18 ?_
    refine v_iconst C (n := 0) dX12_planFewestLate_203 ?_
    refine v_istore_n C (ls' := [(0, .ref (G.1 43)), (2, .int (omi t12.2.1)), (3, .int (omi 0))]) rfl (by decide) rfl dX12_planFewestLate_204 ?_
    obtain ⟨t23, et23, h⟩ := om_bind h
    refine kl_X12_planFewestLate_205 C t12.2.1 FU _ _ t23 et23 ?_
    refine v_iload_n C (q := 0) rfl rfl dX12_planFewestLate_238 ?_
    cases h
    exact v_iret C F dX12_planFewestLate_239 (Nat.zero_le _)
  · replace h := (if_pos hc).symm.trans h
    refine v_iconst C (n := 0) dX12_planFewestLate_7 ?_
    cases h
    exact v_iret C F dX12_planFewestLate_8 (Nat.zero_le _)
set_option maxHeartbeats 4000000 in
set_option maxRecDepth 100000 in
theorem k_X12_planByRatios {G : omG}  (σ : omH) (t : Int × omH) (h : s_X12_planByRatios  σ = some t) : omM G yX12_planByRatios (.code yX12_planByRatios cX12_planByRatios 1 (some .int)) 4 0 [.ref (G.1 43)] σ (.inr (some (.int (omi t.1)))) t.2 := by
  unfold s_X12_planByRatios at h
  refine om_head (own := RX12) (ls := [(0, .ref (G.1 43))]) (by decide +kernel) rfl (by simp [lg_sl, Value.category]) rfl (by simp [Value.category]) (fun x C F => ?_)
  refine v_aload_n C (q := 0) rfl rfl dX12_planByRatios_0 ?_
  obtain ⟨r1, er1, h⟩ := om_bind h
  refine v_invV_i (As := []) C mi_X12_hasJobs ml_X12_137 (k_X12_hasJobs  σ _ er1) (q := 27) rfl rfl rfl (by decide) (Nat.zero_le _) rfl (Nat.le_of_ble_eq_true rfl) dX12_planByRatios_1 ?_
  refine v_if_ne C (tgt := 9) dX12_planByRatios_4 rfl (fun hc => ?_) (fun hc => ?_)
  · replace h := (if_neg hc).symm.trans h
    refine v_aload_n C (q := 0) rfl rfl dX12_planByRatios_9 ?_
    refine v_iconst C (n := 0) dX12_planByRatios_10 ?_
    obtain ⟨r2, er2, h⟩ := om_bind h
    refine v_invV_v (As := [.int (omi 0)]) C mi_X12_laysOrder ml_X12_141 (k_X12_laysOrder 0 r1.2 _ er2) (q := 27) rfl rfl rfl (by decide) (Nat.zero_le _) rfl (Nat.le_of_ble_eq_true rfl) dX12_planByRatios_11 ?_
    refine v_aload_n C (q := 0) rfl rfl dX12_planByRatios_14 ?_
    obtain ⟨r3, er3, h⟩ := om_bind h
    refine v_invV_v (As := []) C mi_X12_worksInOrder ml_X12_145 (k_X12_worksInOrder  r2 _ er3) (q := 27) rfl rfl rfl (by decide) (Nat.zero_le _) rfl (Nat.le_of_ble_eq_true rfl) dX12_planByRatios_15 ?_
    refine v_aload_n C (q := 0) rfl rfl dX12_planByRatios_18 ?_
    refine v_iconst C (n := 2) dX12_planByRatios_19 ?_
    obtain ⟨r4, er4, h⟩ := om_bind h
    refine v_invV_i (As := [.int (omi 2)]) C mi_X12_sum ml_X12_151 (k_X12_sum 2 r3 _ er4) (q := 27) rfl rfl rfl (by decide) (Nat.zero_le _) rfl (Nat.le_of_ble_eq_true rfl) dX12_planByRatios_20 ?_
    cases h
    exact v_iret C F dX12_planByRatios_23 (Nat.zero_le _)
  · replace h := (if_pos hc).symm.trans h
    refine v_iconst C (n := 0) dX12_planByRatios_7 ?_
    cases h
    exact v_iret C F dX12_planByRatios_8 (Nat.zero_le _)
