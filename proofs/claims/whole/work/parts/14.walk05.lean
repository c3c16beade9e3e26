set_option maxHeartbeats 4000000 in
set_option maxRecDepth 100000 in
theorem kl_X12_planLeastTardiness_36 {G : omG} {x : omX} (C : omC G x RX12 cX12_planLeastTardiness 6 (4) 0) (v1 : Int) (v2 : Int) (σ : omH) : ∀ (n : Nat) (v3 : Int) (v4 : Int) (t : Int), l_X12_planLeastTardiness_36 v1 v2 σ n v3 v4 = some t → omV G x 6 115 [(0, .ref (G.1 43)), (1, .int (omi v1)), (2, .int (omi v2)), (3, .int (omi t))] [] σ 0 → omV G x 6 36 [(0, .ref (G.1 43)), (1, .int (omi v1)), (2, .int (omi v2)), (3, .int (omi v3)), (4, .int (omi v4))] [] σ 0 := by
  intro n
  induction n with
  | zero => intro v3 v4 t h K; cases h
  | succ n ih =>
    intro v3 v4 t h K
    rw [l_X12_planLeastTardiness_36.eq_2] at h
    refine v_iload C (q := 4) rfl dX12_planLeastTardiness_36 ?_
    refine v_if_lt C (tgt := 115) dX12_planLeastTardiness_38 rfl (fun hc => ?_) (fun hc => ?_)
    · replace h := (if_pos hc).symm.trans h
      cases h
      exact v_subp [0, 1, 2, 3] rfl K
    · replace h := (if_neg hc).symm.trans h
      refine v_iload_n C (q := 1) rfl rfl dX12_planLeastTardiness_41 ?_
      refine v_iload C (q := 4) rfl dX12_planLeastTardiness_42 ?_
      refine v_ishr C dX12_planLeastTardiness_44 ?_
      refine v_iconst C (n := 1) dX12_planLeastTardiness_45 ?_
      refine v_iand C dX12_planLeastTardiness_46 ?_
      obtain ⟨t3, et3, h⟩ := om_bind h
      have Jt3 : omV G x 6 95 [(0, .ref (G.1 43)), (1, .int (omi v1)), (2, .int (omi v2)), (3, .int (omi v3)), (4, .int (omi v4))] [.int (omi t3)] σ 0 := by
        refine v_istore C (ls' := [(0, .ref (G.1 43)), (1, .int (omi v1)), (2, .int (omi v2)), (3, .int (omi v3)), (4, .int (omi v4)), (5, .int (omi t3))]) (by decide) rfl dX12_planLeastTardiness_95 ?_
        refine v_iload C (q := 5) rfl dX12_planLeastTardiness_97 ?_
        obtain ⟨t4, et4, h⟩ := om_bind h
        have Jt4 : omV G x 6 108 [(0, .ref (G.1 43)), (1, .int (omi v1)), (2, .int (omi v2)), (4, .int (omi v4))] [.int (omi t4)] σ 0 := by
          refine v_istore_n C (ls' := [(0, .ref (G.1 43)), (1, .int (omi v1)), (2, .int (omi v2)), (4, .int (omi v4)), (3, .int (omi t4))]) rfl (by decide) rfl dX12_planLeastTardiness_108 ?_
          refine v_iinc C (q := 3) (ls' := [(0, .ref (G.1 43)), (1, .int (omi v1)), (2, .int (omi v2)), (4, .int (omi (v4 + (-1)))), (3, .int (omi t4))]) rfl (by decide) rfl rfl dX12_planLeastTardiness_109 ?_
          refine v_goto C (tgt := 36) dX12_planLeastTardiness_112 rfl ?_
          exact v_subp [0, 1, 2, 4, 3] rfl (ih _ _ _ h K)
        clear h
        have h := et4
        clear et4
        refine v_if_eq C (tgt := 107) dX12_planLeastTardiness_99 rfl (fun hc => ?_) (fun hc => ?_)
        · replace h := (if_pos hc).symm.trans h
          refine v_iload_n C (q := 3) rfl rfl dX12_planLeastTardiness_107 ?_
          cases h
          exact v_subp [0, 1, 2, 4] rfl Jt4
        · replace h := (if_neg hc).symm.trans h
          refine v_iload C (q := 4) rfl dX12_planLeastTardiness_102 ?_
          refine v_goto C (tgt := 108) dX12_planLeastTardiness_104 rfl ?_
          cases h
          exact v_subp [0, 1, 2, 4] rfl Jt4
      clear h
      have h := et3
      clear et3
      refine v_if_ne C (tgt := 94) dX12_planLeastTardiness_47 rfl (fun hc => ?_) (fun hc => ?_)
      · replace h := (if_neg hc).symm.trans h
        refine v_iconst C (n := 0) dX12_planLeastTardiness_94 ?_
        cases h
        exact Jt3
      · replace h := (if_pos hc).symm.trans h
        refine v_aload_n C (q := 0) rfl rfl dX12_planLeastTardiness_50 ?_
        refine v_iconst C (n := 2) dX12_planLeastTardiness_51 ?_
        refine v_iload C (q := 4) rfl dX12_planLeastTardiness_52 ?_
        refine v_aload_n C (q := 0) rfl rfl dX12_planLeastTardiness_54 ?_
        refine v_iload_n C (q := 1) rfl rfl dX12_planLeastTardiness_55 ?_
        obtain ⟨r5, er5, h⟩ := om_bind h
        refine v_invV_i (As := [.int (omi v1)]) C mi_X12_lengthOf ml_X12_106 (k_X12_lengthOf v1 σ _ er5) (q := 27) rfl rfl rfl (by decide) (Nat.zero_le _) rfl (Nat.le_of_ble_eq_true rfl) dX12_planLeastTardiness_56 ?_
        refine v_aload_n C (q := 0) rfl rfl dX12_planLeastTardiness_59 ?_
        refine v_getr C (q := 27) (o := 43) (r := 44) fi_X12_7 rfl rfl rfl dX12_planLeastTardiness_60 ?_
        refine v_iload C (q := 4) rfl dX12_planLeastTardiness_63 ?_
        obtain ⟨g6, h⟩ := omg_some h
        refine v_iald C (q := 28) (o := 44) (n := 10) rfl g6 dX12_planLeastTardiness_65 ?_
        refine v_iadd C dX12_planLeastTardiness_66 ?_
        refine v_aload_n C (q := 0) rfl rfl dX12_planLeastTardiness_67 ?_
        refine v_getr C (q := 27) (o := 43) (r := 56) fi_X12_46 rfl rfl rfl dX12_planLeastTardiness_68 ?_
        refine v_iload_n C (q := 1) rfl rfl dX12_planLeastTardiness_71 ?_
        refine v_iconst C (n := 1) dX12_planLeastTardiness_72 ?_
        refine v_iload C (q := 4) rfl dX12_planLeastTardiness_73 ?_
        refine v_ishl C dX12_planLeastTardiness_75 ?_
        refine v_ior C dX12_planLeastTardiness_76 ?_
        obtain ⟨g7, h⟩ := omg_some h
        refine v_iald C (q := 40) (o := 56) (n := 1024) rfl g7 dX12_planLeastTardiness_77 ?_
        obtain ⟨r8, er8, h⟩ := om_bind h
        refine v_invV_i (As := [.int (omi 2), .int (omi v4), .int (omi (r5 + (σ 44 (omw v4).toNat))), .int (omi (σ 56 (omw (omor v1 (omshl 1 v4))).toNat))]) C mi_X12_joined ml_X12_112 (k_X12_joined 2 v4 (r5 + (σ 44 (omw v4).toNat)) (σ 56 (omw (omor v1 (omshl 1 v4))).toNat) σ _ er8) (q := 27) rfl rfl rfl (by decide) (Nat.zero_le _) rfl (Nat.le_of_ble_eq_true rfl) dX12_planLeastTardiness_78 ?_
        refine v_aload_n C (q := 0) rfl rfl dX12_planLeastTardiness_81 ?_
        refine v_getr C (q := 27) (o := 43) (r := 56) fi_X12_46 rfl rfl rfl dX12_planLeastTardiness_82 ?_
        refine v_iload_n C (q := 1) rfl rfl dX12_planLeastTardiness_85 ?_
        obtain ⟨g9, h⟩ := omg_some h
        refine v_iald C (q := 40) (o := 56) (n := 1024) rfl g9 dX12_planLeastTardiness_86 ?_
        refine v_icmp_ne C (tgt := 94) dX12_planLeastTardiness_87 rfl (fun hc => ?_) (fun hc => ?_)
        · replace h := (if_neg hc).symm.trans h
          refine v_iconst C (n := 0) dX12_planLeastTardiness_94 ?_
          cases h
          exact Jt3
        · replace h := (if_pos hc).symm.trans h
          refine v_iconst C (n := 1) dX12_planLeastTardiness_90 ?_
          refine v_goto C (tgt := 95) dX12_planLeastTardiness_91 rfl ?_
          cases h
          exact Jt3
set_option maxHeartbeats 4000000 in
set_option maxRecDepth 100000 in
theorem kl_X12_planLeastTardiness_18 {G : omG} {x : omX} (C : omC G x RX12 cX12_planLeastTardiness 6 (4) 0) : ∀ (n : Nat) (v1 : Int) (v2 : Int) (σ : omH) (t : omH), l_X12_planLeastTardiness_18  n v1 v2 σ = some t → omV G x 6 134 [(0, .ref (G.1 43))] [] t 0 → omV G x 6 18 [(0, .ref (G.1 43)), (1, .int (omi v1)), (2, .int (omi v2))] [] σ 0 := by
  intro n
  induction n with
  | zero => intro v1 v2 σ t h K; cases h
  | succ n ih =>
    intro v1 v2 σ t h K
    rw [l_X12_planLeastTardiness_18.eq_2] at h
    refine v_iload_n C (q := 2) rfl rfl dX12_planLeastTardiness_18 ?_
    refine v_aload_n C (q := 0) rfl rfl dX12_planLeastTardiness_19 ?_
    refine v_geti C (q := 27) (o := 43) fi_X12_63 rfl rfl dX12_planLeastTardiness_20 ?_
    refine v_icmp_ge C (tgt := 134) dX12_planLeastTardiness_23 rfl (fun hc => ?_) (fun hc => ?_)
    · replace h := (if_neg hc).symm.trans h
      cases h
      exact v_subp [0] rfl K
    · replace h := (if_pos hc).symm.trans h
      refine v_iconst C (n := (-1)) dX12_planLeastTardiness_26 ?_
      refine v_istore_n C (ls' := [(0, .ref (G.1 43)), (1, .int (omi v1)), (2, .int (omi v2)), (3, .int (omi (-1)))]) rfl (by decide) rfl dX12_planLeastTardiness_27 ?_
      refine v_aload_n C (q := 0) rfl rfl dX12_planLeastTardiness_28 ?_
      refine v_geti C (q := 27) (o := 43) fi_X12_63 rfl rfl dX12_planLeastTardiness_29 ?_
      refine v_iconst C (n := 1) dX12_planLeastTardiness_32 ?_
      refine v_isub C dX12_planLeastTardiness_33 ?_
      refine v_istore C (ls' := [(0, .ref (G.1 43)), (1, .int (omi v1)), (2, .int (omi v2)), (3, .int (omi (-1))), (4, .int (omi ((σ 43 1) - 1)))]) (by decide) rfl dX12_planLeastTardiness_34 ?_
      obtain ⟨t10, et10, h⟩ := om_bind h
      refine kl_X12_planLeastTardiness_36 C v1 v2 σ FU _ _ t10 et10 ?_
      refine v_aload_n C (q := 0) rfl rfl dX12_planLeastTardiness_115 ?_
      refine v_getr C (q := 27) (o := 43) (r := 54) fi_X12_40 rfl rfl rfl dX12_planLeastTardiness_116 ?_
      refine v_iload_n C (q := 2) rfl rfl dX12_planLeastTardiness_119 ?_
      refine v_iload_n C (q := 3) rfl rfl dX12_planLeastTardiness_120 ?_
      obtain ⟨g11, h⟩ := omg_some h
      refine v_iast C (q := 38) (o := 54) (n := 10) rfl g11 dX12_planLeastTardiness_121 ?_
      refine v_iload_n C (q := 1) rfl rfl dX12_planLeastTardiness_122 ?_
      refine v_iconst C (n := 1) dX12_planLeastTardiness_123 ?_
      refine v_iload_n C (q := 3) rfl rfl dX12_planLeastTardiness_124 ?_
      refine v_ishl C dX12_planLeastTardiness_125 ?_
      refine v_ior C dX12_planLeastTardiness_126 ?_
      refine v_istore_n C (ls' := [(0, .ref (G.1 43)), (1, .int (omi (omor v1 (omshl 1 t10)))), (2, .int (omi v2)), (3, .int (omi t10))]) rfl (by decide) rfl dX12_planLeastTardiness_127 ?_
      refine v_iinc C (q := 2) (ls' := [(0, .ref (G.1 43)), (1, .int (omi (omor v1 (omshl 1 t10)))), (2, .int (omi (v2 + 1))), (3, .int (omi t10))]) rfl (by decide) rfl rfl dX12_planLeastTardiness_128 ?_
      refine v_goto C (tgt := 18) dX12_planLeastTardiness_131 rfl ?_
      exact v_subp [0, 1, 2] rfl (ih _ _ _ _ h K)
set_option maxHeartbeats 4000000 in
set_option maxRecDepth 100000 in
theorem k_X12_planLeastTardiness {G : omG}  (σ : omH) (t : Int × omH) (h : s_X12_planLeastTardiness  σ = some t) : omM G yX12_planLeastTardiness (.code yX12_planLeastTardiness cX12_planLeastTardiness 6 (some .int)) 4 0 [.ref (G.1 43)] σ (.inr (some (.int (omi t.1)))) t.2 := by
  unfold s_X12_planLeastTardiness at h
  refine om_head (own := RX12) (ls := [(0, .ref (G.1 43))]) (by decide +kernel) rfl (by simp [lg_sl, Value.category]) rfl (by simp [Value.category]) (fun x C F => ?_)
  refine v_aload_n C (q := 0) rfl rfl dX12_planLeastTardiness_0 ?_
  obtain ⟨r1, er1, h⟩ := om_bind h
  refine v_invV_i (As := []) C mi_X12_hasJobs ml_X12_137 (k_X12_hasJobs  σ _ er1) (q := 27) rfl rfl rfl (by decide) (Nat.zero_le _) rfl (Nat.le_of_ble_eq_true rfl) dX12_planLeastTardiness_1 ?_
  refine v_if_ne C (tgt := 9) dX12_planLeastTardiness_4 rfl (fun hc => ?_) (fun hc => ?_)
  · replace h := (if_neg hc).symm.trans h
    refine v_aload_n C (q := 0) rfl rfl dX12_planLeastTardiness_9 ?_
    refine v_iconst C (n := 2) dX12_planLeastTardiness_10 ?_
    obtain ⟨r2, er2, h⟩ := om_bind h
    refine v_invV_v (As := [.int (omi 2)]) C mi_X12_costs ml_X12_154 (k_X12_costs 2 r1.2 _ er2) (q := 27) rfl rfl rfl (by decide) (Nat.zero_le _) rfl (Nat.le_of_ble_eq_true rfl) dX12_planLeastTardiness_11 ?_
    refine v_iconst C (n := 0) dX12_planLeastTardiness_14 ?_
    refine v_istore_n C (ls' := [(0, .ref (G.1 43)), (1, .int (omi 0))]) rfl (by decide) rfl dX12_planLeastTardiness_15 ?_
    refine v_iconst C (n := 0) dX12_planLeastTardiness_16 ?_
    refine v_istore_n C (ls' := [(0, .ref (G.1 43)), (1, .int (omi 0)), (2, .int (omi 0))]) rfl (by decide) rfl dX12_planLeastTardiness_17 ?_
    obtain ⟨t12, et12, h⟩ := om_bind h
    refine kl_X12_planLeastTardiness_18 C  FU _ _ _ t12 et12 ?_
    refine v_aload_n C (q := 0) rfl rfl dX12_planLeastTardiness_134 ?_
    obtain ⟨r13, er13, h⟩ := om_bind h
    refine v_invV_v (As := []) C mi_X12_worksInOrder ml_X12_145 (k_X12_worksInOrder  t12 _ er13) (q := 27) rfl rfl rfl (by decide) (Nat.zero_le _) rfl (Nat.le_of_ble_eq_true rfl) dX12_planLeastTardiness_135 ?_
    refine v_aload_n C (q := 0) rfl rfl dX12_planLeastTardiness_138 ?_
    refine v_iconst C (n := 3) dX12_planLeastTardiness_139 ?_
    obtain ⟨r14, er14, h⟩ := om_bind h
    refine v_invV_i (As := [.int (omi 3)]) C mi_X12_sum ml_X12_151 (k_X12_sum 3 r13 _ er14) (q := 27) rfl rfl rfl (by decide) (Nat.zero_le _) rfl (Nat.le_of_ble_eq_true rfl) dX12_planLeastTardiness_140 ?_
    cases h
    exact v_iret C F dX12_planLeastTardiness_143 (Nat.zero_le _)
  · replace h := (if_pos hc).symm.trans h
    refine v_iconst C (n := 0) dX12_planLeastTardiness_7 ?_
    cases h
    exact v_iret C F dX12_planLeastTardiness_8 (Nat.zero_le _)
set_option maxHeartbeats 4000000 in
set_option maxRecDepth 100000 in
theorem kl_X12_planByFamilies_52 {G : omG} {x : omX} (C : omC G x RX12 cX12_planByFamilies 9 (4) 0) (v1 : Int) (v2 : Int) (v3 : Int) (v4 : Int) (σ : omH) : ∀ (n : Nat) (v5 : Int) (v6 : Int) (t : Int), l_X12_planByFamilies_52 v1 v2 v3 v4 σ n v5 v6 = some t → omV G x 9 150 [(0, .ref (G.1 43)), (1, .int (omi v1)), (2, .int (omi v2)), (3, .int (omi v3)), (4, .int (omi v4)), (5, .int (omi t))] [] σ 0 → omV G x 9 52 [(0, .ref (G.1 43)), (1, .int (omi v1)), (2, .int (omi v2)), (3, .int (omi v3)), (4, .int (omi v4)), (5, .int (omi v5)), (6, .int (omi v6))] [] σ 0 := by
  intro n
  induction n with
  | zero => intro v5 v6 t h K; cases h
  | succ n ih =>
    intro v5 v6 t h K
    rw [l_X12_planByFamilies_52.eq_2] at h
    refine v_iload C (q := 6) rfl dX12_planByFamilies_52 ?_
    refine v_if_lt C (tgt := 150) dX12_planByFamilies_54 rfl (fun hc => ?_) (fun hc => ?_)
    · replace h := (if_pos hc).symm.trans h
      cases h
      exact v_subp [0, 1, 2, 3, 4, 5] rfl K
    · replace h := (if_neg hc).symm.trans h
      refine v_aload_n C (q := 0) rfl rfl dX12_planByFamilies_57 ?_
      obtain ⟨r5, er5, h⟩ := om_bind h
      refine v_invV_i (As := []) C mi_X12_now ml_X12_122 (k_X12_now  σ _ er5) (q := 27) rfl rfl rfl (by decide) (Nat.zero_le _) rfl (Nat.le_of_ble_eq_true rfl) dX12_planByFamilies_58 ?_
      refine v_aload_n C (q := 0) rfl rfl dX12_planByFamilies_61 ?_
      refine v_iload C (q := 6) rfl dX12_planByFamilies_62 ?_
      refine v_iload_n C (q := 3) rfl rfl dX12_planByFamilies_64 ?_
      obtain ⟨r6, er6, h⟩ := om_bind h
      refine v_invV_i (As := [.int (omi v6), .int (omi v3)]) C mi_X12_taken ml_X12_119 (k_X12_taken v6 v3 σ _ er6) (q := 27) rfl rfl rfl (by decide) (Nat.zero_le _) rfl (Nat.le_of_ble_eq_true rfl) dX12_planByFamilies_65 ?_
      refine v_iadd C dX12_planByFamilies_68 ?_
      refine v_istore C (ls' := [(0, .ref (G.1 43)), (1, .int (omi v1)), (2, .int (omi v2)), (3, .int (omi v3)), (4, .int (omi v4)), (5, .int (omi v5)), (6, .int (omi v6)), (7, .int (omi (r5 + r6)))]) (by decide) rfl dX12_planByFamilies_69 ?_
      refine v_aload_n C (q := 0) rfl rfl dX12_planByFamilies_71 ?_
      refine v_iload_n C (q := 2) rfl rfl dX12_planByFamilies_72 ?_
      refine v_iload C (q := 6) rfl dX12_planByFamilies_73 ?_
      obtain ⟨r7, er7, h⟩ := om_bind h
      refine v_invV_i (As := [.int (omi v2), .int (omi v6)]) C mi_X12_isNext ml_X12_116 (k_X12_isNext v2 v6 σ _ er7) (q := 27) rfl rfl rfl (by decide) (Nat.zero_le _) rfl (Nat.le_of_ble_eq_true rfl) dX12_planByFamilies_75 ?_
      obtain ⟨t8, et8, h⟩ := om_bind h
      have Jt8 : omV G x 9 128 [(0, .ref (G.1 43)), (1, .int (omi v1)), (2, .int (omi v2)), (3, .int (omi v3)), (4, .int (omi v4)), (5, .int (omi v5)), (6, .int (omi v6))] [.int (omi t8)] σ 0 := by
        refine v_istore C (ls' := [(0, .ref (G.1 43)), (1, .int (omi v1)), (2, .int (omi v2)), (3, .int (omi v3)), (4, .int (omi v4)), (5, .int (omi v5)), (6, .int (omi v6)), (8, .int (omi t8))]) (by decide) rfl dX12_planByFamilies_128 ?_
        refine v_iload C (q := 7) rfl dX12_planByFamilies_130 ?_
        obtain ⟨t9, et9, h⟩ := om_bind h
        have Jt9 : omV G x 9 142 [(0, .ref (G.1 43)), (1, .int (omi v1)), (2, .int (omi v2)), (3, .int (omi v3)), (4, .int (omi v4)), (6, .int (omi v6))] [.int (omi t9)] σ 0 := by
          refine v_istore C (ls' := [(0, .ref (G.1 43)), (1, .int (omi v1)), (2, .int (omi v2)), (3, .int (omi v3)), (4, .int (omi v4)), (6, .int (omi v6)), (5, .int (omi t9))]) (by decide) rfl dX12_planByFamilies_142 ?_
          refine v_iinc C (q := 5) (ls' := [(0, .ref (G.1 43)), (1, .int (omi v1)), (2, .int (omi v2)), (3, .int (omi v3)), (4, .int (omi v4)), (6, .int (omi (v6 + (-1)))), (5, .int (omi t9))]) rfl (by decide) rfl rfl dX12_planByFamilies_144 ?_
          refine v_goto C (tgt := 52) dX12_planByFamilies_147 rfl ?_
          exact v_subp [0, 1, 2, 3, 4, 6, 5] rfl (ih _ _ _ h K)
        clear h
        have h := et9
        clear et9
        refine v_if_eq C (tgt := 140) dX12_planByFamilies_132 rfl (fun hc => ?_) (fun hc => ?_)
        · replace h := (if_pos hc).symm.trans h
          refine v_iload C (q := 5) rfl dX12_planByFamilies_140 ?_
          cases h
          exact v_subp [0, 1, 2, 3, 4, 6] rfl Jt9
        · replace h := (if_neg hc).symm.trans h
          refine v_iload C (q := 6) rfl dX12_planByFamilies_135 ?_
          refine v_goto C (tgt := 142) dX12_planByFamilies_137 rfl ?_
          cases h
          exact v_subp [0, 1, 2, 3, 4, 6] rfl Jt9
      clear h
      have h := et8
      clear et8
      refine v_if_eq C (tgt := 127) dX12_planByFamilies_78 rfl (fun hc => ?_) (fun hc => ?_)
      · replace h := (if_pos hc).symm.trans h
        refine v_iconst C (n := 0) dX12_planByFamilies_127 ?_
        cases h
        exact v_subp [0, 1, 2, 3, 4, 5, 6] rfl Jt8
      · replace h := (if_neg hc).symm.trans h
        refine v_iload C (q := 7) rfl dX12_planByFamilies_81 ?_
        refine v_aload_n C (q := 0) rfl rfl dX12_planByFamilies_83 ?_
        refine v_getr C (q := 27) (o := 43) (r := 45) fi_X12_13 rfl rfl rfl dX12_planByFamilies_84 ?_
        refine v_iload C (q := 6) rfl dX12_planByFamilies_87 ?_
        obtain ⟨g10, h⟩ := omg_some h
        refine v_iald C (q := 29) (o := 45) (n := 10) rfl g10 dX12_planByFamilies_89 ?_
        refine v_isub C dX12_planByFamilies_90 ?_
        refine v_iload_n C (q := 1) rfl rfl dX12_planByFamilies_91 ?_
        refine v_icmp_gt C (tgt := 127) dX12_planByFamilies_92 rfl (fun hc => ?_) (fun hc => ?_)
        · replace h := (if_pos hc).symm.trans h
          refine v_iconst C (n := 0) dX12_planByFamilies_127 ?_
          cases h
          exact v_subp [0, 1, 2, 3, 4, 5, 6] rfl Jt8
        · replace h := (if_neg hc).symm.trans h
          refine v_iload C (q := 7) rfl dX12_planByFamilies_95 ?_
          refine v_aload_n C (q := 0) rfl rfl dX12_planByFamilies_97 ?_
          refine v_getr C (q := 27) (o := 43) (r := 57) fi_X12_49 rfl rfl rfl dX12_planByFamilies_98 ?_
          refine v_iconst C (n := 5) dX12_planByFamilies_101 ?_
          refine v_iload_n C (q := 2) rfl rfl dX12_planByFamilies_102 ?_
          refine v_iconst C (n := 1) dX12_planByFamilies_103 ?_
          refine v_iload C (q := 6) rfl dX12_planByFamilies_104 ?_
          refine v_ishl C dX12_planByFamilies_106 ?_
          refine v_ior C dX12_planByFamilies_107 ?_
          refine v_imul C dX12_planByFamilies_108 ?_
          refine v_aload_n C (q := 0) rfl rfl dX12_planByFamilies_109 ?_
          refine v_getr C (q := 27) (o := 43) (r := 48) fi_X12_22 rfl rfl rfl dX12_planByFamilies_110 ?_
          refine v_iload C (q := 6) rfl dX12_planByFamilies_113 ?_
          obtain ⟨g11, h⟩ := omg_some h
          refine v_iald C (q := 32) (o := 48) (n := 10) rfl g11 dX12_planByFamilies_115 ?_
          refine v_iadd C dX12_planByFamilies_116 ?_
          obtain ⟨g12, h⟩ := omg_some h
          refine v_iald C (q := 41) (o := 57) (n := 5120) rfl g12 dX12_planByFamilies_117 ?_
          refine v_iadd C dX12_planByFamilies_118 ?_
          refine v_iload_n C (q := 1) rfl rfl dX12_planByFamilies_119 ?_
          refine v_icmp_gt C (tgt := 127) dX12_planByFamilies_120 rfl (fun hc => ?_) (fun hc => ?_)
          · replace h := (if_pos hc).symm.trans h
            refine v_iconst C (n := 0) dX12_planByFamilies_127 ?_
            cases h
            exact v_subp [0, 1, 2, 3, 4, 5, 6] rfl Jt8
          · replace h := (if_neg hc).symm.trans h
            refine v_iconst C (n := 1) dX12_planByFamilies_123 ?_
            refine v_goto C (tgt := 128) dX12_planByFamilies_124 rfl ?_
            cases h
            exact v_subp [0, 1, 2, 3, 4, 5, 6] rfl Jt8
set_option maxHeartbeats 4000000 in
set_option maxRecDepth 100000 in
theorem kl_X12_planByFamilies_32 {G : omG} {x : omX} (C : omC G x RX12 cX12_planByFamilies 9 (4) 0) (v1 : Int) : ∀ (n : Nat) (v2 : Int) (v3 : Int) (v4 : Int) (σ : omH) (t : omH), l_X12_planByFamilies_32 v1 n v2 v3 v4 σ = some t → omV G x 9 224 [(0, .ref (G.1 43))] [] t 0 → omV G x 9 32 [(0, .ref (G.1 43)), (1, .int (omi v1)), (2, .int (omi v2)), (3, .int (omi v3)), (4, .int (omi v4))] [] σ 0 := by
  intro n
  induction n with
  | zero => intro v2 v3 v4 σ t h K; cases h
  | succ n ih =>
    intro v2 v3 v4 σ t h K
    rw [l_X12_planByFamilies_32.eq_2] at h
    refine v_iload C (q := 4) rfl dX12_planByFamilies_32 ?_
    refine v_aload_n C (q := 0) rfl rfl dX12_planByFamilies_34 ?_
    refine v_geti C (q := 27) (o := 43) fi_X12_63 rfl rfl dX12_planByFamilies_35 ?_
    refine v_icmp_ge C (tgt := 224) dX12_planByFamilies_38 rfl (fun hc => ?_) (fun hc => ?_)
    · replace h := (if_neg hc).symm.trans h
      cases h
      exact v_subp [0] rfl K
    · replace h := (if_pos hc).symm.trans h
      refine v_iconst C (n := (-1)) dX12_planByFamilies_41 ?_
      refine v_istore C (ls' := [(0, .ref (G.1 43)), (1, .int (omi v1)), (2, .int (omi v2)), (3, .int (omi v3)), (4, .int (omi v4)), (5, .int (omi (-1)))]) (by decide) rfl dX12_planByFamilies_42 ?_
      refine v_aload_n C (q := 0) rfl rfl dX12_planByFamilies_44 ?_
      refine v_geti C (q := 27) (o := 43) fi_X12_63 rfl rfl dX12_planByFamilies_45 ?_
      refine v_iconst C (n := 1) dX12_planByFamilies_48 ?_
      refine v_isub C dX12_planByFamilies_49 ?_
      refine v_istore C (ls' := [(0, .ref (G.1 43)), (1, .int (omi v1)), (2, .int (omi v2)), (3, .int (omi v3)), (4, .int (omi v4)), (5, .int (omi (-1))), (6, .int (omi ((σ 43 1) - 1)))]) (by decide) rfl dX12_planByFamilies_50 ?_
      obtain ⟨t13, et13, h⟩ := om_bind h
      refine kl_X12_planByFamilies_52 C v1 v2 v3 v4 σ FU _ _ t13 et13 ?_
      refine v_aload_n C (q := 0) rfl rfl dX12_planByFamilies_150 ?_
      refine v_iconst C (n := 1) dX12_planByFamilies_151 ?_
      refine v_aload_n C (q := 0) rfl rfl dX12_planByFamilies_152 ?_
      refine v_getr C (q := 27) (o := 43) (r := 48) fi_X12_22 rfl rfl rfl dX12_planByFamilies_153 ?_
      refine v_iload C (q := 5) rfl dX12_planByFamilies_156 ?_
      obtain ⟨g14, h⟩ := omg_some h
      refine v_iald C (q := 32) (o := 48) (n := 10) rfl g14 dX12_planByFamilies_158 ?_
      refine v_aload_n C (q := 0) rfl rfl dX12_planByFamilies_159 ?_
      refine v_getr C (q := 27) (o := 43) (r := 48) fi_X12_22 rfl rfl rfl dX12_planByFamilies_160 ?_
      refine v_iload C (q := 5) rfl dX12_planByFamilies_163 ?_
      obtain ⟨g15, h⟩ := omg_some h
      refine v_iald C (q := 32) (o := 48) (n := 10) rfl g15 dX12_planByFamilies_165 ?_
      refine v_iload_n C (q := 3) rfl rfl dX12_planByFamilies_166 ?_
      obtain ⟨t16, et16, h⟩ := om_bind h
      have Jt16 : omV G x 9 186 [(0, .ref (G.1 43)), (1, .int (omi v1)), (2, .int (omi v2)), (4, .int (omi v4)), (5, .int (omi t13))] [.int (omi t16), .int (omi (σ 48 (omw t13).toNat)), .int (omi 1), .ref (G.1 43)] σ 0 := by
        obtain ⟨r17, er17, h⟩ := om_bind h
        refine v_invV_v (As := [.int (omi 1), .int (omi (σ 48 (omw t13).toNat)), .int (omi t16)]) C mi_X12_works ml_X12_129 (k_X12_works 1 (σ 48 (omw t13).toNat) t16 σ _ er17) (q := 27) rfl rfl rfl (by decide) (Nat.zero_le _) rfl (Nat.le_of_ble_eq_true rfl) dX12_planByFamilies_186 ?_
        refine v_aload_n C (q := 0) rfl rfl dX12_planByFamilies_189 ?_
        refine v_iconst C (n := 0) dX12_planByFamilies_190 ?_
        refine v_iload C (q := 4) rfl dX12_planByFamilies_191 ?_
        refine v_aload_n C (q := 0) rfl rfl dX12_planByFamilies_193 ?_
        refine v_getr C (q := 27) (o := 43) (r := 44) fi_X12_7 rfl rfl rfl dX12_planByFamilies_194 ?_
        refine v_iload C (q := 4) rfl dX12_planByFamilies_197 ?_
        obtain ⟨g18, h⟩ := omg_some h
        refine v_iald C (q := 28) (o := 44) (n := 10) rfl g18 dX12_planByFamilies_199 ?_
        obtain ⟨r19, er19, h⟩ := om_bind h
        refine v_invV_v (As := [.int (omi 0), .int (omi t13), .int (omi (r17 44 (omw t13).toNat))]) C mi_X12_works ml_X12_129 (k_X12_works 0 t13 (r17 44 (omw t13).toNat) r17 _ er19) (q := 27) rfl rfl rfl (by decide) (Nat.zero_le _) rfl (Nat.le_of_ble_eq_true rfl) dX12_planByFamilies_200 ?_
        refine v_iload_n C (q := 2) rfl rfl dX12_planByFamilies_203 ?_
        refine v_iconst C (n := 1) dX12_planByFamilies_204 ?_
        refine v_iload C (q := 4) rfl dX12_planByFamilies_205 ?_
        refine v_ishl C dX12_planByFamilies_207 ?_
        refine v_ior C dX12_planByFamilies_208 ?_
        refine v_istore_n C (ls' := [(0, .ref (G.1 43)), (1, .int (omi v1)), (2, .int (omi (omor v2 (omshl 1 t13)))), (4, .int (omi v4)), (5, .int (omi t13))]) rfl (by decide) rfl dX12_planByFamilies_209 ?_
        refine v_aload_n C (q := 0) rfl rfl dX12_planByFamilies_210 ?_
        refine v_getr C (q := 27) (o := 43) (r := 48) fi_X12_22 rfl rfl rfl dX12_planByFamilies_211 ?_
        refine v_iload C (q := 4) rfl dX12_planByFamilies_214 ?_
        obtain ⟨g20, h⟩ := omg_some h
        refine v_iald C (q := 32) (o := 48) (n := 10) rfl g20 dX12_planByFamilies_216 ?_
        refine v_istore_n C (ls' := [(0, .ref (G.1 43)), (1, .int (omi v1)), (2, .int (omi (omor v2 (omshl 1 t13)))), (4, .int (omi v4)), (5, .int (omi t13)), (3, .int (omi (r19 48 (omw t13).toNat)))]) rfl (by decide) rfl dX12_planByFamilies_217 ?_
        refine v_iinc C (q := 3) (ls' := [(0, .ref (G.1 43)), (1, .int (omi v1)), (2, .int (omi (omor v2 (omshl 1 t13)))), (4, .int (omi (v4 + 1))), (5, .int (omi t13)), (3, .int (omi (r19 48 (omw t13).toNat)))]) rfl (by decide) rfl rfl dX12_planByFamilies_218 ?_
        refine v_goto C (tgt := 32) dX12_planByFamilies_221 rfl ?_
        exact v_subp [0, 1, 2, 5, 3] rfl (ih _ _ _ _ _ h K)
      clear h
      have h := et16
      clear et16
      refine v_icmp_ne C (tgt := 174) dX12_planByFamilies_167 rfl (fun hc => ?_) (fun hc => ?_)
      · replace h := (if_neg hc).symm.trans h
        refine v_aload_n C (q := 0) rfl rfl dX12_planByFamilies_174 ?_
        refine v_getr C (q := 27) (o := 43) (r := 49) fi_X12_25 rfl rfl rfl dX12_planByFamilies_175 ?_
        refine v_aload_n C (q := 0) rfl rfl dX12_planByFamilies_178 ?_
        refine v_getr C (q := 27) (o := 43) (r := 48) fi_X12_22 rfl rfl rfl dX12_planByFamilies_179 ?_
        refine v_iload C (q := 5) rfl dX12_planByFamilies_182 ?_
        obtain ⟨g21, h⟩ := omg_some h
        refine v_iald C (q := 32) (o := 48) (n := 10) rfl g21 dX12_planByFamilies_184 ?_
        obtain ⟨g22, h⟩ := omg_some h
        refine v_iald C (q := 33) (o := 49) (n := 4) rfl g22 dX12_planByFamilies_185 ?_
        cases h
        exact v_subp [0, 1, 2, 4, 5] rfl Jt16
      · replace h := (if_pos hc).symm.trans h
        refine v_iconst C (n := 0) dX12_planByFamilies_170 ?_
        refine v_goto C (tgt := 186) dX12_planByFamilies_171 rfl ?_
        cases h
        exact v_subp [0, 1, 2, 4, 5] rfl Jt16
set_option maxHeartbeats 4000000 in
set_option maxRecDepth 100000 in
theorem k_X12_planByFamilies {G : omG}  (σ : omH) (t : Int × omH) (h : s_X12_planByFamilies  σ = some t) : omM G yX12_planByFamilies (.code yX12_planByFamilies cX12_planByFamilies 9 (some .int)) 4 0 [.ref (G.1 43)] σ (.inr (some (.int (omi t.1)))) t.2 := by
  unfold s_X12_planByFamilies at h
  refine om_head (own := RX12) (ls := [(0, .ref (G.1 43))]) (by decide +kernel) rfl (by simp [lg_sl, Value.category]) rfl (by simp [Value.category]) (fun x C F => ?_)
  refine v_aload_n C (q := 0) rfl rfl dX12_planByFamilies_0 ?_
  obtain ⟨r1, er1, h⟩ := om_bind h
  refine v_invV_i (As := []) C mi_X12_hasJobs ml_X12_137 (k_X12_hasJobs  σ _ er1) (q := 27) rfl rfl rfl (by decide) (Nat.zero_le _) rfl (Nat.le_of_ble_eq_true rfl) dX12_planByFamilies_1 ?_
  refine v_if_ne C (tgt := 9) dX12_planByFamilies_4 rfl (fun hc => ?_) (fun hc => ?_)
  · replace h := (if_neg hc).symm.trans h
    refine v_aload_n C (q := 0) rfl rfl dX12_planByFamilies_9 ?_
    refine v_iconst C (n := 1) dX12_planByFamilies_10 ?_
    obtain ⟨r2, er2, h⟩ := om_bind h
    refine v_invV_v (As := [.int (omi 1)]) C mi_X12_costsBehind ml_X12_158 (k_X12_costsBehind 1 r1.2 _ er2) (q := 27) rfl rfl rfl (by decide) (Nat.zero_le _) rfl (Nat.le_of_ble_eq_true rfl) dX12_planByFamilies_11 ?_
    refine v_aload_n C (q := 0) rfl rfl dX12_planByFamilies_14 ?_
    refine v_getr C (q := 27) (o := 43) (r := 57) fi_X12_49 rfl rfl rfl dX12_planByFamilies_15 ?_
    refine v_iconst C (n := 4) dX12_planByFamilies_18 ?_
    obtain ⟨g3, h⟩ := omg_some h
    refine v_iald C (q := 41) (o := 57) (n := 5120) rfl g3 dX12_planByFamilies_19 ?_
    refine v_istore_n C (ls' := [(0, .ref (G.1 43)), (1, .int (omi (r2 57 (omw 4).toNat)))]) rfl (by decide) rfl dX12_planByFamilies_20 ?_
    refine v_iconst C (n := 0) dX12_planByFamilies_21 ?_
    refine v_istore_n C (ls' := [(0, .ref (G.1 43)), (1, .int (omi (r2 57 (omw 4).toNat))), (2, .int (omi 0))]) rfl (by decide) rfl dX12_planByFamilies_22 ?_
    refine v_iconst C (n := 4) dX12_planByFamilies_23 ?_
    refine v_istore_n C (ls' := [(0, .ref (G.1 43)), (1, .int (omi (r2 57 (omw 4).toNat))), (2, .int (omi 0)), (3, .int (omi 4))]) rfl (by decide) rfl dX12_planByFamilies_24 ?_
    refine v_aload_n C (q := 0) rfl rfl dX12_planByFamilies_25 ?_
    obtain ⟨r4, er4, h⟩ := om_bind h
    refine v_invV_v (As := []) C mi_X12_begins ml_X12_126 (k_X12_begins  r2 _ er4) (q := 27) rfl rfl rfl (by decide) (Nat.zero_le _) rfl (Nat.le_of_ble_eq_true rfl) dX12_planByFamilies_26 ?_
    refine v_iconst C (n := 0) dX12_planByFamilies_29 ?_
    refine v_istore C (ls' := [(0, .ref (G.1 43)), (1, .int (omi (r2 57 (omw 4).toNat))), (2, .int (omi 0)), (3, .int (omi 4)), (4, .int (omi 0))]) (by decide) rfl dX12_planByFamilies_30 ?_
    obtain ⟨t23, et23, h⟩ := om_bind h
    refine kl_X12_planByFamilies_32 C (r2 57 (omw 4).toNat) FU _ _ _ _ t23 et23 ?_
    refine v_aload_n C (q := 0) rfl rfl dX12_planByFamilies_224 ?_
    obtain ⟨r24, er24, h⟩ := om_bind h
    refine v_invV_i (As := []) C mi_X12_greatest ml_X12_148 (k_X12_greatest  t23 _ er24) (q := 27) rfl rfl rfl (by decide) (Nat.zero_le _) rfl (Nat.le_of_ble_eq_true rfl) dX12_planByFamilies_225 ?_
    cases h
    exact v_iret C F dX12_planByFamilies_228 (Nat.zero_le _)
  · replace h := (if_pos hc).symm.trans h
    refine v_iconst C (n := 0) dX12_planByFamilies_7 ?_
    cases h
    exact v_iret C F dX12_planByFamilies_8 (Nat.zero_le _)
set_option maxHeartbeats 4000000 in
set_option maxRecDepth 100000 in
theorem k_X12_planPreemptiveByDates {G : omG}  (σ : omH) (t : Int × omH) (h : s_X12_planPreemptiveByDates  σ = some t) : omM G yX12_planPreemptiveByDates (.code yX12_planPreemptiveByDates cX12_planPreemptiveByDates 1 (some .int)) 4 0 [.ref (G.1 43)] σ (.inr (some (.int (omi t.1)))) t.2 := by
  unfold s_X12_planPreemptiveByDates at h
  refine om_head (own := RX12) (ls := [(0, .ref (G.1 43))]) (by decide +kernel) rfl (by simp [lg_sl, Value.category]) rfl (by simp [Value.category]) (fun x C F => ?_)
  refine v_aload_n C (q := 0) rfl rfl dX12_planPreemptiveByDates_0 ?_
  obtain ⟨r1, er1, h⟩ := om_bind h
  refine v_invV_i (As := []) C mi_X12_hasJobs ml_X12_137 (k_X12_hasJobs  σ _ er1) (q := 27) rfl rfl rfl (by decide) (Nat.zero_le _) rfl (Nat.le_of_ble_eq_true rfl) dX12_planPreemptiveByDates_1 ?_
  refine v_if_ne C (tgt := 9) dX12_planPreemptiveByDates_4 rfl (fun hc => ?_) (fun hc => ?_)
  · replace h := (if_neg hc).symm.trans h
    refine v_aload_n C (q := 0) rfl rfl dX12_planPreemptiveByDates_9 ?_
    refine v_iconst C (n := 1) dX12_planPreemptiveByDates_10 ?_
    obtain ⟨r2, er2, h⟩ := om_bind h
    refine v_invV_v (As := [.int (omi 1)]) C mi_X12_worksByTime ml_X12_161 (k_X12_worksByTime 1 r1.2 _ er2) (q := 27) rfl rfl rfl (by decide) (Nat.zero_le _) rfl (Nat.le_of_ble_eq_true rfl) dX12_planPreemptiveByDates_11 ?_
    refine v_aload_n C (q := 0) rfl rfl dX12_planPreemptiveByDates_14 ?_
    obtain ⟨r3, er3, h⟩ := om_bind h
    refine v_invV_i (As := []) C mi_X12_greatest ml_X12_148 (k_X12_greatest  r2 _ er3) (q := 27) rfl rfl rfl (by decide) (Nat.zero_le _) rfl (Nat.le_of_ble_eq_true rfl) dX12_planPreemptiveByDates_15 ?_
    cases h
    exact v_iret C F dX12_planPreemptiveByDates_18 (Nat.zero_le _)
  · replace h := (if_pos hc).symm.trans h
    refine v_iconst C (n := 0) dX12_planPreemptiveByDates_7 ?_
    cases h
    exact v_iret C F dX12_planPreemptiveByDates_8 (Nat.zero_le _)
set_option maxHeartbeats 4000000 in
set_option maxRecDepth 100000 in
theorem k_X12_planPreemptiveShortest {G : omG}  (σ : omH) (t : Int × omH) (h : s_X12_planPreemptiveShortest  σ = some t) : omM G yX12_planPreemptiveShortest (.code yX12_planPreemptiveShortest cX12_planPreemptiveShortest 1 (some .int)) 4 0 [.ref (G.1 43)] σ (.inr (some (.int (omi t.1)))) t.2 := by
  unfold s_X12_planPreemptiveShortest at h
  refine om_head (own := RX12) (ls := [(0, .ref (G.1 43))]) (by decide +kernel) rfl (by simp [lg_sl, Value.category]) rfl (by simp [Value.category]) (fun x C F => ?_)
  refine v_aload_n C (q := 0) rfl rfl dX12_planPreemptiveShortest_0 ?_
  obtain ⟨r1, er1, h⟩ := om_bind h
  refine v_invV_i (As := []) C mi_X12_hasJobs ml_X12_137 (k_X12_hasJobs  σ _ er1) (q := 27) rfl rfl rfl (by decide) (Nat.zero_le _) rfl (Nat.le_of_ble_eq_true rfl) dX12_planPreemptiveShortest_1 ?_
  refine v_if_ne C (tgt := 9) dX12_planPreemptiveShortest_4 rfl (fun hc => ?_) (fun hc => ?_)
  · replace h := (if_neg hc).symm.trans h
    refine v_aload_n C (q := 0) rfl rfl dX12_planPreemptiveShortest_9 ?_
    refine v_iconst C (n := 0) dX12_planPreemptiveShortest_10 ?_
    obtain ⟨r2, er2, h⟩ := om_bind h
    refine v_invV_v (As := [.int (omi 0)]) C mi_X12_worksByTime ml_X12_161 (k_X12_worksByTime 0 r1.2 _ er2) (q := 27) rfl rfl rfl (by decide) (Nat.zero_le _) rfl (Nat.le_of_ble_eq_true rfl) dX12_planPreemptiveShortest_11 ?_
    refine v_aload_n C (q := 0) rfl rfl dX12_planPreemptiveShortest_14 ?_
    refine v_iconst C (n := 1) dX12_planPreemptiveShortest_15 ?_
    obtain ⟨r3, er3, h⟩ := om_bind h
    refine v_invV_i (As := [.int (omi 1)]) C mi_X12_sum ml_X12_151 (k_X12_sum 1 r2 _ er3) (q := 27) rfl rfl rfl (by decide) (Nat.zero_le _) rfl (Nat.le_of_ble_eq_true rfl) dX12_planPreemptiveShortest_16 ?_
    cases h
    exact v_iret C F dX12_planPreemptiveShortest_19 (Nat.zero_le _)
  · replace h := (if_pos hc).symm.trans h
    refine v_iconst C (n := 0) dX12_planPreemptiveShortest_7 ?_
    cases h
    exact v_iret C F dX12_planPreemptiveShortest_8 (Nat.zero_le _)
set_option maxHeartbeats 4000000 in
set_option maxRecDepth 100000 in
theorem k_X12_hasPlan {G : omG}  (σ : omH) (t : Int × omH) (h : s_X12_hasPlan  σ = some t) : omM G yX12_hasPlan (.code yX12_hasPlan cX12_hasPlan 1 (some .boolean)) 1 0 [.ref (G.1 43)] σ (.inr (some (.int (omi t.1)))) t.2 := by
  unfold s_X12_hasPlan at h
  refine om_head (own := RX12) (ls := [(0, .ref (G.1 43))]) (by decide +kernel) rfl (by simp [lg_sl, Value.category]) rfl (by simp [Value.category]) (fun x C F => ?_)
  refine v_aload_n C (q := 0) rfl rfl dX12_hasPlan_0 ?_
  refine v_iconst C (n := 0) dX12_hasPlan_1 ?_
  refine v_puti C (q := 27) (o := 43) fp_X12_59 rfl rfl dX12_hasPlan_2 ?_
  refine v_aload_n C (q := 0) rfl rfl dX12_hasPlan_5 ?_
  refine v_geti C (q := 27) (o := 43) fi_X12_70 rfl rfl dX12_hasPlan_6 ?_
  obtain ⟨g1, h⟩ := omg_some h
  cases h
  exact v_zret C g1 F dX12_hasPlan_9 (Nat.zero_le _)
set_option maxHeartbeats 4000000 in
set_option maxRecDepth 100000 in
theorem k_X12_pieces {G : omG}  (σ : omH) (t : Int × omH) (h : s_X12_pieces  σ = some t) : omM G yX12_pieces (.code yX12_pieces cX12_pieces 1 (some .int)) 1 0 [.ref (G.1 43)] σ (.inr (some (.int (omi t.1)))) t.2 := by
  unfold s_X12_pieces at h
  refine om_head (own := RX12) (ls := [(0, .ref (G.1 43))]) (by decide +kernel) rfl (by simp [lg_sl, Value.category]) rfl (by simp [Value.category]) (fun x C F => ?_)
  refine v_aload_n C (q := 0) rfl rfl dX12_pieces_0 ?_
  refine v_iconst C (n := 0) dX12_pieces_1 ?_
  refine v_puti C (q := 27) (o := 43) fp_X12_59 rfl rfl dX12_pieces_2 ?_
  refine v_aload_n C (q := 0) rfl rfl dX12_pieces_5 ?_
  refine v_geti C (q := 27) (o := 43) fi_X12_74 rfl rfl dX12_pieces_6 ?_
  cases h
  exact v_iret C F dX12_pieces_9 (Nat.zero_le _)
set_option maxHeartbeats 4000000 in
set_option maxRecDepth 100000 in
theorem k_X12_isPiece {G : omG} (v1 : Int) (σ : omH) (t : Int × omH) (h : s_X12_isPiece v1 σ = some t) : omM G yX12_isPiece (.code yX12_isPiece cX12_isPiece 2 (some .boolean)) 2 0 [.ref (G.1 43), .int (omi v1)] σ (.inr (some (.int (omi t.1)))) t.2 := by
  unfold s_X12_isPiece at h
  refine om_head (own := RX12) (ls := [(0, .ref (G.1 43)), (1, .int (omi v1))]) (by decide +kernel) rfl (by simp [lg_sl, Value.category]) rfl (by simp [Value.category]) (fun x C F => ?_)
  refine v_aload_n C (q := 0) rfl rfl dX12_isPiece_0 ?_
  refine v_iload_n C (q := 1) rfl rfl dX12_isPiece_1 ?_
  obtain ⟨t1, et1, h⟩ := om_bind h
  have Jt1 : omV G x 2 18 [] [.int (omi t1), .ref (G.1 43)] σ 0 := by
    obtain ⟨r2, er2, h⟩ := om_bind h
    refine v_invV_i (As := [.int (omi t1)]) C mi_X12_holds ml_X12_84 (k_X12_holds t1 σ _ er2) (q := 27) rfl rfl rfl (by decide) (Nat.zero_le _) rfl (Nat.le_of_ble_eq_true rfl) dX12_isPiece_18 ?_
    obtain ⟨g3, h⟩ := omg_some h
    cases h
    exact v_zret C g3 F dX12_isPiece_21 (Nat.zero_le _)
  clear h
  have h := et1
  clear et1
  refine v_if_lt C (tgt := 17) dX12_isPiece_2 rfl (fun hc => ?_) (fun hc => ?_)
  · replace h := (if_pos hc).symm.trans h
    refine v_iconst C (n := 1) dX12_isPiece_17 ?_
    cases h
    exact v_subp [] rfl Jt1
  · replace h := (if_neg hc).symm.trans h
    refine v_iload_n C (q := 1) rfl rfl dX12_isPiece_5 ?_
    refine v_aload_n C (q := 0) rfl rfl dX12_isPiece_6 ?_
    refine v_geti C (q := 27) (o := 43) fi_X12_74 rfl rfl dX12_isPiece_7 ?_
    refine v_icmp_ge C (tgt := 17) dX12_isPiece_10 rfl (fun hc => ?_) (fun hc => ?_)
    · replace h := (if_neg hc).symm.trans h
      refine v_iconst C (n := 1) dX12_isPiece_17 ?_
      cases h
      exact v_subp [] rfl Jt1
    · replace h := (if_pos hc).symm.trans h
      refine v_iconst C (n := 0) dX12_isPiece_13 ?_
      refine v_goto C (tgt := 18) dX12_isPiece_14 rfl ?_
      cases h
      exact v_subp [] rfl Jt1
set_option maxHeartbeats 4000000 in
set_option maxRecDepth 100000 in
theorem k_X12_kindOf {G : omG} (v1 : Int) (σ : omH) (t : Int × omH) (h : s_X12_kindOf v1 σ = some t) : omM G yX12_kindOf (.code yX12_kindOf cX12_kindOf 2 (some .int)) 3 0 [.ref (G.1 43), .int (omi v1)] σ (.inr (some (.int (omi t.1)))) t.2 := by
  unfold s_X12_kindOf at h
  refine om_head (own := RX12) (ls := [(0, .ref (G.1 43)), (1, .int (omi v1))]) (by decide +kernel) rfl (by simp [lg_sl, Value.category]) rfl (by simp [Value.category]) (fun x C F => ?_)
  refine v_aload_n C (q := 0) rfl rfl dX12_kindOf_0 ?_
  refine v_iload_n C (q := 1) rfl rfl dX12_kindOf_1 ?_
  obtain ⟨r1, er1, h⟩ := om_bind h
  refine v_invV_i (As := [.int (omi v1)]) C mi_X12_isPiece ml_X12_164 (k_X12_isPiece v1 σ _ er1) (q := 27) rfl rfl rfl (by decide) (Nat.zero_le _) rfl (Nat.le_of_ble_eq_true rfl) dX12_kindOf_2 ?_
  refine v_if_eq C (tgt := 17) dX12_kindOf_5 rfl (fun hc => ?_) (fun hc => ?_)
  · replace h := (if_pos hc).symm.trans h
    refine v_iconst C (n := 0) dX12_kindOf_17 ?_
    cases h
    exact v_iret C F dX12_kindOf_18 (Nat.zero_le _)
  · replace h := (if_neg hc).symm.trans h
    refine v_aload_n C (q := 0) rfl rfl dX12_kindOf_8 ?_
    refine v_getr C (q := 27) (o := 43) (r := 50) fi_X12_28 rfl rfl rfl dX12_kindOf_9 ?_
    refine v_iload_n C (q := 1) rfl rfl dX12_kindOf_12 ?_
    obtain ⟨g2, h⟩ := omg_some h
    refine v_iald C (q := 34) (o := 50) (n := 64) rfl g2 dX12_kindOf_13 ?_
    refine v_goto C (tgt := 18) dX12_kindOf_14 rfl ?_
    cases h
    exact v_iret C F dX12_kindOf_18 (Nat.zero_le _)
set_option maxHeartbeats 4000000 in
set_option maxRecDepth 100000 in
theorem k_X12_whoseIs {G : omG} (v1 : Int) (σ : omH) (t : Int × omH) (h : s_X12_whoseIs v1 σ = some t) : omM G yX12_whoseIs (.code yX12_whoseIs cX12_whoseIs 2 (some .int)) 3 0 [.ref (G.1 43), .int (omi v1)] σ (.inr (some (.int (omi t.1)))) t.2 := by
  unfold s_X12_whoseIs at h
  refine om_head (own := RX12) (ls := [(0, .ref (G.1 43)), (1, .int (omi v1))]) (by decide +kernel) rfl (by simp [lg_sl, Value.category]) rfl (by simp [Value.category]) (fun x C F => ?_)
  refine v_aload_n C (q := 0) rfl rfl dX12_whoseIs_0 ?_
  refine v_iload_n C (q := 1) rfl rfl dX12_whoseIs_1 ?_
  obtain ⟨r1, er1, h⟩ := om_bind h
  refine v_invV_i (As := [.int (omi v1)]) C mi_X12_isPiece ml_X12_164 (k_X12_isPiece v1 σ _ er1) (q := 27) rfl rfl rfl (by decide) (Nat.zero_le _) rfl (Nat.le_of_ble_eq_true rfl) dX12_whoseIs_2 ?_
  refine v_if_eq C (tgt := 17) dX12_whoseIs_5 rfl (fun hc => ?_) (fun hc => ?_)
  · replace h := (if_pos hc).symm.trans h
    refine v_iconst C (n := 0) dX12_whoseIs_17 ?_
    cases h
    exact v_iret C F dX12_whoseIs_18 (Nat.zero_le _)
  · replace h := (if_neg hc).symm.trans h
    refine v_aload_n C (q := 0) rfl rfl dX12_whoseIs_8 ?_
    refine v_getr C (q := 27) (o := 43) (r := 51) fi_X12_31 rfl rfl rfl dX12_whoseIs_9 ?_
    refine v_iload_n C (q := 1) rfl rfl dX12_whoseIs_12 ?_
    obtain ⟨g2, h⟩ := omg_some h
    refine v_iald C (q := 35) (o := 51) (n := 64) rfl g2 dX12_whoseIs_13 ?_
    refine v_goto C (tgt := 18) dX12_whoseIs_14 rfl ?_
    cases h
    exact v_iret C F dX12_whoseIs_18 (Nat.zero_le _)
set_option maxHeartbeats 4000000 in
set_option maxRecDepth 100000 in
theorem k_X12_startOf {G : omG} (v1 : Int) (σ : omH) (t : Int × omH) (h : s_X12_startOf v1 σ = some t) : omM G yX12_startOf (.code yX12_startOf cX12_startOf 2 (some .int)) 3 0 [.ref (G.1 43), .int (omi v1)] σ (.inr (some (.int (omi t.1)))) t.2 := by
  unfold s_X12_startOf at h
  refine om_head (own := RX12) (ls := [(0, .ref (G.1 43)), (1, .int (omi v1))]) (by decide +kernel) rfl (by simp [lg_sl, Value.category]) rfl (by simp [Value.category]) (fun x C F => ?_)
  refine v_aload_n C (q := 0) rfl rfl dX12_startOf_0 ?_
  refine v_iload_n C (q := 1) rfl rfl dX12_startOf_1 ?_
  obtain ⟨r1, er1, h⟩ := om_bind h
  refine v_invV_i (As := [.int (omi v1)]) C mi_X12_isPiece ml_X12_164 (k_X12_isPiece v1 σ _ er1) (q := 27) rfl rfl rfl (by decide) (Nat.zero_le _) rfl (Nat.le_of_ble_eq_true rfl) dX12_startOf_2 ?_
  refine v_if_eq C (tgt := 23) dX12_startOf_5 rfl (fun hc => ?_) (fun hc => ?_)
  · replace h := (if_pos hc).symm.trans h
    refine v_iconst C (n := 0) dX12_startOf_23 ?_
    cases h
    exact v_iret C F dX12_startOf_24 (Nat.zero_le _)
  · replace h := (if_neg hc).symm.trans h
    refine v_iload_n C (q := 1) rfl rfl dX12_startOf_8 ?_
    refine v_if_le C (tgt := 23) dX12_startOf_9 rfl (fun hc => ?_) (fun hc => ?_)
    · replace h := (if_neg hc).symm.trans h
      refine v_iconst C (n := 0) dX12_startOf_23 ?_
      cases h
      exact v_iret C F dX12_startOf_24 (Nat.zero_le _)
    · replace h := (if_pos hc).symm.trans h
      refine v_aload_n C (q := 0) rfl rfl dX12_startOf_12 ?_
      refine v_getr C (q := 27) (o := 43) (r := 52) fi_X12_34 rfl rfl rfl dX12_startOf_13 ?_
      refine v_iload_n C (q := 1) rfl rfl dX12_startOf_16 ?_
      refine v_iconst C (n := 1) dX12_startOf_17 ?_
      refine v_isub C dX12_startOf_18 ?_
      obtain ⟨g2, h⟩ := omg_some h
      refine v_iald C (q := 36) (o := 52) (n := 64) rfl g2 dX12_startOf_19 ?_
      refine v_goto C (tgt := 24) dX12_startOf_20 rfl ?_
      cases h
      exact v_iret C F dX12_startOf_24 (Nat.zero_le _)
set_option maxHeartbeats 4000000 in
set_option maxRecDepth 100000 in
theorem k_X12_endOf {G : omG} (v1 : Int) (σ : omH) (t : Int × omH) (h : s_X12_endOf v1 σ = some t) : omM G yX12_endOf (.code yX12_endOf cX12_endOf 2 (some .int)) 3 0 [.ref (G.1 43), .int (omi v1)] σ (.inr (some (.int (omi t.1)))) t.2 := by
  unfold s_X12_endOf at h
  refine om_head (own := RX12) (ls := [(0, .ref (G.1 43)), (1, .int (omi v1))]) (by decide +kernel) rfl (by simp [lg_sl, Value.category]) rfl (by simp [Value.category]) (fun x C F => ?_)
  refine v_aload_n C (q := 0) rfl rfl dX12_endOf_0 ?_
  refine v_iload_n C (q := 1) rfl rfl dX12_endOf_1 ?_
  obtain ⟨r1, er1, h⟩ := om_bind h
  refine v_invV_i (As := [.int (omi v1)]) C mi_X12_isPiece ml_X12_164 (k_X12_isPiece v1 σ _ er1) (q := 27) rfl rfl rfl (by decide) (Nat.zero_le _) rfl (Nat.le_of_ble_eq_true rfl) dX12_endOf_2 ?_
  refine v_if_eq C (tgt := 17) dX12_endOf_5 rfl (fun hc => ?_) (fun hc => ?_)
  · replace h := (if_pos hc).symm.trans h
    refine v_iconst C (n := 0) dX12_endOf_17 ?_
    cases h
    exact v_iret C F dX12_endOf_18 (Nat.zero_le _)
  · replace h := (if_neg hc).symm.trans h
    refine v_aload_n C (q := 0) rfl rfl dX12_endOf_8 ?_
    refine v_getr C (q := 27) (o := 43) (r := 52) fi_X12_34 rfl rfl rfl dX12_endOf_9 ?_
    refine v_iload_n C (q := 1) rfl rfl dX12_endOf_12 ?_
    obtain ⟨g2, h⟩ := omg_some h
    refine v_iald C (q := 36) (o := 52) (n := 64) rfl g2 dX12_endOf_13 ?_
    refine v_goto C (tgt := 18) dX12_endOf_14 rfl ?_
    cases h
    exact v_iret C F dX12_endOf_18 (Nat.zero_le _)
set_option maxHeartbeats 4000000 in
set_option maxRecDepth 100000 in
theorem k_X12_isPlanned {G : omG} (v1 : Int) (σ : omH) (t : Int × omH) (h : s_X12_isPlanned v1 σ = some t) : omM G yX12_isPlanned (.code yX12_isPlanned cX12_isPlanned 2 (some .boolean)) 2 0 [.ref (G.1 43), .int (omi v1)] σ (.inr (some (.int (omi t.1)))) t.2 := by
  unfold s_X12_isPlanned at h
  refine om_head (own := RX12) (ls := [(0, .ref (G.1 43)), (1, .int (omi v1))]) (by decide +kernel) rfl (by simp [lg_sl, Value.category]) rfl (by simp [Value.category]) (fun x C F => ?_)
  refine v_aload_n C (q := 0) rfl rfl dX12_isPlanned_0 ?_
  refine v_aload_n C (q := 0) rfl rfl dX12_isPlanned_1 ?_
  refine v_iload_n C (q := 1) rfl rfl dX12_isPlanned_2 ?_
  obtain ⟨r1, er1, h⟩ := om_bind h
  refine v_invV_i (As := [.int (omi v1)]) C mi_X12_isJob ml_X12_92 (k_X12_isJob v1 σ _ er1) (q := 27) rfl rfl rfl (by decide) (Nat.zero_le _) rfl (Nat.le_of_ble_eq_true rfl) dX12_isPlanned_3 ?_
  obtain ⟨t2, et2, h⟩ := om_bind h
  have Jt2 : omV G x 2 25 [] [.int (omi t2), .ref (G.1 43)] σ 0 := by
    obtain ⟨r3, er3, h⟩ := om_bind h
    refine v_invV_i (As := [.int (omi t2)]) C mi_X12_holds ml_X12_84 (k_X12_holds t2 σ _ er3) (q := 27) rfl rfl rfl (by decide) (Nat.zero_le _) rfl (Nat.le_of_ble_eq_true rfl) dX12_isPlanned_25 ?_
    obtain ⟨g4, h⟩ := omg_some h
    cases h
    exact v_zret C g4 F dX12_isPlanned_28 (Nat.zero_le _)
  clear h
  have h := et2
  clear et2
  refine v_if_ne C (tgt := 13) dX12_isPlanned_6 rfl (fun hc => ?_) (fun hc => ?_)
  · replace h := (if_neg hc).symm.trans h
    refine v_aload_n C (q := 0) rfl rfl dX12_isPlanned_13 ?_
    refine v_geti C (q := 27) (o := 43) fi_X12_70 rfl rfl dX12_isPlanned_14 ?_
    refine v_if_eq C (tgt := 24) dX12_isPlanned_17 rfl (fun hc => ?_) (fun hc => ?_)
    · replace h := (if_pos hc).symm.trans h
      refine v_iconst C (n := 2) dX12_isPlanned_24 ?_
      cases h
      exact v_subp [] rfl Jt2
    · replace h := (if_neg hc).symm.trans h
      refine v_iconst C (n := 0) dX12_isPlanned_20 ?_
      refine v_goto C (tgt := 25) dX12_isPlanned_21 rfl ?_
      cases h
      exact v_subp [] rfl Jt2
  · replace h := (if_pos hc).symm.trans h
    refine v_iconst C (n := 1) dX12_isPlanned_9 ?_
    refine v_goto C (tgt := 25) dX12_isPlanned_10 rfl ?_
    cases h
    exact v_subp [] rfl Jt2
set_option maxHeartbeats 4000000 in
set_option maxRecDepth 100000 in
theorem k_X12_completion {G : omG} (v1 : Int) (σ : omH) (t : Int × omH) (h : s_X12_completion v1 σ = some t) : omM G yX12_completion (.code yX12_completion cX12_completion 2 (some .int)) 3 0 [.ref (G.1 43), .int (omi v1)] σ (.inr (some (.int (omi t.1)))) t.2 := by
  unfold s_X12_completion at h
  refine om_head (own := RX12) (ls := [(0, .ref (G.1 43)), (1, .int (omi v1))]) (by decide +kernel) rfl (by simp [lg_sl, Value.category]) rfl (by simp [Value.category]) (fun x C F => ?_)
  refine v_aload_n C (q := 0) rfl rfl dX12_completion_0 ?_
  refine v_iload_n C (q := 1) rfl rfl dX12_completion_1 ?_
  obtain ⟨r1, er1, h⟩ := om_bind h
  refine v_invV_i (As := [.int (omi v1)]) C mi_X12_isPlanned ml_X12_167 (k_X12_isPlanned v1 σ _ er1) (q := 27) rfl rfl rfl (by decide) (Nat.zero_le _) rfl (Nat.le_of_ble_eq_true rfl) dX12_completion_2 ?_
  refine v_if_eq C (tgt := 17) dX12_completion_5 rfl (fun hc => ?_) (fun hc => ?_)
  · replace h := (if_pos hc).symm.trans h
    refine v_iconst C (n := 0) dX12_completion_17 ?_
    cases h
    exact v_iret C F dX12_completion_18 (Nat.zero_le _)
  · replace h := (if_neg hc).symm.trans h
    refine v_aload_n C (q := 0) rfl rfl dX12_completion_8 ?_
    refine v_getr C (q := 27) (o := 43) (r := 53) fi_X12_37 rfl rfl rfl dX12_completion_9 ?_
    refine v_iload_n C (q := 1) rfl rfl dX12_completion_12 ?_
    obtain ⟨g2, h⟩ := omg_some h
    refine v_iald C (q := 37) (o := 53) (n := 10) rfl g2 dX12_completion_13 ?_
    refine v_goto C (tgt := 18) dX12_completion_14 rfl ?_
    cases h
    exact v_iret C F dX12_completion_18 (Nat.zero_le _)
set_option maxHeartbeats 4000000 in
set_option maxRecDepth 100000 in
theorem k_X12_lateness {G : omG} (v1 : Int) (σ : omH) (t : Int × omH) (h : s_X12_lateness v1 σ = some t) : omM G yX12_lateness (.code yX12_lateness cX12_lateness 2 (some .int)) 3 0 [.ref (G.1 43), .int (omi v1)] σ (.inr (some (.int (omi t.1)))) t.2 := by
  unfold s_X12_lateness at h
  refine om_head (own := RX12) (ls := [(0, .ref (G.1 43)), (1, .int (omi v1))]) (by decide +kernel) rfl (by simp [lg_sl, Value.category]) rfl (by simp [Value.category]) (fun x C F => ?_)
  refine v_aload_n C (q := 0) rfl rfl dX12_lateness_0 ?_
  refine v_iload_n C (q := 1) rfl rfl dX12_lateness_1 ?_
  obtain ⟨r1, er1, h⟩ := om_bind h
  refine v_invV_i (As := [.int (omi v1)]) C mi_X12_isPlanned ml_X12_167 (k_X12_isPlanned v1 σ _ er1) (q := 27) rfl rfl rfl (by decide) (Nat.zero_le _) rfl (Nat.le_of_ble_eq_true rfl) dX12_lateness_2 ?_
  refine v_if_eq C (tgt := 24) dX12_lateness_5 rfl (fun hc => ?_) (fun hc => ?_)
  · replace h := (if_pos hc).symm.trans h
    refine v_iconst C (n := 0) dX12_lateness_24 ?_
    cases h
    exact v_iret C F dX12_lateness_25 (Nat.zero_le _)
  · replace h := (if_neg hc).symm.trans h
    refine v_aload_n C (q := 0) rfl rfl dX12_lateness_8 ?_
    refine v_getr C (q := 27) (o := 43) (r := 53) fi_X12_37 rfl rfl rfl dX12_lateness_9 ?_
    refine v_iload_n C (q := 1) rfl rfl dX12_lateness_12 ?_
    obtain ⟨g2, h⟩ := omg_some h
    refine v_iald C (q := 37) (o := 53) (n := 10) rfl g2 dX12_lateness_13 ?_
    refine v_aload_n C (q := 0) rfl rfl dX12_lateness_14 ?_
    refine v_getr C (q := 27) (o := 43) (r := 45) fi_X12_13 rfl rfl rfl dX12_lateness_15 ?_
    refine v_iload_n C (q := 1) rfl rfl dX12_lateness_18 ?_
    obtain ⟨g3, h⟩ := omg_some h
    refine v_iald C (q := 29) (o := 45) (n := 10) rfl g3 dX12_lateness_19 ?_
    refine v_isub C dX12_lateness_20 ?_
    refine v_goto C (tgt := 25) dX12_lateness_21 rfl ?_
    cases h
    exact v_iret C F dX12_lateness_25 (Nat.zero_le _)
set_option maxHeartbeats 4000000 in
set_option maxRecDepth 100000 in
theorem k_X12_maxLateness {G : omG}  (σ : omH) (t : Int × omH) (h : s_X12_maxLateness  σ = some t) : omM G yX12_maxLateness (.code yX12_maxLateness cX12_maxLateness 1 (some .int)) 2 0 [.ref (G.1 43)] σ (.inr (some (.int (omi t.1)))) t.2 := by
  unfold s_X12_maxLateness at h
  refine om_head (own := RX12) (ls := [(0, .ref (G.1 43))]) (by decide +kernel) rfl (by simp [lg_sl, Value.category]) rfl (by simp [Value.category]) (fun x C F => ?_)
  refine v_aload_n C (q := 0) rfl rfl dX12_maxLateness_0 ?_
  refine v_aload_n C (q := 0) rfl rfl dX12_maxLateness_1 ?_
  refine v_geti C (q := 27) (o := 43) fi_X12_70 rfl rfl dX12_maxLateness_2 ?_
  obtain ⟨t1, et1, h⟩ := om_bind h
  have Jt1 : omV G x 1 13 [(0, .ref (G.1 43))] [.int (omi t1), .ref (G.1 43)] σ 0 := by
    obtain ⟨r2, er2, h⟩ := om_bind h
    refine v_invV_i (As := [.int (omi t1)]) C mi_X12_holds ml_X12_84 (k_X12_holds t1 σ _ er2) (q := 27) rfl rfl rfl (by decide) (Nat.zero_le _) rfl (Nat.le_of_ble_eq_true rfl) dX12_maxLateness_13 ?_
    refine v_if_eq C (tgt := 26) dX12_maxLateness_16 rfl (fun hc => ?_) (fun hc => ?_)
    · replace h := (if_pos hc).symm.trans h
      refine v_iconst C (n := 0) dX12_maxLateness_26 ?_
      cases h
      exact v_iret C F dX12_maxLateness_27 (Nat.zero_le _)
    · replace h := (if_neg hc).symm.trans h
      refine v_aload_n C (q := 0) rfl rfl dX12_maxLateness_19 ?_
      obtain ⟨r3, er3, h⟩ := om_bind h
      refine v_invV_i (As := []) C mi_X12_greatest ml_X12_148 (k_X12_greatest  r2.2 _ er3) (q := 27) rfl rfl rfl (by decide) (Nat.zero_le _) rfl (Nat.le_of_ble_eq_true rfl) dX12_maxLateness_20 ?_
      refine v_goto C (tgt := 27) dX12_maxLateness_23 rfl ?_
      cases h
      exact v_iret C F dX12_maxLateness_27 (Nat.zero_le _)
  clear h
  have h := et1
  clear et1
  refine v_if_eq C (tgt := 12) dX12_maxLateness_5 rfl (fun hc => ?_) (fun hc => ?_)
  · replace h := (if_pos hc).symm.trans h
    refine v_iconst C (n := 1) dX12_maxLateness_12 ?_
    cases h
    exact Jt1
  · replace h := (if_neg hc).symm.trans h
    refine v_iconst C (n := 0) dX12_maxLateness_8 ?_
    refine v_goto C (tgt := 13) dX12_maxLateness_9 rfl ?_
    cases h
    exact Jt1
set_option maxHeartbeats 4000000 in
set_option maxRecDepth 100000 in
theorem k_X12_lateJobs {G : omG}  (σ : omH) (t : Int × omH) (h : s_X12_lateJobs  σ = some t) : omM G yX12_lateJobs (.code yX12_lateJobs cX12_lateJobs 1 (some .int)) 3 0 [.ref (G.1 43)] σ (.inr (some (.int (omi t.1)))) t.2 := by
  unfold s_X12_lateJobs at h
  refine om_head (own := RX12) (ls := [(0, .ref (G.1 43))]) (by decide +kernel) rfl (by simp [lg_sl, Value.category]) rfl (by simp [Value.category]) (fun x C F => ?_)
  refine v_aload_n C (q := 0) rfl rfl dX12_lateJobs_0 ?_
  refine v_aload_n C (q := 0) rfl rfl dX12_lateJobs_1 ?_
  refine v_geti C (q := 27) (o := 43) fi_X12_70 rfl rfl dX12_lateJobs_2 ?_
  obtain ⟨t1, et1, h⟩ := om_bind h
  have Jt1 : omV G x 1 13 [(0, .ref (G.1 43))] [.int (omi t1), .ref (G.1 43)] σ 0 := by
    obtain ⟨r2, er2, h⟩ := om_bind h
    refine v_invV_i (As := [.int (omi t1)]) C mi_X12_holds ml_X12_84 (k_X12_holds t1 σ _ er2) (q := 27) rfl rfl rfl (by decide) (Nat.zero_le _) rfl (Nat.le_of_ble_eq_true rfl) dX12_lateJobs_13 ?_
    refine v_if_eq C (tgt := 27) dX12_lateJobs_16 rfl (fun hc => ?_) (fun hc => ?_)
    · replace h := (if_pos hc).symm.trans h
      refine v_iconst C (n := 0) dX12_lateJobs_27 ?_
      cases h
      exact v_iret C F dX12_lateJobs_28 (Nat.zero_le _)
    · replace h := (if_neg hc).symm.trans h
      refine v_aload_n C (q := 0) rfl rfl dX12_lateJobs_19 ?_
      refine v_iconst C (n := 0) dX12_lateJobs_20 ?_
      obtain ⟨r3, er3, h⟩ := om_bind h
      refine v_invV_i (As := [.int (omi 0)]) C mi_X12_sum ml_X12_151 (k_X12_sum 0 r2.2 _ er3) (q := 27) rfl rfl rfl (by decide) (Nat.zero_le _) rfl (Nat.le_of_ble_eq_true rfl) dX12_lateJobs_21 ?_
      refine v_goto C (tgt := 28) dX12_lateJobs_24 rfl ?_
      cases h
      exact v_iret C F dX12_lateJobs_28 (Nat.zero_le _)
  clear h
  have h := et1
  clear et1
  refine v_if_eq C (tgt := 12) dX12_lateJobs_5 rfl (fun hc => ?_) (fun hc => ?_)
  · replace h := (if_pos hc).symm.trans h
    refine v_iconst C (n := 1) dX12_lateJobs_12 ?_
    cases h
    exact Jt1
  · replace h := (if_neg hc).symm.trans h
    refine v_iconst C (n := 0) dX12_lateJobs_8 ?_
    refine v_goto C (tgt := 13) dX12_lateJobs_9 rfl ?_
    cases h
    exact Jt1
set_option maxHeartbeats 4000000 in
set_option maxRecDepth 100000 in
theorem k_X12_completions {G : omG}  (σ : omH) (t : Int × omH) (h : s_X12_completions  σ = some t) : omM G yX12_completions (.code yX12_completions cX12_completions 1 (some .int)) 3 0 [.ref (G.1 43)] σ (.inr (some (.int (omi t.1)))) t.2 := by
  unfold s_X12_completions at h
  refine om_head (own := RX12) (ls := [(0, .ref (G.1 43))]) (by decide +kernel) rfl (by simp [lg_sl, Value.category]) rfl (by simp [Value.category]) (fun x C F => ?_)
  refine v_aload_n C (q := 0) rfl rfl dX12_completions_0 ?_
  refine v_aload_n C (q := 0) rfl rfl dX12_completions_1 ?_
  refine v_geti C (q := 27) (o := 43) fi_X12_70 rfl rfl dX12_completions_2 ?_
  obtain ⟨t1, et1, h⟩ := om_bind h
  have Jt1 : omV G x 1 13 [(0, .ref (G.1 43))] [.int (omi t1), .ref (G.1 43)] σ 0 := by
    obtain ⟨r2, er2, h⟩ := om_bind h
    refine v_invV_i (As := [.int (omi t1)]) C mi_X12_holds ml_X12_84 (k_X12_holds t1 σ _ er2) (q := 27) rfl rfl rfl (by decide) (Nat.zero_le _) rfl (Nat.le_of_ble_eq_true rfl) dX12_completions_13 ?_
    refine v_if_eq C (tgt := 27) dX12_completions_16 rfl (fun hc => ?_) (fun hc => ?_)
    · replace h := (if_pos hc).symm.trans h
      refine v_iconst C (n := 0) dX12_completions_27 ?_
      cases h
      exact v_iret C F dX12_completions_28 (Nat.zero_le _)
    · replace h := (if_neg hc).symm.trans h
      refine v_aload_n C (q := 0) rfl rfl dX12_completions_19 ?_
      refine v_iconst C (n := 1) dX12_completions_20 ?_
      obtain ⟨r3, er3, h⟩ := om_bind h
      refine v_invV_i (As := [.int (omi 1)]) C mi_X12_sum ml_X12_151 (k_X12_sum 1 r2.2 _ er3) (q := 27) rfl rfl rfl (by decide) (Nat.zero_le _) rfl (Nat.le_of_ble_eq_true rfl) dX12_completions_21 ?_
      refine v_goto C (tgt := 28) dX12_completions_24 rfl ?_
      cases h
      exact v_iret C F dX12_completions_28 (Nat.zero_le _)
  clear h
  have h := et1
  clear et1
  refine v_if_eq C (tgt := 12) dX12_completions_5 rfl (fun hc => ?_) (fun hc => ?_)
  · replace h := (if_pos hc).symm.trans h
    refine v_iconst C (n := 1) dX12_completions_12 ?_
    cases h
    exact Jt1
  · replace h := (if_neg hc).symm.trans h
    refine v_iconst C (n := 0) dX12_completions_8 ?_
    refine v_goto C (tgt := 13) dX12_completions_9 rfl ?_
    cases h
    exact Jt1
set_option maxHeartbeats 4000000 in
set_option maxRecDepth 100000 in
theorem k_X12_weightedCompletions {G : omG}  (σ : omH) (t : Int × omH) (h : s_X12_weightedCompletions  σ = some t) : omM G yX12_weightedCompletions (.code yX12_weightedCompletions cX12_weightedCompletions 1 (some .int)) 3 0 [.ref (G.1 43)] σ (.inr (some (.int (omi t.1)))) t.2 := by
  unfold s_X12_weightedCompletions at h
  refine om_head (own := RX12) (ls := [(0, .ref (G.1 43))]) (by decide +kernel) rfl (by simp [lg_sl, Value.category]) rfl (by simp [Value.category]) (fun x C F => ?_)
  refine v_aload_n C (q := 0) rfl rfl dX12_weightedCompletions_0 ?_
  refine v_aload_n C (q := 0) rfl rfl dX12_weightedCompletions_1 ?_
  refine v_geti C (q := 27) (o := 43) fi_X12_70 rfl rfl dX12_weightedCompletions_2 ?_
  obtain ⟨t1, et1, h⟩ := om_bind h
  have Jt1 : omV G x 1 13 [(0, .ref (G.1 43))] [.int (omi t1), .ref (G.1 43)] σ 0 := by
    obtain ⟨r2, er2, h⟩ := om_bind h
    refine v_invV_i (As := [.int (omi t1)]) C mi_X12_holds ml_X12_84 (k_X12_holds t1 σ _ er2) (q := 27) rfl rfl rfl (by decide) (Nat.zero_le _) rfl (Nat.le_of_ble_eq_true rfl) dX12_weightedCompletions_13 ?_
    refine v_if_eq C (tgt := 27) dX12_weightedCompletions_16 rfl (fun hc => ?_) (fun hc => ?_)
    · replace h := (if_pos hc).symm.trans h
      refine v_iconst C (n := 0) dX12_weightedCompletions_27 ?_
      cases h
      exact v_iret C F dX12_weightedCompletions_28 (Nat.zero_le _)
    · replace h := (if_neg hc).symm.trans h
      refine v_aload_n C (q := 0) rfl rfl dX12_weightedCompletions_19 ?_
      refine v_iconst C (n := 2) dX12_weightedCompletions_20 ?_
      obtain ⟨r3, er3, h⟩ := om_bind h
      refine v_invV_i (As := [.int (omi 2)]) C mi_X12_sum ml_X12_151 (k_X12_sum 2 r2.2 _ er3) (q := 27) rfl rfl rfl (by decide) (Nat.zero_le _) rfl (Nat.le_of_ble_eq_true rfl) dX12_weightedCompletions_21 ?_
      refine v_goto C (tgt := 28) dX12_weightedCompletions_24 rfl ?_
      cases h
      exact v_iret C F dX12_weightedCompletions_28 (Nat.zero_le _)
  clear h
  have h := et1
  clear et1
  refine v_if_eq C (tgt := 12) dX12_weightedCompletions_5 rfl (fun hc => ?_) (fun hc => ?_)
  · replace h := (if_pos hc).symm.trans h
    refine v_iconst C (n := 1) dX12_weightedCompletions_12 ?_
    cases h
    exact Jt1
  · replace h := (if_neg hc).symm.trans h
    refine v_iconst C (n := 0) dX12_weightedCompletions_8 ?_
    refine v_goto C (tgt := 13) dX12_weightedCompletions_9 rfl ?_
    cases h
    exact Jt1
set_option maxHeartbeats 4000000 in
set_option maxRecDepth 100000 in
theorem k_X12_weightedTardiness {G : omG}  (σ : omH) (t : Int × omH) (h : s_X12_weightedTardiness  σ = some t) : omM G yX12_weightedTardiness (.code yX12_weightedTardiness cX12_weightedTardiness 1 (some .int)) 3 0 [.ref (G.1 43)] σ (.inr (some (.int (omi t.1)))) t.2 := by
  unfold s_X12_weightedTardiness at h
  refine om_head (own := RX12) (ls := [(0, .ref (G.1 43))]) (by decide +kernel) rfl (by simp [lg_sl, Value.category]) rfl (by simp [Value.category]) (fun x C F => ?_)
  refine v_aload_n C (q := 0) rfl rfl dX12_weightedTardiness_0 ?_
  refine v_aload_n C (q := 0) rfl rfl dX12_weightedTardiness_1 ?_
  refine v_geti C (q := 27) (o := 43) fi_X12_70 rfl rfl dX12_weightedTardiness_2 ?_
  obtain ⟨t1, et1, h⟩ := om_bind h
  have Jt1 : omV G x 1 13 [(0, .ref (G.1 43))] [.int (omi t1), .ref (G.1 43)] σ 0 := by
    obtain ⟨r2, er2, h⟩ := om_bind h
    refine v_invV_i (As := [.int (omi t1)]) C mi_X12_holds ml_X12_84 (k_X12_holds t1 σ _ er2) (q := 27) rfl rfl rfl (by decide) (Nat.zero_le _) rfl (Nat.le_of_ble_eq_true rfl) dX12_weightedTardiness_13 ?_
    refine v_if_eq C (tgt := 27) dX12_weightedTardiness_16 rfl (fun hc => ?_) (fun hc => ?_)
    · replace h := (if_pos hc).symm.trans h
      refine v_iconst C (n := 0) dX12_weightedTardiness_27 ?_
      cases h
      exact v_iret C F dX12_weightedTardiness_28 (Nat.zero_le _)
    · replace h := (if_neg hc).symm.trans h
      refine v_aload_n C (q := 0) rfl rfl dX12_weightedTardiness_19 ?_
      refine v_iconst C (n := 3) dX12_weightedTardiness_20 ?_
      obtain ⟨r3, er3, h⟩ := om_bind h
      refine v_invV_i (As := [.int (omi 3)]) C mi_X12_sum ml_X12_151 (k_X12_sum 3 r2.2 _ er3) (q := 27) rfl rfl rfl (by decide) (Nat.zero_le _) rfl (Nat.le_of_ble_eq_true rfl) dX12_weightedTardiness_21 ?_
      refine v_goto C (tgt := 28) dX12_weightedTardiness_24 rfl ?_
      cases h
      exact v_iret C F dX12_weightedTardiness_28 (Nat.zero_le _)
  clear h
  have h := et1
  clear et1
  refine v_if_eq C (tgt := 12) dX12_weightedTardiness_5 rfl (fun hc => ?_) (fun hc => ?_)
  · replace h := (if_pos hc).symm.trans h
    refine v_iconst C (n := 1) dX12_weightedTardiness_12 ?_
    cases h
    exact Jt1
  · replace h := (if_neg hc).symm.trans h
    refine v_iconst C (n := 0) dX12_weightedTardiness_8 ?_
    refine v_goto C (tgt := 13) dX12_weightedTardiness_9 rfl ?_
    cases h
    exact Jt1
set_option maxHeartbeats 4000000 in
set_option maxRecDepth 100000 in
theorem k_X12_areFew {G : omG}  (σ : omH) (t : Int × omH) (h : s_X12_areFew  σ = some t) : omM G yX12_areFew (.code yX12_areFew cX12_areFew 1 (some .boolean)) 2 0 [.ref (G.1 43)] σ (.inr (some (.int (omi t.1)))) t.2 := by
  unfold s_X12_areFew at h
  refine om_head (own := RX12) (ls := [(0, .ref (G.1 43))]) (by decide +kernel) rfl (by simp [lg_sl, Value.category]) rfl (by simp [Value.category]) (fun x C F => ?_)
  refine v_aload_n C (q := 0) rfl rfl dX12_areFew_0 ?_
  refine v_aload_n C (q := 0) rfl rfl dX12_areFew_1 ?_
  refine v_geti C (q := 27) (o := 43) fi_X12_63 rfl rfl dX12_areFew_2 ?_
  obtain ⟨t1, et1, h⟩ := om_bind h
  have Jt1 : omV G x 1 22 [] [.int (omi t1), .ref (G.1 43)] σ 0 := by
    obtain ⟨r2, er2, h⟩ := om_bind h
    refine v_invV_i (As := [.int (omi t1)]) C mi_X12_holds ml_X12_84 (k_X12_holds t1 σ _ er2) (q := 27) rfl rfl rfl (by decide) (Nat.zero_le _) rfl (Nat.le_of_ble_eq_true rfl) dX12_areFew_22 ?_
    obtain ⟨g3, h⟩ := omg_some h
    cases h
    exact v_zret C g3 F dX12_areFew_25 (Nat.zero_le _)
  clear h
  have h := et1
  clear et1
  refine v_if_eq C (tgt := 17) dX12_areFew_5 rfl (fun hc => ?_) (fun hc => ?_)
  · replace h := (if_pos hc).symm.trans h
    refine v_iconst C (n := 1) dX12_areFew_17 ?_
    refine v_goto C (tgt := 22) dX12_areFew_18 rfl ?_
    cases h
    exact v_subp [] rfl Jt1
  · replace h := (if_neg hc).symm.trans h
    refine v_aload_n C (q := 0) rfl rfl dX12_areFew_8 ?_
    refine v_geti C (q := 27) (o := 43) fi_X12_63 rfl rfl dX12_areFew_9 ?_
    refine v_bipush C (a := 7) (by decide) dX12_areFew_12 ?_
    refine v_icmp_le C (tgt := 21) dX12_areFew_14 rfl (fun hc => ?_) (fun hc => ?_)
    · replace h := (if_neg hc).symm.trans h
      refine v_iconst C (n := 0) dX12_areFew_21 ?_
      cases h
      exact v_subp [] rfl Jt1
    · replace h := (if_pos hc).symm.trans h
      refine v_iconst C (n := 1) dX12_areFew_17 ?_
      refine v_goto C (tgt := 22) dX12_areFew_18 rfl ?_
      cases h
      exact v_subp [] rfl Jt1
set_option maxHeartbeats 4000000 in
set_option maxRecDepth 100000 in
theorem k_X12_leastBy {G : omG} (v1 : Int) (σ : omH) (t : Int × omH) (h : s_X12_leastBy v1 σ = some t) : omM G yX12_leastBy (.code yX12_leastBy cX12_leastBy 2 (some .int)) 4 0 [.ref (G.1 43), .int (omi v1)] σ (.inr (some (.int (omi t.1)))) t.2 := by
  unfold s_X12_leastBy at h
  refine om_head (own := RX12) (ls := [(0, .ref (G.1 43)), (1, .int (omi v1))]) (by decide +kernel) rfl (by simp [lg_sl, Value.category]) rfl (by simp [Value.category]) (fun x C F => ?_)
  refine v_aload_n C (q := 0) rfl rfl dX12_leastBy_0 ?_
  refine v_iload_n C (q := 1) rfl rfl dX12_leastBy_1 ?_
  obtain ⟨r1, er1, h⟩ := om_bind h
  refine v_invV_v (As := [.int (omi v1)]) C mi_X12_costs ml_X12_154 (k_X12_costs v1 σ _ er1) (q := 27) rfl rfl rfl (by decide) (Nat.zero_le _) rfl (Nat.le_of_ble_eq_true rfl) dX12_leastBy_2 ?_
  refine v_aload_n C (q := 0) rfl rfl dX12_leastBy_5 ?_
  refine v_getr C (q := 27) (o := 43) (r := 56) fi_X12_46 rfl rfl rfl dX12_leastBy_6 ?_
  refine v_iconst C (n := 0) dX12_leastBy_9 ?_
  obtain ⟨g2, h⟩ := omg_some h
  refine v_iald C (q := 40) (o := 56) (n := 1024) rfl g2 dX12_leastBy_10 ?_
  cases h
  exact v_iret C F dX12_leastBy_11 (Nat.zero_le _)
set_option maxHeartbeats 4000000 in
set_option maxRecDepth 100000 in
theorem k_X12_leastLateness {G : omG}  (σ : omH) (t : Int × omH) (h : s_X12_leastLateness  σ = some t) : omM G yX12_leastLateness (.code yX12_leastLateness cX12_leastLateness 1 (some .int)) 5 0 [.ref (G.1 43)] σ (.inr (some (.int (omi t.1)))) t.2 := by
  unfold s_X12_leastLateness at h
  refine om_head (own := RX12) (ls := [(0, .ref (G.1 43))]) (by decide +kernel) rfl (by simp [lg_sl, Value.category]) rfl (by simp [Value.category]) (fun x C F => ?_)
  refine v_aload_n C (q := 0) rfl rfl dX12_leastLateness_0 ?_
  obtain ⟨r1, er1, h⟩ := om_bind h
  refine v_invV_i (As := []) C mi_X12_areFew ml_X12_170 (k_X12_areFew  σ _ er1) (q := 27) rfl rfl rfl (by decide) (Nat.zero_le _) rfl (Nat.le_of_ble_eq_true rfl) dX12_leastLateness_1 ?_
  refine v_if_eq C (tgt := 15) dX12_leastLateness_4 rfl (fun hc => ?_) (fun hc => ?_)
  · replace h := (if_pos hc).symm.trans h
    refine v_iconst C (n := 0) dX12_leastLateness_15 ?_
    cases h
    exact v_iret C F dX12_leastLateness_16 (Nat.zero_le _)
  · replace h := (if_neg hc).symm.trans h
    refine v_aload_n C (q := 0) rfl rfl dX12_leastLateness_7 ?_
    refine v_iconst C (n := 0) dX12_leastLateness_8 ?_
    obtain ⟨r2, er2, h⟩ := om_bind h
    refine v_invV_i (As := [.int (omi 0)]) C mi_X12_leastBy ml_X12_173 (k_X12_leastBy 0 r1.2 _ er2) (q := 27) rfl rfl rfl (by decide) (Nat.zero_le _) rfl (Nat.le_of_ble_eq_true rfl) dX12_leastLateness_9 ?_
    refine v_goto C (tgt := 16) dX12_leastLateness_12 rfl ?_
    cases h
    exact v_iret C F dX12_leastLateness_16 (Nat.zero_le _)
set_option maxHeartbeats 4000000 in
set_option maxRecDepth 100000 in
theorem k_X12_leastCompletions {G : omG}  (σ : omH) (t : Int × omH) (h : s_X12_leastCompletions  σ = some t) : omM G yX12_leastCompletions (.code yX12_leastCompletions cX12_leastCompletions 1 (some .int)) 5 0 [.ref (G.1 43)] σ (.inr (some (.int (omi t.1)))) t.2 := by
  unfold s_X12_leastCompletions at h
  refine om_head (own := RX12) (ls := [(0, .ref (G.1 43))]) (by decide +kernel) rfl (by simp [lg_sl, Value.category]) rfl (by simp [Value.category]) (fun x C F => ?_)
  refine v_aload_n C (q := 0) rfl rfl dX12_leastCompletions_0 ?_
  obtain ⟨r1, er1, h⟩ := om_bind h
  refine v_invV_i (As := []) C mi_X12_areFew ml_X12_170 (k_X12_areFew  σ _ er1) (q := 27) rfl rfl rfl (by decide) (Nat.zero_le _) rfl (Nat.le_of_ble_eq_true rfl) dX12_leastCompletions_1 ?_
  refine v_if_eq C (tgt := 15) dX12_leastCompletions_4 rfl (fun hc => ?_) (fun hc => ?_)
  · replace h := (if_pos hc).symm.trans h
    refine v_iconst C (n := 0) dX12_leastCompletions_15 ?_
    cases h
    exact v_iret C F dX12_leastCompletions_16 (Nat.zero_le _)
  · replace h := (if_neg hc).symm.trans h
    refine v_aload_n C (q := 0) rfl rfl dX12_leastCompletions_7 ?_
    refine v_iconst C (n := 1) dX12_leastCompletions_8 ?_
    obtain ⟨r2, er2, h⟩ := om_bind h
    refine v_invV_i (As := [.int (omi 1)]) C mi_X12_leastBy ml_X12_173 (k_X12_leastBy 1 r1.2 _ er2) (q := 27) rfl rfl rfl (by decide) (Nat.zero_le _) rfl (Nat.le_of_ble_eq_true rfl) dX12_leastCompletions_9 ?_
    refine v_goto C (tgt := 16) dX12_leastCompletions_12 rfl ?_
    cases h
    exact v_iret C F dX12_leastCompletions_16 (Nat.zero_le _)
set_option maxHeartbeats 4000000 in
set_option maxRecDepth 100000 in
theorem k_X12_leastTardiness {G : omG}  (σ : omH) (t : Int × omH) (h : s_X12_leastTardiness  σ = some t) : omM G yX12_leastTardiness (.code yX12_leastTardiness cX12_leastTardiness 1 (some .int)) 5 0 [.ref (G.1 43)] σ (.inr (some (.int (omi t.1)))) t.2 := by
  unfold s_X12_leastTardiness at h
  refine om_head (own := RX12) (ls := [(0, .ref (G.1 43))]) (by decide +kernel) rfl (by simp [lg_sl, Value.category]) rfl (by simp [Value.category]) (fun x C F => ?_)
  refine v_aload_n C (q := 0) rfl rfl dX12_leastTardiness_0 ?_
  obtain ⟨r1, er1, h⟩ := om_bind h
  refine v_invV_i (As := []) C mi_X12_areFew ml_X12_170 (k_X12_areFew  σ _ er1) (q := 27) rfl rfl rfl (by decide) (Nat.zero_le _) rfl (Nat.le_of_ble_eq_true rfl) dX12_leastTardiness_1 ?_
  refine v_if_eq C (tgt := 15) dX12_leastTardiness_4 rfl (fun hc => ?_) (fun hc => ?_)
  · replace h := (if_pos hc).symm.trans h
    refine v_iconst C (n := 0) dX12_leastTardiness_15 ?_
    cases h
    exact v_iret C F dX12_leastTardiness_16 (Nat.zero_le _)
  · replace h := (if_neg hc).symm.trans h
    refine v_aload_n C (q := 0) rfl rfl dX12_leastTardiness_7 ?_
    refine v_iconst C (n := 2) dX12_leastTardiness_8 ?_
    obtain ⟨r2, er2, h⟩ := om_bind h
    refine v_invV_i (As := [.int (omi 2)]) C mi_X12_leastBy ml_X12_173 (k_X12_leastBy 2 r1.2 _ er2) (q := 27) rfl rfl rfl (by decide) (Nat.zero_le _) rfl (Nat.le_of_ble_eq_true rfl) dX12_leastTardiness_9 ?_
    refine v_goto C (tgt := 16) dX12_leastTardiness_12 rfl ?_
    cases h
    exact v_iret C F dX12_leastTardiness_16 (Nat.zero_le _)
set_option maxHeartbeats 4000000 in
set_option maxRecDepth 100000 in
theorem k_X12_leastWithSetups {G : omG}  (σ : omH) (t : Int × omH) (h : s_X12_leastWithSetups  σ = some t) : omM G yX12_leastWithSetups (.code yX12_leastWithSetups cX12_leastWithSetups 1 (some .int)) 4 0 [.ref (G.1 43)] σ (.inr (some (.int (omi t.1)))) t.2 := by
  unfold s_X12_leastWithSetups at h
  refine om_head (own := RX12) (ls := [(0, .ref (G.1 43))]) (by decide +kernel) rfl (by simp [lg_sl, Value.category]) rfl (by simp [Value.category]) (fun x C F => ?_)
  refine v_aload_n C (q := 0) rfl rfl dX12_leastWithSetups_0 ?_
  obtain ⟨r1, er1, h⟩ := om_bind h
  refine v_invV_i (As := []) C mi_X12_areFew ml_X12_170 (k_X12_areFew  σ _ er1) (q := 27) rfl rfl rfl (by decide) (Nat.zero_le _) rfl (Nat.le_of_ble_eq_true rfl) dX12_leastWithSetups_1 ?_
  refine v_if_ne C (tgt := 9) dX12_leastWithSetups_4 rfl (fun hc => ?_) (fun hc => ?_)
  · replace h := (if_neg hc).symm.trans h
    refine v_aload_n C (q := 0) rfl rfl dX12_leastWithSetups_9 ?_
    refine v_iconst C (n := 0) dX12_leastWithSetups_10 ?_
    obtain ⟨r2, er2, h⟩ := om_bind h
    refine v_invV_v (As := [.int (omi 0)]) C mi_X12_costsBehind ml_X12_158 (k_X12_costsBehind 0 r1.2 _ er2) (q := 27) rfl rfl rfl (by decide) (Nat.zero_le _) rfl (Nat.le_of_ble_eq_true rfl) dX12_leastWithSetups_11 ?_
    refine v_aload_n C (q := 0) rfl rfl dX12_leastWithSetups_14 ?_
    refine v_getr C (q := 27) (o := 43) (r := 57) fi_X12_49 rfl rfl rfl dX12_leastWithSetups_15 ?_
    refine v_iconst C (n := 4) dX12_leastWithSetups_18 ?_
    obtain ⟨g3, h⟩ := omg_some h
    refine v_iald C (q := 41) (o := 57) (n := 5120) rfl g3 dX12_leastWithSetups_19 ?_
    cases h
    exact v_iret C F dX12_leastWithSetups_20 (Nat.zero_le _)
  · replace h := (if_pos hc).symm.trans h
    refine v_iconst C (n := 0) dX12_leastWithSetups_7 ?_
    cases h
    exact v_iret C F dX12_leastWithSetups_8 (Nat.zero_le _)
set_option maxHeartbeats 4000000 in
set_option maxRecDepth 100000 in
theorem kl_X12_takes_14 {G : omG} {x : omX} (C : omC G x RX12 cX12_takes 4 (1) 0) : ∀ (n : Nat) (v2 : Int) (v3 : Int) (σ : omH) (t : Int × omH), l_X12_takes_14  n v2 v3 σ = some t → omV G x 4 48 [(2, .int (omi t.1))] [] t.2 0 → omV G x 4 14 [(0, .ref (G.1 43)), (2, .int (omi v2)), (3, .int (omi v3))] [] σ 0 := by
  intro n
  induction n with
  | zero => intro v2 v3 σ t h K; cases h
  | succ n ih =>
    intro v2 v3 σ t h K
    rw [l_X12_takes_14.eq_2] at h
    refine v_iload_n C (q := 2) rfl rfl dX12_takes_14 ?_
    refine v_if_le C (tgt := 48) dX12_takes_15 rfl (fun hc => ?_) (fun hc => ?_)
    · replace h := (if_neg hc).symm.trans h
      cases h
      exact v_subp [1] rfl K
    · replace h := (if_pos hc).symm.trans h
      refine v_iload_n C (q := 2) rfl rfl dX12_takes_18 ?_
      refine v_aload_n C (q := 0) rfl rfl dX12_takes_19 ?_
      refine v_getr C (q := 27) (o := 43) (r := 59) fi_X12_55 rfl rfl rfl dX12_takes_20 ?_
      refine v_iload_n C (q := 1) rfl rfl dX12_takes_23 ?_
      obtain ⟨g3, h⟩ := omg_some h
      refine v_zald C (q := 43) (o := 59) (n := 512) rfl g3 dX12_takes_24 ?_
      obtain ⟨t4, et4, h⟩ := om_bind h
      have Jt4 : omV G x 4 33 [(0, .ref (G.1 43)), (2, .int (omi v2))] [.int (omi t4), .int (omi v3)] σ 0 := by
        refine v_isub C dX12_takes_33 ?_
        refine v_istore_n C (ls' := [(0, .ref (G.1 43)), (2, .int (omi v2)), (3, .int (omi (v3 - t4)))]) rfl (by decide) rfl dX12_takes_34 ?_
        refine v_aload_n C (q := 0) rfl rfl dX12_takes_35 ?_
        refine v_getr C (q := 27) (o := 43) (r := 59) fi_X12_55 rfl rfl rfl dX12_takes_36 ?_
        refine v_iload_n C (q := 1) rfl rfl dX12_takes_39 ?_
        refine v_iconst C (n := 1) dX12_takes_40 ?_
        obtain ⟨g5, h⟩ := omg_some h
        refine v_zast C (q := 43) (o := 59) (n := 512) rfl g5 (by decide) dX12_takes_41 ?_
        refine v_iinc C (q := 1) (ls' := [(0, .ref (G.1 43)), (2, .int (omi (v2 + 1))), (3, .int (omi (v3 - t4)))]) rfl (by decide) rfl rfl dX12_takes_42 ?_
        refine v_goto C (tgt := 14) dX12_takes_45 rfl ?_
        exact ih _ _ _ _ h K
      clear h
      have h := et4
      clear et4
      refine v_if_eq C (tgt := 32) dX12_takes_25 rfl (fun hc => ?_) (fun hc => ?_)
      · replace h := (if_pos hc).symm.trans h
        refine v_iconst C (n := 1) dX12_takes_32 ?_
        cases h
        exact v_subp [0, 1] rfl Jt4
      · replace h := (if_neg hc).symm.trans h
        refine v_iconst C (n := 0) dX12_takes_28 ?_
        refine v_goto C (tgt := 33) dX12_takes_29 rfl ?_
        cases h
        exact v_subp [0, 1] rfl Jt4
set_option maxHeartbeats 4000000 in
set_option maxRecDepth 100000 in
theorem k_X12_takes {G : omG} (v1 : Int) (σ : omH) (t : Int × omH) (h : s_X12_takes v1 σ = some t) : omM G yX12_takes (.code yX12_takes cX12_takes 4 (some .int)) 1 0 [.ref (G.1 43), .int (omi v1)] σ (.inr (some (.int (omi t.1)))) t.2 := by
  unfold s_X12_takes at h
  refine om_head (own := RX12) (ls := [(0, .ref (G.1 43)), (1, .int (omi v1))]) (by decide +kernel) rfl (by simp [lg_sl, Value.category]) rfl (by simp [Value.category]) (fun x C F => ?_)
  refine v_aload_n C (q := 0) rfl rfl dX12_takes_0 ?_
  refine v_getr C (q := 27) (o := 43) (r := 47) fi_X12_19 rfl rfl rfl dX12_takes_1 ?_
  refine v_iload_n C (q := 1) rfl rfl dX12_takes_4 ?_
  obtain ⟨g1, h⟩ := omg_some h
  refine v_iald C (q := 31) (o := 47) (n := 10) rfl g1 dX12_takes_5 ?_
  refine v_istore_n C (ls' := [(0, .ref (G.1 43)), (1, .int (omi v1)), (2, .int (omi (σ 47 (omw v1).toNat)))]) rfl (by decide) rfl dX12_takes_6 ?_
  refine v_aload_n C (q := 0) rfl rfl dX12_takes_7 ?_
  refine v_getr C (q := 27) (o := 43) (r := 44) fi_X12_7 rfl rfl rfl dX12_takes_8 ?_
  refine v_iload_n C (q := 1) rfl rfl dX12_takes_11 ?_
  obtain ⟨g2, h⟩ := omg_some h
  refine v_iald C (q := 28) (o := 44) (n := 10) rfl g2 dX12_takes_12 ?_
  refine v_istore_n C (ls' := [(0, .ref (G.1 43)), (1, .int (omi v1)), (2, .int (omi (σ 47 (omw v1).toNat))), (3, .int (omi (σ 44 (omw v1).toNat)))]) rfl (by decide) rfl dX12_takes_13 ?_
  obtain ⟨t6, et6, h⟩ := om_bind h
  refine v_subp (ls' := [(0, .ref (G.1 43)), (2, .int (omi (σ 47 (omw v1).toNat))), (3, .int (omi (σ 44 (omw v1).toNat)))]) [0, 2, 3] rfl ?_
  refine kl_X12_takes_14 C  FU _ _ _ t6 et6 ?_
  refine v_iload_n C (q := 0) rfl rfl dX12_takes_48 ?_
  cases h
  exact v_iret C F dX12_takes_49 (Nat.zero_le _)
set_option maxHeartbeats 4000000 in
set_option maxRecDepth 100000 in
theorem kl_X12_worth_2 {G : omG} {x : omX} (C : omC G x RX12 cX12_worth 6 (2) 0) (v1 : Int) : ∀ (n : Nat) (v2 : Int) (σ : omH) (t : omH), l_X12_worth_2 v1 n v2 σ = some t → omV G x 6 22 [(0, .ref (G.1 43)), (1, .int (omi v1))] [] t 0 → omV G x 6 2 [(0, .ref (G.1 43)), (1, .int (omi v1)), (2, .int (omi v2))] [] σ 0 := by
  intro n
  induction n with
  | zero => intro v2 σ t h K; cases h
  | succ n ih =>
    intro v2 σ t h K
    rw [l_X12_worth_2.eq_2] at h
    refine v_iload_n C (q := 2) rfl rfl dX12_worth_2 ?_
    refine v_sipush C (a := 512) (by decide) dX12_worth_3 ?_
    refine v_icmp_ge C (tgt := 22) dX12_worth_6 rfl (fun hc => ?_) (fun hc => ?_)
    · replace h := (if_neg hc).symm.trans h
      cases h
      exact v_subp [0, 1] rfl K
    · replace h := (if_pos hc).symm.trans h
      refine v_aload_n C (q := 0) rfl rfl dX12_worth_9 ?_
      refine v_getr C (q := 27) (o := 43) (r := 59) fi_X12_55 rfl rfl rfl dX12_worth_10 ?_
      refine v_iload_n C (q := 2) rfl rfl dX12_worth_13 ?_
      refine v_iconst C (n := 0) dX12_worth_14 ?_
      obtain ⟨g1, h⟩ := omg_some h
      refine v_zast C (q := 43) (o := 59) (n := 512) rfl g1 (by decide) dX12_worth_15 ?_
      refine v_iinc C (q := 2) (ls' := [(0, .ref (G.1 43)), (1, .int (omi v1)), (2, .int (omi (v2 + 1)))]) rfl (by decide) rfl rfl dX12_worth_16 ?_
      refine v_goto C (tgt := 2) dX12_worth_19 rfl ?_
      exact ih _ _ _ h K
set_option maxHeartbeats 4000000 in
set_option maxRecDepth 100000 in
theorem kl_X12_worth_30 {G : omG} {x : omX} (C : omC G x RX12 cX12_worth 6 (2) 0) (v1 : Int) : ∀ (n : Nat) (v2 : Int) (v3 : Int) (v4 : Int) (σ : omH) (t : Int × Int × omH), l_X12_worth_30 v1 n v2 v3 v4 σ = some t → omV G x 6 102 [(1, .int (omi v1)), (2, .int (omi t.1)), (3, .int (omi t.2.1))] [] t.2.2 0 → omV G x 6 30 [(0, .ref (G.1 43)), (1, .int (omi v1)), (2, .int (omi v2)), (3, .int (omi v3)), (4, .int (omi v4))] [] σ 0 := by
  intro n
  induction n with
  | zero => intro v2 v3 v4 σ t h K; cases h
  | succ n ih =>
    intro v2 v3 v4 σ t h K
    rw [l_X12_worth_30.eq_2] at h
    refine v_iload C (q := 4) rfl dX12_worth_30 ?_
    refine v_aload_n C (q := 0) rfl rfl dX12_worth_32 ?_
    refine v_geti C (q := 27) (o := 43) fi_X12_63 rfl rfl dX12_worth_33 ?_
    refine v_icmp_ge C (tgt := 102) dX12_worth_36 rfl (fun hc => ?_) (fun hc => ?_)
    · replace h := (if_neg hc).symm.trans h
      cases h
      exact v_subp [1, 2, 3] rfl K
    · replace h := (if_pos hc).symm.trans h
      refine v_aload_n C (q := 0) rfl rfl dX12_worth_39 ?_
      refine v_aload_n C (q := 0) rfl rfl dX12_worth_40 ?_
      refine v_getr C (q := 27) (o := 43) (r := 54) fi_X12_40 rfl rfl rfl dX12_worth_41 ?_
      refine v_iload C (q := 4) rfl dX12_worth_44 ?_
      obtain ⟨g3, h⟩ := omg_some h
      refine v_iald C (q := 38) (o := 54) (n := 10) rfl g3 dX12_worth_46 ?_
      obtain ⟨r4, er4, h⟩ := om_bind h
      refine v_invV_i (As := [.int (omi (σ 54 (omw v4).toNat))]) C mi_X12_takes ml_X12_176 (k_X12_takes (σ 54 (omw v4).toNat) σ _ er4) (q := 27) rfl rfl rfl (by decide) (Nat.zero_le _) rfl (Nat.le_of_ble_eq_true rfl) dX12_worth_47 ?_
      refine v_istore C (ls' := [(0, .ref (G.1 43)), (1, .int (omi v1)), (2, .int (omi v2)), (3, .int (omi v3)), (4, .int (omi v4)), (5, .int (omi r4.1))]) (by decide) rfl dX12_worth_50 ?_
      refine v_iload C (q := 5) rfl dX12_worth_52 ?_
      refine v_aload_n C (q := 0) rfl rfl dX12_worth_54 ?_
      refine v_getr C (q := 27) (o := 43) (r := 45) fi_X12_13 rfl rfl rfl dX12_worth_55 ?_
      refine v_aload_n C (q := 0) rfl rfl dX12_worth_58 ?_
      refine v_getr C (q := 27) (o := 43) (r := 54) fi_X12_40 rfl rfl rfl dX12_worth_59 ?_
      refine v_iload C (q := 4) rfl dX12_worth_62 ?_
      obtain ⟨g5, h⟩ := omg_some h
      refine v_iald C (q := 38) (o := 54) (n := 10) rfl g5 dX12_worth_64 ?_
      obtain ⟨g6, h⟩ := omg_some h
      refine v_iald C (q := 29) (o := 45) (n := 10) rfl g6 dX12_worth_65 ?_
      refine v_isub C dX12_worth_66 ?_
      refine v_iload_n C (q := 2) rfl rfl dX12_worth_67 ?_
      obtain ⟨t7, et7, h⟩ := om_bind h
      have Jt7 : omV G x 6 90 [(0, .ref (G.1 43)), (1, .int (omi v1)), (3, .int (omi v3)), (4, .int (omi v4)), (5, .int (omi r4.1))] [.int (omi t7)] r4.2 0 := by
        refine v_istore_n C (ls' := [(0, .ref (G.1 43)), (1, .int (omi v1)), (3, .int (omi v3)), (4, .int (omi v4)), (5, .int (omi r4.1)), (2, .int (omi t7))]) rfl (by decide) rfl dX12_worth_90 ?_
        refine v_iload_n C (q := 2) rfl rfl dX12_worth_91 ?_
        refine v_iload C (q := 4) rfl dX12_worth_92 ?_
        refine v_iadd C dX12_worth_94 ?_
        refine v_istore_n C (ls' := [(0, .ref (G.1 43)), (1, .int (omi v1)), (3, .int (omi (v3 + r4.1))), (4, .int (omi v4)), (5, .int (omi r4.1)), (2, .int (omi t7))]) rfl (by decide) rfl dX12_worth_95 ?_
        refine v_iinc C (q := 3) (ls' := [(0, .ref (G.1 43)), (1, .int (omi v1)), (3, .int (omi (v3 + r4.1))), (4, .int (omi (v4 + 1))), (5, .int (omi r4.1)), (2, .int (omi t7))]) rfl (by decide) rfl rfl dX12_worth_96 ?_
        refine v_goto C (tgt := 30) dX12_worth_99 rfl ?_
        exact v_subp [0, 1, 5, 2, 3] rfl (ih _ _ _ _ _ h K)
      clear h
      have h := et7
      clear et7
      refine v_icmp_le C (tgt := 89) dX12_worth_68 rfl (fun hc => ?_) (fun hc => ?_)
      · replace h := (if_neg hc).symm.trans h
        refine v_iload_n C (q := 2) rfl rfl dX12_worth_89 ?_
        cases h
        exact v_subp [0, 1, 3, 4, 5] rfl Jt7
      · replace h := (if_pos hc).symm.trans h
        refine v_iload C (q := 5) rfl dX12_worth_71 ?_
        refine v_aload_n C (q := 0) rfl rfl dX12_worth_73 ?_
        refine v_getr C (q := 27) (o := 43) (r := 45) fi_X12_13 rfl rfl rfl dX12_worth_74 ?_
        refine v_aload_n C (q := 0) rfl rfl dX12_worth_77 ?_
        refine v_getr C (q := 27) (o := 43) (r := 54) fi_X12_40 rfl rfl rfl dX12_worth_78 ?_
        refine v_iload C (q := 4) rfl dX12_worth_81 ?_
        obtain ⟨g8, h⟩ := omg_some h
        refine v_iald C (q := 38) (o := 54) (n := 10) rfl g8 dX12_worth_83 ?_
        obtain ⟨g9, h⟩ := omg_some h
        refine v_iald C (q := 29) (o := 45) (n := 10) rfl g9 dX12_worth_84 ?_
        refine v_isub C dX12_worth_85 ?_
        refine v_goto C (tgt := 90) dX12_worth_86 rfl ?_
        cases h
        exact v_subp [0, 1, 3, 4, 5] rfl Jt7
set_option maxHeartbeats 4000000 in
set_option maxRecDepth 100000 in
theorem k_X12_worth {G : omG} (v1 : Int) (σ : omH) (t : Int × omH) (h : s_X12_worth v1 σ = some t) : omM G yX12_worth (.code yX12_worth cX12_worth 6 (some .int)) 2 0 [.ref (G.1 43), .int (omi v1)] σ (.inr (some (.int (omi t.1)))) t.2 := by
  unfold s_X12_worth at h
  refine om_head (own := RX12) (ls := [(0, .ref (G.1 43)), (1, .int (omi v1))]) (by decide +kernel) rfl (by simp [lg_sl, Value.category]) rfl (by simp [Value.category]) (fun x C F => ?_)
  refine v_iconst C (n := 0) dX12_worth_0 ?_
  refine v_istore_n C (ls' := [(0, .ref (G.1 43)), (1, .int (omi v1)), (2, .int (omi 0))]) rfl (by decide) rfl dX12_worth_1 ?_
  obtain ⟨t2, et2, h⟩ := om_bind h
  refine kl_X12_worth_2 C v1 FU _ _ t2 et2 ?_
  refine v_ldc C kc_X12_111 dX12_worth_22 ?_
  refine v_istore_n C (ls' := [(0, .ref (G.1 43)), (1, .int (omi v1)), (2, .int (omi (-1000000)))]) rfl (by decide) rfl dX12_worth_24 ?_
  refine v_iconst C (n := 0) dX12_worth_25 ?_
  refine v_istore_n C (ls' := [(0, .ref (G.1 43)), (1, .int (omi v1)), (2, .int (omi (-1000000))), (3, .int (omi 0))]) rfl (by decide) rfl dX12_worth_26 ?_
  refine v_iconst C (n := 0) dX12_worth_27 ?_
  refine v_istore C (ls' := [(0, .ref (G.1 43)), (1, .int (omi v1)), (2, .int (omi (-1000000))), (3, .int (omi 0)), (4, .int (omi 0))]) (by decide) rfl dX12_worth_28 ?_
  obtain ⟨t10, et10, h⟩ := om_bind h
  refine kl_X12_worth_30 C v1 FU _ _ _ _ t10 et10 ?_
  refine v_iload_n C (q := 0) rfl rfl dX12_worth_102 ?_
  refine v_if_ne C (tgt := 110) dX12_worth_103 rfl (fun hc => ?_) (fun hc => ?_)
  · replace h := (if_neg hc).symm.trans h
    refine v_iload_n C (q := 2) rfl rfl dX12_worth_110 ?_
    cases h
    exact v_iret C F dX12_worth_111 (Nat.zero_le _)
  · replace h := (if_pos hc).symm.trans h
    refine v_iload_n C (q := 1) rfl rfl dX12_worth_106 ?_
    refine v_goto C (tgt := 111) dX12_worth_107 rfl ?_
    cases h
    exact v_iret C F dX12_worth_111 (Nat.zero_le _)
set_option maxHeartbeats 4000000 in
set_option maxRecDepth 100000 in
theorem kl_X12_leastOfPriorities_4 {G : omG} {x : omX} (C : omC G x RX12 cX12_leastOfPriorities 10 (3) 0) (v1 : Int) (σ : omH) : ∀ (n : Nat) (v2 : Int) (v3 : Int) (t : Int), l_X12_leastOfPriorities_4 v1 σ n v2 v3 = some t → omV G x 10 22 [(0, .ref (G.1 43)), (1, .int (omi v1)), (2, .int (omi t))] [] σ 0 → omV G x 10 4 [(0, .ref (G.1 43)), (1, .int (omi v1)), (2, .int (omi v2)), (3, .int (omi v3))] [] σ 0 := by
  intro n
  induction n with
  | zero => intro v2 v3 t h K; cases h
  | succ n ih =>
    intro v2 v3 t h K
    rw [l_X12_leastOfPriorities_4.eq_2] at h
    refine v_iload_n C (q := 3) rfl rfl dX12_leastOfPriorities_4 ?_
    refine v_aload_n C (q := 0) rfl rfl dX12_leastOfPriorities_5 ?_
    refine v_geti C (q := 27) (o := 43) fi_X12_63 rfl rfl dX12_leastOfPriorities_6 ?_
    refine v_icmp_gt C (tgt := 22) dX12_leastOfPriorities_9 rfl (fun hc => ?_) (fun hc => ?_)
    · replace h := (if_pos hc).symm.trans h
      cases h
      exact v_subp [0, 1, 2] rfl K
    · replace h := (if_neg hc).symm.trans h
      refine v_iload_n C (q := 2) rfl rfl dX12_leastOfPriorities_12 ?_
      refine v_iload_n C (q := 3) rfl rfl dX12_leastOfPriorities_13 ?_
      refine v_imul C dX12_leastOfPriorities_14 ?_
      refine v_istore_n C (ls' := [(0, .ref (G.1 43)), (1, .int (omi v1)), (2, .int (omi (v2 * v3))), (3, .int (omi v3))]) rfl (by decide) rfl dX12_leastOfPriorities_15 ?_
      refine v_iinc C (q := 3) (ls' := [(0, .ref (G.1 43)), (1, .int (omi v1)), (2, .int (omi (v2 * v3))), (3, .int (omi (v3 + 1)))]) rfl (by decide) rfl rfl dX12_leastOfPriorities_16 ?_
      refine v_goto C (tgt := 4) dX12_leastOfPriorities_19 rfl ?_
      exact ih _ _ _ h K
set_option maxHeartbeats 4000000 in
set_option maxRecDepth 100000 in
theorem kl_X12_leastOfPriorities_80 {G : omG} {x : omX} (C : omC G x RX12 cX12_leastOfPriorities 10 (3) 0) (v1 : Int) (v2 : Int) (v3 : Int) (v4 : Int) (v5 : Int) (v6 : Int) (v7 : Int) (σ : omH) : ∀ (n : Nat) (v8 : Int) (v9 : Int) (t : Int), l_X12_leastOfPriorities_80 v1 v2 v3 v4 v5 v6 v7 σ n v8 v9 = some t → omV G x 10 123 [(0, .ref (G.1 43)), (1, .int (omi v1)), (2, .int (omi v2)), (3, .int (omi v3)), (4, .int (omi v4)), (5, .int (omi v5)), (6, .int (omi v6)), (7, .int (omi v7)), (9, .int (omi t))] [] σ 0 → omV G x 10 80 [(0, .ref (G.1 43)), (1, .int (omi v1)), (2, .int (omi v2)), (3, .int (omi v3)), (4, .int (omi v4)), (5, .int (omi v5)), (6, .int (omi v6)), (7, .int (omi v7)), (8, .int (omi v8)), (9, .int (omi v9))] [] σ 0 := by
  intro n
  induction n with
  | zero => intro v8 v9 t h K; cases h
  | succ n ih =>
    intro v8 v9 t h K
    rw [l_X12_leastOfPriorities_80.eq_2] at h
    refine v_iload C (q := 6) rfl dX12_leastOfPriorities_80 ?_
    refine v_iload C (q := 9) rfl dX12_leastOfPriorities_82 ?_
    refine v_ishr C dX12_leastOfPriorities_84 ?_
    refine v_iconst C (n := 1) dX12_leastOfPriorities_85 ?_
    refine v_iand C dX12_leastOfPriorities_86 ?_
    refine v_iconst C (n := 1) dX12_leastOfPriorities_87 ?_
    refine v_icmp_eq C (tgt := 96) dX12_leastOfPriorities_88 rfl (fun hc => ?_) (fun hc => ?_)
    · replace h := (if_pos hc).symm.trans h
      refine v_iload C (q := 8) rfl dX12_leastOfPriorities_96 ?_
      refine v_iload C (q := 6) rfl dX12_leastOfPriorities_98 ?_
      refine v_iload C (q := 9) rfl dX12_leastOfPriorities_100 ?_
      refine v_ishr C dX12_leastOfPriorities_102 ?_
      refine v_iconst C (n := 1) dX12_leastOfPriorities_103 ?_
      refine v_iand C dX12_leastOfPriorities_104 ?_
      refine v_iconst C (n := 1) dX12_leastOfPriorities_105 ?_
      obtain ⟨t4, et4, h⟩ := om_bind h
      have Jt4 : omV G x 10 114 [(0, .ref (G.1 43)), (1, .int (omi v1)), (2, .int (omi v2)), (3, .int (omi v3)), (4, .int (omi v4)), (5, .int (omi v5)), (6, .int (omi v6)), (7, .int (omi v7)), (9, .int (omi v9))] [.int (omi t4), .int (omi v8)] σ 0 := by
        refine v_isub C dX12_leastOfPriorities_114 ?_
        refine v_istore C (ls' := [(0, .ref (G.1 43)), (1, .int (omi v1)), (2, .int (omi v2)), (3, .int (omi v3)), (4, .int (omi v4)), (5, .int (omi v5)), (6, .int (omi v6)), (7, .int (omi v7)), (9, .int (omi v9)), (8, .int (omi (v8 - t4)))]) (by decide) rfl dX12_leastOfPriorities_115 ?_
        refine v_iinc C (q := 8) (ls' := [(0, .ref (G.1 43)), (1, .int (omi v1)), (2, .int (omi v2)), (3, .int (omi v3)), (4, .int (omi v4)), (5, .int (omi v5)), (6, .int (omi v6)), (7, .int (omi v7)), (9, .int (omi (v9 + 1))), (8, .int (omi (v8 - t4)))]) rfl (by decide) rfl rfl dX12_leastOfPriorities_117 ?_
        refine v_goto C (tgt := 80) dX12_leastOfPriorities_120 rfl ?_
        exact v_subp [0, 1, 2, 3, 4, 5, 6, 7, 9, 8] rfl (ih _ _ _ h K)
      clear h
      have h := et4
      clear et4
      refine v_icmp_ne C (tgt := 113) dX12_leastOfPriorities_106 rfl (fun hc => ?_) (fun hc => ?_)
      · replace h := (if_neg hc).symm.trans h
        refine v_iconst C (n := 1) dX12_leastOfPriorities_113 ?_
        cases h
        exact v_subp [0, 1, 2, 3, 4, 5, 6, 7, 9] rfl Jt4
      · replace h := (if_pos hc).symm.trans h
        refine v_iconst C (n := 0) dX12_leastOfPriorities_109 ?_
        refine v_goto C (tgt := 114) dX12_leastOfPriorities_110 rfl ?_
        cases h
        exact v_subp [0, 1, 2, 3, 4, 5, 6, 7, 9] rfl Jt4
    · replace h := (if_neg hc).symm.trans h
      refine v_iload C (q := 8) rfl dX12_leastOfPriorities_91 ?_
      refine v_if_le C (tgt := 123) dX12_leastOfPriorities_93 rfl (fun hc => ?_) (fun hc => ?_)
      · replace h := (if_neg hc).symm.trans h
        cases h
        exact v_subp [0, 1, 2, 3, 4, 5, 6, 7, 9] rfl K
      · replace h := (if_pos hc).symm.trans h
        refine v_iload C (q := 8) rfl dX12_leastOfPriorities_96 ?_
        refine v_iload C (q := 6) rfl dX12_leastOfPriorities_98 ?_
        refine v_iload C (q := 9) rfl dX12_leastOfPriorities_100 ?_
        refine v_ishr C dX12_leastOfPriorities_102 ?_
        refine v_iconst C (n := 1) dX12_leastOfPriorities_103 ?_
        refine v_iand C dX12_leastOfPriorities_104 ?_
        refine v_iconst C (n := 1) dX12_leastOfPriorities_105 ?_
        obtain ⟨t5, et5, h⟩ := om_bind h
        have Jt5 : omV G x 10 114 [(0, .ref (G.1 43)), (1, .int (omi v1)), (2, .int (omi v2)), (3, .int (omi v3)), (4, .int (omi v4)), (5, .int (omi v5)), (6, .int (omi v6)), (7, .int (omi v7)), (9, .int (omi v9))] [.int (omi t5), .int (omi v8)] σ 0 := by
          refine v_isub C dX12_leastOfPriorities_114 ?_
          refine v_istore C (ls' := [(0, .ref (G.1 43)), (1, .int (omi v1)), (2, .int (omi v2)), (3, .int (omi v3)), (4, .int (omi v4)), (5, .int (omi v5)), (6, .int (omi v6)), (7, .int (omi v7)), (9, .int (omi v9)), (8, .int (omi (v8 - t5)))]) (by decide) rfl dX12_leastOfPriorities_115 ?_
          refine v_iinc C (q := 8) (ls' := [(0, .ref (G.1 43)), (1, .int (omi v1)), (2, .int (omi v2)), (3, .int (omi v3)), (4, .int (omi v4)), (5, .int (omi v5)), (6, .int (omi v6)), (7, .int (omi v7)), (9, .int (omi (v9 + 1))), (8, .int (omi (v8 - t5)))]) rfl (by decide) rfl rfl dX12_leastOfPriorities_117 ?_
          refine v_goto C (tgt := 80) dX12_leastOfPriorities_120 rfl ?_
          exact v_subp [0, 1, 2, 3, 4, 5, 6, 7, 9, 8] rfl (ih _ _ _ h K)
        clear h
        have h := et5
        clear et5
        refine v_icmp_ne C (tgt := 113) dX12_leastOfPriorities_106 rfl (fun hc => ?_) (fun hc => ?_)
        · replace h := (if_neg hc).symm.trans h
          refine v_iconst C (n := 1) dX12_leastOfPriorities_113 ?_
          cases h
          exact v_subp [0, 1, 2, 3, 4, 5, 6, 7, 9] rfl Jt5
        · replace h := (if_pos hc).symm.trans h
          refine v_iconst C (n := 0) dX12_leastOfPriorities_109 ?_
          refine v_goto C (tgt := 114) dX12_leastOfPriorities_110 rfl ?_
          cases h
          exact v_subp [0, 1, 2, 3, 4, 5, 6, 7, 9] rfl Jt5
set_option maxHeartbeats 4000000 in
set_option maxRecDepth 100000 in
theorem kl_X12_leastOfPriorities_44 {G : omG} {x : omX} (C : omC G x RX12 cX12_leastOfPriorities 10 (3) 0) (v1 : Int) (v2 : Int) (v3 : Int) (v4 : Int) : ∀ (n : Nat) (v5 : Int) (v6 : Int) (v7 : Int) (σ : omH) (t : omH), l_X12_leastOfPriorities_44 v1 v2 v3 v4 n v5 v6 v7 σ = some t → omV G x 10 147 [(0, .ref (G.1 43)), (1, .int (omi v1)), (2, .int (omi v2)), (3, .int (omi v3)), (4, .int (omi v4))] [] t 0 → omV G x 10 44 [(0, .ref (G.1 43)), (1, .int (omi v1)), (2, .int (omi v2)), (3, .int (omi v3)), (4, .int (omi v4)), (5, .int (omi v5)), (6, .int (omi v6)), (7, .int (omi v7))] [] σ 0 := by
  intro n
  induction n with
  | zero => intro v5 v6 v7 σ t h K; cases h
  | succ n ih =>
    intro v5 v6 v7 σ t h K
    rw [l_X12_leastOfPriorities_44.eq_2] at h
    refine v_iload C (q := 7) rfl dX12_leastOfPriorities_44 ?_
    refine v_aload_n C (q := 0) rfl rfl dX12_leastOfPriorities_46 ?_
    refine v_geti C (q := 27) (o := 43) fi_X12_63 rfl rfl dX12_leastOfPriorities_47 ?_
    refine v_icmp_ge C (tgt := 147) dX12_leastOfPriorities_50 rfl (fun hc => ?_) (fun hc => ?_)
    · replace h := (if_neg hc).symm.trans h
      cases h
      exact v_subp [0, 1, 2, 3, 4] rfl K
    · replace h := (if_pos hc).symm.trans h
      refine v_iload C (q := 5) rfl dX12_leastOfPriorities_53 ?_
      refine v_aload_n C (q := 0) rfl rfl dX12_leastOfPriorities_55 ?_
      refine v_geti C (q := 27) (o := 43) fi_X12_63 rfl rfl dX12_leastOfPriorities_56 ?_
      refine v_iload C (q := 7) rfl dX12_leastOfPriorities_59 ?_
      refine v_isub C dX12_leastOfPriorities_61 ?_
      obtain ⟨g2, h⟩ := omg_some h
      refine v_irem C g2 dX12_leastOfPriorities_62 ?_
      refine v_istore C (ls' := [(0, .ref (G.1 43)), (1, .int (omi v1)), (2, .int (omi v2)), (3, .int (omi v3)), (4, .int (omi v4)), (5, .int (omi v5)), (6, .int (omi v6)), (7, .int (omi v7)), (8, .int (omi ((omw v5).tmod (omw ((σ 43 1) - v7)))))]) (by decide) rfl dX12_leastOfPriorities_63 ?_
      refine v_iload C (q := 5) rfl dX12_leastOfPriorities_65 ?_
      refine v_aload_n C (q := 0) rfl rfl dX12_leastOfPriorities_67 ?_
      refine v_geti C (q := 27) (o := 43) fi_X12_63 rfl rfl dX12_leastOfPriorities_68 ?_
      refine v_iload C (q := 7) rfl dX12_leastOfPriorities_71 ?_
      refine v_isub C dX12_leastOfPriorities_73 ?_
      obtain ⟨g3, h⟩ := omg_some h
      refine v_idiv C g3 dX12_leastOfPriorities_74 ?_
      refine v_istore C (ls' := [(0, .ref (G.1 43)), (1, .int (omi v1)), (2, .int (omi v2)), (3, .int (omi v3)), (4, .int (omi v4)), (5, .int (omi ((omw v5).tdiv (omw ((σ 43 1) - v7))))), (6, .int (omi v6)), (7, .int (omi v7)), (8, .int (omi ((omw v5).tmod (omw ((σ 43 1) - v7)))))]) (by decide) rfl dX12_leastOfPriorities_75 ?_
      refine v_iconst C (n := 0) dX12_leastOfPriorities_77 ?_
      refine v_istore C (ls' := [(0, .ref (G.1 43)), (1, .int (omi v1)), (2, .int (omi v2)), (3, .int (omi v3)), (4, .int (omi v4)), (5, .int (omi ((omw v5).tdiv (omw ((σ 43 1) - v7))))), (6, .int (omi v6)), (7, .int (omi v7)), (8, .int (omi ((omw v5).tmod (omw ((σ 43 1) - v7))))), (9, .int (omi 0))]) (by decide) rfl dX12_leastOfPriorities_78 ?_
      obtain ⟨t6, et6, h⟩ := om_bind h
      refine kl_X12_leastOfPriorities_80 C v1 v2 v3 v4 ((omw v5).tdiv (omw ((σ 43 1) - v7))) v6 v7 σ FU _ _ t6 et6 ?_
      refine v_aload_n C (q := 0) rfl rfl dX12_leastOfPriorities_123 ?_
      refine v_getr C (q := 27) (o := 43) (r := 54) fi_X12_40 rfl rfl rfl dX12_leastOfPriorities_124 ?_
      refine v_iload C (q := 7) rfl dX12_leastOfPriorities_127 ?_
      refine v_iload C (q := 8) rfl dX12_leastOfPriorities_129 ?_
      obtain ⟨g7, h⟩ := omg_some h
      refine v_iast C (q := 38) (o := 54) (n := 10) rfl g7 dX12_leastOfPriorities_131 ?_
      refine v_iload C (q := 6) rfl dX12_leastOfPriorities_132 ?_
      refine v_iconst C (n := 1) dX12_leastOfPriorities_134 ?_
      refine v_iload C (q := 8) rfl dX12_leastOfPriorities_135 ?_
      refine v_ishl C dX12_leastOfPriorities_137 ?_
      refine v_ior C dX12_leastOfPriorities_138 ?_
      refine v_istore C (ls' := [(0, .ref (G.1 43)), (1, .int (omi v1)), (2, .int (omi v2)), (3, .int (omi v3)), (4, .int (omi v4)), (5, .int (omi ((omw v5).tdiv (omw ((σ 43 1) - v7))))), (6, .int (omi (omor v6 (omshl 1 t6)))), (7, .int (omi v7)), (9, .int (omi t6))]) (by decide) rfl dX12_leastOfPriorities_139 ?_
      refine v_iinc C (q := 7) (ls' := [(0, .ref (G.1 43)), (1, .int (omi v1)), (2, .int (omi v2)), (3, .int (omi v3)), (4, .int (omi v4)), (5, .int (omi ((omw v5).tdiv (omw ((σ 43 1) - v7))))), (6, .int (omi (omor v6 (omshl 1 t6)))), (7, .int (omi (v7 + 1))), (9, .int (omi t6))]) rfl (by decide) rfl rfl dX12_leastOfPriorities_141 ?_
      refine v_goto C (tgt := 44) dX12_leastOfPriorities_144 rfl ?_
      exact v_subp [0, 1, 2, 3, 4, 5, 6, 7] rfl (ih _ _ _ _ _ h K)
set_option maxHeartbeats 4000000 in
set_option maxRecDepth 100000 in
theorem kl_X12_leastOfPriorities_28 {G : omG} {x : omX} (C : omC G x RX12 cX12_leastOfPriorities 10 (3) 0) (v1 : Int) (v2 : Int) : ∀ (n : Nat) (v3 : Int) (v4 : Int) (σ : omH) (t : Int × omH), l_X12_leastOfPriorities_28 v1 v2 n v3 v4 σ = some t → omV G x 10 173 [(3, .int (omi t.1))] [] t.2 0 → omV G x 10 28 [(0, .ref (G.1 43)), (1, .int (omi v1)), (2, .int (omi v2)), (3, .int (omi v3)), (4, .int (omi v4))] [] σ 0 := by
  intro n
  induction n with
  | zero => intro v3 v4 σ t h K; cases h
  | succ n ih =>
    intro v3 v4 σ t h K
    rw [l_X12_leastOfPriorities_28.eq_2] at h
    refine v_iload C (q := 4) rfl dX12_leastOfPriorities_28 ?_
    refine v_iload_n C (q := 2) rfl rfl dX12_leastOfPriorities_30 ?_
    refine v_icmp_ge C (tgt := 173) dX12_leastOfPriorities_31 rfl (fun hc => ?_) (fun hc => ?_)
    · replace h := (if_neg hc).symm.trans h
      cases h
      exact v_subp [3] rfl K
    · replace h := (if_pos hc).symm.trans h
      refine v_iload C (q := 4) rfl dX12_leastOfPriorities_34 ?_
      refine v_istore C (ls' := [(0, .ref (G.1 43)), (1, .int (omi v1)), (2, .int (omi v2)), (3, .int (omi v3)), (4, .int (omi v4)), (5, .int (omi v4))]) (by decide) rfl dX12_leastOfPriorities_36 ?_
      refine v_iconst C (n := 0) dX12_leastOfPriorities_38 ?_
      refine v_istore C (ls' := [(0, .ref (G.1 43)), (1, .int (omi v1)), (2, .int (omi v2)), (3, .int (omi v3)), (4, .int (omi v4)), (5, .int (omi v4)), (6, .int (omi 0))]) (by decide) rfl dX12_leastOfPriorities_39 ?_
      refine v_iconst C (n := 0) dX12_leastOfPriorities_41 ?_
      refine v_istore C (ls' := [(0, .ref (G.1 43)), (1, .int (omi v1)), (2, .int (omi v2)), (3, .int (omi v3)), (4, .int (omi v4)), (5, .int (omi v4)), (6, .int (omi 0)), (7, .int (omi 0))]) (by decide) rfl dX12_leastOfPriorities_42 ?_
      obtain ⟨t8, et8, h⟩ := om_bind h
      refine kl_X12_leastOfPriorities_44 C v1 v2 v3 v4 FU _ _ _ _ t8 et8 ?_
      refine v_aload_n C (q := 0) rfl rfl dX12_leastOfPriorities_147 ?_
      refine v_iload_n C (q := 1) rfl rfl dX12_leastOfPriorities_148 ?_
      obtain ⟨r9, er9, h⟩ := om_bind h
      refine v_invV_i (As := [.int (omi v1)]) C mi_X12_worth ml_X12_179 (k_X12_worth v1 t8 _ er9) (q := 27) rfl rfl rfl (by decide) (Nat.zero_le _) rfl (Nat.le_of_ble_eq_true rfl) dX12_leastOfPriorities_149 ?_
      refine v_istore C (ls' := [(0, .ref (G.1 43)), (1, .int (omi v1)), (2, .int (omi v2)), (3, .int (omi v3)), (4, .int (omi v4)), (7, .int (omi r9.1))]) (by decide) rfl dX12_leastOfPriorities_152 ?_
      refine v_iload C (q := 5) rfl dX12_leastOfPriorities_154 ?_
      refine v_iload_n C (q := 3) rfl rfl dX12_leastOfPriorities_156 ?_
      obtain ⟨t10, et10, h⟩ := om_bind h
      have Jt10 : omV G x 10 166 [(0, .ref (G.1 43)), (1, .int (omi v1)), (2, .int (omi v2)), (4, .int (omi v4))] [.int (omi t10)] r9.2 0 := by
        refine v_istore_n C (ls' := [(0, .ref (G.1 43)), (1, .int (omi v1)), (2, .int (omi v2)), (4, .int (omi v4)), (3, .int (omi t10))]) rfl (by decide) rfl dX12_leastOfPriorities_166 ?_
        refine v_iinc C (q := 3) (ls' := [(0, .ref (G.1 43)), (1, .int (omi v1)), (2, .int (omi v2)), (4, .int (omi (v4 + 1))), (3, .int (omi t10))]) rfl (by decide) rfl rfl dX12_leastOfPriorities_167 ?_
        refine v_goto C (tgt := 28) dX12_leastOfPriorities_170 rfl ?_
        exact v_subp [0, 1, 2, 4, 3] rfl (ih _ _ _ _ h K)
      clear h
      have h := et10
      clear et10
      refine v_icmp_ge C (tgt := 165) dX12_leastOfPriorities_157 rfl (fun hc => ?_) (fun hc => ?_)
      · replace h := (if_neg hc).symm.trans h
        refine v_iload_n C (q := 3) rfl rfl dX12_leastOfPriorities_165 ?_
        cases h
        exact v_subp [0, 1, 2, 4] rfl Jt10
      · replace h := (if_pos hc).symm.trans h
        refine v_iload C (q := 5) rfl dX12_leastOfPriorities_160 ?_
        refine v_goto C (tgt := 166) dX12_leastOfPriorities_162 rfl ?_
        cases h
        exact v_subp [0, 1, 2, 4] rfl Jt10
set_option maxHeartbeats 4000000 in
set_option maxRecDepth 100000 in
theorem k_X12_leastOfPriorities {G : omG} (v1 : Int) (σ : omH) (t : Int × omH) (h : s_X12_leastOfPriorities v1 σ = some t) : omM G yX12_leastOfPriorities (.code yX12_leastOfPriorities cX12_leastOfPriorities 10 (some .int)) 3 0 [.ref (G.1 43), .int (omi v1)] σ (.inr (some (.int (omi t.1)))) t.2 := by
  unfold s_X12_leastOfPriorities at h
  refine om_head (own := RX12) (ls := [(0, .ref (G.1 43)), (1, .int (omi v1))]) (by decide +kernel) rfl (by simp [lg_sl, Value.category]) rfl (by simp [Value.category]) (fun x C F => ?_)
  refine v_iconst C (n := 1) dX12_leastOfPriorities_0 ?_
  refine v_istore_n C (ls' := [(0, .ref (G.1 43)), (1, .int (omi v1)), (2, .int (omi 1))]) rfl (by decide) rfl dX12_leastOfPriorities_1 ?_
  refine v_iconst C (n := 2) dX12_leastOfPriorities_2 ?_
  refine v_istore_n C (ls' := [(0, .ref (G.1 43)), (1, .int (omi v1)), (2, .int (omi 1)), (3, .int (omi 2))]) rfl (by decide) rfl dX12_leastOfPriorities_3 ?_
  obtain ⟨t1, et1, h⟩ := om_bind h
  refine kl_X12_leastOfPriorities_4 C v1 σ FU _ _ t1 et1 ?_
  refine v_ldc C kc_X12_110 dX12_leastOfPriorities_22 ?_
  refine v_istore_n C (ls' := [(0, .ref (G.1 43)), (1, .int (omi v1)), (2, .int (omi t1)), (3, .int (omi 1000000))]) rfl (by decide) rfl dX12_leastOfPriorities_24 ?_
  refine v_iconst C (n := 0) dX12_leastOfPriorities_25 ?_
  refine v_istore C (ls' := [(0, .ref (G.1 43)), (1, .int (omi v1)), (2, .int (omi t1)), (3, .int (omi 1000000)), (4, .int (omi 0))]) (by decide) rfl dX12_leastOfPriorities_26 ?_
  obtain ⟨t11, et11, h⟩ := om_bind h
  refine kl_X12_leastOfPriorities_28 C v1 t1 FU _ _ _ t11 et11 ?_
  refine v_iload_n C (q := 0) rfl rfl dX12_leastOfPriorities_173 ?_
  cases h
  exact v_iret C F dX12_leastOfPriorities_174 (Nat.zero_le _)
set_option maxHeartbeats 4000000 in
set_option maxRecDepth 100000 in
theorem k_X12_leastPreemptiveLateness {G : omG}  (σ : omH) (t : Int × omH) (h : s_X12_leastPreemptiveLateness  σ = some t) : omM G yX12_leastPreemptiveLateness (.code yX12_leastPreemptiveLateness cX12_leastPreemptiveLateness 1 (some .int)) 4 0 [.ref (G.1 43)] σ (.inr (some (.int (omi t.1)))) t.2 := by
  unfold s_X12_leastPreemptiveLateness at h
  refine om_head (own := RX12) (ls := [(0, .ref (G.1 43))]) (by decide +kernel) rfl (by simp [lg_sl, Value.category]) rfl (by simp [Value.category]) (fun x C F => ?_)
  refine v_aload_n C (q := 0) rfl rfl dX12_leastPreemptiveLateness_0 ?_
  obtain ⟨r1, er1, h⟩ := om_bind h
  refine v_invV_i (As := []) C mi_X12_areFew ml_X12_170 (k_X12_areFew  σ _ er1) (q := 27) rfl rfl rfl (by decide) (Nat.zero_le _) rfl (Nat.le_of_ble_eq_true rfl) dX12_leastPreemptiveLateness_1 ?_
  refine v_if_eq C (tgt := 15) dX12_leastPreemptiveLateness_4 rfl (fun hc => ?_) (fun hc => ?_)
  · replace h := (if_pos hc).symm.trans h
    refine v_iconst C (n := 0) dX12_leastPreemptiveLateness_15 ?_
    cases h
    exact v_iret C F dX12_leastPreemptiveLateness_16 (Nat.zero_le _)
  · replace h := (if_neg hc).symm.trans h
    refine v_aload_n C (q := 0) rfl rfl dX12_leastPreemptiveLateness_7 ?_
    refine v_iconst C (n := 0) dX12_leastPreemptiveLateness_8 ?_
    obtain ⟨r2, er2, h⟩ := om_bind h
    refine v_invV_i (As := [.int (omi 0)]) C mi_X12_leastOfPriorities ml_X12_182 (k_X12_leastOfPriorities 0 r1.2 _ er2) (q := 27) rfl rfl rfl (by decide) (Nat.zero_le _) rfl (Nat.le_of_ble_eq_true rfl) dX12_leastPreemptiveLateness_9 ?_
    refine v_goto C (tgt := 16) dX12_leastPreemptiveLateness_12 rfl ?_
    cases h
    exact v_iret C F dX12_leastPreemptiveLateness_16 (Nat.zero_le _)
set_option maxHeartbeats 4000000 in
set_option maxRecDepth 100000 in
theorem k_X12_leastPreemptiveCompletions {G : omG}  (σ : omH) (t : Int × omH) (h : s_X12_leastPreemptiveCompletions  σ = some t) : omM G yX12_leastPreemptiveCompletions (.code yX12_leastPreemptiveCompletions cX12_leastPreemptiveCompletions 1 (some .int)) 4 0 [.ref (G.1 43)] σ (.inr (some (.int (omi t.1)))) t.2 := by
  unfold s_X12_leastPreemptiveCompletions at h
  refine om_head (own := RX12) (ls := [(0, .ref (G.1 43))]) (by decide +kernel) rfl (by simp [lg_sl, Value.category]) rfl (by simp [Value.category]) (fun x C F => ?_)
  refine v_aload_n C (q := 0) rfl rfl dX12_leastPreemptiveCompletions_0 ?_
  obtain ⟨r1, er1, h⟩ := om_bind h
  refine v_invV_i (As := []) C mi_X12_areFew ml_X12_170 (k_X12_areFew  σ _ er1) (q := 27) rfl rfl rfl (by decide) (Nat.zero_le _) rfl (Nat.le_of_ble_eq_true rfl) dX12_leastPreemptiveCompletions_1 ?_
  refine v_if_eq C (tgt := 15) dX12_leastPreemptiveCompletions_4 rfl (fun hc => ?_) (fun hc => ?_)
  · replace h := (if_pos hc).symm.trans h
    refine v_iconst C (n := 0) dX12_leastPreemptiveCompletions_15 ?_
    cases h
    exact v_iret C F dX12_leastPreemptiveCompletions_16 (Nat.zero_le _)
  · replace h := (if_neg hc).symm.trans h
    refine v_aload_n C (q := 0) rfl rfl dX12_leastPreemptiveCompletions_7 ?_
    refine v_iconst C (n := 1) dX12_leastPreemptiveCompletions_8 ?_
    obtain ⟨r2, er2, h⟩ := om_bind h
    refine v_invV_i (As := [.int (omi 1)]) C mi_X12_leastOfPriorities ml_X12_182 (k_X12_leastOfPriorities 1 r1.2 _ er2) (q := 27) rfl rfl rfl (by decide) (Nat.zero_le _) rfl (Nat.le_of_ble_eq_true rfl) dX12_leastPreemptiveCompletions_9 ?_
    refine v_goto C (tgt := 16) dX12_leastPreemptiveCompletions_12 rfl ?_
    cases h
    exact v_iret C F dX12_leastPreemptiveCompletions_16 (Nat.zero_le _)
set_option maxHeartbeats 4000000 in
set_option maxRecDepth 100000 in
theorem kl_X12_canBeOnTime_50 {G : omG} {x : omX} (C : omC G x RX12 cX12_canBeOnTime 6 (2) 0) (v1 : Int) (v2 : Int) (v3 : Int) (σ : omH) : ∀ (n : Nat) (v4 : Int) (v5 : Int) (t : Int), l_X12_canBeOnTime_50 v1 v2 v3 σ n v4 v5 = some t → omV G x 6 107 [(0, .ref (G.1 43)), (1, .int (omi v1)), (2, .int (omi v2)), (3, .int (omi v3)), (4, .int (omi t))] [] σ 0 → omV G x 6 50 [(0, .ref (G.1 43)), (1, .int (omi v1)), (2, .int (omi v2)), (3, .int (omi v3)), (4, .int (omi v4)), (5, .int (omi v5))] [] σ 0 := by
  intro n
  induction n with
  | zero => intro v4 v5 t h K; cases h
  | succ n ih =>
    intro v4 v5 t h K
    rw [l_X12_canBeOnTime_50.eq_2] at h
    refine v_iload C (q := 5) rfl dX12_canBeOnTime_50 ?_
    refine v_aload_n C (q := 0) rfl rfl dX12_canBeOnTime_52 ?_
    refine v_geti C (q := 27) (o := 43) fi_X12_63 rfl rfl dX12_canBeOnTime_53 ?_
    refine v_icmp_ge C (tgt := 107) dX12_canBeOnTime_56 rfl (fun hc => ?_) (fun hc => ?_)
    · replace h := (if_neg hc).symm.trans h
      cases h
      exact v_subp [0, 1, 2, 3, 4] rfl K
    · replace h := (if_pos hc).symm.trans h
      refine v_iload C (q := 4) rfl dX12_canBeOnTime_59 ?_
      refine v_iload_n C (q := 1) rfl rfl dX12_canBeOnTime_61 ?_
      refine v_iload C (q := 5) rfl dX12_canBeOnTime_62 ?_
      refine v_ishr C dX12_canBeOnTime_64 ?_
      refine v_iconst C (n := 1) dX12_canBeOnTime_65 ?_
      refine v_iand C dX12_canBeOnTime_66 ?_
      refine v_iconst C (n := 1) dX12_canBeOnTime_67 ?_
      obtain ⟨t4, et4, h⟩ := om_bind h
      have Jt4 : omV G x 6 98 [(0, .ref (G.1 43)), (1, .int (omi v1)), (2, .int (omi v2)), (3, .int (omi v3)), (5, .int (omi v5))] [.int (omi t4), .int (omi v4)] σ 0 := by
        refine v_iadd C dX12_canBeOnTime_98 ?_
        refine v_istore C (ls' := [(0, .ref (G.1 43)), (1, .int (omi v1)), (2, .int (omi v2)), (3, .int (omi v3)), (5, .int (omi v5)), (4, .int (omi (v4 + t4)))]) (by decide) rfl dX12_canBeOnTime_99 ?_
        refine v_iinc C (q := 4) (ls' := [(0, .ref (G.1 43)), (1, .int (omi v1)), (2, .int (omi v2)), (3, .int (omi v3)), (5, .int (omi (v5 + 1))), (4, .int (omi (v4 + t4)))]) rfl (by decide) rfl rfl dX12_canBeOnTime_101 ?_
        refine v_goto C (tgt := 50) dX12_canBeOnTime_104 rfl ?_
        exact v_subp [0, 1, 2, 3, 5, 4] rfl (ih _ _ _ h K)
      clear h
      have h := et4
      clear et4
      refine v_icmp_ne C (tgt := 97) dX12_canBeOnTime_68 rfl (fun hc => ?_) (fun hc => ?_)
      · replace h := (if_neg hc).symm.trans h
        refine v_iconst C (n := 0) dX12_canBeOnTime_97 ?_
        cases h
        exact v_subp [0, 1, 2, 3, 5] rfl Jt4
      · replace h := (if_pos hc).symm.trans h
        refine v_iload C (q := 5) rfl dX12_canBeOnTime_71 ?_
        refine v_iload_n C (q := 3) rfl rfl dX12_canBeOnTime_73 ?_
        refine v_icmp_eq C (tgt := 97) dX12_canBeOnTime_74 rfl (fun hc => ?_) (fun hc => ?_)
        · replace h := (if_pos hc).symm.trans h
          refine v_iconst C (n := 0) dX12_canBeOnTime_97 ?_
          cases h
          exact v_subp [0, 1, 2, 3, 5] rfl Jt4
        · replace h := (if_neg hc).symm.trans h
          refine v_aload_n C (q := 0) rfl rfl dX12_canBeOnTime_77 ?_
          refine v_iload C (q := 5) rfl dX12_canBeOnTime_78 ?_
          refine v_iload_n C (q := 3) rfl rfl dX12_canBeOnTime_80 ?_
          obtain ⟨r5, er5, h⟩ := om_bind h
          refine v_invV_i (As := [.int (omi v5), .int (omi v3)]) C mi_X12_comesByDue ml_X12_95 (k_X12_comesByDue v5 v3 σ _ er5) (q := 27) rfl rfl rfl (by decide) (Nat.zero_le _) rfl (Nat.le_of_ble_eq_true rfl) dX12_canBeOnTime_81 ?_
          refine v_if_eq C (tgt := 97) dX12_canBeOnTime_84 rfl (fun hc => ?_) (fun hc => ?_)
          · replace h := (if_pos hc).symm.trans h
            refine v_iconst C (n := 0) dX12_canBeOnTime_97 ?_
            cases h
            exact v_subp [0, 1, 2, 3, 5] rfl Jt4
          · replace h := (if_neg hc).symm.trans h
            refine v_aload_n C (q := 0) rfl rfl dX12_canBeOnTime_87 ?_
            refine v_getr C (q := 27) (o := 43) (r := 44) fi_X12_7 rfl rfl rfl dX12_canBeOnTime_88 ?_
            refine v_iload C (q := 5) rfl dX12_canBeOnTime_91 ?_
            obtain ⟨g6, h⟩ := omg_some h
            refine v_iald C (q := 28) (o := 44) (n := 10) rfl g6 dX12_canBeOnTime_93 ?_
            refine v_goto C (tgt := 98) dX12_canBeOnTime_94 rfl ?_
            cases h
            exact v_subp [0, 1, 2, 3, 5] rfl Jt4
set_option maxHeartbeats 4000000 in
set_option maxRecDepth 100000 in
theorem kl_X12_canBeOnTime_31 {G : omG} {x : omX} (C : omC G x RX12 cX12_canBeOnTime 6 (2) 0) (v1 : Int) (σ : omH) : ∀ (n : Nat) (v2 : Int) (v3 : Int) (t : Int), l_X12_canBeOnTime_31 v1 σ n v2 v3 = some t → omV G x 6 142 [(2, .int (omi t))] [] σ 0 → omV G x 6 31 [(0, .ref (G.1 43)), (1, .int (omi v1)), (2, .int (omi v2)), (3, .int (omi v3))] [] σ 0 := by
  intro n
  induction n with
  | zero => intro v2 v3 t h K; cases h
  | succ n ih =>
    intro v2 v3 t h K
    rw [l_X12_canBeOnTime_31.eq_2] at h
    refine v_iload_n C (q := 3) rfl rfl dX12_canBeOnTime_31 ?_
    refine v_aload_n C (q := 0) rfl rfl dX12_canBeOnTime_32 ?_
    refine v_geti C (q := 27) (o := 43) fi_X12_63 rfl rfl dX12_canBeOnTime_33 ?_
    refine v_icmp_ge C (tgt := 142) dX12_canBeOnTime_36 rfl (fun hc => ?_) (fun hc => ?_)
    · replace h := (if_neg hc).symm.trans h
      cases h
      exact v_subp [2] rfl K
    · replace h := (if_pos hc).symm.trans h
      refine v_aload_n C (q := 0) rfl rfl dX12_canBeOnTime_39 ?_
      refine v_getr C (q := 27) (o := 43) (r := 44) fi_X12_7 rfl rfl rfl dX12_canBeOnTime_40 ?_
      refine v_iload_n C (q := 3) rfl rfl dX12_canBeOnTime_43 ?_
      obtain ⟨g3, h⟩ := omg_some h
      refine v_iald C (q := 28) (o := 44) (n := 10) rfl g3 dX12_canBeOnTime_44 ?_
      refine v_istore C (ls' := [(0, .ref (G.1 43)), (1, .int (omi v1)), (2, .int (omi v2)), (3, .int (omi v3)), (4, .int (omi (σ 44 (omw v3).toNat)))]) (by decide) rfl dX12_canBeOnTime_45 ?_
      refine v_iconst C (n := 0) dX12_canBeOnTime_47 ?_
      refine v_istore C (ls' := [(0, .ref (G.1 43)), (1, .int (omi v1)), (2, .int (omi v2)), (3, .int (omi v3)), (4, .int (omi (σ 44 (omw v3).toNat))), (5, .int (omi 0))]) (by decide) rfl dX12_canBeOnTime_48 ?_
      obtain ⟨t7, et7, h⟩ := om_bind h
      refine kl_X12_canBeOnTime_50 C v1 v2 v3 σ FU _ _ t7 et7 ?_
      refine v_iload_n C (q := 2) rfl rfl dX12_canBeOnTime_107 ?_
      obtain ⟨t8, et8, h⟩ := om_bind h
      have Jt8 : omV G x 6 135 [(0, .ref (G.1 43)), (1, .int (omi v1)), (3, .int (omi v3))] [.int (omi t8)] σ 0 := by
        refine v_istore_n C (ls' := [(0, .ref (G.1 43)), (1, .int (omi v1)), (3, .int (omi v3)), (2, .int (omi t8))]) rfl (by decide) rfl dX12_canBeOnTime_135 ?_
        refine v_iinc C (q := 2) (ls' := [(0, .ref (G.1 43)), (1, .int (omi v1)), (3, .int (omi (v3 + 1))), (2, .int (omi t8))]) rfl (by decide) rfl rfl dX12_canBeOnTime_136 ?_
        refine v_goto C (tgt := 31) dX12_canBeOnTime_139 rfl ?_
        exact v_subp [0, 1, 3, 2] rfl (ih _ _ _ h K)
      clear h
      have h := et8
      clear et8
      refine v_if_eq C (tgt := 134) dX12_canBeOnTime_108 rfl (fun hc => ?_) (fun hc => ?_)
      · replace h := (if_pos hc).symm.trans h
        refine v_iconst C (n := 0) dX12_canBeOnTime_134 ?_
        cases h
        exact v_subp [0, 1, 3] rfl Jt8
      · replace h := (if_neg hc).symm.trans h
        refine v_iload_n C (q := 1) rfl rfl dX12_canBeOnTime_111 ?_
        refine v_iload_n C (q := 3) rfl rfl dX12_canBeOnTime_112 ?_
        refine v_ishr C dX12_canBeOnTime_113 ?_
        refine v_iconst C (n := 1) dX12_canBeOnTime_114 ?_
        refine v_iand C dX12_canBeOnTime_115 ?_
        refine v_if_eq C (tgt := 130) dX12_canBeOnTime_116 rfl (fun hc => ?_) (fun hc => ?_)
        · replace h := (if_pos hc).symm.trans h
          refine v_iconst C (n := 1) dX12_canBeOnTime_130 ?_
          refine v_goto C (tgt := 135) dX12_canBeOnTime_131 rfl ?_
          cases h
          exact v_subp [0, 1, 3] rfl Jt8
        · replace h := (if_neg hc).symm.trans h
          refine v_iload C (q := 4) rfl dX12_canBeOnTime_119 ?_
          refine v_aload_n C (q := 0) rfl rfl dX12_canBeOnTime_121 ?_
          refine v_getr C (q := 27) (o := 43) (r := 45) fi_X12_13 rfl rfl rfl dX12_canBeOnTime_122 ?_
          refine v_iload_n C (q := 3) rfl rfl dX12_canBeOnTime_125 ?_
          obtain ⟨g9, h⟩ := omg_some h
          refine v_iald C (q := 29) (o := 45) (n := 10) rfl g9 dX12_canBeOnTime_126 ?_
          refine v_icmp_gt C (tgt := 134) dX12_canBeOnTime_127 rfl (fun hc => ?_) (fun hc => ?_)
          · replace h := (if_pos hc).symm.trans h
            refine v_iconst C (n := 0) dX12_canBeOnTime_134 ?_
            cases h
            exact v_subp [0, 1, 3] rfl Jt8
          · replace h := (if_neg hc).symm.trans h
            refine v_iconst C (n := 1) dX12_canBeOnTime_130 ?_
            refine v_goto C (tgt := 135) dX12_canBeOnTime_131 rfl ?_
            cases h
            exact v_subp [0, 1, 3] rfl Jt8
set_option maxHeartbeats 4000000 in
set_option maxRecDepth 100000 in
theorem k_X12_canBeOnTime {G : omG} (v1 : Int) (σ : omH) (t : Int × omH) (h : s_X12_canBeOnTime v1 σ = some t) : omM G yX12_canBeOnTime (.code yX12_canBeOnTime cX12_canBeOnTime 6 (some .boolean)) 2 0 [.ref (G.1 43), .int (omi v1)] σ (.inr (some (.int (omi t.1)))) t.2 := by
  unfold s_X12_canBeOnTime at h
  refine om_head (own := RX12) (ls := [(0, .ref (G.1 43)), (1, .int (omi v1))]) (by decide +kernel) rfl (by simp [lg_sl, Value.category]) rfl (by simp [Value.category]) (fun x C F => ?_)
  refine v_aload_n C (q := 0) rfl rfl dX12_canBeOnTime_0 ?_
  refine v_iload_n C (q := 1) rfl rfl dX12_canBeOnTime_1 ?_
  obtain ⟨t1, et1, h⟩ := om_bind h
  have Jt1 : omV G x 6 19 [(0, .ref (G.1 43)), (1, .int (omi v1))] [.int (omi t1), .ref (G.1 43)] σ 0 := by
    obtain ⟨r2, er2, h⟩ := om_bind h
    refine v_invV_i (As := [.int (omi t1)]) C mi_X12_holds ml_X12_84 (k_X12_holds t1 σ _ er2) (q := 27) rfl rfl rfl (by decide) (Nat.zero_le _) rfl (Nat.le_of_ble_eq_true rfl) dX12_canBeOnTime_19 ?_
    refine v_if_ne C (tgt := 27) dX12_canBeOnTime_22 rfl (fun hc => ?_) (fun hc => ?_)
    · replace h := (if_neg hc).symm.trans h
      refine v_iconst C (n := 1) dX12_canBeOnTime_27 ?_
      refine v_istore_n C (ls' := [(0, .ref (G.1 43)), (1, .int (omi v1)), (2, .int (omi 1))]) rfl (by decide) rfl dX12_canBeOnTime_28 ?_
      refine v_iconst C (n := 0) dX12_canBeOnTime_29 ?_
      refine v_istore_n C (ls' := [(0, .ref (G.1 43)), (1, .int (omi v1)), (2, .int (omi 1)), (3, .int (omi 0))]) rfl (by decide) rfl dX12_canBeOnTime_30 ?_
      obtain ⟨t10, et10, h⟩ := om_bind h
      refine kl_X12_canBeOnTime_31 C v1 r2.2 FU _ _ t10 et10 ?_
      refine v_iload_n C (q := 0) rfl rfl dX12_canBeOnTime_142 ?_
      obtain ⟨g11, h⟩ := omg_some h
      cases h
      exact v_zret C g11 F dX12_canBeOnTime_143 (Nat.zero_le _)
    · replace h := (if_pos hc).symm.trans h
      refine v_iconst C (n := 0) dX12_canBeOnTime_25 ?_
      cases h
      exact v_zret C (by decide) F dX12_canBeOnTime_26 (Nat.zero_le _)
  clear h
  have h := et1
  clear et1
  refine v_if_lt C (tgt := 18) dX12_canBeOnTime_2 rfl (fun hc => ?_) (fun hc => ?_)
  · replace h := (if_pos hc).symm.trans h
    refine v_iconst C (n := 1) dX12_canBeOnTime_18 ?_
    cases h
    exact Jt1
  · replace h := (if_neg hc).symm.trans h
    refine v_iload_n C (q := 1) rfl rfl dX12_canBeOnTime_5 ?_
    refine v_aload_n C (q := 0) rfl rfl dX12_canBeOnTime_6 ?_
    refine v_geti C (q := 27) (o := 43) fi_X12_63 rfl rfl dX12_canBeOnTime_7 ?_
    refine v_ishr C dX12_canBeOnTime_10 ?_
    refine v_if_ne C (tgt := 18) dX12_canBeOnTime_11 rfl (fun hc => ?_) (fun hc => ?_)
    · replace h := (if_neg hc).symm.trans h
      refine v_iconst C (n := 1) dX12_canBeOnTime_18 ?_
      cases h
      exact Jt1
    · replace h := (if_pos hc).symm.trans h
      refine v_iconst C (n := 0) dX12_canBeOnTime_14 ?_
      refine v_goto C (tgt := 19) dX12_canBeOnTime_15 rfl ?_
      cases h
      exact Jt1
set_option maxHeartbeats 4000000 in
set_option maxRecDepth 100000 in
theorem kl_X12_fewestLateBySets_12 {G : omG} {x : omX} (C : omC G x RX12 cX12_fewestLateBySets 5 (3) 0) : ∀ (n : Nat) (v1 : Int) (σ : omH) (t : omH), l_X12_fewestLateBySets_12  n v1 σ = some t → omV G x 5 42 [(0, .ref (G.1 43))] [] t 0 → omV G x 5 12 [(0, .ref (G.1 43)), (1, .int (omi v1))] [] σ 0 := by
  intro n
  induction n with
  | zero => intro v1 σ t h K; cases h
  | succ n ih =>
    intro v1 σ t h K
    rw [l_X12_fewestLateBySets_12.eq_2] at h
    refine v_iload_n C (q := 1) rfl rfl dX12_fewestLateBySets_12 ?_
    refine v_aload_n C (q := 0) rfl rfl dX12_fewestLateBySets_13 ?_
    refine v_geti C (q := 27) (o := 43) fi_X12_63 rfl rfl dX12_fewestLateBySets_14 ?_
    refine v_icmp_gt C (tgt := 42) dX12_fewestLateBySets_17 rfl (fun hc => ?_) (fun hc => ?_)
    · replace h := (if_pos hc).symm.trans h
      cases h
      exact v_subp [0] rfl K
    · replace h := (if_neg hc).symm.trans h
      refine v_aload_n C (q := 0) rfl rfl dX12_fewestLateBySets_20 ?_
      refine v_getr C (q := 27) (o := 43) (r := 58) fi_X12_52 rfl rfl rfl dX12_fewestLateBySets_21 ?_
      refine v_iload_n C (q := 1) rfl rfl dX12_fewestLateBySets_24 ?_
      refine v_iload_n C (q := 1) rfl rfl dX12_fewestLateBySets_25 ?_
      obtain ⟨t2, et2, h⟩ := om_bind h
      have Jt2 : omV G x 5 35 [(0, .ref (G.1 43)), (1, .int (omi v1))] [.int (omi t2), .int (omi v1), .ref (G.1 58)] σ 0 := by
        obtain ⟨g3, h⟩ := omg_some h
        refine v_iast C (q := 42) (o := 58) (n := 11) rfl g3 dX12_fewestLateBySets_35 ?_
        refine v_iinc C (q := 1) (ls' := [(0, .ref (G.1 43)), (1, .int (omi (v1 + 1)))]) rfl (by decide) rfl rfl dX12_fewestLateBySets_36 ?_
        refine v_goto C (tgt := 12) dX12_fewestLateBySets_39 rfl ?_
        exact ih _ _ _ h K
      clear h
      have h := et2
      clear et2
      refine v_if_ne C (tgt := 33) dX12_fewestLateBySets_26 rfl (fun hc => ?_) (fun hc => ?_)
      · replace h := (if_neg hc).symm.trans h
        refine v_ldc C kc_X12_110 dX12_fewestLateBySets_33 ?_
        cases h
        exact Jt2
      · replace h := (if_pos hc).symm.trans h
        refine v_iconst C (n := 0) dX12_fewestLateBySets_29 ?_
        refine v_goto C (tgt := 35) dX12_fewestLateBySets_30 rfl ?_
        cases h
        exact Jt2
