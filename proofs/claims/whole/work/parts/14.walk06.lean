set_option maxHeartbeats 4000000 in
set_option maxRecDepth 100000 in
theorem kl_X12_fewestLateBySets_64 {G : omG} {x : omX} (C : omC G x RX12 cX12_fewestLateBySets 5 (3) 0) (v1 : Int) (v2 : Int) : ∀ (n : Nat) (v3 : Int) (σ : omH) (t : omH), l_X12_fewestLateBySets_64 v1 v2 n v3 σ = some t → omV G x 5 130 [(0, .ref (G.1 43)), (1, .int (omi v1))] [] t 0 → omV G x 5 64 [(0, .ref (G.1 43)), (1, .int (omi v1)), (2, .int (omi v2)), (3, .int (omi v3))] [] σ 0 := by
  intro n
  induction n with
  | zero => intro v3 σ t h K; cases h
  | succ n ih =>
    intro v3 σ t h K
    rw [l_X12_fewestLateBySets_64.eq_2] at h
    refine v_iload_n C (q := 3) rfl rfl dX12_fewestLateBySets_64 ?_
    refine v_if_le C (tgt := 130) dX12_fewestLateBySets_65 rfl (fun hc => ?_) (fun hc => ?_)
    · replace h := (if_neg hc).symm.trans h
      cases h
      exact v_subp [0, 1] rfl K
    · replace h := (if_pos hc).symm.trans h
      refine v_aload_n C (q := 0) rfl rfl dX12_fewestLateBySets_68 ?_
      refine v_getr C (q := 27) (o := 43) (r := 58) fi_X12_52 rfl rfl rfl dX12_fewestLateBySets_69 ?_
      refine v_iload_n C (q := 3) rfl rfl dX12_fewestLateBySets_72 ?_
      refine v_iconst C (n := 1) dX12_fewestLateBySets_73 ?_
      refine v_isub C dX12_fewestLateBySets_74 ?_
      obtain ⟨g6, h⟩ := omg_some h
      refine v_iald C (q := 42) (o := 58) (n := 11) rfl g6 dX12_fewestLateBySets_75 ?_
      refine v_aload_n C (q := 0) rfl rfl dX12_fewestLateBySets_76 ?_
      refine v_getr C (q := 27) (o := 43) (r := 44) fi_X12_7 rfl rfl rfl dX12_fewestLateBySets_77 ?_
      refine v_iload_n C (q := 2) rfl rfl dX12_fewestLateBySets_80 ?_
      obtain ⟨g7, h⟩ := omg_some h
      refine v_iald C (q := 28) (o := 44) (n := 10) rfl g7 dX12_fewestLateBySets_81 ?_
      refine v_iadd C dX12_fewestLateBySets_82 ?_
      refine v_istore C (ls' := [(0, .ref (G.1 43)), (1, .int (omi v1)), (2, .int (omi v2)), (3, .int (omi v3)), (4, .int (omi ((σ 58 (omw (v3 - 1)).toNat) + (σ 44 (omw v2).toNat))))]) (by decide) rfl dX12_fewestLateBySets_83 ?_
      refine v_aload_n C (q := 0) rfl rfl dX12_fewestLateBySets_85 ?_
      refine v_getr C (q := 27) (o := 43) (r := 58) fi_X12_52 rfl rfl rfl dX12_fewestLateBySets_86 ?_
      refine v_iload_n C (q := 3) rfl rfl dX12_fewestLateBySets_89 ?_
      refine v_iload C (q := 4) rfl dX12_fewestLateBySets_90 ?_
      refine v_aload_n C (q := 0) rfl rfl dX12_fewestLateBySets_92 ?_
      refine v_getr C (q := 27) (o := 43) (r := 45) fi_X12_13 rfl rfl rfl dX12_fewestLateBySets_93 ?_
      refine v_iload_n C (q := 2) rfl rfl dX12_fewestLateBySets_96 ?_
      obtain ⟨g8, h⟩ := omg_some h
      refine v_iald C (q := 29) (o := 45) (n := 10) rfl g8 dX12_fewestLateBySets_97 ?_
      obtain ⟨t9, et9, h⟩ := om_bind h
      have Jt9 : omV G x 5 123 [(0, .ref (G.1 43)), (1, .int (omi v1)), (2, .int (omi v2)), (3, .int (omi v3))] [.int (omi t9), .int (omi v3), .ref (G.1 58)] σ 0 := by
        obtain ⟨g10, h⟩ := omg_some h
        refine v_iast C (q := 42) (o := 58) (n := 11) rfl g10 dX12_fewestLateBySets_123 ?_
        refine v_iinc C (q := 3) (ls' := [(0, .ref (G.1 43)), (1, .int (omi v1)), (2, .int (omi v2)), (3, .int (omi (v3 + (-1))))]) rfl (by decide) rfl rfl dX12_fewestLateBySets_124 ?_
        refine v_goto C (tgt := 64) dX12_fewestLateBySets_127 rfl ?_
        exact ih _ _ _ h K
      clear h
      have h := et9
      clear et9
      refine v_icmp_gt C (tgt := 117) dX12_fewestLateBySets_98 rfl (fun hc => ?_) (fun hc => ?_)
      · replace h := (if_pos hc).symm.trans h
        refine v_aload_n C (q := 0) rfl rfl dX12_fewestLateBySets_117 ?_
        refine v_getr C (q := 27) (o := 43) (r := 58) fi_X12_52 rfl rfl rfl dX12_fewestLateBySets_118 ?_
        refine v_iload_n C (q := 3) rfl rfl dX12_fewestLateBySets_121 ?_
        obtain ⟨g11, h⟩ := omg_some h
        refine v_iald C (q := 42) (o := 58) (n := 11) rfl g11 dX12_fewestLateBySets_122 ?_
        cases h
        exact v_subp [0, 1, 2, 3] rfl Jt9
      · replace h := (if_neg hc).symm.trans h
        refine v_iload C (q := 4) rfl dX12_fewestLateBySets_101 ?_
        refine v_aload_n C (q := 0) rfl rfl dX12_fewestLateBySets_103 ?_
        refine v_getr C (q := 27) (o := 43) (r := 58) fi_X12_52 rfl rfl rfl dX12_fewestLateBySets_104 ?_
        refine v_iload_n C (q := 3) rfl rfl dX12_fewestLateBySets_107 ?_
        obtain ⟨g12, h⟩ := omg_some h
        refine v_iald C (q := 42) (o := 58) (n := 11) rfl g12 dX12_fewestLateBySets_108 ?_
        refine v_icmp_ge C (tgt := 117) dX12_fewestLateBySets_109 rfl (fun hc => ?_) (fun hc => ?_)
        · replace h := (if_neg hc).symm.trans h
          refine v_aload_n C (q := 0) rfl rfl dX12_fewestLateBySets_117 ?_
          refine v_getr C (q := 27) (o := 43) (r := 58) fi_X12_52 rfl rfl rfl dX12_fewestLateBySets_118 ?_
          refine v_iload_n C (q := 3) rfl rfl dX12_fewestLateBySets_121 ?_
          obtain ⟨g13, h⟩ := omg_some h
          refine v_iald C (q := 42) (o := 58) (n := 11) rfl g13 dX12_fewestLateBySets_122 ?_
          cases h
          exact v_subp [0, 1, 2, 3] rfl Jt9
        · replace h := (if_pos hc).symm.trans h
          refine v_iload C (q := 4) rfl dX12_fewestLateBySets_112 ?_
          refine v_goto C (tgt := 123) dX12_fewestLateBySets_114 rfl ?_
          cases h
          exact v_subp [0, 1, 2, 3] rfl Jt9
set_option maxHeartbeats 4000000 in
set_option maxRecDepth 100000 in
theorem kl_X12_fewestLateBySets_44 {G : omG} {x : omX} (C : omC G x RX12 cX12_fewestLateBySets 5 (3) 0) : ∀ (n : Nat) (v1 : Int) (σ : omH) (t : omH), l_X12_fewestLateBySets_44  n v1 σ = some t → omV G x 5 136 [(0, .ref (G.1 43))] [] t 0 → omV G x 5 44 [(0, .ref (G.1 43)), (1, .int (omi v1))] [] σ 0 := by
  intro n
  induction n with
  | zero => intro v1 σ t h K; cases h
  | succ n ih =>
    intro v1 σ t h K
    rw [l_X12_fewestLateBySets_44.eq_2] at h
    refine v_iload_n C (q := 1) rfl rfl dX12_fewestLateBySets_44 ?_
    refine v_aload_n C (q := 0) rfl rfl dX12_fewestLateBySets_45 ?_
    refine v_geti C (q := 27) (o := 43) fi_X12_63 rfl rfl dX12_fewestLateBySets_46 ?_
    refine v_icmp_ge C (tgt := 136) dX12_fewestLateBySets_49 rfl (fun hc => ?_) (fun hc => ?_)
    · replace h := (if_neg hc).symm.trans h
      cases h
      exact v_subp [0] rfl K
    · replace h := (if_pos hc).symm.trans h
      refine v_aload_n C (q := 0) rfl rfl dX12_fewestLateBySets_52 ?_
      refine v_getr C (q := 27) (o := 43) (r := 54) fi_X12_40 rfl rfl rfl dX12_fewestLateBySets_53 ?_
      refine v_iload_n C (q := 1) rfl rfl dX12_fewestLateBySets_56 ?_
      obtain ⟨g5, h⟩ := omg_some h
      refine v_iald C (q := 38) (o := 54) (n := 10) rfl g5 dX12_fewestLateBySets_57 ?_
      refine v_istore_n C (ls' := [(0, .ref (G.1 43)), (1, .int (omi v1)), (2, .int (omi (σ 54 (omw v1).toNat)))]) rfl (by decide) rfl dX12_fewestLateBySets_58 ?_
      refine v_aload_n C (q := 0) rfl rfl dX12_fewestLateBySets_59 ?_
      refine v_geti C (q := 27) (o := 43) fi_X12_63 rfl rfl dX12_fewestLateBySets_60 ?_
      refine v_istore_n C (ls' := [(0, .ref (G.1 43)), (1, .int (omi v1)), (2, .int (omi (σ 54 (omw v1).toNat))), (3, .int (omi (σ 43 1)))]) rfl (by decide) rfl dX12_fewestLateBySets_63 ?_
      obtain ⟨t14, et14, h⟩ := om_bind h
      refine kl_X12_fewestLateBySets_64 C v1 (σ 54 (omw v1).toNat) FU _ _ t14 et14 ?_
      refine v_iinc C (q := 1) (ls' := [(0, .ref (G.1 43)), (1, .int (omi (v1 + 1)))]) rfl (by decide) rfl rfl dX12_fewestLateBySets_130 ?_
      refine v_goto C (tgt := 44) dX12_fewestLateBySets_133 rfl ?_
      exact ih _ _ _ h K
set_option maxHeartbeats 4000000 in
set_option maxRecDepth 100000 in
theorem kl_X12_fewestLateBySets_140 {G : omG} {x : omX} (C : omC G x RX12 cX12_fewestLateBySets 5 (3) 0) (σ : omH) : ∀ (n : Nat) (v1 : Int) (v2 : Int) (t : Int), l_X12_fewestLateBySets_140  σ n v1 v2 = some t → omV G x 5 171 [(0, .ref (G.1 43)), (1, .int (omi t))] [] σ 0 → omV G x 5 140 [(0, .ref (G.1 43)), (1, .int (omi v1)), (2, .int (omi v2))] [] σ 0 := by
  intro n
  induction n with
  | zero => intro v1 v2 t h K; cases h
  | succ n ih =>
    intro v1 v2 t h K
    rw [l_X12_fewestLateBySets_140.eq_2] at h
    refine v_iload_n C (q := 2) rfl rfl dX12_fewestLateBySets_140 ?_
    refine v_aload_n C (q := 0) rfl rfl dX12_fewestLateBySets_141 ?_
    refine v_geti C (q := 27) (o := 43) fi_X12_63 rfl rfl dX12_fewestLateBySets_142 ?_
    refine v_icmp_gt C (tgt := 171) dX12_fewestLateBySets_145 rfl (fun hc => ?_) (fun hc => ?_)
    · replace h := (if_pos hc).symm.trans h
      cases h
      exact v_subp [0, 1] rfl K
    · replace h := (if_neg hc).symm.trans h
      refine v_aload_n C (q := 0) rfl rfl dX12_fewestLateBySets_148 ?_
      refine v_getr C (q := 27) (o := 43) (r := 58) fi_X12_52 rfl rfl rfl dX12_fewestLateBySets_149 ?_
      refine v_iload_n C (q := 2) rfl rfl dX12_fewestLateBySets_152 ?_
      obtain ⟨g16, h⟩ := omg_some h
      refine v_iald C (q := 42) (o := 58) (n := 11) rfl g16 dX12_fewestLateBySets_153 ?_
      refine v_ldc C kc_X12_110 dX12_fewestLateBySets_154 ?_
      obtain ⟨t17, et17, h⟩ := om_bind h
      have Jt17 : omV G x 5 164 [(0, .ref (G.1 43)), (2, .int (omi v2))] [.int (omi t17)] σ 0 := by
        refine v_istore_n C (ls' := [(0, .ref (G.1 43)), (2, .int (omi v2)), (1, .int (omi t17))]) rfl (by decide) rfl dX12_fewestLateBySets_164 ?_
        refine v_iinc C (q := 1) (ls' := [(0, .ref (G.1 43)), (2, .int (omi (v2 + 1))), (1, .int (omi t17))]) rfl (by decide) rfl rfl dX12_fewestLateBySets_165 ?_
        refine v_goto C (tgt := 140) dX12_fewestLateBySets_168 rfl ?_
        exact v_subp [0, 2, 1] rfl (ih _ _ _ h K)
      clear h
      have h := et17
      clear et17
      refine v_icmp_ge C (tgt := 163) dX12_fewestLateBySets_156 rfl (fun hc => ?_) (fun hc => ?_)
      · replace h := (if_neg hc).symm.trans h
        refine v_iload_n C (q := 1) rfl rfl dX12_fewestLateBySets_163 ?_
        cases h
        exact v_subp [0, 2] rfl Jt17
      · replace h := (if_pos hc).symm.trans h
        refine v_iload_n C (q := 2) rfl rfl dX12_fewestLateBySets_159 ?_
        refine v_goto C (tgt := 164) dX12_fewestLateBySets_160 rfl ?_
        cases h
        exact v_subp [0, 2] rfl Jt17
set_option maxHeartbeats 4000000 in
set_option maxRecDepth 100000 in
theorem k_X12_fewestLateBySets {G : omG}  (σ : omH) (t : Int × omH) (h : s_X12_fewestLateBySets  σ = some t) : omM G yX12_fewestLateBySets (.code yX12_fewestLateBySets cX12_fewestLateBySets 5 (some .int)) 3 0 [.ref (G.1 43)] σ (.inr (some (.int (omi t.1)))) t.2 := by
  unfold s_X12_fewestLateBySets at h
  refine om_head (own := RX12) (ls := [(0, .ref (G.1 43))]) (by decide +kernel) rfl (by simp [lg_sl, Value.category]) rfl (by simp [Value.category]) (fun x C F => ?_)
  refine v_aload_n C (q := 0) rfl rfl dX12_fewestLateBySets_0 ?_
  refine v_iconst C (n := 0) dX12_fewestLateBySets_1 ?_
  refine v_puti C (q := 27) (o := 43) fp_X12_59 rfl rfl dX12_fewestLateBySets_2 ?_
  refine v_aload_n C (q := 0) rfl rfl dX12_fewestLateBySets_5 ?_
  refine v_iconst C (n := 1) dX12_fewestLateBySets_6 ?_
  obtain ⟨r1, er1, h⟩ := om_bind h
  refine v_invV_v (As := [.int (omi 1)]) C mi_X12_laysOrder ml_X12_141 (k_X12_laysOrder 1 (omsu σ 43 0 0) _ er1) (q := 27) rfl rfl rfl (by decide) (Nat.zero_le _) rfl (Nat.le_of_ble_eq_true rfl) dX12_fewestLateBySets_7 ?_
  refine v_iconst C (n := 0) dX12_fewestLateBySets_10 ?_
  refine v_istore_n C (ls' := [(0, .ref (G.1 43)), (1, .int (omi 0))]) rfl (by decide) rfl dX12_fewestLateBySets_11 ?_
  obtain ⟨t4, et4, h⟩ := om_bind h
  refine kl_X12_fewestLateBySets_12 C  FU _ _ t4 et4 ?_
  refine v_iconst C (n := 0) dX12_fewestLateBySets_42 ?_
  refine v_istore_n C (ls' := [(0, .ref (G.1 43)), (1, .int (omi 0))]) rfl (by decide) rfl dX12_fewestLateBySets_43 ?_
  obtain ⟨t15, et15, h⟩ := om_bind h
  refine kl_X12_fewestLateBySets_44 C  FU _ _ t15 et15 ?_
  refine v_iconst C (n := 0) dX12_fewestLateBySets_136 ?_
  refine v_istore_n C (ls' := [(0, .ref (G.1 43)), (1, .int (omi 0))]) rfl (by decide) rfl dX12_fewestLateBySets_137 ?_
  refine v_iconst C (n := 0) dX12_fewestLateBySets_138 ?_
  refine v_istore_n C (ls' := [(0, .ref (G.1 43)), (1, .int (omi 0)), (2, .int (omi 0))]) rfl (by decide) rfl dX12_fewestLateBySets_139 ?_
  obtain ⟨t18, et18, h⟩ := om_bind h
  refine kl_X12_fewestLateBySets_140 C  t15 FU _ _ t18 et18 ?_
  refine v_aload_n C (q := 0) rfl rfl dX12_fewestLateBySets_171 ?_
  refine v_geti C (q := 27) (o := 43) fi_X12_63 rfl rfl dX12_fewestLateBySets_172 ?_
  refine v_iload_n C (q := 1) rfl rfl dX12_fewestLateBySets_175 ?_
  refine v_isub C dX12_fewestLateBySets_176 ?_
  cases h
  exact v_iret C F dX12_fewestLateBySets_177 (Nat.zero_le _)
set_option maxHeartbeats 4000000 in
set_option maxRecDepth 100000 in
theorem k_X12_releaseOf {G : omG} (v1 : Int) (v2 : Int) (σ : omH) (t : Int) (h : s_X12_releaseOf v1 v2 σ = some t) : omM G yX12_releaseOf (.code yX12_releaseOf cX12_releaseOf 3 (some .int)) 1 0 [.ref (G.1 43), .int (omi v1), .int (omi v2)] σ (.inr (some (.int (omi t)))) σ := by
  unfold s_X12_releaseOf at h
  refine om_head (own := RX12) (ls := [(0, .ref (G.1 43)), (1, .int (omi v1)), (2, .int (omi v2))]) (by decide +kernel) rfl (by simp [lg_sl, Value.category]) rfl (by simp [Value.category]) (fun x C F => ?_)
  refine v_iload_n C (q := 2) rfl rfl dX12_releaseOf_0 ?_
  refine v_if_eq C (tgt := 13) dX12_releaseOf_1 rfl (fun hc => ?_) (fun hc => ?_)
  · replace h := (if_pos hc).symm.trans h
    refine v_iconst C (n := 0) dX12_releaseOf_13 ?_
    cases h
    exact v_iret C F dX12_releaseOf_14 (Nat.zero_le _)
  · replace h := (if_neg hc).symm.trans h
    refine v_aload_n C (q := 0) rfl rfl dX12_releaseOf_4 ?_
    refine v_getr C (q := 27) (o := 43) (r := 47) fi_X12_19 rfl rfl rfl dX12_releaseOf_5 ?_
    refine v_iload_n C (q := 1) rfl rfl dX12_releaseOf_8 ?_
    obtain ⟨g1, h⟩ := omg_some h
    refine v_iald C (q := 31) (o := 47) (n := 10) rfl g1 dX12_releaseOf_9 ?_
    refine v_goto C (tgt := 14) dX12_releaseOf_10 rfl ?_
    cases h
    exact v_iret C F dX12_releaseOf_14 (Nat.zero_le _)
set_option maxHeartbeats 4000000 in
set_option maxRecDepth 100000 in
theorem kl_X12_bound_6 {G : omG} {x : omX} (C : omC G x RX12 cX12_bound 7 (2) 0) (v1 : Int) (v2 : Int) (v3 : Int) (σ : omH) : ∀ (n : Nat) (v4 : Int) (v5 : Int) (t : Int), l_X12_bound_6 v1 v2 v3 σ n v4 v5 = some t → omV G x 7 81 [(0, .ref (G.1 43)), (1, .int (omi v1)), (2, .int (omi v2)), (3, .int (omi v3)), (4, .int (omi t))] [] σ 0 → omV G x 7 6 [(0, .ref (G.1 43)), (1, .int (omi v1)), (2, .int (omi v2)), (3, .int (omi v3)), (4, .int (omi v4)), (5, .int (omi v5))] [] σ 0 := by
  intro n
  induction n with
  | zero => intro v4 v5 t h K; cases h
  | succ n ih =>
    intro v4 v5 t h K
    rw [l_X12_bound_6.eq_2] at h
    refine v_iload C (q := 5) rfl dX12_bound_6 ?_
    refine v_aload_n C (q := 0) rfl rfl dX12_bound_8 ?_
    refine v_geti C (q := 27) (o := 43) fi_X12_63 rfl rfl dX12_bound_9 ?_
    refine v_icmp_ge C (tgt := 81) dX12_bound_12 rfl (fun hc => ?_) (fun hc => ?_)
    · replace h := (if_neg hc).symm.trans h
      cases h
      exact v_subp [0, 1, 2, 3, 4] rfl K
    · replace h := (if_pos hc).symm.trans h
      refine v_aload_n C (q := 0) rfl rfl dX12_bound_15 ?_
      refine v_iload C (q := 5) rfl dX12_bound_16 ?_
      refine v_iload_n C (q := 3) rfl rfl dX12_bound_18 ?_
      obtain ⟨r1, er1, h⟩ := om_bind h
      refine v_invV_i (As := [.int (omi v5), .int (omi v3)]) C mi_X12_releaseOf ml_X12_185 (k_X12_releaseOf v5 v3 σ _ er1) (q := 27) rfl rfl rfl (by decide) (Nat.zero_le _) rfl (Nat.le_of_ble_eq_true rfl) dX12_bound_19 ?_
      refine v_aload_n C (q := 0) rfl rfl dX12_bound_22 ?_
      refine v_iload_n C (q := 1) rfl rfl dX12_bound_23 ?_
      refine v_iload_n C (q := 3) rfl rfl dX12_bound_24 ?_
      obtain ⟨r2, er2, h⟩ := om_bind h
      refine v_invV_i (As := [.int (omi v1), .int (omi v3)]) C mi_X12_releaseOf ml_X12_185 (k_X12_releaseOf v1 v3 σ _ er2) (q := 27) rfl rfl rfl (by decide) (Nat.zero_le _) rfl (Nat.le_of_ble_eq_true rfl) dX12_bound_25 ?_
      obtain ⟨t3, et3, h⟩ := om_bind h
      have Jt3 : omV G x 7 52 [(0, .ref (G.1 43)), (1, .int (omi v1)), (2, .int (omi v2)), (3, .int (omi v3)), (4, .int (omi v4)), (5, .int (omi v5))] [.int (omi t3)] σ 0 := by
        refine v_istore C (ls' := [(0, .ref (G.1 43)), (1, .int (omi v1)), (2, .int (omi v2)), (3, .int (omi v3)), (4, .int (omi v4)), (5, .int (omi v5)), (6, .int (omi t3))]) (by decide) rfl dX12_bound_52 ?_
        refine v_iload C (q := 4) rfl dX12_bound_54 ?_
        refine v_iload C (q := 6) rfl dX12_bound_56 ?_
        obtain ⟨t4, et4, h⟩ := om_bind h
        have Jt4 : omV G x 7 72 [(0, .ref (G.1 43)), (1, .int (omi v1)), (2, .int (omi v2)), (3, .int (omi v3)), (5, .int (omi v5))] [.int (omi t4), .int (omi v4)] σ 0 := by
          refine v_iadd C dX12_bound_72 ?_
          refine v_istore C (ls' := [(0, .ref (G.1 43)), (1, .int (omi v1)), (2, .int (omi v2)), (3, .int (omi v3)), (5, .int (omi v5)), (4, .int (omi (v4 + t4)))]) (by decide) rfl dX12_bound_73 ?_
          refine v_iinc C (q := 4) (ls' := [(0, .ref (G.1 43)), (1, .int (omi v1)), (2, .int (omi v2)), (3, .int (omi v3)), (5, .int (omi (v5 + 1))), (4, .int (omi (v4 + t4)))]) rfl (by decide) rfl rfl dX12_bound_75 ?_
          refine v_goto C (tgt := 6) dX12_bound_78 rfl ?_
          exact v_subp [0, 1, 2, 3, 5, 4] rfl (ih _ _ _ h K)
        clear h
        have h := et4
        clear et4
        refine v_if_eq C (tgt := 71) dX12_bound_58 rfl (fun hc => ?_) (fun hc => ?_)
        · replace h := (if_pos hc).symm.trans h
          refine v_iconst C (n := 0) dX12_bound_71 ?_
          cases h
          exact v_subp [0, 1, 2, 3, 5] rfl Jt4
        · replace h := (if_neg hc).symm.trans h
          refine v_aload_n C (q := 0) rfl rfl dX12_bound_61 ?_
          refine v_getr C (q := 27) (o := 43) (r := 44) fi_X12_7 rfl rfl rfl dX12_bound_62 ?_
          refine v_iload C (q := 5) rfl dX12_bound_65 ?_
          obtain ⟨g5, h⟩ := omg_some h
          refine v_iald C (q := 28) (o := 44) (n := 10) rfl g5 dX12_bound_67 ?_
          refine v_goto C (tgt := 72) dX12_bound_68 rfl ?_
          cases h
          exact v_subp [0, 1, 2, 3, 5] rfl Jt4
      clear h
      have h := et3
      clear et3
      refine v_icmp_lt C (tgt := 51) dX12_bound_28 rfl (fun hc => ?_) (fun hc => ?_)
      · replace h := (if_pos hc).symm.trans h
        refine v_iconst C (n := 0) dX12_bound_51 ?_
        cases h
        exact Jt3
      · replace h := (if_neg hc).symm.trans h
        refine v_aload_n C (q := 0) rfl rfl dX12_bound_31 ?_
        refine v_getr C (q := 27) (o := 43) (r := 45) fi_X12_13 rfl rfl rfl dX12_bound_32 ?_
        refine v_iload C (q := 5) rfl dX12_bound_35 ?_
        obtain ⟨g6, h⟩ := omg_some h
        refine v_iald C (q := 29) (o := 45) (n := 10) rfl g6 dX12_bound_37 ?_
        refine v_aload_n C (q := 0) rfl rfl dX12_bound_38 ?_
        refine v_getr C (q := 27) (o := 43) (r := 45) fi_X12_13 rfl rfl rfl dX12_bound_39 ?_
        refine v_iload_n C (q := 2) rfl rfl dX12_bound_42 ?_
        obtain ⟨g7, h⟩ := omg_some h
        refine v_iald C (q := 29) (o := 45) (n := 10) rfl g7 dX12_bound_43 ?_
        refine v_icmp_gt C (tgt := 51) dX12_bound_44 rfl (fun hc => ?_) (fun hc => ?_)
        · replace h := (if_pos hc).symm.trans h
          refine v_iconst C (n := 0) dX12_bound_51 ?_
          cases h
          exact Jt3
        · replace h := (if_neg hc).symm.trans h
          refine v_iconst C (n := 1) dX12_bound_47 ?_
          refine v_goto C (tgt := 52) dX12_bound_48 rfl ?_
          cases h
          exact Jt3
set_option maxHeartbeats 4000000 in
set_option maxRecDepth 100000 in
theorem k_X12_bound {G : omG} (v1 : Int) (v2 : Int) (v3 : Int) (σ : omH) (t : Int) (h : s_X12_bound v1 v2 v3 σ = some t) : omM G yX12_bound (.code yX12_bound cX12_bound 7 (some .int)) 2 0 [.ref (G.1 43), .int (omi v1), .int (omi v2), .int (omi v3)] σ (.inr (some (.int (omi t)))) σ := by
  unfold s_X12_bound at h
  refine om_head (own := RX12) (ls := [(0, .ref (G.1 43)), (1, .int (omi v1)), (2, .int (omi v2)), (3, .int (omi v3))]) (by decide +kernel) rfl (by simp [lg_sl, Value.category]) rfl (by simp [Value.category]) (fun x C F => ?_)
  refine v_iconst C (n := 0) dX12_bound_0 ?_
  refine v_istore C (ls' := [(0, .ref (G.1 43)), (1, .int (omi v1)), (2, .int (omi v2)), (3, .int (omi v3)), (4, .int (omi 0))]) (by decide) rfl dX12_bound_1 ?_
  refine v_iconst C (n := 0) dX12_bound_3 ?_
  refine v_istore C (ls' := [(0, .ref (G.1 43)), (1, .int (omi v1)), (2, .int (omi v2)), (3, .int (omi v3)), (4, .int (omi 0)), (5, .int (omi 0))]) (by decide) rfl dX12_bound_4 ?_
  obtain ⟨t8, et8, h⟩ := om_bind h
  refine kl_X12_bound_6 C v1 v2 v3 σ FU _ _ t8 et8 ?_
  refine v_iload C (q := 4) rfl dX12_bound_81 ?_
  refine v_if_ne C (tgt := 91) dX12_bound_83 rfl (fun hc => ?_) (fun hc => ?_)
  · replace h := (if_neg hc).symm.trans h
    refine v_aload_n C (q := 0) rfl rfl dX12_bound_91 ?_
    refine v_iload_n C (q := 1) rfl rfl dX12_bound_92 ?_
    refine v_iload_n C (q := 3) rfl rfl dX12_bound_93 ?_
    obtain ⟨r9, er9, h⟩ := om_bind h
    refine v_invV_i (As := [.int (omi v1), .int (omi v3)]) C mi_X12_releaseOf ml_X12_185 (k_X12_releaseOf v1 v3 σ _ er9) (q := 27) rfl rfl rfl (by decide) (Nat.zero_le _) rfl (Nat.le_of_ble_eq_true rfl) dX12_bound_94 ?_
    refine v_iload C (q := 4) rfl dX12_bound_97 ?_
    refine v_iadd C dX12_bound_99 ?_
    refine v_aload_n C (q := 0) rfl rfl dX12_bound_100 ?_
    refine v_getr C (q := 27) (o := 43) (r := 45) fi_X12_13 rfl rfl rfl dX12_bound_101 ?_
    refine v_iload_n C (q := 2) rfl rfl dX12_bound_104 ?_
    obtain ⟨g10, h⟩ := omg_some h
    refine v_iald C (q := 29) (o := 45) (n := 10) rfl g10 dX12_bound_105 ?_
    refine v_isub C dX12_bound_106 ?_
    cases h
    exact v_iret C F dX12_bound_107 (Nat.zero_le _)
  · replace h := (if_pos hc).symm.trans h
    refine v_ldc C kc_X12_111 dX12_bound_86 ?_
    refine v_goto C (tgt := 107) dX12_bound_88 rfl ?_
    cases h
    exact v_iret C F dX12_bound_107 (Nat.zero_le _)
set_option maxHeartbeats 4000000 in
set_option maxRecDepth 100000 in
theorem kl_X12_windowBound_14 {G : omG} {x : omX} (C : omC G x RX12 cX12_windowBound 5 (3) 0) (v1 : Int) (σ : omH) : ∀ (n : Nat) (v2 : Int) (v3 : Int) (t : Int), l_X12_windowBound_14 v1 σ n v2 v3 = some t → omV G x 5 65 [(2, .int (omi t))] [] σ 0 → omV G x 5 14 [(0, .ref (G.1 43)), (1, .int (omi v1)), (2, .int (omi v2)), (3, .int (omi v3))] [] σ 0 := by
  intro n
  induction n with
  | zero => intro v2 v3 t h K; cases h
  | succ n ih =>
    intro v2 v3 t h K
    rw [l_X12_windowBound_14.eq_2] at h
    refine v_iload_n C (q := 3) rfl rfl dX12_windowBound_14 ?_
    refine v_aload_n C (q := 0) rfl rfl dX12_windowBound_15 ?_
    refine v_geti C (q := 27) (o := 43) fi_X12_63 rfl rfl dX12_windowBound_16 ?_
    refine v_aload_n C (q := 0) rfl rfl dX12_windowBound_19 ?_
    refine v_geti C (q := 27) (o := 43) fi_X12_63 rfl rfl dX12_windowBound_20 ?_
    refine v_imul C dX12_windowBound_23 ?_
    refine v_icmp_ge C (tgt := 65) dX12_windowBound_24 rfl (fun hc => ?_) (fun hc => ?_)
    · replace h := (if_neg hc).symm.trans h
      cases h
      exact v_subp [2] rfl K
    · replace h := (if_pos hc).symm.trans h
      refine v_aload_n C (q := 0) rfl rfl dX12_windowBound_27 ?_
      refine v_iload_n C (q := 3) rfl rfl dX12_windowBound_28 ?_
      refine v_aload_n C (q := 0) rfl rfl dX12_windowBound_29 ?_
      refine v_geti C (q := 27) (o := 43) fi_X12_63 rfl rfl dX12_windowBound_30 ?_
      obtain ⟨g2, h⟩ := omg_some h
      refine v_idiv C g2 dX12_windowBound_33 ?_
      refine v_iload_n C (q := 3) rfl rfl dX12_windowBound_34 ?_
      refine v_aload_n C (q := 0) rfl rfl dX12_windowBound_35 ?_
      refine v_geti C (q := 27) (o := 43) fi_X12_63 rfl rfl dX12_windowBound_36 ?_
      obtain ⟨g3, h⟩ := omg_some h
      refine v_irem C g3 dX12_windowBound_39 ?_
      refine v_iload_n C (q := 1) rfl rfl dX12_windowBound_40 ?_
      obtain ⟨r4, er4, h⟩ := om_bind h
      refine v_invV_i (As := [.int (omi ((omw v3).tdiv (omw (σ 43 1)))), .int (omi ((omw v3).tmod (omw (σ 43 1)))), .int (omi v1)]) C mi_X12_bound ml_X12_188 (k_X12_bound ((omw v3).tdiv (omw (σ 43 1))) ((omw v3).tmod (omw (σ 43 1))) v1 σ _ er4) (q := 27) rfl rfl rfl (by decide) (Nat.zero_le _) rfl (Nat.le_of_ble_eq_true rfl) dX12_windowBound_41 ?_
      refine v_istore C (ls' := [(0, .ref (G.1 43)), (1, .int (omi v1)), (2, .int (omi v2)), (3, .int (omi v3)), (4, .int (omi r4))]) (by decide) rfl dX12_windowBound_44 ?_
      refine v_iload C (q := 4) rfl dX12_windowBound_46 ?_
      refine v_iload_n C (q := 2) rfl rfl dX12_windowBound_48 ?_
      obtain ⟨t5, et5, h⟩ := om_bind h
      have Jt5 : omV G x 5 58 [(0, .ref (G.1 43)), (1, .int (omi v1)), (3, .int (omi v3))] [.int (omi t5)] σ 0 := by
        refine v_istore_n C (ls' := [(0, .ref (G.1 43)), (1, .int (omi v1)), (3, .int (omi v3)), (2, .int (omi t5))]) rfl (by decide) rfl dX12_windowBound_58 ?_
        refine v_iinc C (q := 2) (ls' := [(0, .ref (G.1 43)), (1, .int (omi v1)), (3, .int (omi (v3 + 1))), (2, .int (omi t5))]) rfl (by decide) rfl rfl dX12_windowBound_59 ?_
        refine v_goto C (tgt := 14) dX12_windowBound_62 rfl ?_
        exact v_subp [0, 1, 3, 2] rfl (ih _ _ _ h K)
      clear h
      have h := et5
      clear et5
      refine v_icmp_le C (tgt := 57) dX12_windowBound_49 rfl (fun hc => ?_) (fun hc => ?_)
      · replace h := (if_neg hc).symm.trans h
        refine v_iload_n C (q := 2) rfl rfl dX12_windowBound_57 ?_
        cases h
        exact v_subp [0, 1, 3] rfl Jt5
      · replace h := (if_pos hc).symm.trans h
        refine v_iload C (q := 4) rfl dX12_windowBound_52 ?_
        refine v_goto C (tgt := 58) dX12_windowBound_54 rfl ?_
        cases h
        exact v_subp [0, 1, 3] rfl Jt5
set_option maxHeartbeats 4000000 in
set_option maxRecDepth 100000 in
theorem k_X12_windowBound {G : omG} (v1 : Int) (σ : omH) (t : Int × omH) (h : s_X12_windowBound v1 σ = some t) : omM G yX12_windowBound (.code yX12_windowBound cX12_windowBound 5 (some .int)) 3 0 [.ref (G.1 43), .int (omi v1)] σ (.inr (some (.int (omi t.1)))) t.2 := by
  unfold s_X12_windowBound at h
  refine om_head (own := RX12) (ls := [(0, .ref (G.1 43)), (1, .int (omi v1))]) (by decide +kernel) rfl (by simp [lg_sl, Value.category]) rfl (by simp [Value.category]) (fun x C F => ?_)
  refine v_aload_n C (q := 0) rfl rfl dX12_windowBound_0 ?_
  obtain ⟨r1, er1, h⟩ := om_bind h
  refine v_invV_i (As := []) C mi_X12_hasJobs ml_X12_137 (k_X12_hasJobs  σ _ er1) (q := 27) rfl rfl rfl (by decide) (Nat.zero_le _) rfl (Nat.le_of_ble_eq_true rfl) dX12_windowBound_1 ?_
  refine v_if_ne C (tgt := 9) dX12_windowBound_4 rfl (fun hc => ?_) (fun hc => ?_)
  · replace h := (if_neg hc).symm.trans h
    refine v_ldc C kc_X12_111 dX12_windowBound_9 ?_
    refine v_istore_n C (ls' := [(0, .ref (G.1 43)), (1, .int (omi v1)), (2, .int (omi (-1000000)))]) rfl (by decide) rfl dX12_windowBound_11 ?_
    refine v_iconst C (n := 0) dX12_windowBound_12 ?_
    refine v_istore_n C (ls' := [(0, .ref (G.1 43)), (1, .int (omi v1)), (2, .int (omi (-1000000))), (3, .int (omi 0))]) rfl (by decide) rfl dX12_windowBound_13 ?_
    obtain ⟨t6, et6, h⟩ := om_bind h
    refine kl_X12_windowBound_14 C v1 r1.2 FU _ _ t6 et6 ?_
    refine v_iload_n C (q := 0) rfl rfl dX12_windowBound_65 ?_
    cases h
    exact v_iret C F dX12_windowBound_66 (Nat.zero_le _)
  · replace h := (if_pos hc).symm.trans h
    refine v_iconst C (n := 0) dX12_windowBound_7 ?_
    cases h
    exact v_iret C F dX12_windowBound_8 (Nat.zero_le _)
set_option maxHeartbeats 4000000 in
set_option maxRecDepth 100000 in
theorem kl_X12_windowJob_4 {G : omG} {x : omX} (C : omC G x RX12 cX12_windowJob 9 (3) 0) (v1 : Int) (σ : omH) : ∀ (n : Nat) (v2 : Int) (v3 : Int) (t : Int), l_X12_windowJob_4 v1 σ n v2 v3 = some t → omV G x 9 158 [(0, .ref (G.1 43)), (1, .int (omi v1)), (2, .int (omi t))] [] σ 0 → omV G x 9 4 [(0, .ref (G.1 43)), (1, .int (omi v1)), (2, .int (omi v2)), (3, .int (omi v3))] [] σ 0 := by
  intro n
  induction n with
  | zero => intro v2 v3 t h K; cases h
  | succ n ih =>
    intro v2 v3 t h K
    rw [l_X12_windowJob_4.eq_2] at h
    refine v_iload_n C (q := 3) rfl rfl dX12_windowJob_4 ?_
    refine v_aload_n C (q := 0) rfl rfl dX12_windowJob_5 ?_
    refine v_geti C (q := 27) (o := 43) fi_X12_63 rfl rfl dX12_windowJob_6 ?_
    refine v_aload_n C (q := 0) rfl rfl dX12_windowJob_9 ?_
    refine v_geti C (q := 27) (o := 43) fi_X12_63 rfl rfl dX12_windowJob_10 ?_
    refine v_imul C dX12_windowJob_13 ?_
    refine v_icmp_ge C (tgt := 158) dX12_windowJob_14 rfl (fun hc => ?_) (fun hc => ?_)
    · replace h := (if_neg hc).symm.trans h
      cases h
      exact v_subp [0, 1, 2] rfl K
    · replace h := (if_pos hc).symm.trans h
      refine v_aload_n C (q := 0) rfl rfl dX12_windowJob_17 ?_
      refine v_iload_n C (q := 3) rfl rfl dX12_windowJob_18 ?_
      refine v_aload_n C (q := 0) rfl rfl dX12_windowJob_19 ?_
      refine v_geti C (q := 27) (o := 43) fi_X12_63 rfl rfl dX12_windowJob_20 ?_
      obtain ⟨g1, h⟩ := omg_some h
      refine v_idiv C g1 dX12_windowJob_23 ?_
      refine v_iload_n C (q := 3) rfl rfl dX12_windowJob_24 ?_
      refine v_aload_n C (q := 0) rfl rfl dX12_windowJob_25 ?_
      refine v_geti C (q := 27) (o := 43) fi_X12_63 rfl rfl dX12_windowJob_26 ?_
      obtain ⟨g2, h⟩ := omg_some h
      refine v_irem C g2 dX12_windowJob_29 ?_
      refine v_iconst C (n := 1) dX12_windowJob_30 ?_
      obtain ⟨r3, er3, h⟩ := om_bind h
      refine v_invV_i (As := [.int (omi ((omw v3).tdiv (omw (σ 43 1)))), .int (omi ((omw v3).tmod (omw (σ 43 1)))), .int (omi 1)]) C mi_X12_bound ml_X12_188 (k_X12_bound ((omw v3).tdiv (omw (σ 43 1))) ((omw v3).tmod (omw (σ 43 1))) 1 σ _ er3) (q := 27) rfl rfl rfl (by decide) (Nat.zero_le _) rfl (Nat.le_of_ble_eq_true rfl) dX12_windowJob_31 ?_
      refine v_istore C (ls' := [(0, .ref (G.1 43)), (1, .int (omi v1)), (2, .int (omi v2)), (3, .int (omi v3)), (4, .int (omi r3))]) (by decide) rfl dX12_windowJob_34 ?_
      refine v_aload_n C (q := 0) rfl rfl dX12_windowJob_36 ?_
      refine v_iload_n C (q := 2) rfl rfl dX12_windowJob_37 ?_
      refine v_aload_n C (q := 0) rfl rfl dX12_windowJob_38 ?_
      refine v_geti C (q := 27) (o := 43) fi_X12_63 rfl rfl dX12_windowJob_39 ?_
      obtain ⟨g4, h⟩ := omg_some h
      refine v_idiv C g4 dX12_windowJob_42 ?_
      refine v_iload_n C (q := 2) rfl rfl dX12_windowJob_43 ?_
      refine v_aload_n C (q := 0) rfl rfl dX12_windowJob_44 ?_
      refine v_geti C (q := 27) (o := 43) fi_X12_63 rfl rfl dX12_windowJob_45 ?_
      obtain ⟨g5, h⟩ := omg_some h
      refine v_irem C g5 dX12_windowJob_48 ?_
      refine v_iconst C (n := 1) dX12_windowJob_49 ?_
      obtain ⟨r6, er6, h⟩ := om_bind h
      refine v_invV_i (As := [.int (omi ((omw v2).tdiv (omw (σ 43 1)))), .int (omi ((omw v2).tmod (omw (σ 43 1)))), .int (omi 1)]) C mi_X12_bound ml_X12_188 (k_X12_bound ((omw v2).tdiv (omw (σ 43 1))) ((omw v2).tmod (omw (σ 43 1))) 1 σ _ er6) (q := 27) rfl rfl rfl (by decide) (Nat.zero_le _) rfl (Nat.le_of_ble_eq_true rfl) dX12_windowJob_50 ?_
      refine v_istore C (ls' := [(0, .ref (G.1 43)), (1, .int (omi v1)), (2, .int (omi v2)), (3, .int (omi v3)), (4, .int (omi r3)), (5, .int (omi r6))]) (by decide) rfl dX12_windowJob_53 ?_
      refine v_aload_n C (q := 0) rfl rfl dX12_windowJob_55 ?_
      refine v_getr C (q := 27) (o := 43) (r := 45) fi_X12_13 rfl rfl rfl dX12_windowJob_56 ?_
      refine v_iload_n C (q := 3) rfl rfl dX12_windowJob_59 ?_
      refine v_aload_n C (q := 0) rfl rfl dX12_windowJob_60 ?_
      refine v_geti C (q := 27) (o := 43) fi_X12_63 rfl rfl dX12_windowJob_61 ?_
      obtain ⟨g7, h⟩ := omg_some h
      refine v_irem C g7 dX12_windowJob_64 ?_
      obtain ⟨g8, h⟩ := omg_some h
      refine v_iald C (q := 29) (o := 45) (n := 10) rfl g8 dX12_windowJob_65 ?_
      refine v_aload_n C (q := 0) rfl rfl dX12_windowJob_66 ?_
      refine v_getr C (q := 27) (o := 43) (r := 45) fi_X12_13 rfl rfl rfl dX12_windowJob_67 ?_
      refine v_iload_n C (q := 2) rfl rfl dX12_windowJob_70 ?_
      refine v_aload_n C (q := 0) rfl rfl dX12_windowJob_71 ?_
      refine v_geti C (q := 27) (o := 43) fi_X12_63 rfl rfl dX12_windowJob_72 ?_
      obtain ⟨g9, h⟩ := omg_some h
      refine v_irem C g9 dX12_windowJob_75 ?_
      obtain ⟨g10, h⟩ := omg_some h
      refine v_iald C (q := 29) (o := 45) (n := 10) rfl g10 dX12_windowJob_76 ?_
      refine v_isub C dX12_windowJob_77 ?_
      refine v_istore C (ls' := [(0, .ref (G.1 43)), (1, .int (omi v1)), (2, .int (omi v2)), (3, .int (omi v3)), (4, .int (omi r3)), (5, .int (omi r6)), (6, .int (omi ((σ 45 (omw ((omw v3).tmod (omw (σ 43 1)))).toNat) - (σ 45 (omw ((omw v2).tmod (omw (σ 43 1)))).toNat))))]) (by decide) rfl dX12_windowJob_78 ?_
      refine v_aload_n C (q := 0) rfl rfl dX12_windowJob_80 ?_
      refine v_getr C (q := 27) (o := 43) (r := 47) fi_X12_19 rfl rfl rfl dX12_windowJob_81 ?_
      refine v_iload_n C (q := 3) rfl rfl dX12_windowJob_84 ?_
      refine v_aload_n C (q := 0) rfl rfl dX12_windowJob_85 ?_
      refine v_geti C (q := 27) (o := 43) fi_X12_63 rfl rfl dX12_windowJob_86 ?_
      obtain ⟨g11, h⟩ := omg_some h
      refine v_idiv C g11 dX12_windowJob_89 ?_
      obtain ⟨g12, h⟩ := omg_some h
      refine v_iald C (q := 31) (o := 47) (n := 10) rfl g12 dX12_windowJob_90 ?_
      refine v_aload_n C (q := 0) rfl rfl dX12_windowJob_91 ?_
      refine v_getr C (q := 27) (o := 43) (r := 47) fi_X12_19 rfl rfl rfl dX12_windowJob_92 ?_
      refine v_iload_n C (q := 2) rfl rfl dX12_windowJob_95 ?_
      refine v_aload_n C (q := 0) rfl rfl dX12_windowJob_96 ?_
      refine v_geti C (q := 27) (o := 43) fi_X12_63 rfl rfl dX12_windowJob_97 ?_
      obtain ⟨g13, h⟩ := omg_some h
      refine v_idiv C g13 dX12_windowJob_100 ?_
      obtain ⟨g14, h⟩ := omg_some h
      refine v_iald C (q := 31) (o := 47) (n := 10) rfl g14 dX12_windowJob_101 ?_
      refine v_isub C dX12_windowJob_102 ?_
      refine v_istore C (ls' := [(0, .ref (G.1 43)), (1, .int (omi v1)), (2, .int (omi v2)), (3, .int (omi v3)), (4, .int (omi r3)), (5, .int (omi r6)), (6, .int (omi ((σ 45 (omw ((omw v3).tmod (omw (σ 43 1)))).toNat) - (σ 45 (omw ((omw v2).tmod (omw (σ 43 1)))).toNat)))), (7, .int (omi ((σ 47 (omw ((omw v3).tdiv (omw (σ 43 1)))).toNat) - (σ 47 (omw ((omw v2).tdiv (omw (σ 43 1)))).toNat))))]) (by decide) rfl dX12_windowJob_103 ?_
      refine v_iload C (q := 4) rfl dX12_windowJob_105 ?_
      refine v_iload C (q := 5) rfl dX12_windowJob_107 ?_
      obtain ⟨t15, et15, h⟩ := om_bind h
      have Jt15 : omV G x 9 139 [(0, .ref (G.1 43)), (1, .int (omi v1)), (2, .int (omi v2)), (3, .int (omi v3))] [.int (omi t15)] σ 0 := by
        refine v_istore C (ls' := [(0, .ref (G.1 43)), (1, .int (omi v1)), (2, .int (omi v2)), (3, .int (omi v3)), (8, .int (omi t15))]) (by decide) rfl dX12_windowJob_139 ?_
        refine v_iload C (q := 4) rfl dX12_windowJob_141 ?_
        obtain ⟨t16, et16, h⟩ := om_bind h
        have Jt16 : omV G x 9 151 [(0, .ref (G.1 43)), (1, .int (omi v1)), (3, .int (omi v3))] [.int (omi t16)] σ 0 := by
          refine v_istore_n C (ls' := [(0, .ref (G.1 43)), (1, .int (omi v1)), (3, .int (omi v3)), (2, .int (omi t16))]) rfl (by decide) rfl dX12_windowJob_151 ?_
          refine v_iinc C (q := 2) (ls' := [(0, .ref (G.1 43)), (1, .int (omi v1)), (3, .int (omi (v3 + 1))), (2, .int (omi t16))]) rfl (by decide) rfl rfl dX12_windowJob_152 ?_
          refine v_goto C (tgt := 4) dX12_windowJob_155 rfl ?_
          exact v_subp [0, 1, 3, 2] rfl (ih _ _ _ h K)
        clear h
        have h := et16
        clear et16
        refine v_if_eq C (tgt := 150) dX12_windowJob_143 rfl (fun hc => ?_) (fun hc => ?_)
        · replace h := (if_pos hc).symm.trans h
          refine v_iload_n C (q := 2) rfl rfl dX12_windowJob_150 ?_
          cases h
          exact v_subp [0, 1, 3] rfl Jt16
        · replace h := (if_neg hc).symm.trans h
          refine v_iload_n C (q := 3) rfl rfl dX12_windowJob_146 ?_
          refine v_goto C (tgt := 151) dX12_windowJob_147 rfl ?_
          cases h
          exact v_subp [0, 1, 3] rfl Jt16
      clear h
      have h := et15
      clear et15
      refine v_icmp_gt C (tgt := 134) dX12_windowJob_109 rfl (fun hc => ?_) (fun hc => ?_)
      · replace h := (if_pos hc).symm.trans h
        refine v_iconst C (n := 1) dX12_windowJob_134 ?_
        refine v_goto C (tgt := 139) dX12_windowJob_135 rfl ?_
        cases h
        exact v_subp [0, 1, 2, 3] rfl Jt15
      · replace h := (if_neg hc).symm.trans h
        refine v_iload C (q := 4) rfl dX12_windowJob_112 ?_
        refine v_iload C (q := 5) rfl dX12_windowJob_114 ?_
        refine v_icmp_ne C (tgt := 138) dX12_windowJob_116 rfl (fun hc => ?_) (fun hc => ?_)
        · replace h := (if_neg hc).symm.trans h
          refine v_iconst C (n := 0) dX12_windowJob_138 ?_
          cases h
          exact v_subp [0, 1, 2, 3] rfl Jt15
        · replace h := (if_pos hc).symm.trans h
          refine v_iload C (q := 6) rfl dX12_windowJob_119 ?_
          refine v_if_lt C (tgt := 134) dX12_windowJob_121 rfl (fun hc => ?_) (fun hc => ?_)
          · replace h := (if_pos hc).symm.trans h
            refine v_iconst C (n := 1) dX12_windowJob_134 ?_
            refine v_goto C (tgt := 139) dX12_windowJob_135 rfl ?_
            cases h
            exact v_subp [0, 1, 2, 3] rfl Jt15
          · replace h := (if_neg hc).symm.trans h
            refine v_iload C (q := 6) rfl dX12_windowJob_124 ?_
            refine v_if_ne C (tgt := 138) dX12_windowJob_126 rfl (fun hc => ?_) (fun hc => ?_)
            · replace h := (if_neg hc).symm.trans h
              refine v_iconst C (n := 0) dX12_windowJob_138 ?_
              cases h
              exact v_subp [0, 1, 2, 3] rfl Jt15
            · replace h := (if_pos hc).symm.trans h
              refine v_iload C (q := 7) rfl dX12_windowJob_129 ?_
              refine v_if_ge C (tgt := 138) dX12_windowJob_131 rfl (fun hc => ?_) (fun hc => ?_)
              · replace h := (if_neg hc).symm.trans h
                refine v_iconst C (n := 0) dX12_windowJob_138 ?_
                cases h
                exact v_subp [0, 1, 2, 3] rfl Jt15
              · replace h := (if_pos hc).symm.trans h
                refine v_iconst C (n := 1) dX12_windowJob_134 ?_
                refine v_goto C (tgt := 139) dX12_windowJob_135 rfl ?_
                cases h
                exact v_subp [0, 1, 2, 3] rfl Jt15
set_option maxHeartbeats 4000000 in
set_option maxRecDepth 100000 in
theorem k_X12_windowJob {G : omG} (v1 : Int) (σ : omH) (t : Int) (h : s_X12_windowJob v1 σ = some t) : omM G yX12_windowJob (.code yX12_windowJob cX12_windowJob 9 (some .int)) 3 0 [.ref (G.1 43), .int (omi v1)] σ (.inr (some (.int (omi t)))) σ := by
  unfold s_X12_windowJob at h
  refine om_head (own := RX12) (ls := [(0, .ref (G.1 43)), (1, .int (omi v1))]) (by decide +kernel) rfl (by simp [lg_sl, Value.category]) rfl (by simp [Value.category]) (fun x C F => ?_)
  refine v_iconst C (n := 0) dX12_windowJob_0 ?_
  refine v_istore_n C (ls' := [(0, .ref (G.1 43)), (1, .int (omi v1)), (2, .int (omi 0))]) rfl (by decide) rfl dX12_windowJob_1 ?_
  refine v_iconst C (n := 1) dX12_windowJob_2 ?_
  refine v_istore_n C (ls' := [(0, .ref (G.1 43)), (1, .int (omi v1)), (2, .int (omi 0)), (3, .int (omi 1))]) rfl (by decide) rfl dX12_windowJob_3 ?_
  obtain ⟨t17, et17, h⟩ := om_bind h
  refine kl_X12_windowJob_4 C v1 σ FU _ _ t17 et17 ?_
  refine v_iload_n C (q := 1) rfl rfl dX12_windowJob_158 ?_
  refine v_if_eq C (tgt := 171) dX12_windowJob_159 rfl (fun hc => ?_) (fun hc => ?_)
  · replace h := (if_pos hc).symm.trans h
    refine v_iload_n C (q := 2) rfl rfl dX12_windowJob_171 ?_
    refine v_aload_n C (q := 0) rfl rfl dX12_windowJob_172 ?_
    refine v_geti C (q := 27) (o := 43) fi_X12_63 rfl rfl dX12_windowJob_173 ?_
    obtain ⟨g18, h⟩ := omg_some h
    refine v_idiv C g18 dX12_windowJob_176 ?_
    cases h
    exact v_iret C F dX12_windowJob_177 (Nat.zero_le _)
  · replace h := (if_neg hc).symm.trans h
    refine v_iload_n C (q := 2) rfl rfl dX12_windowJob_162 ?_
    refine v_aload_n C (q := 0) rfl rfl dX12_windowJob_163 ?_
    refine v_geti C (q := 27) (o := 43) fi_X12_63 rfl rfl dX12_windowJob_164 ?_
    obtain ⟨g19, h⟩ := omg_some h
    refine v_irem C g19 dX12_windowJob_167 ?_
    refine v_goto C (tgt := 177) dX12_windowJob_168 rfl ?_
    cases h
    exact v_iret C F dX12_windowJob_177 (Nat.zero_le _)
set_option maxHeartbeats 4000000 in
set_option maxRecDepth 100000 in
theorem k_X12_windowDue {G : omG}  (σ : omH) (t : Int × omH) (h : s_X12_windowDue  σ = some t) : omM G yX12_windowDue (.code yX12_windowDue cX12_windowDue 1 (some .int)) 4 0 [.ref (G.1 43)] σ (.inr (some (.int (omi t.1)))) t.2 := by
  unfold s_X12_windowDue at h
  refine om_head (own := RX12) (ls := [(0, .ref (G.1 43))]) (by decide +kernel) rfl (by simp [lg_sl, Value.category]) rfl (by simp [Value.category]) (fun x C F => ?_)
  refine v_aload_n C (q := 0) rfl rfl dX12_windowDue_0 ?_
  obtain ⟨r1, er1, h⟩ := om_bind h
  refine v_invV_i (As := []) C mi_X12_hasJobs ml_X12_137 (k_X12_hasJobs  σ _ er1) (q := 27) rfl rfl rfl (by decide) (Nat.zero_le _) rfl (Nat.le_of_ble_eq_true rfl) dX12_windowDue_1 ?_
  refine v_if_eq C (tgt := 20) dX12_windowDue_4 rfl (fun hc => ?_) (fun hc => ?_)
  · replace h := (if_pos hc).symm.trans h
    refine v_iconst C (n := 0) dX12_windowDue_20 ?_
    cases h
    exact v_iret C F dX12_windowDue_21 (Nat.zero_le _)
  · replace h := (if_neg hc).symm.trans h
    refine v_aload_n C (q := 0) rfl rfl dX12_windowDue_7 ?_
    refine v_getr C (q := 27) (o := 43) (r := 45) fi_X12_13 rfl rfl rfl dX12_windowDue_8 ?_
    refine v_aload_n C (q := 0) rfl rfl dX12_windowDue_11 ?_
    refine v_iconst C (n := 1) dX12_windowDue_12 ?_
    obtain ⟨r2, er2, h⟩ := om_bind h
    refine v_invV_i (As := [.int (omi 1)]) C mi_X12_windowJob ml_X12_192 (k_X12_windowJob 1 r1.2 _ er2) (q := 27) rfl rfl rfl (by decide) (Nat.zero_le _) rfl (Nat.le_of_ble_eq_true rfl) dX12_windowDue_13 ?_
    obtain ⟨g3, h⟩ := omg_some h
    refine v_iald C (q := 29) (o := 45) (n := 10) rfl g3 dX12_windowDue_16 ?_
    refine v_goto C (tgt := 21) dX12_windowDue_17 rfl ?_
    cases h
    exact v_iret C F dX12_windowDue_21 (Nat.zero_le _)
set_option maxHeartbeats 4000000 in
set_option maxRecDepth 100000 in
theorem k_X12_windowRelease {G : omG}  (σ : omH) (t : Int × omH) (h : s_X12_windowRelease  σ = some t) : omM G yX12_windowRelease (.code yX12_windowRelease cX12_windowRelease 1 (some .int)) 4 0 [.ref (G.1 43)] σ (.inr (some (.int (omi t.1)))) t.2 := by
  unfold s_X12_windowRelease at h
  refine om_head (own := RX12) (ls := [(0, .ref (G.1 43))]) (by decide +kernel) rfl (by simp [lg_sl, Value.category]) rfl (by simp [Value.category]) (fun x C F => ?_)
  refine v_aload_n C (q := 0) rfl rfl dX12_windowRelease_0 ?_
  obtain ⟨r1, er1, h⟩ := om_bind h
  refine v_invV_i (As := []) C mi_X12_hasJobs ml_X12_137 (k_X12_hasJobs  σ _ er1) (q := 27) rfl rfl rfl (by decide) (Nat.zero_le _) rfl (Nat.le_of_ble_eq_true rfl) dX12_windowRelease_1 ?_
  refine v_if_eq C (tgt := 20) dX12_windowRelease_4 rfl (fun hc => ?_) (fun hc => ?_)
  · replace h := (if_pos hc).symm.trans h
    refine v_iconst C (n := 0) dX12_windowRelease_20 ?_
    cases h
    exact v_iret C F dX12_windowRelease_21 (Nat.zero_le _)
  · replace h := (if_neg hc).symm.trans h
    refine v_aload_n C (q := 0) rfl rfl dX12_windowRelease_7 ?_
    refine v_getr C (q := 27) (o := 43) (r := 47) fi_X12_19 rfl rfl rfl dX12_windowRelease_8 ?_
    refine v_aload_n C (q := 0) rfl rfl dX12_windowRelease_11 ?_
    refine v_iconst C (n := 0) dX12_windowRelease_12 ?_
    obtain ⟨r2, er2, h⟩ := om_bind h
    refine v_invV_i (As := [.int (omi 0)]) C mi_X12_windowJob ml_X12_192 (k_X12_windowJob 0 r1.2 _ er2) (q := 27) rfl rfl rfl (by decide) (Nat.zero_le _) rfl (Nat.le_of_ble_eq_true rfl) dX12_windowRelease_13 ?_
    obtain ⟨g3, h⟩ := omg_some h
    refine v_iald C (q := 31) (o := 47) (n := 10) rfl g3 dX12_windowRelease_16 ?_
    refine v_goto C (tgt := 21) dX12_windowRelease_17 rfl ?_
    cases h
    exact v_iret C F dX12_windowRelease_21 (Nat.zero_le _)
set_option maxHeartbeats 4000000 in
set_option maxRecDepth 100000 in
theorem k_L_addJob {G : omG} (v1 : Int) (v2 : Int) (v3 : Int) (v4 : Int) (v5 : Int) (σ : omH) (t : Int × omH) (h : s_L_addJob v1 v2 v3 v4 v5 σ = some t) : omM G yL_addJob (.codeWith yL_addJob cL_addJob 8 (some .int) [(0, 16, 19, 13), (0, 16, 23, 15)]) 4 2 [.ref (G.1 16), .int (omi v1), .int (omi v2), .int (omi v3), .int (omi v4), .int (omi v5), .ref (G.1 60)] σ (.inr (some (.int (omi t.1)))) t.2 := by
  unfold s_L_addJob at h
  refine om_headH (own := RL) (ls := [(0, .ref (G.1 16)), (1, .int (omi v1)), (2, .int (omi v2)), (3, .int (omi v3)), (4, .int (omi v4)), (5, .int (omi v5)), (6, .ref (G.1 60))]) (by decide +kernel) rfl (by simp [lg_sl, Value.category]) rfl (by simp [Value.category]) (fun x C F => ?_)
  refine v_aload C (q := 6) rfl dL_addJob_0 ?_
  refine v_iconst C (n := 0) dL_addJob_2 ?_
  refine v_aload_n C (q := 0) rfl rfl dL_addJob_3 ?_
  refine v_iload_n C (q := 1) rfl rfl dL_addJob_4 ?_
  refine v_iload_n C (q := 2) rfl rfl dL_addJob_5 ?_
  refine v_iload_n C (q := 3) rfl rfl dL_addJob_6 ?_
  refine v_iload C (q := 4) rfl dL_addJob_7 ?_
  refine v_iload C (q := 5) rfl dL_addJob_9 ?_
  obtain ⟨r1, er1, h⟩ := om_bind h
  rcases r1 with u2 | u2
  · replace h := (Sum.elim_inl _ _ _).symm.trans h
    by_cases hc0 : u2 = 1
    · replace h := (if_pos hc0).symm.trans h
      subst hc0
      refine v_invV_cat (E := "java/lang/IllegalArgumentException") (As := [.int (omi v1), .int (omi v2), .int (omi v3), .int (omi v4), .int (omi v5)]) (pre := []) (z := (0, 16, 19, 13)) (suf := [(0, 16, 23, 15)]) C mi_X11_addJob ml_L_7 (k_X11_addJob v1 v2 v3 v4 v5 σ _ er1) (q := 0) rfl rfl rfl (by decide) (by decide) rfl (Nat.le_of_ble_eq_true rfl) dL_addJob_11 F rfl rfl (by decide) cl_L_13 (en := 1) rfl (fun z hz => by cases hz) (fun q9 => ?_)
      refine v_astore C (ls' := [(0, .ref (G.1 16)), (1, .int (omi v1)), (2, .int (omi v2)), (3, .int (omi v3)), (4, .int (omi v4)), (5, .int (omi v5)), (6, .ref (G.1 60)), (7, .ref q9)]) (by decide) rfl dL_addJob_19 ?_
      refine v_iconst C (n := 1) dL_addJob_21 ?_
      cases h
      exact v_iret C F dL_addJob_22 (by decide)
    · replace h := (if_neg hc0).symm.trans h
      by_cases hc1 : u2 = 2
      · replace h := (if_pos hc1).symm.trans h
        subst hc1
        refine v_invV_cat (E := "java/lang/IllegalStateException") (As := [.int (omi v1), .int (omi v2), .int (omi v3), .int (omi v4), .int (omi v5)]) (pre := [(0, 16, 19, 13)]) (z := (0, 16, 23, 15)) (suf := []) C mi_X11_addJob ml_L_7 (k_X11_addJob v1 v2 v3 v4 v5 σ _ er1) (q := 0) rfl rfl rfl (by decide) (by decide) rfl (Nat.le_of_ble_eq_true rfl) dL_addJob_11 F rfl rfl (by decide) cl_L_15 (en := 2) rfl (fun z hz => by rw [List.mem_singleton.mp hz]; exact ⟨by decide, _, cl_L_13, by unfold omPass; decide⟩) (fun q9 => ?_)
        refine v_astore C (ls' := [(0, .ref (G.1 16)), (1, .int (omi v1)), (2, .int (omi v2)), (3, .int (omi v3)), (4, .int (omi v4)), (5, .int (omi v5)), (6, .ref (G.1 60)), (7, .ref q9)]) (by decide) rfl dL_addJob_23 ?_
        refine v_iconst C (n := 2) dL_addJob_25 ?_
        cases h
        exact v_iret C F dL_addJob_26 (by decide)
      · replace h := (if_neg hc1).symm.trans h
        cases h
  · replace h := (Sum.elim_inr _ _ _).symm.trans h
    refine v_invV_i (As := [.int (omi v1), .int (omi v2), .int (omi v3), .int (omi v4), .int (omi v5)]) C mi_X11_addJob ml_L_7 (k_X11_addJob v1 v2 v3 v4 v5 σ _ er1) (q := 0) rfl rfl rfl (by decide) (by decide) rfl (Nat.le_of_ble_eq_true rfl) dL_addJob_11 ?_
    refine v_i2l C dL_addJob_14 ?_
    obtain ⟨g3, h⟩ := omg_some h
    refine v_last C (q := 44) (o := 60) (n := 1) rfl g3 dL_addJob_15 ?_
    refine v_goto C (tgt := 27) dL_addJob_16 rfl ?_
    refine v_iconst C (n := 0) dL_addJob_27 ?_
    cases h
    exact v_iret C F dL_addJob_28 (by decide)
set_option maxHeartbeats 4000000 in
set_option maxRecDepth 100000 in
theorem k_L_changeJob {G : omG} (v1 : Int) (v2 : Int) (v3 : Int) (v4 : Int) (v5 : Int) (v6 : Int) (σ : omH) (t : Int × omH) (h : s_L_changeJob v1 v2 v3 v4 v5 v6 σ = some t) : omM G yL_changeJob (.codeWith yL_changeJob cL_changeJob 8 (some .int) [(0, 13, 16, 21), (0, 13, 20, 13)]) 4 2 [.ref (G.1 16), .int (omi v1), .int (omi v2), .int (omi v3), .int (omi v4), .int (omi v5), .int (omi v6)] σ (.inr (some (.int (omi t.1)))) t.2 := by
  unfold s_L_changeJob at h
  refine om_headH (own := RL) (ls := [(0, .ref (G.1 16)), (1, .int (omi v1)), (2, .int (omi v2)), (3, .int (omi v3)), (4, .int (omi v4)), (5, .int (omi v5)), (6, .int (omi v6))]) (by decide +kernel) rfl (by simp [lg_sl, Value.category]) rfl (by simp [Value.category]) (fun x C F => ?_)
  refine v_aload_n C (q := 0) rfl rfl dL_changeJob_0 ?_
  refine v_iload_n C (q := 1) rfl rfl dL_changeJob_1 ?_
  refine v_iload_n C (q := 2) rfl rfl dL_changeJob_2 ?_
  refine v_iload_n C (q := 3) rfl rfl dL_changeJob_3 ?_
  refine v_iload C (q := 4) rfl dL_changeJob_4 ?_
  refine v_iload C (q := 5) rfl dL_changeJob_6 ?_
  refine v_iload C (q := 6) rfl dL_changeJob_8 ?_
  obtain ⟨r1, er1, h⟩ := om_bind h
  rcases r1 with u2 | u2
  · replace h := (Sum.elim_inl _ _ _).symm.trans h
    by_cases hc0 : u2 = 3
    · replace h := (if_pos hc0).symm.trans h
      subst hc0
      refine v_invV_cat (E := "java/lang/IndexOutOfBoundsException") (As := [.int (omi v1), .int (omi v2), .int (omi v3), .int (omi v4), .int (omi v5), .int (omi v6)]) (pre := []) (z := (0, 13, 16, 21)) (suf := [(0, 13, 20, 13)]) C mi_X11_changeJob ml_L_17 (k_X11_changeJob v1 v2 v3 v4 v5 v6 σ _ er1) (q := 0) rfl rfl rfl (by decide) (by decide) rfl (Nat.le_of_ble_eq_true rfl) dL_changeJob_10 F rfl rfl (by decide) cl_L_21 (en := 3) rfl (fun z hz => by cases hz) (fun q9 => ?_)
      refine v_astore C (ls' := [(0, .ref (G.1 16)), (1, .int (omi v1)), (2, .int (omi v2)), (3, .int (omi v3)), (4, .int (omi v4)), (5, .int (omi v5)), (6, .int (omi v6)), (7, .ref q9)]) (by decide) rfl dL_changeJob_16 ?_
      refine v_iconst C (n := 1) dL_changeJob_18 ?_
      cases h
      exact v_iret C F dL_changeJob_19 (by decide)
    · replace h := (if_neg hc0).symm.trans h
      by_cases hc1 : u2 = 1
      · replace h := (if_pos hc1).symm.trans h
        subst hc1
        refine v_invV_cat (E := "java/lang/IllegalArgumentException") (As := [.int (omi v1), .int (omi v2), .int (omi v3), .int (omi v4), .int (omi v5), .int (omi v6)]) (pre := [(0, 13, 16, 21)]) (z := (0, 13, 20, 13)) (suf := []) C mi_X11_changeJob ml_L_17 (k_X11_changeJob v1 v2 v3 v4 v5 v6 σ _ er1) (q := 0) rfl rfl rfl (by decide) (by decide) rfl (Nat.le_of_ble_eq_true rfl) dL_changeJob_10 F rfl rfl (by decide) cl_L_13 (en := 1) rfl (fun z hz => by rw [List.mem_singleton.mp hz]; exact ⟨by decide, _, cl_L_21, by unfold omPass; decide⟩) (fun q9 => ?_)
        refine v_astore C (ls' := [(0, .ref (G.1 16)), (1, .int (omi v1)), (2, .int (omi v2)), (3, .int (omi v3)), (4, .int (omi v4)), (5, .int (omi v5)), (6, .int (omi v6)), (7, .ref q9)]) (by decide) rfl dL_changeJob_20 ?_
        refine v_iconst C (n := 2) dL_changeJob_22 ?_
        cases h
        exact v_iret C F dL_changeJob_23 (by decide)
      · replace h := (if_neg hc1).symm.trans h
        cases h
  · replace h := (Sum.elim_inr _ _ _).symm.trans h
    refine v_invV_v (As := [.int (omi v1), .int (omi v2), .int (omi v3), .int (omi v4), .int (omi v5), .int (omi v6)]) C mi_X11_changeJob ml_L_17 (k_X11_changeJob v1 v2 v3 v4 v5 v6 σ _ er1) (q := 0) rfl rfl rfl (by decide) (by decide) rfl (Nat.le_of_ble_eq_true rfl) dL_changeJob_10 ?_
    refine v_goto C (tgt := 24) dL_changeJob_13 rfl ?_
    refine v_iconst C (n := 0) dL_changeJob_24 ?_
    cases h
    exact v_iret C F dL_changeJob_25 (by decide)
set_option maxHeartbeats 4000000 in
set_option maxRecDepth 100000 in
theorem k_L_removeJob {G : omG} (v1 : Int) (σ : omH) (t : Int × omH) (h : s_L_removeJob v1 σ = some t) : omM G yL_removeJob (.codeWith yL_removeJob cL_removeJob 4 (some .int) [(0, 9, 12, 21)]) 4 1 [.ref (G.1 16), .int (omi v1), .ref (G.1 60)] σ (.inr (some (.int (omi t.1)))) t.2 := by
  unfold s_L_removeJob at h
  refine om_headH (own := RL) (ls := [(0, .ref (G.1 16)), (1, .int (omi v1)), (2, .ref (G.1 60))]) (by decide +kernel) rfl (by simp [lg_sl, Value.category]) rfl (by simp [Value.category]) (fun x C F => ?_)
  refine v_aload_n C (q := 2) rfl rfl dL_removeJob_0 ?_
  refine v_iconst C (n := 0) dL_removeJob_1 ?_
  refine v_aload_n C (q := 0) rfl rfl dL_removeJob_2 ?_
  refine v_iload_n C (q := 1) rfl rfl dL_removeJob_3 ?_
  obtain ⟨r1, er1, h⟩ := om_bind h
  rcases r1 with u2 | u2
  · replace h := (Sum.elim_inl _ _ _).symm.trans h
    by_cases hc0 : u2 = 3
    · replace h := (if_pos hc0).symm.trans h
      subst hc0
      refine v_invV_cat (E := "java/lang/IndexOutOfBoundsException") (As := [.int (omi v1)]) (pre := []) (z := (0, 9, 12, 21)) (suf := []) C mi_X11_removeJob ml_L_23 (k_X11_removeJob v1 σ _ er1) (q := 0) rfl rfl rfl (by decide) (by decide) rfl (Nat.le_of_ble_eq_true rfl) dL_removeJob_4 F rfl rfl (by decide) cl_L_21 (en := 3) rfl (fun z hz => by cases hz) (fun q9 => ?_)
      refine v_astore_n C (ls' := [(0, .ref (G.1 16)), (1, .int (omi v1)), (2, .ref (G.1 60)), (3, .ref q9)]) rfl (by decide) rfl dL_removeJob_12 ?_
      refine v_iconst C (n := 1) dL_removeJob_13 ?_
      cases h
      exact v_iret C F dL_removeJob_14 (by decide)
    · replace h := (if_neg hc0).symm.trans h
      cases h
  · replace h := (Sum.elim_inr _ _ _).symm.trans h
    refine v_invV_i (As := [.int (omi v1)]) C mi_X11_removeJob ml_L_23 (k_X11_removeJob v1 σ _ er1) (q := 0) rfl rfl rfl (by decide) (by decide) rfl (Nat.le_of_ble_eq_true rfl) dL_removeJob_4 ?_
    refine v_i2l C dL_removeJob_7 ?_
    obtain ⟨g3, h⟩ := omg_some h
    refine v_last C (q := 44) (o := 60) (n := 1) rfl g3 dL_removeJob_8 ?_
    refine v_goto C (tgt := 15) dL_removeJob_9 rfl ?_
    refine v_iconst C (n := 0) dL_removeJob_15 ?_
    cases h
    exact v_iret C F dL_removeJob_16 (by decide)
set_option maxHeartbeats 4000000 in
set_option maxRecDepth 100000 in
theorem k_L_setSetup {G : omG} (v1 : Int) (v2 : Int) (σ : omH) (t : Int × omH) (h : s_L_setSetup v1 v2 σ = some t) : omM G yL_setSetup (.codeWith yL_setSetup cL_setSetup 5 (some .int) [(0, 10, 13, 21), (0, 10, 17, 13)]) 3 1 [.ref (G.1 16), .int (omi v1), .int (omi v2), .ref (G.1 60)] σ (.inr (some (.int (omi t.1)))) t.2 := by
  unfold s_L_setSetup at h
  refine om_headH (own := RL) (ls := [(0, .ref (G.1 16)), (1, .int (omi v1)), (2, .int (omi v2)), (3, .ref (G.1 60))]) (by decide +kernel) rfl (by simp [lg_sl, Value.category]) rfl (by simp [Value.category]) (fun x C F => ?_)
  refine v_aload_n C (q := 3) rfl rfl dL_setSetup_0 ?_
  refine v_iconst C (n := 0) dL_setSetup_1 ?_
  refine v_aload_n C (q := 0) rfl rfl dL_setSetup_2 ?_
  refine v_iload_n C (q := 1) rfl rfl dL_setSetup_3 ?_
  refine v_iload_n C (q := 2) rfl rfl dL_setSetup_4 ?_
  obtain ⟨r1, er1, h⟩ := om_bind h
  rcases r1 with u2 | u2
  · replace h := (Sum.elim_inl _ _ _).symm.trans h
    by_cases hc0 : u2 = 3
    · replace h := (if_pos hc0).symm.trans h
      subst hc0
      refine v_invV_cat (E := "java/lang/IndexOutOfBoundsException") (As := [.int (omi v1), .int (omi v2)]) (pre := []) (z := (0, 10, 13, 21)) (suf := [(0, 10, 17, 13)]) C mi_X11_setSetup ml_L_27 (k_X11_setSetup v1 v2 σ _ er1) (q := 0) rfl rfl rfl (by decide) (by decide) rfl (Nat.le_of_ble_eq_true rfl) dL_setSetup_5 F rfl rfl (by decide) cl_L_21 (en := 3) rfl (fun z hz => by cases hz) (fun q9 => ?_)
      refine v_astore C (ls' := [(0, .ref (G.1 16)), (1, .int (omi v1)), (2, .int (omi v2)), (3, .ref (G.1 60)), (4, .ref q9)]) (by decide) rfl dL_setSetup_13 ?_
      refine v_iconst C (n := 1) dL_setSetup_15 ?_
      cases h
      exact v_iret C F dL_setSetup_16 (by decide)
    · replace h := (if_neg hc0).symm.trans h
      by_cases hc1 : u2 = 1
      · replace h := (if_pos hc1).symm.trans h
        subst hc1
        refine v_invV_cat (E := "java/lang/IllegalArgumentException") (As := [.int (omi v1), .int (omi v2)]) (pre := [(0, 10, 13, 21)]) (z := (0, 10, 17, 13)) (suf := []) C mi_X11_setSetup ml_L_27 (k_X11_setSetup v1 v2 σ _ er1) (q := 0) rfl rfl rfl (by decide) (by decide) rfl (Nat.le_of_ble_eq_true rfl) dL_setSetup_5 F rfl rfl (by decide) cl_L_13 (en := 1) rfl (fun z hz => by rw [List.mem_singleton.mp hz]; exact ⟨by decide, _, cl_L_21, by unfold omPass; decide⟩) (fun q9 => ?_)
        refine v_astore C (ls' := [(0, .ref (G.1 16)), (1, .int (omi v1)), (2, .int (omi v2)), (3, .ref (G.1 60)), (4, .ref q9)]) (by decide) rfl dL_setSetup_17 ?_
        refine v_iconst C (n := 2) dL_setSetup_19 ?_
        cases h
        exact v_iret C F dL_setSetup_20 (by decide)
      · replace h := (if_neg hc1).symm.trans h
        cases h
  · replace h := (Sum.elim_inr _ _ _).symm.trans h
    refine v_invV_i (As := [.int (omi v1), .int (omi v2)]) C mi_X11_setSetup ml_L_27 (k_X11_setSetup v1 v2 σ _ er1) (q := 0) rfl rfl rfl (by decide) (by decide) rfl (Nat.le_of_ble_eq_true rfl) dL_setSetup_5 ?_
    refine v_i2l C dL_setSetup_8 ?_
    obtain ⟨g3, h⟩ := omg_some h
    refine v_last C (q := 44) (o := 60) (n := 1) rfl g3 dL_setSetup_9 ?_
    refine v_goto C (tgt := 21) dL_setSetup_10 rfl ?_
    refine v_iconst C (n := 0) dL_setSetup_21 ?_
    cases h
    exact v_iret C F dL_setSetup_22 (by decide)
set_option maxHeartbeats 4000000 in
set_option maxRecDepth 100000 in
theorem k_L_planByDueDates {G : omG}  (σ : omH) (t : Int × omH) (h : s_L_planByDueDates  σ = some t) : omM G yL_planByDueDates (.codeWith yL_planByDueDates cL_planByDueDates 3 (some .int) [(0, 8, 11, 15)]) 6 1 [.ref (G.1 16), .ref (G.1 60)] σ (.inr (some (.int (omi t.1)))) t.2 := by
  unfold s_L_planByDueDates at h
  refine om_headH (own := RL) (ls := [(0, .ref (G.1 16)), (1, .ref (G.1 60))]) (by decide +kernel) rfl (by simp [lg_sl, Value.category]) rfl (by simp [Value.category]) (fun x C F => ?_)
  refine v_aload_n C (q := 1) rfl rfl dL_planByDueDates_0 ?_
  refine v_iconst C (n := 0) dL_planByDueDates_1 ?_
  refine v_aload_n C (q := 0) rfl rfl dL_planByDueDates_2 ?_
  obtain ⟨r1, er1, h⟩ := om_bind h
  rcases r1 with u2 | u2
  · replace h := (Sum.elim_inl _ _ _).symm.trans h
    by_cases hc0 : u2 = 2
    · replace h := (if_pos hc0).symm.trans h
      subst hc0
      refine v_invV_cat (E := "java/lang/IllegalStateException") (As := []) (pre := []) (z := (0, 8, 11, 15)) (suf := []) C mi_X11_planByDueDates ml_L_31 (k_X11_planByDueDates  σ _ er1) (q := 0) rfl rfl rfl (by decide) (by decide) rfl (Nat.le_of_ble_eq_true rfl) dL_planByDueDates_3 F rfl rfl (by decide) cl_L_15 (en := 2) rfl (fun z hz => by cases hz) (fun q9 => ?_)
      refine v_astore_n C (ls' := [(0, .ref (G.1 16)), (1, .ref (G.1 60)), (2, .ref q9)]) rfl (by decide) rfl dL_planByDueDates_11 ?_
      refine v_iconst C (n := 1) dL_planByDueDates_12 ?_
      cases h
      exact v_iret C F dL_planByDueDates_13 (by decide)
    · replace h := (if_neg hc0).symm.trans h
      cases h
  · replace h := (Sum.elim_inr _ _ _).symm.trans h
    refine v_invV_i (As := []) C mi_X11_planByDueDates ml_L_31 (k_X11_planByDueDates  σ _ er1) (q := 0) rfl rfl rfl (by decide) (by decide) rfl (Nat.le_of_ble_eq_true rfl) dL_planByDueDates_3 ?_
    refine v_i2l C dL_planByDueDates_6 ?_
    obtain ⟨g3, h⟩ := omg_some h
    refine v_last C (q := 44) (o := 60) (n := 1) rfl g3 dL_planByDueDates_7 ?_
    refine v_goto C (tgt := 14) dL_planByDueDates_8 rfl ?_
    refine v_iconst C (n := 0) dL_planByDueDates_14 ?_
    cases h
    exact v_iret C F dL_planByDueDates_15 (by decide)
set_option maxHeartbeats 4000000 in
set_option maxRecDepth 100000 in
theorem k_L_planFewestLate {G : omG}  (σ : omH) (t : Int × omH) (h : s_L_planFewestLate  σ = some t) : omM G yL_planFewestLate (.codeWith yL_planFewestLate cL_planFewestLate 3 (some .int) [(0, 8, 11, 15)]) 6 1 [.ref (G.1 16), .ref (G.1 60)] σ (.inr (some (.int (omi t.1)))) t.2 := by
  unfold s_L_planFewestLate at h
  refine om_headH (own := RL) (ls := [(0, .ref (G.1 16)), (1, .ref (G.1 60))]) (by decide +kernel) rfl (by simp [lg_sl, Value.category]) rfl (by simp [Value.category]) (fun x C F => ?_)
  refine v_aload_n C (q := 1) rfl rfl dL_planFewestLate_0 ?_
  refine v_iconst C (n := 0) dL_planFewestLate_1 ?_
  refine v_aload_n C (q := 0) rfl rfl dL_planFewestLate_2 ?_
  obtain ⟨r1, er1, h⟩ := om_bind h
  rcases r1 with u2 | u2
  · replace h := (Sum.elim_inl _ _ _).symm.trans h
    by_cases hc0 : u2 = 2
    · replace h := (if_pos hc0).symm.trans h
      subst hc0
      refine v_invV_cat (E := "java/lang/IllegalStateException") (As := []) (pre := []) (z := (0, 8, 11, 15)) (suf := []) C mi_X11_planFewestLate ml_L_35 (k_X11_planFewestLate  σ _ er1) (q := 0) rfl rfl rfl (by decide) (by decide) rfl (Nat.le_of_ble_eq_true rfl) dL_planFewestLate_3 F rfl rfl (by decide) cl_L_15 (en := 2) rfl (fun z hz => by cases hz) (fun q9 => ?_)
      refine v_astore_n C (ls' := [(0, .ref (G.1 16)), (1, .ref (G.1 60)), (2, .ref q9)]) rfl (by decide) rfl dL_planFewestLate_11 ?_
      refine v_iconst C (n := 1) dL_planFewestLate_12 ?_
      cases h
      exact v_iret C F dL_planFewestLate_13 (by decide)
    · replace h := (if_neg hc0).symm.trans h
      cases h
  · replace h := (Sum.elim_inr _ _ _).symm.trans h
    refine v_invV_i (As := []) C mi_X11_planFewestLate ml_L_35 (k_X11_planFewestLate  σ _ er1) (q := 0) rfl rfl rfl (by decide) (by decide) rfl (Nat.le_of_ble_eq_true rfl) dL_planFewestLate_3 ?_
    refine v_i2l C dL_planFewestLate_6 ?_
    obtain ⟨g3, h⟩ := omg_some h
    refine v_last C (q := 44) (o := 60) (n := 1) rfl g3 dL_planFewestLate_7 ?_
    refine v_goto C (tgt := 14) dL_planFewestLate_8 rfl ?_
    refine v_iconst C (n := 0) dL_planFewestLate_14 ?_
    cases h
    exact v_iret C F dL_planFewestLate_15 (by decide)
set_option maxHeartbeats 4000000 in
set_option maxRecDepth 100000 in
theorem k_L_planByRatios {G : omG}  (σ : omH) (t : Int × omH) (h : s_L_planByRatios  σ = some t) : omM G yL_planByRatios (.codeWith yL_planByRatios cL_planByRatios 3 (some .int) [(0, 8, 11, 15)]) 6 1 [.ref (G.1 16), .ref (G.1 60)] σ (.inr (some (.int (omi t.1)))) t.2 := by
  unfold s_L_planByRatios at h
  refine om_headH (own := RL) (ls := [(0, .ref (G.1 16)), (1, .ref (G.1 60))]) (by decide +kernel) rfl (by simp [lg_sl, Value.category]) rfl (by simp [Value.category]) (fun x C F => ?_)
  refine v_aload_n C (q := 1) rfl rfl dL_planByRatios_0 ?_
  refine v_iconst C (n := 0) dL_planByRatios_1 ?_
  refine v_aload_n C (q := 0) rfl rfl dL_planByRatios_2 ?_
  obtain ⟨r1, er1, h⟩ := om_bind h
  rcases r1 with u2 | u2
  · replace h := (Sum.elim_inl _ _ _).symm.trans h
    by_cases hc0 : u2 = 2
    · replace h := (if_pos hc0).symm.trans h
      subst hc0
      refine v_invV_cat (E := "java/lang/IllegalStateException") (As := []) (pre := []) (z := (0, 8, 11, 15)) (suf := []) C mi_X11_planByRatios ml_L_38 (k_X11_planByRatios  σ _ er1) (q := 0) rfl rfl rfl (by decide) (by decide) rfl (Nat.le_of_ble_eq_true rfl) dL_planByRatios_3 F rfl rfl (by decide) cl_L_15 (en := 2) rfl (fun z hz => by cases hz) (fun q9 => ?_)
      refine v_astore_n C (ls' := [(0, .ref (G.1 16)), (1, .ref (G.1 60)), (2, .ref q9)]) rfl (by decide) rfl dL_planByRatios_11 ?_
      refine v_iconst C (n := 1) dL_planByRatios_12 ?_
      cases h
      exact v_iret C F dL_planByRatios_13 (by decide)
    · replace h := (if_neg hc0).symm.trans h
      cases h
  · replace h := (Sum.elim_inr _ _ _).symm.trans h
    refine v_invV_i (As := []) C mi_X11_planByRatios ml_L_38 (k_X11_planByRatios  σ _ er1) (q := 0) rfl rfl rfl (by decide) (by decide) rfl (Nat.le_of_ble_eq_true rfl) dL_planByRatios_3 ?_
    refine v_i2l C dL_planByRatios_6 ?_
    obtain ⟨g3, h⟩ := omg_some h
    refine v_last C (q := 44) (o := 60) (n := 1) rfl g3 dL_planByRatios_7 ?_
    refine v_goto C (tgt := 14) dL_planByRatios_8 rfl ?_
    refine v_iconst C (n := 0) dL_planByRatios_14 ?_
    cases h
    exact v_iret C F dL_planByRatios_15 (by decide)
set_option maxHeartbeats 4000000 in
set_option maxRecDepth 100000 in
theorem k_L_planLeastTardiness {G : omG}  (σ : omH) (t : Int × omH) (h : s_L_planLeastTardiness  σ = some t) : omM G yL_planLeastTardiness (.codeWith yL_planLeastTardiness cL_planLeastTardiness 3 (some .int) [(0, 8, 11, 15)]) 6 1 [.ref (G.1 16), .ref (G.1 60)] σ (.inr (some (.int (omi t.1)))) t.2 := by
  unfold s_L_planLeastTardiness at h
  refine om_headH (own := RL) (ls := [(0, .ref (G.1 16)), (1, .ref (G.1 60))]) (by decide +kernel) rfl (by simp [lg_sl, Value.category]) rfl (by simp [Value.category]) (fun x C F => ?_)
  refine v_aload_n C (q := 1) rfl rfl dL_planLeastTardiness_0 ?_
  refine v_iconst C (n := 0) dL_planLeastTardiness_1 ?_
  refine v_aload_n C (q := 0) rfl rfl dL_planLeastTardiness_2 ?_
  obtain ⟨r1, er1, h⟩ := om_bind h
  rcases r1 with u2 | u2
  · replace h := (Sum.elim_inl _ _ _).symm.trans h
    by_cases hc0 : u2 = 2
    · replace h := (if_pos hc0).symm.trans h
      subst hc0
      refine v_invV_cat (E := "java/lang/IllegalStateException") (As := []) (pre := []) (z := (0, 8, 11, 15)) (suf := []) C mi_X11_planLeastTardiness ml_L_41 (k_X11_planLeastTardiness  σ _ er1) (q := 0) rfl rfl rfl (by decide) (by decide) rfl (Nat.le_of_ble_eq_true rfl) dL_planLeastTardiness_3 F rfl rfl (by decide) cl_L_15 (en := 2) rfl (fun z hz => by cases hz) (fun q9 => ?_)
      refine v_astore_n C (ls' := [(0, .ref (G.1 16)), (1, .ref (G.1 60)), (2, .ref q9)]) rfl (by decide) rfl dL_planLeastTardiness_11 ?_
      refine v_iconst C (n := 1) dL_planLeastTardiness_12 ?_
      cases h
      exact v_iret C F dL_planLeastTardiness_13 (by decide)
    · replace h := (if_neg hc0).symm.trans h
      cases h
  · replace h := (Sum.elim_inr _ _ _).symm.trans h
    refine v_invV_i (As := []) C mi_X11_planLeastTardiness ml_L_41 (k_X11_planLeastTardiness  σ _ er1) (q := 0) rfl rfl rfl (by decide) (by decide) rfl (Nat.le_of_ble_eq_true rfl) dL_planLeastTardiness_3 ?_
    refine v_i2l C dL_planLeastTardiness_6 ?_
    obtain ⟨g3, h⟩ := omg_some h
    refine v_last C (q := 44) (o := 60) (n := 1) rfl g3 dL_planLeastTardiness_7 ?_
    refine v_goto C (tgt := 14) dL_planLeastTardiness_8 rfl ?_
    refine v_iconst C (n := 0) dL_planLeastTardiness_14 ?_
    cases h
    exact v_iret C F dL_planLeastTardiness_15 (by decide)
set_option maxHeartbeats 4000000 in
set_option maxRecDepth 100000 in
theorem k_L_planByFamilies {G : omG}  (σ : omH) (t : Int × omH) (h : s_L_planByFamilies  σ = some t) : omM G yL_planByFamilies (.codeWith yL_planByFamilies cL_planByFamilies 3 (some .int) [(0, 8, 11, 15)]) 7 1 [.ref (G.1 16), .ref (G.1 60)] σ (.inr (some (.int (omi t.1)))) t.2 := by
  unfold s_L_planByFamilies at h
  refine om_headH (own := RL) (ls := [(0, .ref (G.1 16)), (1, .ref (G.1 60))]) (by decide +kernel) rfl (by simp [lg_sl, Value.category]) rfl (by simp [Value.category]) (fun x C F => ?_)
  refine v_aload_n C (q := 1) rfl rfl dL_planByFamilies_0 ?_
  refine v_iconst C (n := 0) dL_planByFamilies_1 ?_
  refine v_aload_n C (q := 0) rfl rfl dL_planByFamilies_2 ?_
  obtain ⟨r1, er1, h⟩ := om_bind h
  rcases r1 with u2 | u2
  · replace h := (Sum.elim_inl _ _ _).symm.trans h
    by_cases hc0 : u2 = 2
    · replace h := (if_pos hc0).symm.trans h
      subst hc0
      refine v_invV_cat (E := "java/lang/IllegalStateException") (As := []) (pre := []) (z := (0, 8, 11, 15)) (suf := []) C mi_X11_planByFamilies ml_L_44 (k_X11_planByFamilies  σ _ er1) (q := 0) rfl rfl rfl (by decide) (by decide) rfl (Nat.le_of_ble_eq_true rfl) dL_planByFamilies_3 F rfl rfl (by decide) cl_L_15 (en := 2) rfl (fun z hz => by cases hz) (fun q9 => ?_)
      refine v_astore_n C (ls' := [(0, .ref (G.1 16)), (1, .ref (G.1 60)), (2, .ref q9)]) rfl (by decide) rfl dL_planByFamilies_11 ?_
      refine v_iconst C (n := 1) dL_planByFamilies_12 ?_
      cases h
      exact v_iret C F dL_planByFamilies_13 (by decide)
    · replace h := (if_neg hc0).symm.trans h
      cases h
  · replace h := (Sum.elim_inr _ _ _).symm.trans h
    refine v_invV_i (As := []) C mi_X11_planByFamilies ml_L_44 (k_X11_planByFamilies  σ _ er1) (q := 0) rfl rfl rfl (by decide) (by decide) rfl (Nat.le_of_ble_eq_true rfl) dL_planByFamilies_3 ?_
    refine v_i2l C dL_planByFamilies_6 ?_
    obtain ⟨g3, h⟩ := omg_some h
    refine v_last C (q := 44) (o := 60) (n := 1) rfl g3 dL_planByFamilies_7 ?_
    refine v_goto C (tgt := 14) dL_planByFamilies_8 rfl ?_
    refine v_iconst C (n := 0) dL_planByFamilies_14 ?_
    cases h
    exact v_iret C F dL_planByFamilies_15 (by decide)
set_option maxHeartbeats 4000000 in
set_option maxRecDepth 100000 in
theorem k_L_planPreemptiveByDates {G : omG}  (σ : omH) (t : Int × omH) (h : s_L_planPreemptiveByDates  σ = some t) : omM G yL_planPreemptiveByDates (.codeWith yL_planPreemptiveByDates cL_planPreemptiveByDates 3 (some .int) [(0, 8, 11, 15)]) 6 1 [.ref (G.1 16), .ref (G.1 60)] σ (.inr (some (.int (omi t.1)))) t.2 := by
  unfold s_L_planPreemptiveByDates at h
  refine om_headH (own := RL) (ls := [(0, .ref (G.1 16)), (1, .ref (G.1 60))]) (by decide +kernel) rfl (by simp [lg_sl, Value.category]) rfl (by simp [Value.category]) (fun x C F => ?_)
  refine v_aload_n C (q := 1) rfl rfl dL_planPreemptiveByDates_0 ?_
  refine v_iconst C (n := 0) dL_planPreemptiveByDates_1 ?_
  refine v_aload_n C (q := 0) rfl rfl dL_planPreemptiveByDates_2 ?_
  obtain ⟨r1, er1, h⟩ := om_bind h
  rcases r1 with u2 | u2
  · replace h := (Sum.elim_inl _ _ _).symm.trans h
    by_cases hc0 : u2 = 2
    · replace h := (if_pos hc0).symm.trans h
      subst hc0
      refine v_invV_cat (E := "java/lang/IllegalStateException") (As := []) (pre := []) (z := (0, 8, 11, 15)) (suf := []) C mi_X11_planPreemptiveByDates ml_L_47 (k_X11_planPreemptiveByDates  σ _ er1) (q := 0) rfl rfl rfl (by decide) (by decide) rfl (Nat.le_of_ble_eq_true rfl) dL_planPreemptiveByDates_3 F rfl rfl (by decide) cl_L_15 (en := 2) rfl (fun z hz => by cases hz) (fun q9 => ?_)
      refine v_astore_n C (ls' := [(0, .ref (G.1 16)), (1, .ref (G.1 60)), (2, .ref q9)]) rfl (by decide) rfl dL_planPreemptiveByDates_11 ?_
      refine v_iconst C (n := 1) dL_planPreemptiveByDates_12 ?_
      cases h
      exact v_iret C F dL_planPreemptiveByDates_13 (by decide)
    · replace h := (if_neg hc0).symm.trans h
      cases h
  · replace h := (Sum.elim_inr _ _ _).symm.trans h
    refine v_invV_i (As := []) C mi_X11_planPreemptiveByDates ml_L_47 (k_X11_planPreemptiveByDates  σ _ er1) (q := 0) rfl rfl rfl (by decide) (by decide) rfl (Nat.le_of_ble_eq_true rfl) dL_planPreemptiveByDates_3 ?_
    refine v_i2l C dL_planPreemptiveByDates_6 ?_
    obtain ⟨g3, h⟩ := omg_some h
    refine v_last C (q := 44) (o := 60) (n := 1) rfl g3 dL_planPreemptiveByDates_7 ?_
    refine v_goto C (tgt := 14) dL_planPreemptiveByDates_8 rfl ?_
    refine v_iconst C (n := 0) dL_planPreemptiveByDates_14 ?_
    cases h
    exact v_iret C F dL_planPreemptiveByDates_15 (by decide)
set_option maxHeartbeats 4000000 in
set_option maxRecDepth 100000 in
theorem k_L_planPreemptiveShortest {G : omG}  (σ : omH) (t : Int × omH) (h : s_L_planPreemptiveShortest  σ = some t) : omM G yL_planPreemptiveShortest (.codeWith yL_planPreemptiveShortest cL_planPreemptiveShortest 3 (some .int) [(0, 8, 11, 15)]) 6 1 [.ref (G.1 16), .ref (G.1 60)] σ (.inr (some (.int (omi t.1)))) t.2 := by
  unfold s_L_planPreemptiveShortest at h
  refine om_headH (own := RL) (ls := [(0, .ref (G.1 16)), (1, .ref (G.1 60))]) (by decide +kernel) rfl (by simp [lg_sl, Value.category]) rfl (by simp [Value.category]) (fun x C F => ?_)
  refine v_aload_n C (q := 1) rfl rfl dL_planPreemptiveShortest_0 ?_
  refine v_iconst C (n := 0) dL_planPreemptiveShortest_1 ?_
  refine v_aload_n C (q := 0) rfl rfl dL_planPreemptiveShortest_2 ?_
  obtain ⟨r1, er1, h⟩ := om_bind h
  rcases r1 with u2 | u2
  · replace h := (Sum.elim_inl _ _ _).symm.trans h
    by_cases hc0 : u2 = 2
    · replace h := (if_pos hc0).symm.trans h
      subst hc0
      refine v_invV_cat (E := "java/lang/IllegalStateException") (As := []) (pre := []) (z := (0, 8, 11, 15)) (suf := []) C mi_X11_planPreemptiveShortest ml_L_50 (k_X11_planPreemptiveShortest  σ _ er1) (q := 0) rfl rfl rfl (by decide) (by decide) rfl (Nat.le_of_ble_eq_true rfl) dL_planPreemptiveShortest_3 F rfl rfl (by decide) cl_L_15 (en := 2) rfl (fun z hz => by cases hz) (fun q9 => ?_)
      refine v_astore_n C (ls' := [(0, .ref (G.1 16)), (1, .ref (G.1 60)), (2, .ref q9)]) rfl (by decide) rfl dL_planPreemptiveShortest_11 ?_
      refine v_iconst C (n := 1) dL_planPreemptiveShortest_12 ?_
      cases h
      exact v_iret C F dL_planPreemptiveShortest_13 (by decide)
    · replace h := (if_neg hc0).symm.trans h
      cases h
  · replace h := (Sum.elim_inr _ _ _).symm.trans h
    refine v_invV_i (As := []) C mi_X11_planPreemptiveShortest ml_L_50 (k_X11_planPreemptiveShortest  σ _ er1) (q := 0) rfl rfl rfl (by decide) (by decide) rfl (Nat.le_of_ble_eq_true rfl) dL_planPreemptiveShortest_3 ?_
    refine v_i2l C dL_planPreemptiveShortest_6 ?_
    obtain ⟨g3, h⟩ := omg_some h
    refine v_last C (q := 44) (o := 60) (n := 1) rfl g3 dL_planPreemptiveShortest_7 ?_
    refine v_goto C (tgt := 14) dL_planPreemptiveShortest_8 rfl ?_
    refine v_iconst C (n := 0) dL_planPreemptiveShortest_14 ?_
    cases h
    exact v_iret C F dL_planPreemptiveShortest_15 (by decide)
set_option maxHeartbeats 4000000 in
set_option maxRecDepth 100000 in
theorem k_L_kindOf {G : omG} (v1 : Int) (σ : omH) (t : Int × omH) (h : s_L_kindOf v1 σ = some t) : omM G yL_kindOf (.codeWith yL_kindOf cL_kindOf 4 (some .int) [(0, 9, 12, 21)]) 4 1 [.ref (G.1 16), .int (omi v1), .ref (G.1 60)] σ (.inr (some (.int (omi t.1)))) t.2 := by
  unfold s_L_kindOf at h
  refine om_headH (own := RL) (ls := [(0, .ref (G.1 16)), (1, .int (omi v1)), (2, .ref (G.1 60))]) (by decide +kernel) rfl (by simp [lg_sl, Value.category]) rfl (by simp [Value.category]) (fun x C F => ?_)
  refine v_aload_n C (q := 2) rfl rfl dL_kindOf_0 ?_
  refine v_iconst C (n := 0) dL_kindOf_1 ?_
  refine v_aload_n C (q := 0) rfl rfl dL_kindOf_2 ?_
  refine v_iload_n C (q := 1) rfl rfl dL_kindOf_3 ?_
  obtain ⟨r1, er1, h⟩ := om_bind h
  rcases r1 with u2 | u2
  · replace h := (Sum.elim_inl _ _ _).symm.trans h
    by_cases hc0 : u2 = 3
    · replace h := (if_pos hc0).symm.trans h
      subst hc0
      refine v_invV_cat (E := "java/lang/IndexOutOfBoundsException") (As := [.int (omi v1)]) (pre := []) (z := (0, 9, 12, 21)) (suf := []) C mi_X11_kindOf ml_L_53 (k_X11_kindOf v1 σ _ er1) (q := 0) rfl rfl rfl (by decide) (by decide) rfl (Nat.le_of_ble_eq_true rfl) dL_kindOf_4 F rfl rfl (by decide) cl_L_21 (en := 3) rfl (fun z hz => by cases hz) (fun q9 => ?_)
      refine v_astore_n C (ls' := [(0, .ref (G.1 16)), (1, .int (omi v1)), (2, .ref (G.1 60)), (3, .ref q9)]) rfl (by decide) rfl dL_kindOf_12 ?_
      refine v_iconst C (n := 1) dL_kindOf_13 ?_
      cases h
      exact v_iret C F dL_kindOf_14 (by decide)
    · replace h := (if_neg hc0).symm.trans h
      cases h
  · replace h := (Sum.elim_inr _ _ _).symm.trans h
    refine v_invV_i (As := [.int (omi v1)]) C mi_X11_kindOf ml_L_53 (k_X11_kindOf v1 σ _ er1) (q := 0) rfl rfl rfl (by decide) (by decide) rfl (Nat.le_of_ble_eq_true rfl) dL_kindOf_4 ?_
    refine v_i2l C dL_kindOf_7 ?_
    obtain ⟨g3, h⟩ := omg_some h
    refine v_last C (q := 44) (o := 60) (n := 1) rfl g3 dL_kindOf_8 ?_
    refine v_goto C (tgt := 15) dL_kindOf_9 rfl ?_
    refine v_iconst C (n := 0) dL_kindOf_15 ?_
    cases h
    exact v_iret C F dL_kindOf_16 (by decide)
set_option maxHeartbeats 4000000 in
set_option maxRecDepth 100000 in
theorem k_L_whoseIs {G : omG} (v1 : Int) (σ : omH) (t : Int × omH) (h : s_L_whoseIs v1 σ = some t) : omM G yL_whoseIs (.codeWith yL_whoseIs cL_whoseIs 4 (some .int) [(0, 9, 12, 21)]) 4 1 [.ref (G.1 16), .int (omi v1), .ref (G.1 60)] σ (.inr (some (.int (omi t.1)))) t.2 := by
  unfold s_L_whoseIs at h
  refine om_headH (own := RL) (ls := [(0, .ref (G.1 16)), (1, .int (omi v1)), (2, .ref (G.1 60))]) (by decide +kernel) rfl (by simp [lg_sl, Value.category]) rfl (by simp [Value.category]) (fun x C F => ?_)
  refine v_aload_n C (q := 2) rfl rfl dL_whoseIs_0 ?_
  refine v_iconst C (n := 0) dL_whoseIs_1 ?_
  refine v_aload_n C (q := 0) rfl rfl dL_whoseIs_2 ?_
  refine v_iload_n C (q := 1) rfl rfl dL_whoseIs_3 ?_
  obtain ⟨r1, er1, h⟩ := om_bind h
  rcases r1 with u2 | u2
  · replace h := (Sum.elim_inl _ _ _).symm.trans h
    by_cases hc0 : u2 = 3
    · replace h := (if_pos hc0).symm.trans h
      subst hc0
      refine v_invV_cat (E := "java/lang/IndexOutOfBoundsException") (As := [.int (omi v1)]) (pre := []) (z := (0, 9, 12, 21)) (suf := []) C mi_X11_whoseIs ml_L_56 (k_X11_whoseIs v1 σ _ er1) (q := 0) rfl rfl rfl (by decide) (by decide) rfl (Nat.le_of_ble_eq_true rfl) dL_whoseIs_4 F rfl rfl (by decide) cl_L_21 (en := 3) rfl (fun z hz => by cases hz) (fun q9 => ?_)
      refine v_astore_n C (ls' := [(0, .ref (G.1 16)), (1, .int (omi v1)), (2, .ref (G.1 60)), (3, .ref q9)]) rfl (by decide) rfl dL_whoseIs_12 ?_
      refine v_iconst C (n := 1) dL_whoseIs_13 ?_
      cases h
      exact v_iret C F dL_whoseIs_14 (by decide)
    · replace h := (if_neg hc0).symm.trans h
      cases h
  · replace h := (Sum.elim_inr _ _ _).symm.trans h
    refine v_invV_i (As := [.int (omi v1)]) C mi_X11_whoseIs ml_L_56 (k_X11_whoseIs v1 σ _ er1) (q := 0) rfl rfl rfl (by decide) (by decide) rfl (Nat.le_of_ble_eq_true rfl) dL_whoseIs_4 ?_
    refine v_i2l C dL_whoseIs_7 ?_
    obtain ⟨g3, h⟩ := omg_some h
    refine v_last C (q := 44) (o := 60) (n := 1) rfl g3 dL_whoseIs_8 ?_
    refine v_goto C (tgt := 15) dL_whoseIs_9 rfl ?_
    refine v_iconst C (n := 0) dL_whoseIs_15 ?_
    cases h
    exact v_iret C F dL_whoseIs_16 (by decide)
set_option maxHeartbeats 4000000 in
set_option maxRecDepth 100000 in
theorem k_L_startOf {G : omG} (v1 : Int) (σ : omH) (t : Int × omH) (h : s_L_startOf v1 σ = some t) : omM G yL_startOf (.codeWith yL_startOf cL_startOf 4 (some .int) [(0, 9, 12, 21)]) 4 1 [.ref (G.1 16), .int (omi v1), .ref (G.1 60)] σ (.inr (some (.int (omi t.1)))) t.2 := by
  unfold s_L_startOf at h
  refine om_headH (own := RL) (ls := [(0, .ref (G.1 16)), (1, .int (omi v1)), (2, .ref (G.1 60))]) (by decide +kernel) rfl (by simp [lg_sl, Value.category]) rfl (by simp [Value.category]) (fun x C F => ?_)
  refine v_aload_n C (q := 2) rfl rfl dL_startOf_0 ?_
  refine v_iconst C (n := 0) dL_startOf_1 ?_
  refine v_aload_n C (q := 0) rfl rfl dL_startOf_2 ?_
  refine v_iload_n C (q := 1) rfl rfl dL_startOf_3 ?_
  obtain ⟨r1, er1, h⟩ := om_bind h
  rcases r1 with u2 | u2
  · replace h := (Sum.elim_inl _ _ _).symm.trans h
    by_cases hc0 : u2 = 3
    · replace h := (if_pos hc0).symm.trans h
      subst hc0
      refine v_invV_cat (E := "java/lang/IndexOutOfBoundsException") (As := [.int (omi v1)]) (pre := []) (z := (0, 9, 12, 21)) (suf := []) C mi_X11_startOf ml_L_59 (k_X11_startOf v1 σ _ er1) (q := 0) rfl rfl rfl (by decide) (by decide) rfl (Nat.le_of_ble_eq_true rfl) dL_startOf_4 F rfl rfl (by decide) cl_L_21 (en := 3) rfl (fun z hz => by cases hz) (fun q9 => ?_)
      refine v_astore_n C (ls' := [(0, .ref (G.1 16)), (1, .int (omi v1)), (2, .ref (G.1 60)), (3, .ref q9)]) rfl (by decide) rfl dL_startOf_12 ?_
      refine v_iconst C (n := 1) dL_startOf_13 ?_
      cases h
      exact v_iret C F dL_startOf_14 (by decide)
    · replace h := (if_neg hc0).symm.trans h
      cases h
  · replace h := (Sum.elim_inr _ _ _).symm.trans h
    refine v_invV_i (As := [.int (omi v1)]) C mi_X11_startOf ml_L_59 (k_X11_startOf v1 σ _ er1) (q := 0) rfl rfl rfl (by decide) (by decide) rfl (Nat.le_of_ble_eq_true rfl) dL_startOf_4 ?_
    refine v_i2l C dL_startOf_7 ?_
    obtain ⟨g3, h⟩ := omg_some h
    refine v_last C (q := 44) (o := 60) (n := 1) rfl g3 dL_startOf_8 ?_
    refine v_goto C (tgt := 15) dL_startOf_9 rfl ?_
    refine v_iconst C (n := 0) dL_startOf_15 ?_
    cases h
    exact v_iret C F dL_startOf_16 (by decide)
set_option maxHeartbeats 4000000 in
set_option maxRecDepth 100000 in
theorem k_L_endOf {G : omG} (v1 : Int) (σ : omH) (t : Int × omH) (h : s_L_endOf v1 σ = some t) : omM G yL_endOf (.codeWith yL_endOf cL_endOf 4 (some .int) [(0, 9, 12, 21)]) 4 1 [.ref (G.1 16), .int (omi v1), .ref (G.1 60)] σ (.inr (some (.int (omi t.1)))) t.2 := by
  unfold s_L_endOf at h
  refine om_headH (own := RL) (ls := [(0, .ref (G.1 16)), (1, .int (omi v1)), (2, .ref (G.1 60))]) (by decide +kernel) rfl (by simp [lg_sl, Value.category]) rfl (by simp [Value.category]) (fun x C F => ?_)
  refine v_aload_n C (q := 2) rfl rfl dL_endOf_0 ?_
  refine v_iconst C (n := 0) dL_endOf_1 ?_
  refine v_aload_n C (q := 0) rfl rfl dL_endOf_2 ?_
  refine v_iload_n C (q := 1) rfl rfl dL_endOf_3 ?_
  obtain ⟨r1, er1, h⟩ := om_bind h
  rcases r1 with u2 | u2
  · replace h := (Sum.elim_inl _ _ _).symm.trans h
    by_cases hc0 : u2 = 3
    · replace h := (if_pos hc0).symm.trans h
      subst hc0
      refine v_invV_cat (E := "java/lang/IndexOutOfBoundsException") (As := [.int (omi v1)]) (pre := []) (z := (0, 9, 12, 21)) (suf := []) C mi_X11_endOf ml_L_62 (k_X11_endOf v1 σ _ er1) (q := 0) rfl rfl rfl (by decide) (by decide) rfl (Nat.le_of_ble_eq_true rfl) dL_endOf_4 F rfl rfl (by decide) cl_L_21 (en := 3) rfl (fun z hz => by cases hz) (fun q9 => ?_)
      refine v_astore_n C (ls' := [(0, .ref (G.1 16)), (1, .int (omi v1)), (2, .ref (G.1 60)), (3, .ref q9)]) rfl (by decide) rfl dL_endOf_12 ?_
      refine v_iconst C (n := 1) dL_endOf_13 ?_
      cases h
      exact v_iret C F dL_endOf_14 (by decide)
    · replace h := (if_neg hc0).symm.trans h
      cases h
  · replace h := (Sum.elim_inr _ _ _).symm.trans h
    refine v_invV_i (As := [.int (omi v1)]) C mi_X11_endOf ml_L_62 (k_X11_endOf v1 σ _ er1) (q := 0) rfl rfl rfl (by decide) (by decide) rfl (Nat.le_of_ble_eq_true rfl) dL_endOf_4 ?_
    refine v_i2l C dL_endOf_7 ?_
    obtain ⟨g3, h⟩ := omg_some h
    refine v_last C (q := 44) (o := 60) (n := 1) rfl g3 dL_endOf_8 ?_
    refine v_goto C (tgt := 15) dL_endOf_9 rfl ?_
    refine v_iconst C (n := 0) dL_endOf_15 ?_
    cases h
    exact v_iret C F dL_endOf_16 (by decide)
set_option maxHeartbeats 4000000 in
set_option maxRecDepth 100000 in
theorem k_L_completion {G : omG} (v1 : Int) (σ : omH) (t : Int × omH) (h : s_L_completion v1 σ = some t) : omM G yL_completion (.codeWith yL_completion cL_completion 4 (some .int) [(0, 9, 12, 21), (0, 9, 15, 15)]) 4 2 [.ref (G.1 16), .int (omi v1), .ref (G.1 60)] σ (.inr (some (.int (omi t.1)))) t.2 := by
  unfold s_L_completion at h
  refine om_headH (own := RL) (ls := [(0, .ref (G.1 16)), (1, .int (omi v1)), (2, .ref (G.1 60))]) (by decide +kernel) rfl (by simp [lg_sl, Value.category]) rfl (by simp [Value.category]) (fun x C F => ?_)
  refine v_aload_n C (q := 2) rfl rfl dL_completion_0 ?_
  refine v_iconst C (n := 0) dL_completion_1 ?_
  refine v_aload_n C (q := 0) rfl rfl dL_completion_2 ?_
  refine v_iload_n C (q := 1) rfl rfl dL_completion_3 ?_
  obtain ⟨r1, er1, h⟩ := om_bind h
  rcases r1 with u2 | u2
  · replace h := (Sum.elim_inl _ _ _).symm.trans h
    by_cases hc0 : u2 = 3
    · replace h := (if_pos hc0).symm.trans h
      subst hc0
      refine v_invV_cat (E := "java/lang/IndexOutOfBoundsException") (As := [.int (omi v1)]) (pre := []) (z := (0, 9, 12, 21)) (suf := [(0, 9, 15, 15)]) C mi_X11_completion ml_L_65 (k_X11_completion v1 σ _ er1) (q := 0) rfl rfl rfl (by decide) (by decide) rfl (Nat.le_of_ble_eq_true rfl) dL_completion_4 F rfl rfl (by decide) cl_L_21 (en := 3) rfl (fun z hz => by cases hz) (fun q9 => ?_)
      refine v_astore_n C (ls' := [(0, .ref (G.1 16)), (1, .int (omi v1)), (2, .ref (G.1 60)), (3, .ref q9)]) rfl (by decide) rfl dL_completion_12 ?_
      refine v_iconst C (n := 1) dL_completion_13 ?_
      cases h
      exact v_iret C F dL_completion_14 (by decide)
    · replace h := (if_neg hc0).symm.trans h
      by_cases hc1 : u2 = 2
      · replace h := (if_pos hc1).symm.trans h
        subst hc1
        refine v_invV_cat (E := "java/lang/IllegalStateException") (As := [.int (omi v1)]) (pre := [(0, 9, 12, 21)]) (z := (0, 9, 15, 15)) (suf := []) C mi_X11_completion ml_L_65 (k_X11_completion v1 σ _ er1) (q := 0) rfl rfl rfl (by decide) (by decide) rfl (Nat.le_of_ble_eq_true rfl) dL_completion_4 F rfl rfl (by decide) cl_L_15 (en := 2) rfl (fun z hz => by rw [List.mem_singleton.mp hz]; exact ⟨by decide, _, cl_L_21, by unfold omPass; decide⟩) (fun q9 => ?_)
        refine v_astore_n C (ls' := [(0, .ref (G.1 16)), (1, .int (omi v1)), (2, .ref (G.1 60)), (3, .ref q9)]) rfl (by decide) rfl dL_completion_15 ?_
        refine v_iconst C (n := 2) dL_completion_16 ?_
        cases h
        exact v_iret C F dL_completion_17 (by decide)
      · replace h := (if_neg hc1).symm.trans h
        cases h
  · replace h := (Sum.elim_inr _ _ _).symm.trans h
    refine v_invV_i (As := [.int (omi v1)]) C mi_X11_completion ml_L_65 (k_X11_completion v1 σ _ er1) (q := 0) rfl rfl rfl (by decide) (by decide) rfl (Nat.le_of_ble_eq_true rfl) dL_completion_4 ?_
    refine v_i2l C dL_completion_7 ?_
    obtain ⟨g3, h⟩ := omg_some h
    refine v_last C (q := 44) (o := 60) (n := 1) rfl g3 dL_completion_8 ?_
    refine v_goto C (tgt := 18) dL_completion_9 rfl ?_
    refine v_iconst C (n := 0) dL_completion_18 ?_
    cases h
    exact v_iret C F dL_completion_19 (by decide)
set_option maxHeartbeats 4000000 in
set_option maxRecDepth 100000 in
theorem k_L_lateness {G : omG} (v1 : Int) (σ : omH) (t : Int × omH) (h : s_L_lateness v1 σ = some t) : omM G yL_lateness (.codeWith yL_lateness cL_lateness 4 (some .int) [(0, 9, 12, 21), (0, 9, 15, 15)]) 4 2 [.ref (G.1 16), .int (omi v1), .ref (G.1 60)] σ (.inr (some (.int (omi t.1)))) t.2 := by
  unfold s_L_lateness at h
  refine om_headH (own := RL) (ls := [(0, .ref (G.1 16)), (1, .int (omi v1)), (2, .ref (G.1 60))]) (by decide +kernel) rfl (by simp [lg_sl, Value.category]) rfl (by simp [Value.category]) (fun x C F => ?_)
  refine v_aload_n C (q := 2) rfl rfl dL_lateness_0 ?_
  refine v_iconst C (n := 0) dL_lateness_1 ?_
  refine v_aload_n C (q := 0) rfl rfl dL_lateness_2 ?_
  refine v_iload_n C (q := 1) rfl rfl dL_lateness_3 ?_
  obtain ⟨r1, er1, h⟩ := om_bind h
  rcases r1 with u2 | u2
  · replace h := (Sum.elim_inl _ _ _).symm.trans h
    by_cases hc0 : u2 = 3
    · replace h := (if_pos hc0).symm.trans h
      subst hc0
      refine v_invV_cat (E := "java/lang/IndexOutOfBoundsException") (As := [.int (omi v1)]) (pre := []) (z := (0, 9, 12, 21)) (suf := [(0, 9, 15, 15)]) C mi_X11_lateness ml_L_68 (k_X11_lateness v1 σ _ er1) (q := 0) rfl rfl rfl (by decide) (by decide) rfl (Nat.le_of_ble_eq_true rfl) dL_lateness_4 F rfl rfl (by decide) cl_L_21 (en := 3) rfl (fun z hz => by cases hz) (fun q9 => ?_)
      refine v_astore_n C (ls' := [(0, .ref (G.1 16)), (1, .int (omi v1)), (2, .ref (G.1 60)), (3, .ref q9)]) rfl (by decide) rfl dL_lateness_12 ?_
      refine v_iconst C (n := 1) dL_lateness_13 ?_
      cases h
      exact v_iret C F dL_lateness_14 (by decide)
    · replace h := (if_neg hc0).symm.trans h
      by_cases hc1 : u2 = 2
      · replace h := (if_pos hc1).symm.trans h
        subst hc1
        refine v_invV_cat (E := "java/lang/IllegalStateException") (As := [.int (omi v1)]) (pre := [(0, 9, 12, 21)]) (z := (0, 9, 15, 15)) (suf := []) C mi_X11_lateness ml_L_68 (k_X11_lateness v1 σ _ er1) (q := 0) rfl rfl rfl (by decide) (by decide) rfl (Nat.le_of_ble_eq_true rfl) dL_lateness_4 F rfl rfl (by decide) cl_L_15 (en := 2) rfl (fun z hz => by rw [List.mem_singleton.mp hz]; exact ⟨by decide, _, cl_L_21, by unfold omPass; decide⟩) (fun q9 => ?_)
        refine v_astore_n C (ls' := [(0, .ref (G.1 16)), (1, .int (omi v1)), (2, .ref (G.1 60)), (3, .ref q9)]) rfl (by decide) rfl dL_lateness_15 ?_
        refine v_iconst C (n := 2) dL_lateness_16 ?_
        cases h
        exact v_iret C F dL_lateness_17 (by decide)
      · replace h := (if_neg hc1).symm.trans h
        cases h
  · replace h := (Sum.elim_inr _ _ _).symm.trans h
    refine v_invV_i (As := [.int (omi v1)]) C mi_X11_lateness ml_L_68 (k_X11_lateness v1 σ _ er1) (q := 0) rfl rfl rfl (by decide) (by decide) rfl (Nat.le_of_ble_eq_true rfl) dL_lateness_4 ?_
    refine v_i2l C dL_lateness_7 ?_
    obtain ⟨g3, h⟩ := omg_some h
    refine v_last C (q := 44) (o := 60) (n := 1) rfl g3 dL_lateness_8 ?_
    refine v_goto C (tgt := 18) dL_lateness_9 rfl ?_
    refine v_iconst C (n := 0) dL_lateness_18 ?_
    cases h
    exact v_iret C F dL_lateness_19 (by decide)
set_option maxHeartbeats 4000000 in
set_option maxRecDepth 100000 in
theorem k_L_maxLateness {G : omG}  (σ : omH) (t : Int × omH) (h : s_L_maxLateness  σ = some t) : omM G yL_maxLateness (.codeWith yL_maxLateness cL_maxLateness 3 (some .int) [(0, 8, 11, 15)]) 4 1 [.ref (G.1 16), .ref (G.1 60)] σ (.inr (some (.int (omi t.1)))) t.2 := by
  unfold s_L_maxLateness at h
  refine om_headH (own := RL) (ls := [(0, .ref (G.1 16)), (1, .ref (G.1 60))]) (by decide +kernel) rfl (by simp [lg_sl, Value.category]) rfl (by simp [Value.category]) (fun x C F => ?_)
  refine v_aload_n C (q := 1) rfl rfl dL_maxLateness_0 ?_
  refine v_iconst C (n := 0) dL_maxLateness_1 ?_
  refine v_aload_n C (q := 0) rfl rfl dL_maxLateness_2 ?_
  obtain ⟨r1, er1, h⟩ := om_bind h
  rcases r1 with u2 | u2
  · replace h := (Sum.elim_inl _ _ _).symm.trans h
    by_cases hc0 : u2 = 2
    · replace h := (if_pos hc0).symm.trans h
      subst hc0
      refine v_invV_cat (E := "java/lang/IllegalStateException") (As := []) (pre := []) (z := (0, 8, 11, 15)) (suf := []) C mi_X11_maxLateness ml_L_71 (k_X11_maxLateness  σ _ er1) (q := 0) rfl rfl rfl (by decide) (by decide) rfl (Nat.le_of_ble_eq_true rfl) dL_maxLateness_3 F rfl rfl (by decide) cl_L_15 (en := 2) rfl (fun z hz => by cases hz) (fun q9 => ?_)
      refine v_astore_n C (ls' := [(0, .ref (G.1 16)), (1, .ref (G.1 60)), (2, .ref q9)]) rfl (by decide) rfl dL_maxLateness_11 ?_
      refine v_iconst C (n := 1) dL_maxLateness_12 ?_
      cases h
      exact v_iret C F dL_maxLateness_13 (by decide)
    · replace h := (if_neg hc0).symm.trans h
      cases h
  · replace h := (Sum.elim_inr _ _ _).symm.trans h
    refine v_invV_i (As := []) C mi_X11_maxLateness ml_L_71 (k_X11_maxLateness  σ _ er1) (q := 0) rfl rfl rfl (by decide) (by decide) rfl (Nat.le_of_ble_eq_true rfl) dL_maxLateness_3 ?_
    refine v_i2l C dL_maxLateness_6 ?_
    obtain ⟨g3, h⟩ := omg_some h
    refine v_last C (q := 44) (o := 60) (n := 1) rfl g3 dL_maxLateness_7 ?_
    refine v_goto C (tgt := 14) dL_maxLateness_8 rfl ?_
    refine v_iconst C (n := 0) dL_maxLateness_14 ?_
    cases h
    exact v_iret C F dL_maxLateness_15 (by decide)
set_option maxHeartbeats 4000000 in
set_option maxRecDepth 100000 in
theorem k_L_lateJobs {G : omG}  (σ : omH) (t : Int × omH) (h : s_L_lateJobs  σ = some t) : omM G yL_lateJobs (.codeWith yL_lateJobs cL_lateJobs 3 (some .int) [(0, 8, 11, 15)]) 4 1 [.ref (G.1 16), .ref (G.1 60)] σ (.inr (some (.int (omi t.1)))) t.2 := by
  unfold s_L_lateJobs at h
  refine om_headH (own := RL) (ls := [(0, .ref (G.1 16)), (1, .ref (G.1 60))]) (by decide +kernel) rfl (by simp [lg_sl, Value.category]) rfl (by simp [Value.category]) (fun x C F => ?_)
  refine v_aload_n C (q := 1) rfl rfl dL_lateJobs_0 ?_
  refine v_iconst C (n := 0) dL_lateJobs_1 ?_
  refine v_aload_n C (q := 0) rfl rfl dL_lateJobs_2 ?_
  obtain ⟨r1, er1, h⟩ := om_bind h
  rcases r1 with u2 | u2
  · replace h := (Sum.elim_inl _ _ _).symm.trans h
    by_cases hc0 : u2 = 2
    · replace h := (if_pos hc0).symm.trans h
      subst hc0
      refine v_invV_cat (E := "java/lang/IllegalStateException") (As := []) (pre := []) (z := (0, 8, 11, 15)) (suf := []) C mi_X11_lateJobs ml_L_74 (k_X11_lateJobs  σ _ er1) (q := 0) rfl rfl rfl (by decide) (by decide) rfl (Nat.le_of_ble_eq_true rfl) dL_lateJobs_3 F rfl rfl (by decide) cl_L_15 (en := 2) rfl (fun z hz => by cases hz) (fun q9 => ?_)
      refine v_astore_n C (ls' := [(0, .ref (G.1 16)), (1, .ref (G.1 60)), (2, .ref q9)]) rfl (by decide) rfl dL_lateJobs_11 ?_
      refine v_iconst C (n := 1) dL_lateJobs_12 ?_
      cases h
      exact v_iret C F dL_lateJobs_13 (by decide)
    · replace h := (if_neg hc0).symm.trans h
      cases h
  · replace h := (Sum.elim_inr _ _ _).symm.trans h
    refine v_invV_i (As := []) C mi_X11_lateJobs ml_L_74 (k_X11_lateJobs  σ _ er1) (q := 0) rfl rfl rfl (by decide) (by decide) rfl (Nat.le_of_ble_eq_true rfl) dL_lateJobs_3 ?_
    refine v_i2l C dL_lateJobs_6 ?_
    obtain ⟨g3, h⟩ := omg_some h
    refine v_last C (q := 44) (o := 60) (n := 1) rfl g3 dL_lateJobs_7 ?_
    refine v_goto C (tgt := 14) dL_lateJobs_8 rfl ?_
    refine v_iconst C (n := 0) dL_lateJobs_14 ?_
    cases h
    exact v_iret C F dL_lateJobs_15 (by decide)
set_option maxHeartbeats 4000000 in
set_option maxRecDepth 100000 in
theorem k_L_completions {G : omG}  (σ : omH) (t : Int × omH) (h : s_L_completions  σ = some t) : omM G yL_completions (.codeWith yL_completions cL_completions 3 (some .int) [(0, 8, 11, 15)]) 4 1 [.ref (G.1 16), .ref (G.1 60)] σ (.inr (some (.int (omi t.1)))) t.2 := by
  unfold s_L_completions at h
  refine om_headH (own := RL) (ls := [(0, .ref (G.1 16)), (1, .ref (G.1 60))]) (by decide +kernel) rfl (by simp [lg_sl, Value.category]) rfl (by simp [Value.category]) (fun x C F => ?_)
  refine v_aload_n C (q := 1) rfl rfl dL_completions_0 ?_
  refine v_iconst C (n := 0) dL_completions_1 ?_
  refine v_aload_n C (q := 0) rfl rfl dL_completions_2 ?_
  obtain ⟨r1, er1, h⟩ := om_bind h
  rcases r1 with u2 | u2
  · replace h := (Sum.elim_inl _ _ _).symm.trans h
    by_cases hc0 : u2 = 2
    · replace h := (if_pos hc0).symm.trans h
      subst hc0
      refine v_invV_cat (E := "java/lang/IllegalStateException") (As := []) (pre := []) (z := (0, 8, 11, 15)) (suf := []) C mi_X11_completions ml_L_77 (k_X11_completions  σ _ er1) (q := 0) rfl rfl rfl (by decide) (by decide) rfl (Nat.le_of_ble_eq_true rfl) dL_completions_3 F rfl rfl (by decide) cl_L_15 (en := 2) rfl (fun z hz => by cases hz) (fun q9 => ?_)
      refine v_astore_n C (ls' := [(0, .ref (G.1 16)), (1, .ref (G.1 60)), (2, .ref q9)]) rfl (by decide) rfl dL_completions_11 ?_
      refine v_iconst C (n := 1) dL_completions_12 ?_
      cases h
      exact v_iret C F dL_completions_13 (by decide)
    · replace h := (if_neg hc0).symm.trans h
      cases h
  · replace h := (Sum.elim_inr _ _ _).symm.trans h
    refine v_invV_i (As := []) C mi_X11_completions ml_L_77 (k_X11_completions  σ _ er1) (q := 0) rfl rfl rfl (by decide) (by decide) rfl (Nat.le_of_ble_eq_true rfl) dL_completions_3 ?_
    refine v_i2l C dL_completions_6 ?_
    obtain ⟨g3, h⟩ := omg_some h
    refine v_last C (q := 44) (o := 60) (n := 1) rfl g3 dL_completions_7 ?_
    refine v_goto C (tgt := 14) dL_completions_8 rfl ?_
    refine v_iconst C (n := 0) dL_completions_14 ?_
    cases h
    exact v_iret C F dL_completions_15 (by decide)
set_option maxHeartbeats 4000000 in
set_option maxRecDepth 100000 in
theorem k_L_weightedCompletions {G : omG}  (σ : omH) (t : Int × omH) (h : s_L_weightedCompletions  σ = some t) : omM G yL_weightedCompletions (.codeWith yL_weightedCompletions cL_weightedCompletions 3 (some .int) [(0, 8, 11, 15)]) 4 1 [.ref (G.1 16), .ref (G.1 60)] σ (.inr (some (.int (omi t.1)))) t.2 := by
  unfold s_L_weightedCompletions at h
  refine om_headH (own := RL) (ls := [(0, .ref (G.1 16)), (1, .ref (G.1 60))]) (by decide +kernel) rfl (by simp [lg_sl, Value.category]) rfl (by simp [Value.category]) (fun x C F => ?_)
  refine v_aload_n C (q := 1) rfl rfl dL_weightedCompletions_0 ?_
  refine v_iconst C (n := 0) dL_weightedCompletions_1 ?_
  refine v_aload_n C (q := 0) rfl rfl dL_weightedCompletions_2 ?_
  obtain ⟨r1, er1, h⟩ := om_bind h
  rcases r1 with u2 | u2
  · replace h := (Sum.elim_inl _ _ _).symm.trans h
    by_cases hc0 : u2 = 2
    · replace h := (if_pos hc0).symm.trans h
      subst hc0
      refine v_invV_cat (E := "java/lang/IllegalStateException") (As := []) (pre := []) (z := (0, 8, 11, 15)) (suf := []) C mi_X11_weightedCompletions ml_L_80 (k_X11_weightedCompletions  σ _ er1) (q := 0) rfl rfl rfl (by decide) (by decide) rfl (Nat.le_of_ble_eq_true rfl) dL_weightedCompletions_3 F rfl rfl (by decide) cl_L_15 (en := 2) rfl (fun z hz => by cases hz) (fun q9 => ?_)
      refine v_astore_n C (ls' := [(0, .ref (G.1 16)), (1, .ref (G.1 60)), (2, .ref q9)]) rfl (by decide) rfl dL_weightedCompletions_11 ?_
      refine v_iconst C (n := 1) dL_weightedCompletions_12 ?_
      cases h
      exact v_iret C F dL_weightedCompletions_13 (by decide)
    · replace h := (if_neg hc0).symm.trans h
      cases h
  · replace h := (Sum.elim_inr _ _ _).symm.trans h
    refine v_invV_i (As := []) C mi_X11_weightedCompletions ml_L_80 (k_X11_weightedCompletions  σ _ er1) (q := 0) rfl rfl rfl (by decide) (by decide) rfl (Nat.le_of_ble_eq_true rfl) dL_weightedCompletions_3 ?_
    refine v_i2l C dL_weightedCompletions_6 ?_
    obtain ⟨g3, h⟩ := omg_some h
    refine v_last C (q := 44) (o := 60) (n := 1) rfl g3 dL_weightedCompletions_7 ?_
    refine v_goto C (tgt := 14) dL_weightedCompletions_8 rfl ?_
    refine v_iconst C (n := 0) dL_weightedCompletions_14 ?_
    cases h
    exact v_iret C F dL_weightedCompletions_15 (by decide)
set_option maxHeartbeats 4000000 in
set_option maxRecDepth 100000 in
theorem k_L_weightedTardiness {G : omG}  (σ : omH) (t : Int × omH) (h : s_L_weightedTardiness  σ = some t) : omM G yL_weightedTardiness (.codeWith yL_weightedTardiness cL_weightedTardiness 3 (some .int) [(0, 8, 11, 15)]) 4 1 [.ref (G.1 16), .ref (G.1 60)] σ (.inr (some (.int (omi t.1)))) t.2 := by
  unfold s_L_weightedTardiness at h
  refine om_headH (own := RL) (ls := [(0, .ref (G.1 16)), (1, .ref (G.1 60))]) (by decide +kernel) rfl (by simp [lg_sl, Value.category]) rfl (by simp [Value.category]) (fun x C F => ?_)
  refine v_aload_n C (q := 1) rfl rfl dL_weightedTardiness_0 ?_
  refine v_iconst C (n := 0) dL_weightedTardiness_1 ?_
  refine v_aload_n C (q := 0) rfl rfl dL_weightedTardiness_2 ?_
  obtain ⟨r1, er1, h⟩ := om_bind h
  rcases r1 with u2 | u2
  · replace h := (Sum.elim_inl _ _ _).symm.trans h
    by_cases hc0 : u2 = 2
    · replace h := (if_pos hc0).symm.trans h
      subst hc0
      refine v_invV_cat (E := "java/lang/IllegalStateException") (As := []) (pre := []) (z := (0, 8, 11, 15)) (suf := []) C mi_X11_weightedTardiness ml_L_83 (k_X11_weightedTardiness  σ _ er1) (q := 0) rfl rfl rfl (by decide) (by decide) rfl (Nat.le_of_ble_eq_true rfl) dL_weightedTardiness_3 F rfl rfl (by decide) cl_L_15 (en := 2) rfl (fun z hz => by cases hz) (fun q9 => ?_)
      refine v_astore_n C (ls' := [(0, .ref (G.1 16)), (1, .ref (G.1 60)), (2, .ref q9)]) rfl (by decide) rfl dL_weightedTardiness_11 ?_
      refine v_iconst C (n := 1) dL_weightedTardiness_12 ?_
      cases h
      exact v_iret C F dL_weightedTardiness_13 (by decide)
    · replace h := (if_neg hc0).symm.trans h
      cases h
  · replace h := (Sum.elim_inr _ _ _).symm.trans h
    refine v_invV_i (As := []) C mi_X11_weightedTardiness ml_L_83 (k_X11_weightedTardiness  σ _ er1) (q := 0) rfl rfl rfl (by decide) (by decide) rfl (Nat.le_of_ble_eq_true rfl) dL_weightedTardiness_3 ?_
    refine v_i2l C dL_weightedTardiness_6 ?_
    obtain ⟨g3, h⟩ := omg_some h
    refine v_last C (q := 44) (o := 60) (n := 1) rfl g3 dL_weightedTardiness_7 ?_
    refine v_goto C (tgt := 14) dL_weightedTardiness_8 rfl ?_
    refine v_iconst C (n := 0) dL_weightedTardiness_14 ?_
    cases h
    exact v_iret C F dL_weightedTardiness_15 (by decide)
set_option maxHeartbeats 4000000 in
set_option maxRecDepth 100000 in
theorem k_L_leastLateness {G : omG}  (σ : omH) (t : Int × omH) (h : s_L_leastLateness  σ = some t) : omM G yL_leastLateness (.codeWith yL_leastLateness cL_leastLateness 3 (some .int) [(0, 8, 11, 15)]) 17 1 [.ref (G.1 16), .ref (G.1 60)] σ (.inr (some (.int (omi t.1)))) t.2 := by
  unfold s_L_leastLateness at h
  refine om_headH (own := RL) (ls := [(0, .ref (G.1 16)), (1, .ref (G.1 60))]) (by decide +kernel) rfl (by simp [lg_sl, Value.category]) rfl (by simp [Value.category]) (fun x C F => ?_)
  refine v_aload_n C (q := 1) rfl rfl dL_leastLateness_0 ?_
  refine v_iconst C (n := 0) dL_leastLateness_1 ?_
  refine v_aload_n C (q := 0) rfl rfl dL_leastLateness_2 ?_
  obtain ⟨r1, er1, h⟩ := om_bind h
  rcases r1 with u2 | u2
  · replace h := (Sum.elim_inl _ _ _).symm.trans h
    by_cases hc0 : u2 = 2
    · replace h := (if_pos hc0).symm.trans h
      subst hc0
      refine v_invV_cat (E := "java/lang/IllegalStateException") (As := []) (pre := []) (z := (0, 8, 11, 15)) (suf := []) C mi_X11_leastLateness ml_L_86 (k_X11_leastLateness  σ _ er1) (q := 0) rfl rfl rfl (by decide) (by decide) rfl (Nat.le_of_ble_eq_true rfl) dL_leastLateness_3 F rfl rfl (by decide) cl_L_15 (en := 2) rfl (fun z hz => by cases hz) (fun q9 => ?_)
      refine v_astore_n C (ls' := [(0, .ref (G.1 16)), (1, .ref (G.1 60)), (2, .ref q9)]) rfl (by decide) rfl dL_leastLateness_11 ?_
      refine v_iconst C (n := 1) dL_leastLateness_12 ?_
      cases h
      exact v_iret C F dL_leastLateness_13 (by decide)
    · replace h := (if_neg hc0).symm.trans h
      cases h
  · replace h := (Sum.elim_inr _ _ _).symm.trans h
    refine v_invV_i (As := []) C mi_X11_leastLateness ml_L_86 (k_X11_leastLateness  σ _ er1) (q := 0) rfl rfl rfl (by decide) (by decide) rfl (Nat.le_of_ble_eq_true rfl) dL_leastLateness_3 ?_
    refine v_i2l C dL_leastLateness_6 ?_
    obtain ⟨g3, h⟩ := omg_some h
    refine v_last C (q := 44) (o := 60) (n := 1) rfl g3 dL_leastLateness_7 ?_
    refine v_goto C (tgt := 14) dL_leastLateness_8 rfl ?_
    refine v_iconst C (n := 0) dL_leastLateness_14 ?_
    cases h
    exact v_iret C F dL_leastLateness_15 (by decide)
set_option maxHeartbeats 4000000 in
set_option maxRecDepth 100000 in
theorem k_L_leastCompletions {G : omG}  (σ : omH) (t : Int × omH) (h : s_L_leastCompletions  σ = some t) : omM G yL_leastCompletions (.codeWith yL_leastCompletions cL_leastCompletions 3 (some .int) [(0, 8, 11, 15)]) 17 1 [.ref (G.1 16), .ref (G.1 60)] σ (.inr (some (.int (omi t.1)))) t.2 := by
  unfold s_L_leastCompletions at h
  refine om_headH (own := RL) (ls := [(0, .ref (G.1 16)), (1, .ref (G.1 60))]) (by decide +kernel) rfl (by simp [lg_sl, Value.category]) rfl (by simp [Value.category]) (fun x C F => ?_)
  refine v_aload_n C (q := 1) rfl rfl dL_leastCompletions_0 ?_
  refine v_iconst C (n := 0) dL_leastCompletions_1 ?_
  refine v_aload_n C (q := 0) rfl rfl dL_leastCompletions_2 ?_
  obtain ⟨r1, er1, h⟩ := om_bind h
  rcases r1 with u2 | u2
  · replace h := (Sum.elim_inl _ _ _).symm.trans h
    by_cases hc0 : u2 = 2
    · replace h := (if_pos hc0).symm.trans h
      subst hc0
      refine v_invV_cat (E := "java/lang/IllegalStateException") (As := []) (pre := []) (z := (0, 8, 11, 15)) (suf := []) C mi_X11_leastCompletions ml_L_89 (k_X11_leastCompletions  σ _ er1) (q := 0) rfl rfl rfl (by decide) (by decide) rfl (Nat.le_of_ble_eq_true rfl) dL_leastCompletions_3 F rfl rfl (by decide) cl_L_15 (en := 2) rfl (fun z hz => by cases hz) (fun q9 => ?_)
      refine v_astore_n C (ls' := [(0, .ref (G.1 16)), (1, .ref (G.1 60)), (2, .ref q9)]) rfl (by decide) rfl dL_leastCompletions_11 ?_
      refine v_iconst C (n := 1) dL_leastCompletions_12 ?_
      cases h
      exact v_iret C F dL_leastCompletions_13 (by decide)
    · replace h := (if_neg hc0).symm.trans h
      cases h
  · replace h := (Sum.elim_inr _ _ _).symm.trans h
    refine v_invV_i (As := []) C mi_X11_leastCompletions ml_L_89 (k_X11_leastCompletions  σ _ er1) (q := 0) rfl rfl rfl (by decide) (by decide) rfl (Nat.le_of_ble_eq_true rfl) dL_leastCompletions_3 ?_
    refine v_i2l C dL_leastCompletions_6 ?_
    obtain ⟨g3, h⟩ := omg_some h
    refine v_last C (q := 44) (o := 60) (n := 1) rfl g3 dL_leastCompletions_7 ?_
    refine v_goto C (tgt := 14) dL_leastCompletions_8 rfl ?_
    refine v_iconst C (n := 0) dL_leastCompletions_14 ?_
    cases h
    exact v_iret C F dL_leastCompletions_15 (by decide)
set_option maxHeartbeats 4000000 in
set_option maxRecDepth 100000 in
theorem k_L_leastTardiness {G : omG}  (σ : omH) (t : Int × omH) (h : s_L_leastTardiness  σ = some t) : omM G yL_leastTardiness (.codeWith yL_leastTardiness cL_leastTardiness 3 (some .int) [(0, 8, 11, 15)]) 17 1 [.ref (G.1 16), .ref (G.1 60)] σ (.inr (some (.int (omi t.1)))) t.2 := by
  unfold s_L_leastTardiness at h
  refine om_headH (own := RL) (ls := [(0, .ref (G.1 16)), (1, .ref (G.1 60))]) (by decide +kernel) rfl (by simp [lg_sl, Value.category]) rfl (by simp [Value.category]) (fun x C F => ?_)
  refine v_aload_n C (q := 1) rfl rfl dL_leastTardiness_0 ?_
  refine v_iconst C (n := 0) dL_leastTardiness_1 ?_
  refine v_aload_n C (q := 0) rfl rfl dL_leastTardiness_2 ?_
  obtain ⟨r1, er1, h⟩ := om_bind h
  rcases r1 with u2 | u2
  · replace h := (Sum.elim_inl _ _ _).symm.trans h
    by_cases hc0 : u2 = 2
    · replace h := (if_pos hc0).symm.trans h
      subst hc0
      refine v_invV_cat (E := "java/lang/IllegalStateException") (As := []) (pre := []) (z := (0, 8, 11, 15)) (suf := []) C mi_X11_leastTardiness ml_L_92 (k_X11_leastTardiness  σ _ er1) (q := 0) rfl rfl rfl (by decide) (by decide) rfl (Nat.le_of_ble_eq_true rfl) dL_leastTardiness_3 F rfl rfl (by decide) cl_L_15 (en := 2) rfl (fun z hz => by cases hz) (fun q9 => ?_)
      refine v_astore_n C (ls' := [(0, .ref (G.1 16)), (1, .ref (G.1 60)), (2, .ref q9)]) rfl (by decide) rfl dL_leastTardiness_11 ?_
      refine v_iconst C (n := 1) dL_leastTardiness_12 ?_
      cases h
      exact v_iret C F dL_leastTardiness_13 (by decide)
    · replace h := (if_neg hc0).symm.trans h
      cases h
  · replace h := (Sum.elim_inr _ _ _).symm.trans h
    refine v_invV_i (As := []) C mi_X11_leastTardiness ml_L_92 (k_X11_leastTardiness  σ _ er1) (q := 0) rfl rfl rfl (by decide) (by decide) rfl (Nat.le_of_ble_eq_true rfl) dL_leastTardiness_3 ?_
    refine v_i2l C dL_leastTardiness_6 ?_
    obtain ⟨g3, h⟩ := omg_some h
    refine v_last C (q := 44) (o := 60) (n := 1) rfl g3 dL_leastTardiness_7 ?_
    refine v_goto C (tgt := 14) dL_leastTardiness_8 rfl ?_
    refine v_iconst C (n := 0) dL_leastTardiness_14 ?_
    cases h
    exact v_iret C F dL_leastTardiness_15 (by decide)
set_option maxHeartbeats 4000000 in
set_option maxRecDepth 100000 in
theorem k_L_leastWithSetups {G : omG}  (σ : omH) (t : Int × omH) (h : s_L_leastWithSetups  σ = some t) : omM G yL_leastWithSetups (.codeWith yL_leastWithSetups cL_leastWithSetups 3 (some .int) [(0, 8, 11, 15)]) 17 1 [.ref (G.1 16), .ref (G.1 60)] σ (.inr (some (.int (omi t.1)))) t.2 := by
  unfold s_L_leastWithSetups at h
  refine om_headH (own := RL) (ls := [(0, .ref (G.1 16)), (1, .ref (G.1 60))]) (by decide +kernel) rfl (by simp [lg_sl, Value.category]) rfl (by simp [Value.category]) (fun x C F => ?_)
  refine v_aload_n C (q := 1) rfl rfl dL_leastWithSetups_0 ?_
  refine v_iconst C (n := 0) dL_leastWithSetups_1 ?_
  refine v_aload_n C (q := 0) rfl rfl dL_leastWithSetups_2 ?_
  obtain ⟨r1, er1, h⟩ := om_bind h
  rcases r1 with u2 | u2
  · replace h := (Sum.elim_inl _ _ _).symm.trans h
    by_cases hc0 : u2 = 2
    · replace h := (if_pos hc0).symm.trans h
      subst hc0
      refine v_invV_cat (E := "java/lang/IllegalStateException") (As := []) (pre := []) (z := (0, 8, 11, 15)) (suf := []) C mi_X11_leastWithSetups ml_L_95 (k_X11_leastWithSetups  σ _ er1) (q := 0) rfl rfl rfl (by decide) (by decide) rfl (Nat.le_of_ble_eq_true rfl) dL_leastWithSetups_3 F rfl rfl (by decide) cl_L_15 (en := 2) rfl (fun z hz => by cases hz) (fun q9 => ?_)
      refine v_astore_n C (ls' := [(0, .ref (G.1 16)), (1, .ref (G.1 60)), (2, .ref q9)]) rfl (by decide) rfl dL_leastWithSetups_11 ?_
      refine v_iconst C (n := 1) dL_leastWithSetups_12 ?_
      cases h
      exact v_iret C F dL_leastWithSetups_13 (by decide)
    · replace h := (if_neg hc0).symm.trans h
      cases h
  · replace h := (Sum.elim_inr _ _ _).symm.trans h
    refine v_invV_i (As := []) C mi_X11_leastWithSetups ml_L_95 (k_X11_leastWithSetups  σ _ er1) (q := 0) rfl rfl rfl (by decide) (by decide) rfl (Nat.le_of_ble_eq_true rfl) dL_leastWithSetups_3 ?_
    refine v_i2l C dL_leastWithSetups_6 ?_
    obtain ⟨g3, h⟩ := omg_some h
    refine v_last C (q := 44) (o := 60) (n := 1) rfl g3 dL_leastWithSetups_7 ?_
    refine v_goto C (tgt := 14) dL_leastWithSetups_8 rfl ?_
    refine v_iconst C (n := 0) dL_leastWithSetups_14 ?_
    cases h
    exact v_iret C F dL_leastWithSetups_15 (by decide)
set_option maxHeartbeats 4000000 in
set_option maxRecDepth 100000 in
theorem k_L_leastPreemptiveLateness {G : omG}  (σ : omH) (t : Int × omH) (h : s_L_leastPreemptiveLateness  σ = some t) : omM G yL_leastPreemptiveLateness (.codeWith yL_leastPreemptiveLateness cL_leastPreemptiveLateness 3 (some .int) [(0, 8, 11, 15)]) 17 1 [.ref (G.1 16), .ref (G.1 60)] σ (.inr (some (.int (omi t.1)))) t.2 := by
  unfold s_L_leastPreemptiveLateness at h
  refine om_headH (own := RL) (ls := [(0, .ref (G.1 16)), (1, .ref (G.1 60))]) (by decide +kernel) rfl (by simp [lg_sl, Value.category]) rfl (by simp [Value.category]) (fun x C F => ?_)
  refine v_aload_n C (q := 1) rfl rfl dL_leastPreemptiveLateness_0 ?_
  refine v_iconst C (n := 0) dL_leastPreemptiveLateness_1 ?_
  refine v_aload_n C (q := 0) rfl rfl dL_leastPreemptiveLateness_2 ?_
  obtain ⟨r1, er1, h⟩ := om_bind h
  rcases r1 with u2 | u2
  · replace h := (Sum.elim_inl _ _ _).symm.trans h
    by_cases hc0 : u2 = 2
    · replace h := (if_pos hc0).symm.trans h
      subst hc0
      refine v_invV_cat (E := "java/lang/IllegalStateException") (As := []) (pre := []) (z := (0, 8, 11, 15)) (suf := []) C mi_X11_leastPreemptiveLateness ml_L_98 (k_X11_leastPreemptiveLateness  σ _ er1) (q := 0) rfl rfl rfl (by decide) (by decide) rfl (Nat.le_of_ble_eq_true rfl) dL_leastPreemptiveLateness_3 F rfl rfl (by decide) cl_L_15 (en := 2) rfl (fun z hz => by cases hz) (fun q9 => ?_)
      refine v_astore_n C (ls' := [(0, .ref (G.1 16)), (1, .ref (G.1 60)), (2, .ref q9)]) rfl (by decide) rfl dL_leastPreemptiveLateness_11 ?_
      refine v_iconst C (n := 1) dL_leastPreemptiveLateness_12 ?_
      cases h
      exact v_iret C F dL_leastPreemptiveLateness_13 (by decide)
    · replace h := (if_neg hc0).symm.trans h
      cases h
  · replace h := (Sum.elim_inr _ _ _).symm.trans h
    refine v_invV_i (As := []) C mi_X11_leastPreemptiveLateness ml_L_98 (k_X11_leastPreemptiveLateness  σ _ er1) (q := 0) rfl rfl rfl (by decide) (by decide) rfl (Nat.le_of_ble_eq_true rfl) dL_leastPreemptiveLateness_3 ?_
    refine v_i2l C dL_leastPreemptiveLateness_6 ?_
    obtain ⟨g3, h⟩ := omg_some h
    refine v_last C (q := 44) (o := 60) (n := 1) rfl g3 dL_leastPreemptiveLateness_7 ?_
    refine v_goto C (tgt := 14) dL_leastPreemptiveLateness_8 rfl ?_
    refine v_iconst C (n := 0) dL_leastPreemptiveLateness_14 ?_
    cases h
    exact v_iret C F dL_leastPreemptiveLateness_15 (by decide)
set_option maxHeartbeats 4000000 in
set_option maxRecDepth 100000 in
theorem k_L_leastPreemptiveCompletions {G : omG}  (σ : omH) (t : Int × omH) (h : s_L_leastPreemptiveCompletions  σ = some t) : omM G yL_leastPreemptiveCompletions (.codeWith yL_leastPreemptiveCompletions cL_leastPreemptiveCompletions 3 (some .int) [(0, 8, 11, 15)]) 17 1 [.ref (G.1 16), .ref (G.1 60)] σ (.inr (some (.int (omi t.1)))) t.2 := by
  unfold s_L_leastPreemptiveCompletions at h
  refine om_headH (own := RL) (ls := [(0, .ref (G.1 16)), (1, .ref (G.1 60))]) (by decide +kernel) rfl (by simp [lg_sl, Value.category]) rfl (by simp [Value.category]) (fun x C F => ?_)
  refine v_aload_n C (q := 1) rfl rfl dL_leastPreemptiveCompletions_0 ?_
  refine v_iconst C (n := 0) dL_leastPreemptiveCompletions_1 ?_
  refine v_aload_n C (q := 0) rfl rfl dL_leastPreemptiveCompletions_2 ?_
  obtain ⟨r1, er1, h⟩ := om_bind h
  rcases r1 with u2 | u2
  · replace h := (Sum.elim_inl _ _ _).symm.trans h
    by_cases hc0 : u2 = 2
    · replace h := (if_pos hc0).symm.trans h
      subst hc0
      refine v_invV_cat (E := "java/lang/IllegalStateException") (As := []) (pre := []) (z := (0, 8, 11, 15)) (suf := []) C mi_X11_leastPreemptiveCompletions ml_L_101 (k_X11_leastPreemptiveCompletions  σ _ er1) (q := 0) rfl rfl rfl (by decide) (by decide) rfl (Nat.le_of_ble_eq_true rfl) dL_leastPreemptiveCompletions_3 F rfl rfl (by decide) cl_L_15 (en := 2) rfl (fun z hz => by cases hz) (fun q9 => ?_)
      refine v_astore_n C (ls' := [(0, .ref (G.1 16)), (1, .ref (G.1 60)), (2, .ref q9)]) rfl (by decide) rfl dL_leastPreemptiveCompletions_11 ?_
      refine v_iconst C (n := 1) dL_leastPreemptiveCompletions_12 ?_
      cases h
      exact v_iret C F dL_leastPreemptiveCompletions_13 (by decide)
    · replace h := (if_neg hc0).symm.trans h
      cases h
  · replace h := (Sum.elim_inr _ _ _).symm.trans h
    refine v_invV_i (As := []) C mi_X11_leastPreemptiveCompletions ml_L_101 (k_X11_leastPreemptiveCompletions  σ _ er1) (q := 0) rfl rfl rfl (by decide) (by decide) rfl (Nat.le_of_ble_eq_true rfl) dL_leastPreemptiveCompletions_3 ?_
    refine v_i2l C dL_leastPreemptiveCompletions_6 ?_
    obtain ⟨g3, h⟩ := omg_some h
    refine v_last C (q := 44) (o := 60) (n := 1) rfl g3 dL_leastPreemptiveCompletions_7 ?_
    refine v_goto C (tgt := 14) dL_leastPreemptiveCompletions_8 rfl ?_
    refine v_iconst C (n := 0) dL_leastPreemptiveCompletions_14 ?_
    cases h
    exact v_iret C F dL_leastPreemptiveCompletions_15 (by decide)
set_option maxHeartbeats 4000000 in
set_option maxRecDepth 100000 in
theorem k_L_canBeOnTime {G : omG} (v1 : Int) (σ : omH) (t : Int × omH) (h : s_L_canBeOnTime v1 σ = some t) : omM G yL_canBeOnTime (.codeWith yL_canBeOnTime cL_canBeOnTime 4 (some .int) [(0, 16, 19, 13)]) 5 1 [.ref (G.1 16), .int (omi v1), .ref (G.1 60)] σ (.inr (some (.int (omi t.1)))) t.2 := by
  unfold s_L_canBeOnTime at h
  refine om_headH (own := RL) (ls := [(0, .ref (G.1 16)), (1, .int (omi v1)), (2, .ref (G.1 60))]) (by decide +kernel) rfl (by simp [lg_sl, Value.category]) rfl (by simp [Value.category]) (fun x C F => ?_)
  refine v_aload_n C (q := 2) rfl rfl dL_canBeOnTime_0 ?_
  refine v_iconst C (n := 0) dL_canBeOnTime_1 ?_
  refine v_aload_n C (q := 0) rfl rfl dL_canBeOnTime_2 ?_
  refine v_iload_n C (q := 1) rfl rfl dL_canBeOnTime_3 ?_
  obtain ⟨r1, er1, h⟩ := om_bind h
  rcases r1 with u2 | u2
  · replace h := (Sum.elim_inl _ _ _).symm.trans h
    by_cases hc0 : u2 = 1
    · replace h := (if_pos hc0).symm.trans h
      subst hc0
      refine v_invV_cat (E := "java/lang/IllegalArgumentException") (As := [.int (omi v1)]) (pre := []) (z := (0, 16, 19, 13)) (suf := []) C mi_X11_canBeOnTime ml_L_104 (k_X11_canBeOnTime v1 σ _ er1) (q := 0) rfl rfl rfl (by decide) (by decide) rfl (Nat.le_of_ble_eq_true rfl) dL_canBeOnTime_4 F rfl rfl (by decide) cl_L_13 (en := 1) rfl (fun z hz => by cases hz) (fun q9 => ?_)
      refine v_astore_n C (ls' := [(0, .ref (G.1 16)), (1, .int (omi v1)), (2, .ref (G.1 60)), (3, .ref q9)]) rfl (by decide) rfl dL_canBeOnTime_19 ?_
      refine v_iconst C (n := 1) dL_canBeOnTime_20 ?_
      cases h
      exact v_iret C F dL_canBeOnTime_21 (by decide)
    · replace h := (if_neg hc0).symm.trans h
      cases h
  · replace h := (Sum.elim_inr _ _ _).symm.trans h
    refine v_invV_i (As := [.int (omi v1)]) C mi_X11_canBeOnTime ml_L_104 (k_X11_canBeOnTime v1 σ _ er1) (q := 0) rfl rfl rfl (by decide) (by decide) rfl (Nat.le_of_ble_eq_true rfl) dL_canBeOnTime_4 ?_
    obtain ⟨t3, et3, h⟩ := om_bind h
    have Jt3 : omV G x 4 15 [] [.long (Int64.ofInt t3), .int (omi 0), .ref (G.1 60)] u2.2 (0 + 1) := by
      obtain ⟨g4, h⟩ := omg_some h
      refine v_last C (q := 44) (o := 60) (n := 1) rfl g4 dL_canBeOnTime_15 ?_
      refine v_goto C (tgt := 22) dL_canBeOnTime_16 rfl ?_
      refine v_iconst C (n := 0) dL_canBeOnTime_22 ?_
      cases h
      exact v_iret C F dL_canBeOnTime_23 (by decide)
    clear h
    have h := et3
    clear et3
    refine v_if_eq C (tgt := 14) dL_canBeOnTime_7 rfl (fun hc => ?_) (fun hc => ?_)
    · replace h := (if_pos hc).symm.trans h
      refine v_lconst C (a := 0) rfl dL_canBeOnTime_14 ?_
      cases h
      exact v_subp [] rfl Jt3
    · replace h := (if_neg hc).symm.trans h
      refine v_lconst C (a := 1) rfl dL_canBeOnTime_10 ?_
      refine v_goto C (tgt := 15) dL_canBeOnTime_11 rfl ?_
      cases h
      exact v_subp [] rfl Jt3
set_option maxHeartbeats 4000000 in
set_option maxRecDepth 100000 in
theorem k_L_windowBound {G : omG} (v1 : Int) (σ : omH) (t : Int × omH) (h : s_L_windowBound v1 σ = some t) : omM G yL_windowBound (.codeWith yL_windowBound cL_windowBound 4 (some .int) [(0, 9, 12, 15)]) 5 1 [.ref (G.1 16), .int (omi v1), .ref (G.1 60)] σ (.inr (some (.int (omi t.1)))) t.2 := by
  unfold s_L_windowBound at h
  refine om_headH (own := RL) (ls := [(0, .ref (G.1 16)), (1, .int (omi v1)), (2, .ref (G.1 60))]) (by decide +kernel) rfl (by simp [lg_sl, Value.category]) rfl (by simp [Value.category]) (fun x C F => ?_)
  refine v_aload_n C (q := 2) rfl rfl dL_windowBound_0 ?_
  refine v_iconst C (n := 0) dL_windowBound_1 ?_
  refine v_aload_n C (q := 0) rfl rfl dL_windowBound_2 ?_
  refine v_iload_n C (q := 1) rfl rfl dL_windowBound_3 ?_
  obtain ⟨r1, er1, h⟩ := om_bind h
  rcases r1 with u2 | u2
  · replace h := (Sum.elim_inl _ _ _).symm.trans h
    by_cases hc0 : u2 = 2
    · replace h := (if_pos hc0).symm.trans h
      subst hc0
      refine v_invV_cat (E := "java/lang/IllegalStateException") (As := [.int (omi v1)]) (pre := []) (z := (0, 9, 12, 15)) (suf := []) C mi_X11_windowBound ml_L_108 (k_X11_windowBound v1 σ _ er1) (q := 0) rfl rfl rfl (by decide) (by decide) rfl (Nat.le_of_ble_eq_true rfl) dL_windowBound_4 F rfl rfl (by decide) cl_L_15 (en := 2) rfl (fun z hz => by cases hz) (fun q9 => ?_)
      refine v_astore_n C (ls' := [(0, .ref (G.1 16)), (1, .int (omi v1)), (2, .ref (G.1 60)), (3, .ref q9)]) rfl (by decide) rfl dL_windowBound_12 ?_
      refine v_iconst C (n := 1) dL_windowBound_13 ?_
      cases h
      exact v_iret C F dL_windowBound_14 (by decide)
    · replace h := (if_neg hc0).symm.trans h
      cases h
  · replace h := (Sum.elim_inr _ _ _).symm.trans h
    refine v_invV_i (As := [.int (omi v1)]) C mi_X11_windowBound ml_L_108 (k_X11_windowBound v1 σ _ er1) (q := 0) rfl rfl rfl (by decide) (by decide) rfl (Nat.le_of_ble_eq_true rfl) dL_windowBound_4 ?_
    refine v_i2l C dL_windowBound_7 ?_
    obtain ⟨g3, h⟩ := omg_some h
    refine v_last C (q := 44) (o := 60) (n := 1) rfl g3 dL_windowBound_8 ?_
    refine v_goto C (tgt := 15) dL_windowBound_9 rfl ?_
    refine v_iconst C (n := 0) dL_windowBound_15 ?_
    cases h
    exact v_iret C F dL_windowBound_16 (by decide)
set_option maxHeartbeats 4000000 in
set_option maxRecDepth 100000 in
theorem k_L_windowDue {G : omG}  (σ : omH) (t : Int × omH) (h : s_L_windowDue  σ = some t) : omM G yL_windowDue (.codeWith yL_windowDue cL_windowDue 3 (some .int) [(0, 8, 11, 15)]) 5 1 [.ref (G.1 16), .ref (G.1 60)] σ (.inr (some (.int (omi t.1)))) t.2 := by
  unfold s_L_windowDue at h
  refine om_headH (own := RL) (ls := [(0, .ref (G.1 16)), (1, .ref (G.1 60))]) (by decide +kernel) rfl (by simp [lg_sl, Value.category]) rfl (by simp [Value.category]) (fun x C F => ?_)
  refine v_aload_n C (q := 1) rfl rfl dL_windowDue_0 ?_
  refine v_iconst C (n := 0) dL_windowDue_1 ?_
  refine v_aload_n C (q := 0) rfl rfl dL_windowDue_2 ?_
  obtain ⟨r1, er1, h⟩ := om_bind h
  rcases r1 with u2 | u2
  · replace h := (Sum.elim_inl _ _ _).symm.trans h
    by_cases hc0 : u2 = 2
    · replace h := (if_pos hc0).symm.trans h
      subst hc0
      refine v_invV_cat (E := "java/lang/IllegalStateException") (As := []) (pre := []) (z := (0, 8, 11, 15)) (suf := []) C mi_X11_windowDue ml_L_112 (k_X11_windowDue  σ _ er1) (q := 0) rfl rfl rfl (by decide) (by decide) rfl (Nat.le_of_ble_eq_true rfl) dL_windowDue_3 F rfl rfl (by decide) cl_L_15 (en := 2) rfl (fun z hz => by cases hz) (fun q9 => ?_)
      refine v_astore_n C (ls' := [(0, .ref (G.1 16)), (1, .ref (G.1 60)), (2, .ref q9)]) rfl (by decide) rfl dL_windowDue_11 ?_
      refine v_iconst C (n := 1) dL_windowDue_12 ?_
      cases h
      exact v_iret C F dL_windowDue_13 (by decide)
    · replace h := (if_neg hc0).symm.trans h
      cases h
  · replace h := (Sum.elim_inr _ _ _).symm.trans h
    refine v_invV_i (As := []) C mi_X11_windowDue ml_L_112 (k_X11_windowDue  σ _ er1) (q := 0) rfl rfl rfl (by decide) (by decide) rfl (Nat.le_of_ble_eq_true rfl) dL_windowDue_3 ?_
    refine v_i2l C dL_windowDue_6 ?_
    obtain ⟨g3, h⟩ := omg_some h
    refine v_last C (q := 44) (o := 60) (n := 1) rfl g3 dL_windowDue_7 ?_
    refine v_goto C (tgt := 14) dL_windowDue_8 rfl ?_
    refine v_iconst C (n := 0) dL_windowDue_14 ?_
    cases h
    exact v_iret C F dL_windowDue_15 (by decide)
set_option maxHeartbeats 4000000 in
set_option maxRecDepth 100000 in
theorem k_L_windowRelease {G : omG}  (σ : omH) (t : Int × omH) (h : s_L_windowRelease  σ = some t) : omM G yL_windowRelease (.codeWith yL_windowRelease cL_windowRelease 3 (some .int) [(0, 8, 11, 15)]) 5 1 [.ref (G.1 16), .ref (G.1 60)] σ (.inr (some (.int (omi t.1)))) t.2 := by
  unfold s_L_windowRelease at h
  refine om_headH (own := RL) (ls := [(0, .ref (G.1 16)), (1, .ref (G.1 60))]) (by decide +kernel) rfl (by simp [lg_sl, Value.category]) rfl (by simp [Value.category]) (fun x C F => ?_)
  refine v_aload_n C (q := 1) rfl rfl dL_windowRelease_0 ?_
  refine v_iconst C (n := 0) dL_windowRelease_1 ?_
  refine v_aload_n C (q := 0) rfl rfl dL_windowRelease_2 ?_
  obtain ⟨r1, er1, h⟩ := om_bind h
  rcases r1 with u2 | u2
  · replace h := (Sum.elim_inl _ _ _).symm.trans h
    by_cases hc0 : u2 = 2
    · replace h := (if_pos hc0).symm.trans h
      subst hc0
      refine v_invV_cat (E := "java/lang/IllegalStateException") (As := []) (pre := []) (z := (0, 8, 11, 15)) (suf := []) C mi_X11_windowRelease ml_L_115 (k_X11_windowRelease  σ _ er1) (q := 0) rfl rfl rfl (by decide) (by decide) rfl (Nat.le_of_ble_eq_true rfl) dL_windowRelease_3 F rfl rfl (by decide) cl_L_15 (en := 2) rfl (fun z hz => by cases hz) (fun q9 => ?_)
      refine v_astore_n C (ls' := [(0, .ref (G.1 16)), (1, .ref (G.1 60)), (2, .ref q9)]) rfl (by decide) rfl dL_windowRelease_11 ?_
      refine v_iconst C (n := 1) dL_windowRelease_12 ?_
      cases h
      exact v_iret C F dL_windowRelease_13 (by decide)
    · replace h := (if_neg hc0).symm.trans h
      cases h
  · replace h := (Sum.elim_inr _ _ _).symm.trans h
    refine v_invV_i (As := []) C mi_X11_windowRelease ml_L_115 (k_X11_windowRelease  σ _ er1) (q := 0) rfl rfl rfl (by decide) (by decide) rfl (Nat.le_of_ble_eq_true rfl) dL_windowRelease_3 ?_
    refine v_i2l C dL_windowRelease_6 ?_
    obtain ⟨g3, h⟩ := omg_some h
    refine v_last C (q := 44) (o := 60) (n := 1) rfl g3 dL_windowRelease_7 ?_
    refine v_goto C (tgt := 14) dL_windowRelease_8 rfl ?_
    refine v_iconst C (n := 0) dL_windowRelease_14 ?_
    cases h
    exact v_iret C F dL_windowRelease_15 (by decide)
