set_option maxHeartbeats 4000000 in
set_option maxRecDepth 100000 in
theorem k_X11_isWithin {G : omG} (v0 : Int) (v1 : Int) (v2 : Int) (σ : omH) (t : Int) (h : s_X11_isWithin v0 v1 v2 σ = some t) : omM G yX11_isWithin (.code yX11_isWithin cX11_isWithin 3 (some .boolean)) 1 0 [.int (omi v0), .int (omi v1), .int (omi v2)] σ (.inr (some (.int (omi t)))) σ := by
  unfold s_X11_isWithin at h
  refine om_head (own := RX11) (ls := [(0, .int (omi v0)), (1, .int (omi v1)), (2, .int (omi v2))]) (by decide +kernel) rfl (by simp [lg_sl, Value.category]) rfl (by simp [Value.category]) (fun x C F => ?_)
  refine v_iload_n C (q := 0) rfl rfl dX11_isWithin_0 ?_
  refine v_iload_n C (q := 1) rfl rfl dX11_isWithin_1 ?_
  refine v_icmp_lt C (tgt := 14) dX11_isWithin_2 rfl (fun hc => ?_) (fun hc => ?_)
  · replace h := (if_pos hc).symm.trans h
    refine v_iconst C (n := 0) dX11_isWithin_14 ?_
    cases h
    exact v_zret C (by decide) F dX11_isWithin_15 (Nat.zero_le _)
  · replace h := (if_neg hc).symm.trans h
    refine v_iload_n C (q := 0) rfl rfl dX11_isWithin_5 ?_
    refine v_iload_n C (q := 2) rfl rfl dX11_isWithin_6 ?_
    refine v_icmp_gt C (tgt := 14) dX11_isWithin_7 rfl (fun hc => ?_) (fun hc => ?_)
    · replace h := (if_pos hc).symm.trans h
      refine v_iconst C (n := 0) dX11_isWithin_14 ?_
      cases h
      exact v_zret C (by decide) F dX11_isWithin_15 (Nat.zero_le _)
    · replace h := (if_neg hc).symm.trans h
      refine v_iconst C (n := 1) dX11_isWithin_10 ?_
      refine v_goto C (tgt := 15) dX11_isWithin_11 rfl ?_
      cases h
      exact v_zret C (by decide) F dX11_isWithin_15 (Nat.zero_le _)
set_option maxHeartbeats 4000000 in
set_option maxRecDepth 100000 in
theorem n_X11_needJobInRange {G : omG} (v0 : Int) (v1 : Int) (v2 : Int) (v3 : Int) (v4 : Int) (σ : omH) (t : Unit) (h : s_X11_needJobInRange v0 v1 v2 v3 v4 σ = some (Sum.inr t)) : omM G yX11_needJobInRange (.code yX11_needJobInRange cX11_needJobInRange 5 none) 2 0 [.int (omi v0), .int (omi v1), .int (omi v2), .int (omi v3), .int (omi v4)] σ (.inr none) σ := by
  unfold s_X11_needJobInRange at h
  refine om_head (own := RX11) (ls := [(0, .int (omi v0)), (1, .int (omi v1)), (2, .int (omi v2)), (3, .int (omi v3)), (4, .int (omi v4))]) (by decide +kernel) rfl (by simp [lg_sl, Value.category]) rfl (by simp [Value.category]) (fun x C F => ?_)
  refine v_iload_n C (q := 0) rfl rfl dX11_needJobInRange_0 ?_
  refine v_iconst C (n := 1) dX11_needJobInRange_1 ?_
  refine v_bipush C (a := 30) (by decide) dX11_needJobInRange_2 ?_
  obtain ⟨r1, er1, h⟩ := om_bind h
  refine v_invS_i (As := [.int (omi v0), .int (omi 1), .int (omi 30)]) C mi_X11_isWithin ml_X11_87 (k_X11_isWithin v0 1 30 σ _ er1) rfl (by decide) (Nat.zero_le _) rfl (Nat.le_of_ble_eq_true rfl) dX11_needJobInRange_4 ?_
  refine v_if_eq C (tgt := 51) dX11_needJobInRange_7 rfl (fun hc => ?_) (fun hc => ?_)
  · replace h := (if_pos hc).symm.trans h
    cases h
  · replace h := (if_neg hc).symm.trans h
    refine v_iload_n C (q := 1) rfl rfl dX11_needJobInRange_10 ?_
    refine v_iconst C (n := 0) dX11_needJobInRange_11 ?_
    refine v_sipush C (a := 300) (by decide) dX11_needJobInRange_12 ?_
    obtain ⟨r2, er2, h⟩ := om_bind h
    refine v_invS_i (As := [.int (omi v1), .int (omi 0), .int (omi 300)]) C mi_X11_isWithin ml_X11_87 (k_X11_isWithin v1 0 300 σ _ er2) rfl (by decide) (Nat.zero_le _) rfl (Nat.le_of_ble_eq_true rfl) dX11_needJobInRange_15 ?_
    refine v_if_eq C (tgt := 51) dX11_needJobInRange_18 rfl (fun hc => ?_) (fun hc => ?_)
    · replace h := (if_pos hc).symm.trans h
      cases h
    · replace h := (if_neg hc).symm.trans h
      refine v_iload_n C (q := 2) rfl rfl dX11_needJobInRange_21 ?_
      refine v_iconst C (n := 1) dX11_needJobInRange_22 ?_
      refine v_bipush C (a := 20) (by decide) dX11_needJobInRange_23 ?_
      obtain ⟨r3, er3, h⟩ := om_bind h
      refine v_invS_i (As := [.int (omi v2), .int (omi 1), .int (omi 20)]) C mi_X11_isWithin ml_X11_87 (k_X11_isWithin v2 1 20 σ _ er3) rfl (by decide) (Nat.zero_le _) rfl (Nat.le_of_ble_eq_true rfl) dX11_needJobInRange_25 ?_
      refine v_if_eq C (tgt := 51) dX11_needJobInRange_28 rfl (fun hc => ?_) (fun hc => ?_)
      · replace h := (if_pos hc).symm.trans h
        cases h
      · replace h := (if_neg hc).symm.trans h
        refine v_iload_n C (q := 3) rfl rfl dX11_needJobInRange_31 ?_
        refine v_iconst C (n := 0) dX11_needJobInRange_32 ?_
        refine v_bipush C (a := 100) (by decide) dX11_needJobInRange_33 ?_
        obtain ⟨r4, er4, h⟩ := om_bind h
        refine v_invS_i (As := [.int (omi v3), .int (omi 0), .int (omi 100)]) C mi_X11_isWithin ml_X11_87 (k_X11_isWithin v3 0 100 σ _ er4) rfl (by decide) (Nat.zero_le _) rfl (Nat.le_of_ble_eq_true rfl) dX11_needJobInRange_35 ?_
        refine v_if_eq C (tgt := 51) dX11_needJobInRange_38 rfl (fun hc => ?_) (fun hc => ?_)
        · replace h := (if_pos hc).symm.trans h
          cases h
        · replace h := (if_neg hc).symm.trans h
          refine v_iload C (q := 4) rfl dX11_needJobInRange_41 ?_
          refine v_iconst C (n := 0) dX11_needJobInRange_43 ?_
          refine v_iconst C (n := 3) dX11_needJobInRange_44 ?_
          obtain ⟨r5, er5, h⟩ := om_bind h
          refine v_invS_i (As := [.int (omi v4), .int (omi 0), .int (omi 3)]) C mi_X11_isWithin ml_X11_87 (k_X11_isWithin v4 0 3 σ _ er5) rfl (by decide) (Nat.zero_le _) rfl (Nat.le_of_ble_eq_true rfl) dX11_needJobInRange_45 ?_
          refine v_if_ne C (tgt := 61) dX11_needJobInRange_48 rfl (fun hc => ?_) (fun hc => ?_)
          · replace h := (if_neg hc).symm.trans h
            cases h
            exact v_vret C F dX11_needJobInRange_61 (Nat.zero_le _)
          · replace h := (if_pos hc).symm.trans h
            cases h
set_option maxHeartbeats 4000000 in
set_option maxRecDepth 100000 in
theorem k_X2_put {G : omG} (v1 : Int) (v2 : Int) (v3 : Int) (v4 : Int) (v5 : Int) (v6 : Int) (σ : omH) (t : omH) (h : s_X2_put v1 v2 v3 v4 v5 v6 σ = some t) : omM G yX2_put (.code yX2_put cX2_put 7 none) 1 0 [.ref (G.1 17), .int (omi v1), .int (omi v2), .int (omi v3), .int (omi v4), .int (omi v5), .int (omi v6)] σ (.inr none) t := by
  unfold s_X2_put at h
  refine om_head (own := RX2) (ls := [(0, .ref (G.1 17)), (1, .int (omi v1)), (2, .int (omi v2)), (3, .int (omi v3)), (4, .int (omi v4)), (5, .int (omi v5)), (6, .int (omi v6))]) (by decide +kernel) rfl (by simp [lg_sl, Value.category]) rfl (by simp [Value.category]) (fun x C F => ?_)
  refine v_aload_n C (q := 0) rfl rfl dX2_put_0 ?_
  refine v_getr C (q := 1) (o := 17) (r := 18) fi_X2_9 rfl rfl rfl dX2_put_1 ?_
  refine v_iload_n C (q := 1) rfl rfl dX2_put_4 ?_
  refine v_iload_n C (q := 2) rfl rfl dX2_put_5 ?_
  obtain ⟨g1, h⟩ := omg_some h
  refine v_iast C (q := 2) (o := 18) (n := 10) rfl g1 dX2_put_6 ?_
  refine v_aload_n C (q := 0) rfl rfl dX2_put_7 ?_
  refine v_getr C (q := 1) (o := 17) (r := 19) fi_X2_15 rfl rfl rfl dX2_put_8 ?_
  refine v_iload_n C (q := 1) rfl rfl dX2_put_11 ?_
  refine v_iload_n C (q := 3) rfl rfl dX2_put_12 ?_
  obtain ⟨g2, h⟩ := omg_some h
  refine v_iast C (q := 3) (o := 19) (n := 10) rfl g2 dX2_put_13 ?_
  refine v_aload_n C (q := 0) rfl rfl dX2_put_14 ?_
  refine v_getr C (q := 1) (o := 17) (r := 20) fi_X2_18 rfl rfl rfl dX2_put_15 ?_
  refine v_iload_n C (q := 1) rfl rfl dX2_put_18 ?_
  refine v_iload C (q := 4) rfl dX2_put_19 ?_
  obtain ⟨g3, h⟩ := omg_some h
  refine v_iast C (q := 4) (o := 20) (n := 10) rfl g3 dX2_put_21 ?_
  refine v_aload_n C (q := 0) rfl rfl dX2_put_22 ?_
  refine v_getr C (q := 1) (o := 17) (r := 21) fi_X2_21 rfl rfl rfl dX2_put_23 ?_
  refine v_iload_n C (q := 1) rfl rfl dX2_put_26 ?_
  refine v_iload C (q := 5) rfl dX2_put_27 ?_
  obtain ⟨g4, h⟩ := omg_some h
  refine v_iast C (q := 5) (o := 21) (n := 10) rfl g4 dX2_put_29 ?_
  refine v_aload_n C (q := 0) rfl rfl dX2_put_30 ?_
  refine v_getr C (q := 1) (o := 17) (r := 22) fi_X2_24 rfl rfl rfl dX2_put_31 ?_
  refine v_iload_n C (q := 1) rfl rfl dX2_put_34 ?_
  refine v_iload C (q := 6) rfl dX2_put_35 ?_
  obtain ⟨g5, h⟩ := omg_some h
  refine v_iast C (q := 6) (o := 22) (n := 10) rfl g5 dX2_put_37 ?_
  cases h
  exact v_vret C F dX2_put_38 (Nat.zero_le _)
set_option maxHeartbeats 4000000 in
set_option maxRecDepth 100000 in
theorem k_X5_drop {G : omG}  (σ : omH) (t : omH) (h : s_X5_drop  σ = some t) : omM G yX5_drop (.code yX5_drop cX5_drop 1 none) 1 0 [.ref (G.1 24)] σ (.inr none) t := by
  unfold s_X5_drop at h
  refine om_head (own := RX5) (ls := [(0, .ref (G.1 24))]) (by decide +kernel) rfl (by simp [lg_sl, Value.category]) rfl (by simp [Value.category]) (fun x C F => ?_)
  refine v_aload_n C (q := 0) rfl rfl dX5_drop_0 ?_
  refine v_iconst C (n := 0) dX5_drop_1 ?_
  refine v_putz C (q := 8) (o := 24) fp_X5_24 (by decide) rfl rfl dX5_drop_2 ?_
  refine v_aload_n C (q := 0) rfl rfl dX5_drop_5 ?_
  refine v_iconst C (n := 0) dX5_drop_6 ?_
  refine v_puti C (q := 8) (o := 24) fp_X5_28 rfl rfl dX5_drop_7 ?_
  cases h
  exact v_vret C F dX5_drop_10 (Nat.zero_le _)
set_option maxHeartbeats 4000000 in
set_option maxRecDepth 100000 in
theorem n_X11_addJob {G : omG} (v1 : Int) (v2 : Int) (v3 : Int) (v4 : Int) (v5 : Int) (σ : omH) (t : (Int × omH)) (h : s_X11_addJob v1 v2 v3 v4 v5 σ = some (Sum.inr t)) : omM G yX11_addJob (.code yX11_addJob cX11_addJob 7 (some .int)) 3 0 [.ref (G.1 16), .int (omi v1), .int (omi v2), .int (omi v3), .int (omi v4), .int (omi v5)] σ (.inr (some (.int (omi t.1)))) t.2 := by
  unfold s_X11_addJob at h
  refine om_head (own := RX11) (ls := [(0, .ref (G.1 16)), (1, .int (omi v1)), (2, .int (omi v2)), (3, .int (omi v3)), (4, .int (omi v4)), (5, .int (omi v5))]) (by decide +kernel) rfl (by simp [lg_sl, Value.category]) rfl (by simp [Value.category]) (fun x C F => ?_)
  refine v_iload_n C (q := 1) rfl rfl dX11_addJob_0 ?_
  refine v_iload_n C (q := 2) rfl rfl dX11_addJob_1 ?_
  refine v_iload_n C (q := 3) rfl rfl dX11_addJob_2 ?_
  refine v_iload C (q := 4) rfl dX11_addJob_3 ?_
  refine v_iload C (q := 5) rfl dX11_addJob_5 ?_
  obtain ⟨r1, er1, h⟩ := om_bind h
  rcases r1 with u2 | u2
  · replace h := (Sum.elim_inl _ _ _).symm.trans h
    cases h
  · replace h := (Sum.elim_inr _ _ _).symm.trans h
    refine v_invS_v (As := [.int (omi v1), .int (omi v2), .int (omi v3), .int (omi v4), .int (omi v5)]) C mi_X11_needJobInRange ml_X11_58 (n_X11_needJobInRange v1 v2 v3 v4 v5 σ _ er1) rfl (by decide) (Nat.zero_le _) rfl (Nat.le_of_ble_eq_true rfl) dX11_addJob_7 ?_
    refine v_aload_n C (q := 0) rfl rfl dX11_addJob_10 ?_
    refine v_getr C (q := 0) (o := 16) (r := 17) fi_X11_12 rfl rfl rfl dX11_addJob_11 ?_
    refine v_geti C (q := 1) (o := 17) fi_X11_62 rfl rfl dX11_addJob_14 ?_
    refine v_bipush C (a := 10) (by decide) dX11_addJob_17 ?_
    refine v_icmp_lt C (tgt := 32) dX11_addJob_19 rfl (fun hc => ?_) (fun hc => ?_)
    · replace h := (if_pos hc).symm.trans h
      refine v_aload_n C (q := 0) rfl rfl dX11_addJob_32 ?_
      refine v_getr C (q := 0) (o := 16) (r := 17) fi_X11_12 rfl rfl rfl dX11_addJob_33 ?_
      refine v_geti C (q := 1) (o := 17) fi_X11_62 rfl rfl dX11_addJob_36 ?_
      refine v_istore C (ls' := [(0, .ref (G.1 16)), (1, .int (omi v1)), (2, .int (omi v2)), (3, .int (omi v3)), (4, .int (omi v4)), (5, .int (omi v5)), (6, .int (omi (σ 17 0)))]) (by decide) rfl dX11_addJob_39 ?_
      refine v_aload_n C (q := 0) rfl rfl dX11_addJob_41 ?_
      refine v_getr C (q := 0) (o := 16) (r := 17) fi_X11_12 rfl rfl rfl dX11_addJob_42 ?_
      refine v_dup C rfl dX11_addJob_45 ?_
      refine v_geti C (q := 1) (o := 17) fi_X11_62 rfl rfl dX11_addJob_46 ?_
      refine v_iconst C (n := 1) dX11_addJob_49 ?_
      refine v_iadd C dX11_addJob_50 ?_
      refine v_puti C (q := 1) (o := 17) fp_X11_62 rfl rfl dX11_addJob_51 ?_
      refine v_aload_n C (q := 0) rfl rfl dX11_addJob_54 ?_
      refine v_getr C (q := 0) (o := 16) (r := 17) fi_X11_12 rfl rfl rfl dX11_addJob_55 ?_
      refine v_iload C (q := 6) rfl dX11_addJob_58 ?_
      refine v_iload_n C (q := 1) rfl rfl dX11_addJob_60 ?_
      refine v_iload_n C (q := 2) rfl rfl dX11_addJob_61 ?_
      refine v_iload_n C (q := 3) rfl rfl dX11_addJob_62 ?_
      refine v_iload C (q := 4) rfl dX11_addJob_63 ?_
      refine v_iload C (q := 5) rfl dX11_addJob_65 ?_
      obtain ⟨r3, er3, h⟩ := om_bind h
      refine v_invV_v (As := [.int (omi (σ 17 0)), .int (omi v1), .int (omi v2), .int (omi v3), .int (omi v4), .int (omi v5)]) C mi_X2_put ml_X11_73 (k_X2_put (σ 17 0) v1 v2 v3 v4 v5 (omsu σ 17 0 ((σ 17 0) + 1)) _ er3) (q := 1) rfl rfl rfl (by decide) (Nat.zero_le _) rfl (Nat.le_of_ble_eq_true rfl) dX11_addJob_67 ?_
      refine v_aload_n C (q := 0) rfl rfl dX11_addJob_70 ?_
      refine v_getr C (q := 0) (o := 16) (r := 24) fi_X11_19 rfl rfl rfl dX11_addJob_71 ?_
      obtain ⟨r4, er4, h⟩ := om_bind h
      refine v_invV_v (As := []) C mi_X5_drop ml_X11_77 (k_X5_drop  r3 _ er4) (q := 8) rfl rfl rfl (by decide) (Nat.zero_le _) rfl (Nat.le_of_ble_eq_true rfl) dX11_addJob_74 ?_
      refine v_iload C (q := 6) rfl dX11_addJob_77 ?_
      cases h
      exact v_iret C F dX11_addJob_79 (Nat.zero_le _)
    · replace h := (if_neg hc).symm.trans h
      cases h
set_option maxHeartbeats 4000000 in
set_option maxRecDepth 100000 in
theorem n_X11_needJob {G : omG} (v1 : Int) (σ : omH) (t : Unit) (h : s_X11_needJob v1 σ = some (Sum.inr t)) : omM G yX11_needJob (.code yX11_needJob cX11_needJob 2 none) 2 0 [.ref (G.1 16), .int (omi v1)] σ (.inr none) σ := by
  unfold s_X11_needJob at h
  refine om_head (own := RX11) (ls := [(0, .ref (G.1 16)), (1, .int (omi v1))]) (by decide +kernel) rfl (by simp [lg_sl, Value.category]) rfl (by simp [Value.category]) (fun x C F => ?_)
  refine v_iload_n C (q := 1) rfl rfl dX11_needJob_0 ?_
  refine v_iconst C (n := 0) dX11_needJob_1 ?_
  refine v_aload_n C (q := 0) rfl rfl dX11_needJob_2 ?_
  refine v_getr C (q := 0) (o := 16) (r := 17) fi_X11_12 rfl rfl rfl dX11_needJob_3 ?_
  refine v_geti C (q := 1) (o := 17) fi_X11_62 rfl rfl dX11_needJob_6 ?_
  refine v_iconst C (n := 1) dX11_needJob_9 ?_
  refine v_isub C dX11_needJob_10 ?_
  obtain ⟨r1, er1, h⟩ := om_bind h
  refine v_invS_i (As := [.int (omi v1), .int (omi 0), .int (omi ((σ 17 0) - 1))]) C mi_X11_isWithin ml_X11_87 (k_X11_isWithin v1 0 ((σ 17 0) - 1) σ _ er1) rfl (by decide) (Nat.zero_le _) rfl (Nat.le_of_ble_eq_true rfl) dX11_needJob_11 ?_
  refine v_if_ne C (tgt := 27) dX11_needJob_14 rfl (fun hc => ?_) (fun hc => ?_)
  · replace h := (if_neg hc).symm.trans h
    cases h
    exact v_vret C F dX11_needJob_27 (Nat.zero_le _)
  · replace h := (if_pos hc).symm.trans h
    cases h
set_option maxHeartbeats 4000000 in
set_option maxRecDepth 100000 in
theorem n_X11_changeJob {G : omG} (v1 : Int) (v2 : Int) (v3 : Int) (v4 : Int) (v5 : Int) (v6 : Int) (σ : omH) (t : omH) (h : s_X11_changeJob v1 v2 v3 v4 v5 v6 σ = some (Sum.inr t)) : omM G yX11_changeJob (.code yX11_changeJob cX11_changeJob 7 none) 3 0 [.ref (G.1 16), .int (omi v1), .int (omi v2), .int (omi v3), .int (omi v4), .int (omi v5), .int (omi v6)] σ (.inr none) t := by
  unfold s_X11_changeJob at h
  refine om_head (own := RX11) (ls := [(0, .ref (G.1 16)), (1, .int (omi v1)), (2, .int (omi v2)), (3, .int (omi v3)), (4, .int (omi v4)), (5, .int (omi v5)), (6, .int (omi v6))]) (by decide +kernel) rfl (by simp [lg_sl, Value.category]) rfl (by simp [Value.category]) (fun x C F => ?_)
  refine v_aload_n C (q := 0) rfl rfl dX11_changeJob_0 ?_
  refine v_iload_n C (q := 1) rfl rfl dX11_changeJob_1 ?_
  obtain ⟨r1, er1, h⟩ := om_bind h
  rcases r1 with u2 | u2
  · replace h := (Sum.elim_inl _ _ _).symm.trans h
    cases h
  · replace h := (Sum.elim_inr _ _ _).symm.trans h
    refine v_invV_v (As := [.int (omi v1)]) C mi_X11_needJob ml_X11_80 (n_X11_needJob v1 σ _ er1) (q := 0) rfl rfl rfl (by decide) (Nat.zero_le _) rfl (Nat.le_of_ble_eq_true rfl) dX11_changeJob_2 ?_
    refine v_iload_n C (q := 2) rfl rfl dX11_changeJob_5 ?_
    refine v_iload_n C (q := 3) rfl rfl dX11_changeJob_6 ?_
    refine v_iload C (q := 4) rfl dX11_changeJob_7 ?_
    refine v_iload C (q := 5) rfl dX11_changeJob_9 ?_
    refine v_iload C (q := 6) rfl dX11_changeJob_11 ?_
    obtain ⟨r3, er3, h⟩ := om_bind h
    rcases r3 with u4 | u4
    · replace h := (Sum.elim_inl _ _ _).symm.trans h
      cases h
    · replace h := (Sum.elim_inr _ _ _).symm.trans h
      refine v_invS_v (As := [.int (omi v2), .int (omi v3), .int (omi v4), .int (omi v5), .int (omi v6)]) C mi_X11_needJobInRange ml_X11_58 (n_X11_needJobInRange v2 v3 v4 v5 v6 σ _ er3) rfl (by decide) (Nat.zero_le _) rfl (Nat.le_of_ble_eq_true rfl) dX11_changeJob_13 ?_
      refine v_aload_n C (q := 0) rfl rfl dX11_changeJob_16 ?_
      refine v_getr C (q := 0) (o := 16) (r := 17) fi_X11_12 rfl rfl rfl dX11_changeJob_17 ?_
      refine v_iload_n C (q := 1) rfl rfl dX11_changeJob_20 ?_
      refine v_iload_n C (q := 2) rfl rfl dX11_changeJob_21 ?_
      refine v_iload_n C (q := 3) rfl rfl dX11_changeJob_22 ?_
      refine v_iload C (q := 4) rfl dX11_changeJob_23 ?_
      refine v_iload C (q := 5) rfl dX11_changeJob_25 ?_
      refine v_iload C (q := 6) rfl dX11_changeJob_27 ?_
      obtain ⟨r5, er5, h⟩ := om_bind h
      refine v_invV_v (As := [.int (omi v1), .int (omi v2), .int (omi v3), .int (omi v4), .int (omi v5), .int (omi v6)]) C mi_X2_put ml_X11_73 (k_X2_put v1 v2 v3 v4 v5 v6 σ _ er5) (q := 1) rfl rfl rfl (by decide) (Nat.zero_le _) rfl (Nat.le_of_ble_eq_true rfl) dX11_changeJob_29 ?_
      refine v_aload_n C (q := 0) rfl rfl dX11_changeJob_32 ?_
      refine v_getr C (q := 0) (o := 16) (r := 24) fi_X11_19 rfl rfl rfl dX11_changeJob_33 ?_
      obtain ⟨r6, er6, h⟩ := om_bind h
      refine v_invV_v (As := []) C mi_X5_drop ml_X11_77 (k_X5_drop  r5 _ er6) (q := 8) rfl rfl rfl (by decide) (Nat.zero_le _) rfl (Nat.le_of_ble_eq_true rfl) dX11_changeJob_36 ?_
      cases h
      exact v_vret C F dX11_changeJob_39 (Nat.zero_le _)
set_option maxHeartbeats 4000000 in
set_option maxRecDepth 100000 in
theorem kl_X2_remove_4 {G : omG} {x : omX} (C : omC G x RX2 cX2_remove 3 (2) 0) : ∀ (n : Nat) (v2 : Int) (σ : omH) (t : omH), l_X2_remove_4  n v2 σ = some t → omV G x 3 55 [(0, .ref (G.1 17))] [] t 0 → omV G x 3 4 [(0, .ref (G.1 17)), (2, .int (omi v2))] [] σ 0 := by
  intro n
  induction n with
  | zero => intro v2 σ t h K; cases h
  | succ n ih =>
    intro v2 σ t h K
    rw [l_X2_remove_4.eq_2] at h
    refine v_iload_n C (q := 1) rfl rfl dX2_remove_4 ?_
    refine v_aload_n C (q := 0) rfl rfl dX2_remove_5 ?_
    refine v_geti C (q := 1) (o := 17) fi_X2_30 rfl rfl dX2_remove_6 ?_
    refine v_icmp_ge C (tgt := 55) dX2_remove_9 rfl (fun hc => ?_) (fun hc => ?_)
    · replace h := (if_neg hc).symm.trans h
      cases h
      exact v_subp [0] rfl K
    · replace h := (if_pos hc).symm.trans h
      refine v_aload_n C (q := 0) rfl rfl dX2_remove_12 ?_
      refine v_iload_n C (q := 1) rfl rfl dX2_remove_13 ?_
      refine v_iconst C (n := 1) dX2_remove_14 ?_
      refine v_isub C dX2_remove_15 ?_
      refine v_aload_n C (q := 0) rfl rfl dX2_remove_16 ?_
      refine v_getr C (q := 1) (o := 17) (r := 18) fi_X2_9 rfl rfl rfl dX2_remove_17 ?_
      refine v_iload_n C (q := 1) rfl rfl dX2_remove_20 ?_
      obtain ⟨g1, h⟩ := omg_some h
      refine v_iald C (q := 2) (o := 18) (n := 10) rfl g1 dX2_remove_21 ?_
      refine v_aload_n C (q := 0) rfl rfl dX2_remove_22 ?_
      refine v_getr C (q := 1) (o := 17) (r := 19) fi_X2_15 rfl rfl rfl dX2_remove_23 ?_
      refine v_iload_n C (q := 1) rfl rfl dX2_remove_26 ?_
      obtain ⟨g2, h⟩ := omg_some h
      refine v_iald C (q := 3) (o := 19) (n := 10) rfl g2 dX2_remove_27 ?_
      refine v_aload_n C (q := 0) rfl rfl dX2_remove_28 ?_
      refine v_getr C (q := 1) (o := 17) (r := 20) fi_X2_18 rfl rfl rfl dX2_remove_29 ?_
      refine v_iload_n C (q := 1) rfl rfl dX2_remove_32 ?_
      obtain ⟨g3, h⟩ := omg_some h
      refine v_iald C (q := 4) (o := 20) (n := 10) rfl g3 dX2_remove_33 ?_
      refine v_aload_n C (q := 0) rfl rfl dX2_remove_34 ?_
      refine v_getr C (q := 1) (o := 17) (r := 21) fi_X2_21 rfl rfl rfl dX2_remove_35 ?_
      refine v_iload_n C (q := 1) rfl rfl dX2_remove_38 ?_
      obtain ⟨g4, h⟩ := omg_some h
      refine v_iald C (q := 5) (o := 21) (n := 10) rfl g4 dX2_remove_39 ?_
      refine v_aload_n C (q := 0) rfl rfl dX2_remove_40 ?_
      refine v_getr C (q := 1) (o := 17) (r := 22) fi_X2_24 rfl rfl rfl dX2_remove_41 ?_
      refine v_iload_n C (q := 1) rfl rfl dX2_remove_44 ?_
      obtain ⟨g5, h⟩ := omg_some h
      refine v_iald C (q := 6) (o := 22) (n := 10) rfl g5 dX2_remove_45 ?_
      obtain ⟨r6, er6, h⟩ := om_bind h
      refine v_invV_v (As := [.int (omi (v2 - 1)), .int (omi (σ 18 (omw v2).toNat)), .int (omi (σ 19 (omw v2).toNat)), .int (omi (σ 20 (omw v2).toNat)), .int (omi (σ 21 (omw v2).toNat)), .int (omi (σ 22 (omw v2).toNat))]) C mi_X2_put ml_X2_34 (k_X2_put (v2 - 1) (σ 18 (omw v2).toNat) (σ 19 (omw v2).toNat) (σ 20 (omw v2).toNat) (σ 21 (omw v2).toNat) (σ 22 (omw v2).toNat) σ _ er6) (q := 1) rfl rfl rfl (by decide) (Nat.zero_le _) rfl (Nat.le_of_ble_eq_true rfl) dX2_remove_46 ?_
      refine v_iinc C (q := 1) (ls' := [(0, .ref (G.1 17)), (2, .int (omi (v2 + 1)))]) rfl (by decide) rfl rfl dX2_remove_49 ?_
      refine v_goto C (tgt := 4) dX2_remove_52 rfl ?_
      exact ih _ _ _ h K
set_option maxHeartbeats 4000000 in
set_option maxRecDepth 100000 in
theorem k_X2_remove {G : omG} (v1 : Int) (σ : omH) (t : omH) (h : s_X2_remove v1 σ = some t) : omM G yX2_remove (.code yX2_remove cX2_remove 3 none) 2 0 [.ref (G.1 17), .int (omi v1)] σ (.inr none) t := by
  unfold s_X2_remove at h
  refine om_head (own := RX2) (ls := [(0, .ref (G.1 17)), (1, .int (omi v1))]) (by decide +kernel) rfl (by simp [lg_sl, Value.category]) rfl (by simp [Value.category]) (fun x C F => ?_)
  refine v_iload_n C (q := 1) rfl rfl dX2_remove_0 ?_
  refine v_iconst C (n := 1) dX2_remove_1 ?_
  refine v_iadd C dX2_remove_2 ?_
  refine v_istore_n C (ls' := [(0, .ref (G.1 17)), (1, .int (omi v1)), (2, .int (omi (v1 + 1)))]) rfl (by decide) rfl dX2_remove_3 ?_
  obtain ⟨t7, et7, h⟩ := om_bind h
  refine v_subp (ls' := [(0, .ref (G.1 17)), (2, .int (omi (v1 + 1)))]) [0, 2] rfl ?_
  refine kl_X2_remove_4 C  FU _ _ t7 et7 ?_
  refine v_aload_n C (q := 0) rfl rfl dX2_remove_55 ?_
  refine v_dup C rfl dX2_remove_56 ?_
  refine v_geti C (q := 1) (o := 17) fi_X2_30 rfl rfl dX2_remove_57 ?_
  refine v_iconst C (n := 1) dX2_remove_60 ?_
  refine v_isub C dX2_remove_61 ?_
  refine v_puti C (q := 1) (o := 17) fp_X2_30 rfl rfl dX2_remove_62 ?_
  cases h
  exact v_vret C F dX2_remove_65 (Nat.zero_le _)
set_option maxHeartbeats 4000000 in
set_option maxRecDepth 100000 in
theorem n_X11_removeJob {G : omG} (v1 : Int) (σ : omH) (t : (Int × omH)) (h : s_X11_removeJob v1 σ = some (Sum.inr t)) : omM G yX11_removeJob (.code yX11_removeJob cX11_removeJob 2 (some .int)) 3 0 [.ref (G.1 16), .int (omi v1)] σ (.inr (some (.int (omi t.1)))) t.2 := by
  unfold s_X11_removeJob at h
  refine om_head (own := RX11) (ls := [(0, .ref (G.1 16)), (1, .int (omi v1))]) (by decide +kernel) rfl (by simp [lg_sl, Value.category]) rfl (by simp [Value.category]) (fun x C F => ?_)
  refine v_aload_n C (q := 0) rfl rfl dX11_removeJob_0 ?_
  refine v_iload_n C (q := 1) rfl rfl dX11_removeJob_1 ?_
  obtain ⟨r1, er1, h⟩ := om_bind h
  rcases r1 with u2 | u2
  · replace h := (Sum.elim_inl _ _ _).symm.trans h
    cases h
  · replace h := (Sum.elim_inr _ _ _).symm.trans h
    refine v_invV_v (As := [.int (omi v1)]) C mi_X11_needJob ml_X11_80 (n_X11_needJob v1 σ _ er1) (q := 0) rfl rfl rfl (by decide) (Nat.zero_le _) rfl (Nat.le_of_ble_eq_true rfl) dX11_removeJob_2 ?_
    refine v_aload_n C (q := 0) rfl rfl dX11_removeJob_5 ?_
    refine v_getr C (q := 0) (o := 16) (r := 17) fi_X11_12 rfl rfl rfl dX11_removeJob_6 ?_
    refine v_iload_n C (q := 1) rfl rfl dX11_removeJob_9 ?_
    obtain ⟨r3, er3, h⟩ := om_bind h
    refine v_invV_v (As := [.int (omi v1)]) C mi_X2_remove ml_X11_84 (k_X2_remove v1 σ _ er3) (q := 1) rfl rfl rfl (by decide) (Nat.zero_le _) rfl (Nat.le_of_ble_eq_true rfl) dX11_removeJob_10 ?_
    refine v_aload_n C (q := 0) rfl rfl dX11_removeJob_13 ?_
    refine v_getr C (q := 0) (o := 16) (r := 24) fi_X11_19 rfl rfl rfl dX11_removeJob_14 ?_
    obtain ⟨r4, er4, h⟩ := om_bind h
    refine v_invV_v (As := []) C mi_X5_drop ml_X11_77 (k_X5_drop  r3 _ er4) (q := 8) rfl rfl rfl (by decide) (Nat.zero_le _) rfl (Nat.le_of_ble_eq_true rfl) dX11_removeJob_17 ?_
    refine v_aload_n C (q := 0) rfl rfl dX11_removeJob_20 ?_
    refine v_getr C (q := 0) (o := 16) (r := 17) fi_X11_12 rfl rfl rfl dX11_removeJob_21 ?_
    refine v_geti C (q := 1) (o := 17) fi_X11_62 rfl rfl dX11_removeJob_24 ?_
    cases h
    exact v_iret C F dX11_removeJob_27 (Nat.zero_le _)
set_option maxHeartbeats 4000000 in
set_option maxRecDepth 100000 in
theorem n_X11_setSetup {G : omG} (v1 : Int) (v2 : Int) (σ : omH) (t : (Int × omH)) (h : s_X11_setSetup v1 v2 σ = some (Sum.inr t)) : omM G yX11_setSetup (.code yX11_setSetup cX11_setSetup 4 (some .int)) 2 0 [.ref (G.1 16), .int (omi v1), .int (omi v2)] σ (.inr (some (.int (omi t.1)))) t.2 := by
  unfold s_X11_setSetup at h
  refine om_head (own := RX11) (ls := [(0, .ref (G.1 16)), (1, .int (omi v1)), (2, .int (omi v2))]) (by decide +kernel) rfl (by simp [lg_sl, Value.category]) rfl (by simp [Value.category]) (fun x C F => ?_)
  refine v_iload_n C (q := 1) rfl rfl dX11_setSetup_0 ?_
  refine v_iconst C (n := 0) dX11_setSetup_1 ?_
  refine v_iconst C (n := 3) dX11_setSetup_2 ?_
  obtain ⟨r1, er1, h⟩ := om_bind h
  refine v_invS_i (As := [.int (omi v1), .int (omi 0), .int (omi 3)]) C mi_X11_isWithin ml_X11_87 (k_X11_isWithin v1 0 3 σ _ er1) rfl (by decide) (Nat.zero_le _) rfl (Nat.le_of_ble_eq_true rfl) dX11_setSetup_3 ?_
  refine v_if_ne C (tgt := 19) dX11_setSetup_6 rfl (fun hc => ?_) (fun hc => ?_)
  · replace h := (if_neg hc).symm.trans h
    refine v_iload_n C (q := 2) rfl rfl dX11_setSetup_19 ?_
    refine v_iconst C (n := 0) dX11_setSetup_20 ?_
    refine v_bipush C (a := 20) (by decide) dX11_setSetup_21 ?_
    obtain ⟨r2, er2, h⟩ := om_bind h
    refine v_invS_i (As := [.int (omi v2), .int (omi 0), .int (omi 20)]) C mi_X11_isWithin ml_X11_87 (k_X11_isWithin v2 0 20 σ _ er2) rfl (by decide) (Nat.zero_le _) rfl (Nat.le_of_ble_eq_true rfl) dX11_setSetup_23 ?_
    refine v_if_ne C (tgt := 39) dX11_setSetup_26 rfl (fun hc => ?_) (fun hc => ?_)
    · replace h := (if_neg hc).symm.trans h
      refine v_aload_n C (q := 0) rfl rfl dX11_setSetup_39 ?_
      refine v_getr C (q := 0) (o := 16) (r := 17) fi_X11_12 rfl rfl rfl dX11_setSetup_40 ?_
      refine v_getr C (q := 1) (o := 17) (r := 23) fi_X11_101 rfl rfl rfl dX11_setSetup_43 ?_
      refine v_iload_n C (q := 1) rfl rfl dX11_setSetup_46 ?_
      obtain ⟨g3, h⟩ := omg_some h
      refine v_iald C (q := 7) (o := 23) (n := 4) rfl g3 dX11_setSetup_47 ?_
      refine v_istore_n C (ls' := [(0, .ref (G.1 16)), (1, .int (omi v1)), (2, .int (omi v2)), (3, .int (omi (σ 23 (omw v1).toNat)))]) rfl (by decide) rfl dX11_setSetup_48 ?_
      refine v_aload_n C (q := 0) rfl rfl dX11_setSetup_49 ?_
      refine v_getr C (q := 0) (o := 16) (r := 17) fi_X11_12 rfl rfl rfl dX11_setSetup_50 ?_
      refine v_getr C (q := 1) (o := 17) (r := 23) fi_X11_101 rfl rfl rfl dX11_setSetup_53 ?_
      refine v_iload_n C (q := 1) rfl rfl dX11_setSetup_56 ?_
      refine v_iload_n C (q := 2) rfl rfl dX11_setSetup_57 ?_
      obtain ⟨g4, h⟩ := omg_some h
      refine v_iast C (q := 7) (o := 23) (n := 4) rfl g4 dX11_setSetup_58 ?_
      refine v_aload_n C (q := 0) rfl rfl dX11_setSetup_59 ?_
      refine v_getr C (q := 0) (o := 16) (r := 24) fi_X11_19 rfl rfl rfl dX11_setSetup_60 ?_
      obtain ⟨r5, er5, h⟩ := om_bind h
      refine v_invV_v (As := []) C mi_X5_drop ml_X11_77 (k_X5_drop  (omsu σ 23 (omw v1).toNat v2) _ er5) (q := 8) rfl rfl rfl (by decide) (Nat.zero_le _) rfl (Nat.le_of_ble_eq_true rfl) dX11_setSetup_63 ?_
      refine v_iload_n C (q := 3) rfl rfl dX11_setSetup_66 ?_
      cases h
      exact v_iret C F dX11_setSetup_67 (Nat.zero_le _)
    · replace h := (if_pos hc).symm.trans h
      cases h
  · replace h := (if_pos hc).symm.trans h
    cases h
set_option maxHeartbeats 4000000 in
set_option maxRecDepth 100000 in
theorem k_X11_jobs {G : omG}  (σ : omH) (t : Int) (h : s_X11_jobs  σ = some t) : omM G yX11_jobs (.code yX11_jobs cX11_jobs 1 (some .int)) 1 0 [.ref (G.1 16)] σ (.inr (some (.int (omi t)))) σ := by
  unfold s_X11_jobs at h
  refine om_head (own := RX11) (ls := [(0, .ref (G.1 16))]) (by decide +kernel) rfl (by simp [lg_sl, Value.category]) rfl (by simp [Value.category]) (fun x C F => ?_)
  refine v_aload_n C (q := 0) rfl rfl dX11_jobs_0 ?_
  refine v_getr C (q := 0) (o := 16) (r := 17) fi_X11_12 rfl rfl rfl dX11_jobs_1 ?_
  refine v_geti C (q := 1) (o := 17) fi_X11_62 rfl rfl dX11_jobs_4 ?_
  cases h
  exact v_iret C F dX11_jobs_7 (Nat.zero_le _)
set_option maxHeartbeats 4000000 in
set_option maxRecDepth 100000 in
theorem n_X11_needSomeJob {G : omG}  (σ : omH) (t : Unit) (h : s_X11_needSomeJob  σ = some (Sum.inr t)) : omM G yX11_needSomeJob (.code yX11_needSomeJob cX11_needSomeJob 1 none) 1 0 [.ref (G.1 16)] σ (.inr none) σ := by
  unfold s_X11_needSomeJob at h
  refine om_head (own := RX11) (ls := [(0, .ref (G.1 16))]) (by decide +kernel) rfl (by simp [lg_sl, Value.category]) rfl (by simp [Value.category]) (fun x C F => ?_)
  refine v_aload_n C (q := 0) rfl rfl dX11_needSomeJob_0 ?_
  refine v_getr C (q := 0) (o := 16) (r := 17) fi_X11_12 rfl rfl rfl dX11_needSomeJob_1 ?_
  refine v_geti C (q := 1) (o := 17) fi_X11_62 rfl rfl dX11_needSomeJob_4 ?_
  refine v_if_ne C (tgt := 20) dX11_needSomeJob_7 rfl (fun hc => ?_) (fun hc => ?_)
  · replace h := (if_neg hc).symm.trans h
    cases h
    exact v_vret C F dX11_needSomeJob_20 (Nat.zero_le _)
  · replace h := (if_pos hc).symm.trans h
    cases h
set_option maxHeartbeats 4000000 in
set_option maxRecDepth 100000 in
theorem k_X3_putsBehind {G : omG} (c0 : Nat) (v2 : Int) (v3 : Int) (σ : omH) (t : Int) (h : s_X3_putsBehind c0 v2 v3 σ = some t) : omM G yX3_putsBehind (.code yX3_putsBehind cX3_putsBehind 4 (some .boolean)) 1 0 [.ref (G.1 c0), .ref (G.1 17), .int (omi v2), .int (omi v3)] σ (.inr (some (.int (omi t)))) σ := by
  unfold s_X3_putsBehind at h
  obtain ⟨hg, h⟩ := omg_some h
  refine om_head (own := RX3) (ls := [(0, .ref (G.1 c0)), (1, .ref (G.1 17)), (2, .int (omi v2)), (3, .int (omi v3))]) (by decide +kernel) rfl (by simp [lg_sl, Value.category]) rfl (by simp [Value.category]) (fun x C F => ?_)
  refine v_gsts C omSw_Key gs_X3_32 dX3_putsBehind_0 ?_
  refine v_aload_n C (q := 0) rfl rfl dX3_putsBehind_3 ?_
  refine v_ord C omEn_Key (by show _ ≤ _; omega) (by show _ < _ + _; simp only [List.length_cons, List.length_nil]; omega) (by decide) (ov := ((c0 - 5 : Nat) : Int)) rfl ml_X3_38 ord_same_X3 ord_sel_X3 (Nat.le_of_ble_eq_true rfl) (Nat.zero_le _) dX3_putsBehind_4 ?_
  obtain ⟨g1, h⟩ := omg_some h
  refine v_swld C omSw_Key g1 dX3_putsBehind_7 ?_
  by_cases hc1 : omw (omw (((c0 - 5 : Nat) : Int)) + 1) = 1
  · replace h := (if_pos hc1).symm.trans h
    refine v_tabIn C (tgt := 36) dX3_putsBehind_8 hc1 (by decide) (by decide) rfl rfl ?_
    refine v_aload_n C (q := 1) rfl rfl dX3_putsBehind_36 ?_
    refine v_getr C (q := 1) (o := 17) (r := 19) fi_X3_42 rfl rfl rfl dX3_putsBehind_37 ?_
    refine v_iload_n C (q := 2) rfl rfl dX3_putsBehind_40 ?_
    obtain ⟨g2, h⟩ := omg_some h
    refine v_iald C (q := 3) (o := 19) (n := 10) rfl g2 dX3_putsBehind_41 ?_
    refine v_aload_n C (q := 1) rfl rfl dX3_putsBehind_42 ?_
    refine v_getr C (q := 1) (o := 17) (r := 19) fi_X3_42 rfl rfl rfl dX3_putsBehind_43 ?_
    refine v_iload_n C (q := 3) rfl rfl dX3_putsBehind_46 ?_
    obtain ⟨g3, h⟩ := omg_some h
    refine v_iald C (q := 3) (o := 19) (n := 10) rfl g3 dX3_putsBehind_47 ?_
    refine v_icmp_le C (tgt := 55) dX3_putsBehind_48 rfl (fun hc => ?_) (fun hc => ?_)
    · replace h := (if_neg hc).symm.trans h
      refine v_iconst C (n := 0) dX3_putsBehind_55 ?_
      cases h
      exact v_zret C (by decide) F dX3_putsBehind_56 (Nat.zero_le _)
    · replace h := (if_pos hc).symm.trans h
      refine v_iconst C (n := 1) dX3_putsBehind_51 ?_
      refine v_goto C (tgt := 56) dX3_putsBehind_52 rfl ?_
      cases h
      exact v_zret C (by decide) F dX3_putsBehind_56 (Nat.zero_le _)
  · replace h := (if_neg hc1).symm.trans h
    by_cases hc2 : omw (omw (((c0 - 5 : Nat) : Int)) + 1) = 2
    · replace h := (if_pos hc2).symm.trans h
      refine v_tabIn C (tgt := 57) dX3_putsBehind_8 hc2 (by decide) (by decide) rfl rfl ?_
      refine v_aload_n C (q := 1) rfl rfl dX3_putsBehind_57 ?_
      refine v_getr C (q := 1) (o := 17) (r := 21) fi_X3_47 rfl rfl rfl dX3_putsBehind_58 ?_
      refine v_iload_n C (q := 2) rfl rfl dX3_putsBehind_61 ?_
      obtain ⟨g4, h⟩ := omg_some h
      refine v_iald C (q := 5) (o := 21) (n := 10) rfl g4 dX3_putsBehind_62 ?_
      refine v_aload_n C (q := 1) rfl rfl dX3_putsBehind_63 ?_
      refine v_getr C (q := 1) (o := 17) (r := 21) fi_X3_47 rfl rfl rfl dX3_putsBehind_64 ?_
      refine v_iload_n C (q := 3) rfl rfl dX3_putsBehind_67 ?_
      obtain ⟨g5, h⟩ := omg_some h
      refine v_iald C (q := 5) (o := 21) (n := 10) rfl g5 dX3_putsBehind_68 ?_
      refine v_icmp_le C (tgt := 76) dX3_putsBehind_69 rfl (fun hc => ?_) (fun hc => ?_)
      · replace h := (if_neg hc).symm.trans h
        refine v_iconst C (n := 0) dX3_putsBehind_76 ?_
        cases h
        exact v_zret C (by decide) F dX3_putsBehind_77 (Nat.zero_le _)
      · replace h := (if_pos hc).symm.trans h
        refine v_iconst C (n := 1) dX3_putsBehind_72 ?_
        refine v_goto C (tgt := 77) dX3_putsBehind_73 rfl ?_
        cases h
        exact v_zret C (by decide) F dX3_putsBehind_77 (Nat.zero_le _)
    · replace h := (if_neg hc2).symm.trans h
      by_cases hc3 : omw (omw (((c0 - 5 : Nat) : Int)) + 1) = 3
      · replace h := (if_pos hc3).symm.trans h
        refine v_tabIn C (tgt := 78) dX3_putsBehind_8 hc3 (by decide) (by decide) rfl rfl ?_
        refine v_aload_n C (q := 1) rfl rfl dX3_putsBehind_78 ?_
        refine v_getr C (q := 1) (o := 17) (r := 20) fi_X3_50 rfl rfl rfl dX3_putsBehind_79 ?_
        refine v_iload_n C (q := 2) rfl rfl dX3_putsBehind_82 ?_
        obtain ⟨g6, h⟩ := omg_some h
        refine v_iald C (q := 4) (o := 20) (n := 10) rfl g6 dX3_putsBehind_83 ?_
        refine v_aload_n C (q := 1) rfl rfl dX3_putsBehind_84 ?_
        refine v_getr C (q := 1) (o := 17) (r := 18) fi_X3_53 rfl rfl rfl dX3_putsBehind_85 ?_
        refine v_iload_n C (q := 3) rfl rfl dX3_putsBehind_88 ?_
        obtain ⟨g7, h⟩ := omg_some h
        refine v_iald C (q := 2) (o := 18) (n := 10) rfl g7 dX3_putsBehind_89 ?_
        refine v_imul C dX3_putsBehind_90 ?_
        refine v_aload_n C (q := 1) rfl rfl dX3_putsBehind_91 ?_
        refine v_getr C (q := 1) (o := 17) (r := 20) fi_X3_50 rfl rfl rfl dX3_putsBehind_92 ?_
        refine v_iload_n C (q := 3) rfl rfl dX3_putsBehind_95 ?_
        obtain ⟨g8, h⟩ := omg_some h
        refine v_iald C (q := 4) (o := 20) (n := 10) rfl g8 dX3_putsBehind_96 ?_
        refine v_aload_n C (q := 1) rfl rfl dX3_putsBehind_97 ?_
        refine v_getr C (q := 1) (o := 17) (r := 18) fi_X3_53 rfl rfl rfl dX3_putsBehind_98 ?_
        refine v_iload_n C (q := 2) rfl rfl dX3_putsBehind_101 ?_
        obtain ⟨g9, h⟩ := omg_some h
        refine v_iald C (q := 2) (o := 18) (n := 10) rfl g9 dX3_putsBehind_102 ?_
        refine v_imul C dX3_putsBehind_103 ?_
        refine v_icmp_ge C (tgt := 111) dX3_putsBehind_104 rfl (fun hc => ?_) (fun hc => ?_)
        · replace h := (if_neg hc).symm.trans h
          refine v_iconst C (n := 0) dX3_putsBehind_111 ?_
          cases h
          exact v_zret C (by decide) F dX3_putsBehind_112 (Nat.zero_le _)
        · replace h := (if_pos hc).symm.trans h
          refine v_iconst C (n := 1) dX3_putsBehind_107 ?_
          refine v_goto C (tgt := 112) dX3_putsBehind_108 rfl ?_
          cases h
          exact v_zret C (by decide) F dX3_putsBehind_112 (Nat.zero_le _)
      · replace h := (if_neg hc3).symm.trans h
        refine v_tabOut C (tgt := 78) dX3_putsBehind_8 (by omega) rfl ?_
        refine v_aload_n C (q := 1) rfl rfl dX3_putsBehind_78 ?_
        refine v_getr C (q := 1) (o := 17) (r := 20) fi_X3_50 rfl rfl rfl dX3_putsBehind_79 ?_
        refine v_iload_n C (q := 2) rfl rfl dX3_putsBehind_82 ?_
        obtain ⟨g10, h⟩ := omg_some h
        refine v_iald C (q := 4) (o := 20) (n := 10) rfl g10 dX3_putsBehind_83 ?_
        refine v_aload_n C (q := 1) rfl rfl dX3_putsBehind_84 ?_
        refine v_getr C (q := 1) (o := 17) (r := 18) fi_X3_53 rfl rfl rfl dX3_putsBehind_85 ?_
        refine v_iload_n C (q := 3) rfl rfl dX3_putsBehind_88 ?_
        obtain ⟨g11, h⟩ := omg_some h
        refine v_iald C (q := 2) (o := 18) (n := 10) rfl g11 dX3_putsBehind_89 ?_
        refine v_imul C dX3_putsBehind_90 ?_
        refine v_aload_n C (q := 1) rfl rfl dX3_putsBehind_91 ?_
        refine v_getr C (q := 1) (o := 17) (r := 20) fi_X3_50 rfl rfl rfl dX3_putsBehind_92 ?_
        refine v_iload_n C (q := 3) rfl rfl dX3_putsBehind_95 ?_
        obtain ⟨g12, h⟩ := omg_some h
        refine v_iald C (q := 4) (o := 20) (n := 10) rfl g12 dX3_putsBehind_96 ?_
        refine v_aload_n C (q := 1) rfl rfl dX3_putsBehind_97 ?_
        refine v_getr C (q := 1) (o := 17) (r := 18) fi_X3_53 rfl rfl rfl dX3_putsBehind_98 ?_
        refine v_iload_n C (q := 2) rfl rfl dX3_putsBehind_101 ?_
        obtain ⟨g13, h⟩ := omg_some h
        refine v_iald C (q := 2) (o := 18) (n := 10) rfl g13 dX3_putsBehind_102 ?_
        refine v_imul C dX3_putsBehind_103 ?_
        refine v_icmp_ge C (tgt := 111) dX3_putsBehind_104 rfl (fun hc => ?_) (fun hc => ?_)
        · replace h := (if_neg hc).symm.trans h
          refine v_iconst C (n := 0) dX3_putsBehind_111 ?_
          cases h
          exact v_zret C (by decide) F dX3_putsBehind_112 (Nat.zero_le _)
        · replace h := (if_pos hc).symm.trans h
          refine v_iconst C (n := 1) dX3_putsBehind_107 ?_
          refine v_goto C (tgt := 112) dX3_putsBehind_108 rfl ?_
          cases h
          exact v_zret C (by decide) F dX3_putsBehind_112 (Nat.zero_le _)
set_option maxHeartbeats 4000000 in
set_option maxRecDepth 100000 in
theorem kl_X2_fillInOrder_13 {G : omG} {x : omX} {q9 : Nat} {a1 : Nat} (C : omC G x RX2 cX2_fillInOrder 5 (2) 0) (hq : omT[q9]? = some ((a1, .inl (0, 10)) : Nat × omD)) (c2 : Nat) (v3 : Int) : ∀ (n : Nat) (v4 : Int) (σ : omH) (t : Int × omH), l_X2_fillInOrder_13 a1 c2 v3 n v4 σ = some t → omV G x 5 49 [(0, .ref (G.1 17)), (1, .ref (G.1 a1)), (2, .ref (G.1 c2)), (3, .int (omi v3)), (4, .int (omi t.1))] [] t.2 0 → omV G x 5 13 [(0, .ref (G.1 17)), (1, .ref (G.1 a1)), (2, .ref (G.1 c2)), (3, .int (omi v3)), (4, .int (omi v4))] [] σ 0 := by
  intro n
  induction n with
  | zero => intro v4 σ t h K; cases h
  | succ n ih =>
    intro v4 σ t h K
    rw [l_X2_fillInOrder_13.eq_2] at h
    refine v_iload C (q := 4) rfl dX2_fillInOrder_13 ?_
    refine v_if_le C (tgt := 49) dX2_fillInOrder_15 rfl (fun hc => ?_) (fun hc => ?_)
    · replace h := (if_neg hc).symm.trans h
      cases h
      exact K
    · replace h := (if_pos hc).symm.trans h
      refine v_aload_n C (q := 2) rfl rfl dX2_fillInOrder_18 ?_
      refine v_aload_n C (q := 0) rfl rfl dX2_fillInOrder_19 ?_
      refine v_aload_n C (q := 1) rfl rfl dX2_fillInOrder_20 ?_
      refine v_iload C (q := 4) rfl dX2_fillInOrder_21 ?_
      refine v_iconst C (n := 1) dX2_fillInOrder_23 ?_
      refine v_isub C dX2_fillInOrder_24 ?_
      obtain ⟨g1, h⟩ := omg_some h
      refine v_iald C hq g1 dX2_fillInOrder_25 ?_
      refine v_iload_n C (q := 3) rfl rfl dX2_fillInOrder_26 ?_
      obtain ⟨g3, h⟩ := omg_some h
      obtain ⟨r2, er2, h⟩ := om_bind h
      refine v_invE_i (As := [.ref (G.1 17), .int (omi (σ a1 (omw (v4 - 1)).toNat)), .int (omi v3)]) C mi_X3_putsBehind ml_X2_42 (k_X3_putsBehind c2 (σ a1 (omw (v4 - 1)).toNat) v3 σ _ er2) omEn_Key rfl g3.1 g3.2 rfl (by decide) (Nat.zero_le _) rfl (Nat.le_of_ble_eq_true rfl) dX2_fillInOrder_27 ?_
      refine v_if_eq C (tgt := 49) dX2_fillInOrder_30 rfl (fun hc => ?_) (fun hc => ?_)
      · replace h := (if_pos hc).symm.trans h
        cases h
        exact K
      · replace h := (if_neg hc).symm.trans h
        refine v_aload_n C (q := 1) rfl rfl dX2_fillInOrder_33 ?_
        refine v_iload C (q := 4) rfl dX2_fillInOrder_34 ?_
        refine v_aload_n C (q := 1) rfl rfl dX2_fillInOrder_36 ?_
        refine v_iload C (q := 4) rfl dX2_fillInOrder_37 ?_
        refine v_iconst C (n := 1) dX2_fillInOrder_39 ?_
        refine v_isub C dX2_fillInOrder_40 ?_
        obtain ⟨g4, h⟩ := omg_some h
        refine v_iald C hq g4 dX2_fillInOrder_41 ?_
        obtain ⟨g5, h⟩ := omg_some h
        refine v_iast C hq g5 dX2_fillInOrder_42 ?_
        refine v_iinc C (q := 4) (ls' := [(0, .ref (G.1 17)), (1, .ref (G.1 a1)), (2, .ref (G.1 c2)), (3, .int (omi v3)), (4, .int (omi (v4 + (-1))))]) rfl (by decide) rfl rfl dX2_fillInOrder_43 ?_
        refine v_goto C (tgt := 13) dX2_fillInOrder_46 rfl ?_
        exact ih _ _ _ h K
set_option maxHeartbeats 4000000 in
set_option maxRecDepth 100000 in
theorem kl_X2_fillInOrder_2 {G : omG} {x : omX} {q9 : Nat} {a1 : Nat} (C : omC G x RX2 cX2_fillInOrder 5 (2) 0) (hq : omT[q9]? = some ((a1, .inl (0, 10)) : Nat × omD)) (c2 : Nat) : ∀ (n : Nat) (v3 : Int) (σ : omH) (t : omH), l_X2_fillInOrder_2 a1 c2 n v3 σ = some t → omV G x 5 60 [] [] t 0 → omV G x 5 2 [(0, .ref (G.1 17)), (1, .ref (G.1 a1)), (2, .ref (G.1 c2)), (3, .int (omi v3))] [] σ 0 := by
  intro n
  induction n with
  | zero => intro v3 σ t h K; cases h
  | succ n ih =>
    intro v3 σ t h K
    rw [l_X2_fillInOrder_2.eq_2] at h
    refine v_iload_n C (q := 3) rfl rfl dX2_fillInOrder_2 ?_
    refine v_aload_n C (q := 0) rfl rfl dX2_fillInOrder_3 ?_
    refine v_geti C (q := 1) (o := 17) fi_X2_30 rfl rfl dX2_fillInOrder_4 ?_
    refine v_icmp_ge C (tgt := 60) dX2_fillInOrder_7 rfl (fun hc => ?_) (fun hc => ?_)
    · replace h := (if_neg hc).symm.trans h
      cases h
      exact v_subp [] rfl K
    · replace h := (if_pos hc).symm.trans h
      refine v_iload_n C (q := 3) rfl rfl dX2_fillInOrder_10 ?_
      refine v_istore C (ls' := [(0, .ref (G.1 17)), (1, .ref (G.1 a1)), (2, .ref (G.1 c2)), (3, .int (omi v3)), (4, .int (omi v3))]) (by decide) rfl dX2_fillInOrder_11 ?_
      obtain ⟨t6, et6, h⟩ := om_bind h
      refine kl_X2_fillInOrder_13 C hq c2 v3 FU _ _ t6 et6 ?_
      refine v_aload_n C (q := 1) rfl rfl dX2_fillInOrder_49 ?_
      refine v_iload C (q := 4) rfl dX2_fillInOrder_50 ?_
      refine v_iload_n C (q := 3) rfl rfl dX2_fillInOrder_52 ?_
      obtain ⟨g7, h⟩ := omg_some h
      refine v_iast C hq g7 dX2_fillInOrder_53 ?_
      refine v_iinc C (q := 3) (ls' := [(0, .ref (G.1 17)), (1, .ref (G.1 a1)), (2, .ref (G.1 c2)), (3, .int (omi (v3 + 1))), (4, .int (omi t6.1))]) rfl (by decide) rfl rfl dX2_fillInOrder_54 ?_
      refine v_goto C (tgt := 2) dX2_fillInOrder_57 rfl ?_
      exact v_subp [0, 1, 2, 3] rfl (ih _ _ _ h K)
set_option maxHeartbeats 4000000 in
set_option maxRecDepth 100000 in
theorem k_X2_fillInOrder {G : omG} (a1 : Nat) (c2 : Nat) (σ : omH) (t : omH) (h : s_X2_fillInOrder a1 c2 σ = some t) : omM G yX2_fillInOrder (.code yX2_fillInOrder cX2_fillInOrder 5 none) 2 0 [.ref (G.1 17), .ref (G.1 a1), .ref (G.1 c2)] σ (.inr none) t := by
  unfold s_X2_fillInOrder at h
  obtain ⟨hg, h⟩ := omg_some h
  obtain ⟨q9, hq⟩ := omI10_at hg.1
  refine om_head (own := RX2) (ls := [(0, .ref (G.1 17)), (1, .ref (G.1 a1)), (2, .ref (G.1 c2))]) (by decide +kernel) rfl (by simp [lg_sl, Value.category]) rfl (by simp [Value.category]) (fun x C F => ?_)
  refine v_iconst C (n := 0) dX2_fillInOrder_0 ?_
  refine v_istore_n C (ls' := [(0, .ref (G.1 17)), (1, .ref (G.1 a1)), (2, .ref (G.1 c2)), (3, .int (omi 0))]) rfl (by decide) rfl dX2_fillInOrder_1 ?_
  obtain ⟨t8, et8, h⟩ := om_bind h
  refine kl_X2_fillInOrder_2 C hq c2 FU _ _ t8 et8 ?_
  cases h
  exact v_vret C F dX2_fillInOrder_60 (Nat.zero_le _)
set_option maxHeartbeats 4000000 in
set_option maxRecDepth 100000 in
theorem k_X7_orderByDueDates {G : omG}  (σ : omH) (t : omH) (h : s_X7_orderByDueDates  σ = some t) : omM G yX7_orderByDueDates (.code yX7_orderByDueDates cX7_orderByDueDates 2 none) 3 0 [.ref (G.1 29), .ref (G.1 17)] σ (.inr none) t := by
  unfold s_X7_orderByDueDates at h
  refine om_head (own := RX7) (ls := [(0, .ref (G.1 29)), (1, .ref (G.1 17))]) (by decide +kernel) rfl (by simp [lg_sl, Value.category]) rfl (by simp [Value.category]) (fun x C F => ?_)
  refine v_aload_n C (q := 1) rfl rfl dX7_orderByDueDates_0 ?_
  refine v_aload_n C (q := 0) rfl rfl dX7_orderByDueDates_1 ?_
  refine v_getr C (q := 13) (o := 29) (r := 30) fi_X7_9 rfl rfl rfl dX7_orderByDueDates_2 ?_
  refine v_gste C omEn_Key (i := 0) (cn := 5) (by decide) rfl gs_X7_27 dX7_orderByDueDates_5 ?_
  obtain ⟨r1, er1, h⟩ := om_bind h
  refine v_invV_v (As := [.ref (G.1 30), .ref (G.1 5)]) C mi_X2_fillInOrder ml_X7_33 (k_X2_fillInOrder 30 5 σ _ er1) (q := 1) rfl rfl rfl (by decide) (Nat.zero_le _) rfl (Nat.le_of_ble_eq_true rfl) dX7_orderByDueDates_8 ?_
  cases h
  exact v_vret C F dX7_orderByDueDates_11 (Nat.zero_le _)
set_option maxHeartbeats 4000000 in
set_option maxRecDepth 100000 in
theorem k_X5_begin {G : omG}  (σ : omH) (t : omH) (h : s_X5_begin  σ = some t) : omM G yX5_begin (.code yX5_begin cX5_begin 1 none) 1 0 [.ref (G.1 24)] σ (.inr none) t := by
  unfold s_X5_begin at h
  refine om_head (own := RX5) (ls := [(0, .ref (G.1 24))]) (by decide +kernel) rfl (by simp [lg_sl, Value.category]) rfl (by simp [Value.category]) (fun x C F => ?_)
  refine v_aload_n C (q := 0) rfl rfl dX5_begin_0 ?_
  refine v_iconst C (n := 1) dX5_begin_1 ?_
  refine v_putz C (q := 8) (o := 24) fp_X5_24 (by decide) rfl rfl dX5_begin_2 ?_
  refine v_aload_n C (q := 0) rfl rfl dX5_begin_5 ?_
  refine v_iconst C (n := 0) dX5_begin_6 ?_
  refine v_puti C (q := 8) (o := 24) fp_X5_28 rfl rfl dX5_begin_7 ?_
  cases h
  exact v_vret C F dX5_begin_10 (Nat.zero_le _)
set_option maxHeartbeats 4000000 in
set_option maxRecDepth 100000 in
theorem k_X2_setupBehind {G : omG} (v1 : Int) (v2 : Int) (σ : omH) (t : Int) (h : s_X2_setupBehind v1 v2 σ = some t) : omM G yX2_setupBehind (.code yX2_setupBehind cX2_setupBehind 3 (some .int)) 1 0 [.ref (G.1 17), .int (omi v1), .int (omi v2)] σ (.inr (some (.int (omi t)))) σ := by
  unfold s_X2_setupBehind at h
  refine om_head (own := RX2) (ls := [(0, .ref (G.1 17)), (1, .int (omi v1)), (2, .int (omi v2))]) (by decide +kernel) rfl (by simp [lg_sl, Value.category]) rfl (by simp [Value.category]) (fun x C F => ?_)
  refine v_aload_n C (q := 0) rfl rfl dX2_setupBehind_0 ?_
  refine v_getr C (q := 1) (o := 17) (r := 22) fi_X2_24 rfl rfl rfl dX2_setupBehind_1 ?_
  refine v_iload_n C (q := 2) rfl rfl dX2_setupBehind_4 ?_
  obtain ⟨g1, h⟩ := omg_some h
  refine v_iald C (q := 6) (o := 22) (n := 10) rfl g1 dX2_setupBehind_5 ?_
  refine v_iload_n C (q := 1) rfl rfl dX2_setupBehind_6 ?_
  refine v_icmp_ne C (tgt := 14) dX2_setupBehind_7 rfl (fun hc => ?_) (fun hc => ?_)
  · replace h := (if_neg hc).symm.trans h
    refine v_aload_n C (q := 0) rfl rfl dX2_setupBehind_14 ?_
    refine v_getr C (q := 1) (o := 17) (r := 23) fi_X2_27 rfl rfl rfl dX2_setupBehind_15 ?_
    refine v_aload_n C (q := 0) rfl rfl dX2_setupBehind_18 ?_
    refine v_getr C (q := 1) (o := 17) (r := 22) fi_X2_24 rfl rfl rfl dX2_setupBehind_19 ?_
    refine v_iload_n C (q := 2) rfl rfl dX2_setupBehind_22 ?_
    obtain ⟨g2, h⟩ := omg_some h
    refine v_iald C (q := 6) (o := 22) (n := 10) rfl g2 dX2_setupBehind_23 ?_
    obtain ⟨g3, h⟩ := omg_some h
    refine v_iald C (q := 7) (o := 23) (n := 4) rfl g3 dX2_setupBehind_24 ?_
    cases h
    exact v_iret C F dX2_setupBehind_25 (Nat.zero_le _)
  · replace h := (if_pos hc).symm.trans h
    refine v_iconst C (n := 0) dX2_setupBehind_10 ?_
    refine v_goto C (tgt := 25) dX2_setupBehind_11 rfl ?_
    cases h
    exact v_iret C F dX2_setupBehind_25 (Nat.zero_le _)
set_option maxHeartbeats 4000000 in
set_option maxRecDepth 100000 in
theorem k_X5_now {G : omG}  (σ : omH) (t : Int) (h : s_X5_now  σ = some t) : omM G yX5_now (.code yX5_now cX5_now 1 (some .int)) 1 0 [.ref (G.1 24)] σ (.inr (some (.int (omi t)))) σ := by
  unfold s_X5_now at h
  refine om_head (own := RX5) (ls := [(0, .ref (G.1 24))]) (by decide +kernel) rfl (by simp [lg_sl, Value.category]) rfl (by simp [Value.category]) (fun x C F => ?_)
  refine v_aload_n C (q := 0) rfl rfl dX5_now_0 ?_
  refine v_geti C (q := 8) (o := 24) fi_X5_28 rfl rfl dX5_now_1 ?_
  refine v_if_ne C (tgt := 11) dX5_now_4 rfl (fun hc => ?_) (fun hc => ?_)
  · replace h := (if_neg hc).symm.trans h
    refine v_aload_n C (q := 0) rfl rfl dX5_now_11 ?_
    refine v_getr C (q := 8) (o := 24) (r := 27) fi_X5_18 rfl rfl rfl dX5_now_12 ?_
    refine v_aload_n C (q := 0) rfl rfl dX5_now_15 ?_
    refine v_geti C (q := 8) (o := 24) fi_X5_28 rfl rfl dX5_now_16 ?_
    refine v_iconst C (n := 1) dX5_now_19 ?_
    refine v_isub C dX5_now_20 ?_
    obtain ⟨g1, h⟩ := omg_some h
    refine v_iald C (q := 11) (o := 27) (n := 20) rfl g1 dX5_now_21 ?_
    cases h
    exact v_iret C F dX5_now_22 (Nat.zero_le _)
  · replace h := (if_pos hc).symm.trans h
    refine v_iconst C (n := 0) dX5_now_7 ?_
    refine v_goto C (tgt := 22) dX5_now_8 rfl ?_
    cases h
    exact v_iret C F dX5_now_22 (Nat.zero_le _)
set_option maxHeartbeats 4000000 in
set_option maxRecDepth 100000 in
theorem k_X5_add {G : omG} (v1 : Int) (v2 : Int) (v3 : Int) (σ : omH) (t : omH) (h : s_X5_add v1 v2 v3 σ = some t) : omM G yX5_add (.code yX5_add cX5_add 6 none) 2 0 [.ref (G.1 24), .int (omi v1), .int (omi v2), .int (omi v3)] σ (.inr none) t := by
  unfold s_X5_add at h
  refine om_head (own := RX5) (ls := [(0, .ref (G.1 24)), (1, .int (omi v1)), (2, .int (omi v2)), (3, .int (omi v3))]) (by decide +kernel) rfl (by simp [lg_sl, Value.category]) rfl (by simp [Value.category]) (fun x C F => ?_)
  refine v_aload_n C (q := 0) rfl rfl dX5_add_0 ?_
  obtain ⟨r1, er1, h⟩ := om_bind h
  refine v_invV_i (As := []) C mi_X5_now ml_X5_36 (k_X5_now  σ _ er1) (q := 8) rfl rfl rfl (by decide) (Nat.zero_le _) rfl (Nat.le_of_ble_eq_true rfl) dX5_add_1 ?_
  refine v_iload_n C (q := 3) rfl rfl dX5_add_4 ?_
  refine v_iadd C dX5_add_5 ?_
  refine v_istore C (ls' := [(0, .ref (G.1 24)), (1, .int (omi v1)), (2, .int (omi v2)), (3, .int (omi v3)), (4, .int (omi (r1 + v3)))]) (by decide) rfl dX5_add_6 ?_
  refine v_aload_n C (q := 0) rfl rfl dX5_add_8 ?_
  refine v_geti C (q := 8) (o := 24) fi_X5_28 rfl rfl dX5_add_9 ?_
  obtain ⟨t2, et2, h⟩ := om_bind h
  have Jt2 : omV G x 6 50 [(0, .ref (G.1 24)), (1, .int (omi v1)), (2, .int (omi v2)), (3, .int (omi v3)), (4, .int (omi (r1 + v3)))] [.int (omi t2)] σ 0 := by
    refine v_istore C (ls' := [(0, .ref (G.1 24)), (1, .int (omi v1)), (2, .int (omi v2)), (3, .int (omi v3)), (4, .int (omi (r1 + v3))), (5, .int (omi t2))]) (by decide) rfl dX5_add_50 ?_
    refine v_iload C (q := 5) rfl dX5_add_52 ?_
    refine v_if_eq C (tgt := 73) dX5_add_54 rfl (fun hc => ?_) (fun hc => ?_)
    · replace h := (if_pos hc).symm.trans h
      refine v_iload_n C (q := 3) rfl rfl dX5_add_73 ?_
      refine v_if_le C (tgt := 127) dX5_add_74 rfl (fun hc => ?_) (fun hc => ?_)
      · replace h := (if_neg hc).symm.trans h
        cases h
        exact v_vret C F dX5_add_127 (Nat.zero_le _)
      · replace h := (if_pos hc).symm.trans h
        refine v_aload_n C (q := 0) rfl rfl dX5_add_77 ?_
        refine v_geti C (q := 8) (o := 24) fi_X5_28 rfl rfl dX5_add_78 ?_
        refine v_bipush C (a := 20) (by decide) dX5_add_81 ?_
        refine v_icmp_ge C (tgt := 127) dX5_add_83 rfl (fun hc => ?_) (fun hc => ?_)
        · replace h := (if_neg hc).symm.trans h
          cases h
          exact v_vret C F dX5_add_127 (Nat.zero_le _)
        · replace h := (if_pos hc).symm.trans h
          refine v_aload_n C (q := 0) rfl rfl dX5_add_86 ?_
          refine v_getr C (q := 8) (o := 24) (r := 25) fi_X5_9 rfl rfl rfl dX5_add_87 ?_
          refine v_aload_n C (q := 0) rfl rfl dX5_add_90 ?_
          refine v_geti C (q := 8) (o := 24) fi_X5_28 rfl rfl dX5_add_91 ?_
          refine v_iload_n C (q := 1) rfl rfl dX5_add_94 ?_
          obtain ⟨g3, h⟩ := omg_some h
          refine v_iast C (q := 9) (o := 25) (n := 20) rfl g3 dX5_add_95 ?_
          refine v_aload_n C (q := 0) rfl rfl dX5_add_96 ?_
          refine v_getr C (q := 8) (o := 24) (r := 26) fi_X5_15 rfl rfl rfl dX5_add_97 ?_
          refine v_aload_n C (q := 0) rfl rfl dX5_add_100 ?_
          refine v_geti C (q := 8) (o := 24) fi_X5_28 rfl rfl dX5_add_101 ?_
          refine v_iload_n C (q := 2) rfl rfl dX5_add_104 ?_
          obtain ⟨g4, h⟩ := omg_some h
          refine v_iast C (q := 10) (o := 26) (n := 20) rfl g4 dX5_add_105 ?_
          refine v_aload_n C (q := 0) rfl rfl dX5_add_106 ?_
          refine v_getr C (q := 8) (o := 24) (r := 27) fi_X5_18 rfl rfl rfl dX5_add_107 ?_
          refine v_aload_n C (q := 0) rfl rfl dX5_add_110 ?_
          refine v_geti C (q := 8) (o := 24) fi_X5_28 rfl rfl dX5_add_111 ?_
          refine v_iload C (q := 4) rfl dX5_add_114 ?_
          obtain ⟨g5, h⟩ := omg_some h
          refine v_iast C (q := 11) (o := 27) (n := 20) rfl g5 dX5_add_116 ?_
          refine v_aload_n C (q := 0) rfl rfl dX5_add_117 ?_
          refine v_dup C rfl dX5_add_118 ?_
          refine v_geti C (q := 8) (o := 24) fi_X5_28 rfl rfl dX5_add_119 ?_
          refine v_iconst C (n := 1) dX5_add_122 ?_
          refine v_iadd C dX5_add_123 ?_
          refine v_puti C (q := 8) (o := 24) fp_X5_28 rfl rfl dX5_add_124 ?_
          cases h
          exact v_vret C F dX5_add_127 (Nat.zero_le _)
    · replace h := (if_neg hc).symm.trans h
      refine v_aload_n C (q := 0) rfl rfl dX5_add_57 ?_
      refine v_getr C (q := 8) (o := 24) (r := 27) fi_X5_18 rfl rfl rfl dX5_add_58 ?_
      refine v_aload_n C (q := 0) rfl rfl dX5_add_61 ?_
      refine v_geti C (q := 8) (o := 24) fi_X5_28 rfl rfl dX5_add_62 ?_
      refine v_iconst C (n := 1) dX5_add_65 ?_
      refine v_isub C dX5_add_66 ?_
      refine v_iload C (q := 4) rfl dX5_add_67 ?_
      obtain ⟨g6, h⟩ := omg_some h
      refine v_iast C (q := 11) (o := 27) (n := 20) rfl g6 dX5_add_69 ?_
      refine v_goto C (tgt := 127) dX5_add_70 rfl ?_
      cases h
      exact v_vret C F dX5_add_127 (Nat.zero_le _)
  clear h
  have h := et2
  clear et2
  refine v_if_le C (tgt := 49) dX5_add_12 rfl (fun hc => ?_) (fun hc => ?_)
  · replace h := (if_neg hc).symm.trans h
    refine v_iconst C (n := 0) dX5_add_49 ?_
    cases h
    exact Jt2
  · replace h := (if_pos hc).symm.trans h
    refine v_aload_n C (q := 0) rfl rfl dX5_add_15 ?_
    refine v_getr C (q := 8) (o := 24) (r := 25) fi_X5_9 rfl rfl rfl dX5_add_16 ?_
    refine v_aload_n C (q := 0) rfl rfl dX5_add_19 ?_
    refine v_geti C (q := 8) (o := 24) fi_X5_28 rfl rfl dX5_add_20 ?_
    refine v_iconst C (n := 1) dX5_add_23 ?_
    refine v_isub C dX5_add_24 ?_
    obtain ⟨g7, h⟩ := omg_some h
    refine v_iald C (q := 9) (o := 25) (n := 20) rfl g7 dX5_add_25 ?_
    refine v_iload_n C (q := 1) rfl rfl dX5_add_26 ?_
    refine v_icmp_ne C (tgt := 49) dX5_add_27 rfl (fun hc => ?_) (fun hc => ?_)
    · replace h := (if_neg hc).symm.trans h
      refine v_iconst C (n := 0) dX5_add_49 ?_
      cases h
      exact Jt2
    · replace h := (if_pos hc).symm.trans h
      refine v_aload_n C (q := 0) rfl rfl dX5_add_30 ?_
      refine v_getr C (q := 8) (o := 24) (r := 26) fi_X5_15 rfl rfl rfl dX5_add_31 ?_
      refine v_aload_n C (q := 0) rfl rfl dX5_add_34 ?_
      refine v_geti C (q := 8) (o := 24) fi_X5_28 rfl rfl dX5_add_35 ?_
      refine v_iconst C (n := 1) dX5_add_38 ?_
      refine v_isub C dX5_add_39 ?_
      obtain ⟨g8, h⟩ := omg_some h
      refine v_iald C (q := 10) (o := 26) (n := 20) rfl g8 dX5_add_40 ?_
      refine v_iload_n C (q := 2) rfl rfl dX5_add_41 ?_
      refine v_icmp_ne C (tgt := 49) dX5_add_42 rfl (fun hc => ?_) (fun hc => ?_)
      · replace h := (if_neg hc).symm.trans h
        refine v_iconst C (n := 0) dX5_add_49 ?_
        cases h
        exact Jt2
      · replace h := (if_pos hc).symm.trans h
        refine v_iconst C (n := 1) dX5_add_45 ?_
        refine v_goto C (tgt := 50) dX5_add_46 rfl ?_
        cases h
        exact Jt2
set_option maxHeartbeats 4000000 in
set_option maxRecDepth 100000 in
theorem k_X5_addWork {G : omG} (v1 : Int) (v2 : Int) (σ : omH) (t : omH) (h : s_X5_addWork v1 v2 σ = some t) : omM G yX5_addWork (.code yX5_addWork cX5_addWork 3 none) 3 0 [.ref (G.1 24), .int (omi v1), .int (omi v2)] σ (.inr none) t := by
  unfold s_X5_addWork at h
  refine om_head (own := RX5) (ls := [(0, .ref (G.1 24)), (1, .int (omi v1)), (2, .int (omi v2))]) (by decide +kernel) rfl (by simp [lg_sl, Value.category]) rfl (by simp [Value.category]) (fun x C F => ?_)
  refine v_aload_n C (q := 0) rfl rfl dX5_addWork_0 ?_
  refine v_iconst C (n := 0) dX5_addWork_1 ?_
  refine v_iload_n C (q := 1) rfl rfl dX5_addWork_2 ?_
  refine v_iload_n C (q := 2) rfl rfl dX5_addWork_3 ?_
  obtain ⟨r1, er1, h⟩ := om_bind h
  refine v_invV_v (As := [.int (omi 0), .int (omi v1), .int (omi v2)]) C mi_X5_add ml_X5_32 (k_X5_add 0 v1 v2 σ _ er1) (q := 8) rfl rfl rfl (by decide) (Nat.zero_le _) rfl (Nat.le_of_ble_eq_true rfl) dX5_addWork_4 ?_
  refine v_aload_n C (q := 0) rfl rfl dX5_addWork_7 ?_
  refine v_getr C (q := 8) (o := 24) (r := 28) fi_X5_21 rfl rfl rfl dX5_addWork_8 ?_
  refine v_iload_n C (q := 1) rfl rfl dX5_addWork_11 ?_
  refine v_aload_n C (q := 0) rfl rfl dX5_addWork_12 ?_
  obtain ⟨r2, er2, h⟩ := om_bind h
  refine v_invV_i (As := []) C mi_X5_now ml_X5_36 (k_X5_now  r1 _ er2) (q := 8) rfl rfl rfl (by decide) (Nat.zero_le _) rfl (Nat.le_of_ble_eq_true rfl) dX5_addWork_13 ?_
  obtain ⟨g3, h⟩ := omg_some h
  refine v_iast C (q := 12) (o := 28) (n := 10) rfl g3 dX5_addWork_16 ?_
  cases h
  exact v_vret C F dX5_addWork_17 (Nat.zero_le _)
set_option maxHeartbeats 4000000 in
set_option maxRecDepth 100000 in
theorem kl_X5_follow_10 {G : omG} {x : omX} (C : omC G x RX5 cX5_follow 7 (4) 0) (v3 : Int) : ∀ (n : Nat) (v4 : Int) (v5 : Int) (σ : omH) (t : omH), l_X5_follow_10 v3 n v4 v5 σ = some t → omV G x 7 77 [] [] t 0 → omV G x 7 10 [(0, .ref (G.1 24)), (1, .ref (G.1 17)), (2, .ref (G.1 30)), (3, .int (omi v3)), (4, .int (omi v4)), (5, .int (omi v5))] [] σ 0 := by
  intro n
  induction n with
  | zero => intro v4 v5 σ t h K; cases h
  | succ n ih =>
    intro v4 v5 σ t h K
    rw [l_X5_follow_10.eq_2] at h
    refine v_iload C (q := 5) rfl dX5_follow_10 ?_
    refine v_aload_n C (q := 1) rfl rfl dX5_follow_12 ?_
    refine v_geti C (q := 1) (o := 17) fi_X5_43 rfl rfl dX5_follow_13 ?_
    refine v_icmp_ge C (tgt := 77) dX5_follow_16 rfl (fun hc => ?_) (fun hc => ?_)
    · replace h := (if_neg hc).symm.trans h
      cases h
      exact v_subp [] rfl K
    · replace h := (if_pos hc).symm.trans h
      refine v_aload_n C (q := 2) rfl rfl dX5_follow_19 ?_
      refine v_iload C (q := 5) rfl dX5_follow_20 ?_
      obtain ⟨g2, h⟩ := omg_some h
      refine v_iald C (q := 14) (o := 30) (n := 10) rfl g2 dX5_follow_22 ?_
      refine v_istore C (ls' := [(0, .ref (G.1 24)), (1, .ref (G.1 17)), (2, .ref (G.1 30)), (3, .int (omi v3)), (4, .int (omi v4)), (5, .int (omi v5)), (6, .int (omi (σ 30 (omw v5).toNat)))]) (by decide) rfl dX5_follow_23 ?_
      refine v_iload_n C (q := 3) rfl rfl dX5_follow_25 ?_
      obtain ⟨t3, et3, h⟩ := om_bind h
      have Jt3 : omV G x 7 58 [(0, .ref (G.1 24)), (1, .ref (G.1 17)), (2, .ref (G.1 30)), (3, .int (omi v3)), (4, .int (omi t3.1)), (5, .int (omi v5)), (6, .int (omi (σ 30 (omw v5).toNat)))] [] t3.2 0 := by
        refine v_aload_n C (q := 0) rfl rfl dX5_follow_58 ?_
        refine v_iload C (q := 6) rfl dX5_follow_59 ?_
        refine v_aload_n C (q := 1) rfl rfl dX5_follow_61 ?_
        refine v_getr C (q := 1) (o := 17) (r := 18) fi_X5_53 rfl rfl rfl dX5_follow_62 ?_
        refine v_iload C (q := 6) rfl dX5_follow_65 ?_
        obtain ⟨g4, h⟩ := omg_some h
        refine v_iald C (q := 2) (o := 18) (n := 10) rfl g4 dX5_follow_67 ?_
        obtain ⟨r5, er5, h⟩ := om_bind h
        refine v_invV_v (As := [.int (omi (σ 30 (omw v5).toNat)), .int (omi (t3.2 18 (omw (σ 30 (omw v5).toNat)).toNat))]) C mi_X5_addWork ml_X5_56 (k_X5_addWork (σ 30 (omw v5).toNat) (t3.2 18 (omw (σ 30 (omw v5).toNat)).toNat) t3.2 _ er5) (q := 8) rfl rfl rfl (by decide) (Nat.zero_le _) rfl (Nat.le_of_ble_eq_true rfl) dX5_follow_68 ?_
        refine v_iinc C (q := 5) (ls' := [(0, .ref (G.1 24)), (1, .ref (G.1 17)), (2, .ref (G.1 30)), (3, .int (omi v3)), (4, .int (omi t3.1)), (5, .int (omi (v5 + 1))), (6, .int (omi (σ 30 (omw v5).toNat)))]) rfl (by decide) rfl rfl dX5_follow_71 ?_
        refine v_goto C (tgt := 10) dX5_follow_74 rfl ?_
        exact v_subp [0, 1, 2, 3, 4, 5] rfl (ih _ _ _ _ h K)
      clear h
      have h := et3
      clear et3
      refine v_if_eq C (tgt := 58) dX5_follow_26 rfl (fun hc => ?_) (fun hc => ?_)
      · replace h := (if_pos hc).symm.trans h
        cases h
        exact Jt3
      · replace h := (if_neg hc).symm.trans h
        refine v_aload_n C (q := 0) rfl rfl dX5_follow_29 ?_
        refine v_iconst C (n := 1) dX5_follow_30 ?_
        refine v_aload_n C (q := 1) rfl rfl dX5_follow_31 ?_
        refine v_getr C (q := 1) (o := 17) (r := 22) fi_X5_46 rfl rfl rfl dX5_follow_32 ?_
        refine v_iload C (q := 6) rfl dX5_follow_35 ?_
        obtain ⟨g6, h⟩ := omg_some h
        refine v_iald C (q := 6) (o := 22) (n := 10) rfl g6 dX5_follow_37 ?_
        refine v_aload_n C (q := 1) rfl rfl dX5_follow_38 ?_
        refine v_iload C (q := 4) rfl dX5_follow_39 ?_
        refine v_iload C (q := 6) rfl dX5_follow_41 ?_
        obtain ⟨r7, er7, h⟩ := om_bind h
        refine v_invV_i (As := [.int (omi v4), .int (omi (σ 30 (omw v5).toNat))]) C mi_X2_setupBehind ml_X5_49 (k_X2_setupBehind v4 (σ 30 (omw v5).toNat) σ _ er7) (q := 1) rfl rfl rfl (by decide) (Nat.zero_le _) rfl (Nat.le_of_ble_eq_true rfl) dX5_follow_43 ?_
        obtain ⟨r8, er8, h⟩ := om_bind h
        refine v_invV_v (As := [.int (omi 1), .int (omi (σ 22 (omw (σ 30 (omw v5).toNat)).toNat)), .int (omi r7)]) C mi_X5_add ml_X5_32 (k_X5_add 1 (σ 22 (omw (σ 30 (omw v5).toNat)).toNat) r7 σ _ er8) (q := 8) rfl rfl rfl (by decide) (Nat.zero_le _) rfl (Nat.le_of_ble_eq_true rfl) dX5_follow_46 ?_
        refine v_aload_n C (q := 1) rfl rfl dX5_follow_49 ?_
        refine v_getr C (q := 1) (o := 17) (r := 22) fi_X5_46 rfl rfl rfl dX5_follow_50 ?_
        refine v_iload C (q := 6) rfl dX5_follow_53 ?_
        obtain ⟨g9, h⟩ := omg_some h
        refine v_iald C (q := 6) (o := 22) (n := 10) rfl g9 dX5_follow_55 ?_
        refine v_istore C (ls' := [(0, .ref (G.1 24)), (1, .ref (G.1 17)), (2, .ref (G.1 30)), (3, .int (omi v3)), (4, .int (omi (r8 22 (omw (σ 30 (omw v5).toNat)).toNat))), (5, .int (omi v5)), (6, .int (omi (σ 30 (omw v5).toNat)))]) (by decide) rfl dX5_follow_56 ?_
        cases h
        exact Jt3
set_option maxHeartbeats 4000000 in
set_option maxRecDepth 100000 in
theorem k_X5_follow {G : omG} (v3 : Int) (σ : omH) (t : omH) (h : s_X5_follow v3 σ = some t) : omM G yX5_follow (.code yX5_follow cX5_follow 7 none) 4 0 [.ref (G.1 24), .ref (G.1 17), .ref (G.1 30), .int (omi v3)] σ (.inr none) t := by
  unfold s_X5_follow at h
  refine om_head (own := RX5) (ls := [(0, .ref (G.1 24)), (1, .ref (G.1 17)), (2, .ref (G.1 30)), (3, .int (omi v3))]) (by decide +kernel) rfl (by simp [lg_sl, Value.category]) rfl (by simp [Value.category]) (fun x C F => ?_)
  refine v_aload_n C (q := 0) rfl rfl dX5_follow_0 ?_
  obtain ⟨r1, er1, h⟩ := om_bind h
  refine v_invV_v (As := []) C mi_X5_begin ml_X5_40 (k_X5_begin  σ _ er1) (q := 8) rfl rfl rfl (by decide) (Nat.zero_le _) rfl (Nat.le_of_ble_eq_true rfl) dX5_follow_1 ?_
  refine v_iconst C (n := 4) dX5_follow_4 ?_
  refine v_istore C (ls' := [(0, .ref (G.1 24)), (1, .ref (G.1 17)), (2, .ref (G.1 30)), (3, .int (omi v3)), (4, .int (omi 4))]) (by decide) rfl dX5_follow_5 ?_
  refine v_iconst C (n := 0) dX5_follow_7 ?_
  refine v_istore C (ls' := [(0, .ref (G.1 24)), (1, .ref (G.1 17)), (2, .ref (G.1 30)), (3, .int (omi v3)), (4, .int (omi 4)), (5, .int (omi 0))]) (by decide) rfl dX5_follow_8 ?_
  obtain ⟨t10, et10, h⟩ := om_bind h
  refine kl_X5_follow_10 C v3 FU _ _ _ t10 et10 ?_
  cases h
  exact v_vret C F dX5_follow_77 (Nat.zero_le _)
set_option maxHeartbeats 4000000 in
set_option maxRecDepth 100000 in
theorem k_X1_ofNoJob {G : omG} (c0 : Nat) (σ : omH) (t : Int) (h : s_X1_ofNoJob c0 σ = some t) : omM G yX1_ofNoJob (.code yX1_ofNoJob cX1_ofNoJob 1 (some .int)) 1 0 [.ref (G.1 c0)] σ (.inr (some (.int (omi t)))) σ := by
  unfold s_X1_ofNoJob at h
  obtain ⟨hg, h⟩ := omg_some h
  refine om_head (own := RX1) (ls := [(0, .ref (G.1 c0))]) (by decide +kernel) rfl (by simp [lg_sl, Value.category]) rfl (by simp [Value.category]) (fun x C F => ?_)
  refine v_aload_n C (q := 0) rfl rfl dX1_ofNoJob_0 ?_
  refine v_gste C omEn_Cost (i := 0) (cn := 0) (by decide) rfl gs_X1_5 dX1_ofNoJob_1 ?_
  refine v_acmpne C (by omega) (by omega) (tgt := 12) dX1_ofNoJob_4 rfl (fun hc => ?_) (fun hc => ?_)
  · replace h := (if_neg hc).symm.trans h
    refine v_iconst C (n := 0) dX1_ofNoJob_12 ?_
    cases h
    exact v_iret C F dX1_ofNoJob_13 (Nat.zero_le _)
  · replace h := (if_pos hc).symm.trans h
    refine v_ldc C kc_X1_40 dX1_ofNoJob_7 ?_
    refine v_goto C (tgt := 13) dX1_ofNoJob_9 rfl ?_
    cases h
    exact v_iret C F dX1_ofNoJob_13 (Nat.zero_le _)
set_option maxHeartbeats 4000000 in
set_option maxRecDepth 100000 in
theorem k_X1_with {G : omG} (c0 : Nat) (v1 : Int) (v3 : Int) (v4 : Int) (σ : omH) (t : Int) (h : s_X1_with c0 v1 v3 v4 σ = some t) : omM G yX1_with (.code yX1_with cX1_with 6 (some .int)) 1 0 [.ref (G.1 c0), .int (omi v1), .ref (G.1 17), .int (omi v3), .int (omi v4)] σ (.inr (some (.int (omi t)))) σ := by
  unfold s_X1_with at h
  obtain ⟨hg, h⟩ := omg_some h
  refine om_head (own := RX1) (ls := [(0, .ref (G.1 c0)), (1, .int (omi v1)), (2, .ref (G.1 17)), (3, .int (omi v3)), (4, .int (omi v4))]) (by decide +kernel) rfl (by simp [lg_sl, Value.category]) rfl (by simp [Value.category]) (fun x C F => ?_)
  refine v_iload C (q := 4) rfl dX1_with_0 ?_
  refine v_aload_n C (q := 2) rfl rfl dX1_with_2 ?_
  refine v_getr C (q := 1) (o := 17) (r := 19) fi_X1_41 rfl rfl rfl dX1_with_3 ?_
  refine v_iload_n C (q := 3) rfl rfl dX1_with_6 ?_
  obtain ⟨g1, h⟩ := omg_some h
  refine v_iald C (q := 3) (o := 19) (n := 10) rfl g1 dX1_with_7 ?_
  refine v_isub C dX1_with_8 ?_
  refine v_istore C (ls' := [(0, .ref (G.1 c0)), (1, .int (omi v1)), (2, .ref (G.1 17)), (3, .int (omi v3)), (4, .int (omi v4)), (5, .int (omi (v4 - (σ 19 (omw v3).toNat))))]) (by decide) rfl dX1_with_9 ?_
  refine v_gsts C omSw_Cost gs_X1_47 dX1_with_11 ?_
  refine v_aload_n C (q := 0) rfl rfl dX1_with_14 ?_
  refine v_ord C omEn_Cost (by show _ ≤ _; omega) (by show _ < _ + _; simp only [List.length_cons, List.length_nil]; omega) (by decide) (ov := ((c0 - 0 : Nat) : Int)) rfl ml_X1_52 ord_same_X1 ord_sel_X1 (Nat.le_of_ble_eq_true rfl) (Nat.zero_le _) dX1_with_15 ?_
  obtain ⟨g2, h⟩ := omg_some h
  refine v_swld C omSw_Cost g2 dX1_with_18 ?_
  by_cases hc1 : omw (omw (((c0 - 0 : Nat) : Int)) + 1) = 1
  · replace h := (if_pos hc1).symm.trans h
    refine v_tabIn C (tgt := 52) dX1_with_19 hc1 (by decide) (by decide) rfl rfl ?_
    refine v_iload_n C (q := 1) rfl rfl dX1_with_52 ?_
    refine v_iload C (q := 5) rfl dX1_with_53 ?_
    refine v_mmax C ml_X1_56 ms_max ini_Math mc_max (Nat.le_of_ble_eq_true rfl) (Nat.zero_le _) dX1_with_55 ?_
    cases h
    exact v_iret C F dX1_with_58 (Nat.zero_le _)
  · replace h := (if_neg hc1).symm.trans h
    by_cases hc2 : omw (omw (((c0 - 0 : Nat) : Int)) + 1) = 2
    · replace h := (if_pos hc2).symm.trans h
      refine v_tabIn C (tgt := 59) dX1_with_19 hc2 (by decide) (by decide) rfl rfl ?_
      refine v_iload C (q := 5) rfl dX1_with_59 ?_
      refine v_if_le C (tgt := 70) dX1_with_61 rfl (fun hc => ?_) (fun hc => ?_)
      · replace h := (if_neg hc).symm.trans h
        refine v_iload_n C (q := 1) rfl rfl dX1_with_70 ?_
        cases h
        exact v_iret C F dX1_with_71 (Nat.zero_le _)
      · replace h := (if_pos hc).symm.trans h
        refine v_iload_n C (q := 1) rfl rfl dX1_with_64 ?_
        refine v_iconst C (n := 1) dX1_with_65 ?_
        refine v_iadd C dX1_with_66 ?_
        refine v_goto C (tgt := 71) dX1_with_67 rfl ?_
        cases h
        exact v_iret C F dX1_with_71 (Nat.zero_le _)
    · replace h := (if_neg hc2).symm.trans h
      by_cases hc3 : omw (omw (((c0 - 0 : Nat) : Int)) + 1) = 3
      · replace h := (if_pos hc3).symm.trans h
        refine v_tabIn C (tgt := 72) dX1_with_19 hc3 (by decide) (by decide) rfl rfl ?_
        refine v_iload_n C (q := 1) rfl rfl dX1_with_72 ?_
        refine v_iload C (q := 4) rfl dX1_with_73 ?_
        refine v_iadd C dX1_with_75 ?_
        cases h
        exact v_iret C F dX1_with_76 (Nat.zero_le _)
      · replace h := (if_neg hc3).symm.trans h
        by_cases hc4 : omw (omw (((c0 - 0 : Nat) : Int)) + 1) = 4
        · replace h := (if_pos hc4).symm.trans h
          refine v_tabIn C (tgt := 77) dX1_with_19 hc4 (by decide) (by decide) rfl rfl ?_
          refine v_iload_n C (q := 1) rfl rfl dX1_with_77 ?_
          refine v_aload_n C (q := 2) rfl rfl dX1_with_78 ?_
          refine v_getr C (q := 1) (o := 17) (r := 20) fi_X1_62 rfl rfl rfl dX1_with_79 ?_
          refine v_iload_n C (q := 3) rfl rfl dX1_with_82 ?_
          obtain ⟨g3, h⟩ := omg_some h
          refine v_iald C (q := 4) (o := 20) (n := 10) rfl g3 dX1_with_83 ?_
          refine v_iload C (q := 4) rfl dX1_with_84 ?_
          refine v_imul C dX1_with_86 ?_
          refine v_iadd C dX1_with_87 ?_
          cases h
          exact v_iret C F dX1_with_88 (Nat.zero_le _)
        · replace h := (if_neg hc4).symm.trans h
          by_cases hc5 : omw (omw (((c0 - 0 : Nat) : Int)) + 1) = 5
          · replace h := (if_pos hc5).symm.trans h
            refine v_tabIn C (tgt := 89) dX1_with_19 hc5 (by decide) (by decide) rfl rfl ?_
            refine v_iload_n C (q := 1) rfl rfl dX1_with_89 ?_
            refine v_aload_n C (q := 2) rfl rfl dX1_with_90 ?_
            refine v_getr C (q := 1) (o := 17) (r := 20) fi_X1_62 rfl rfl rfl dX1_with_91 ?_
            refine v_iload_n C (q := 3) rfl rfl dX1_with_94 ?_
            obtain ⟨g4, h⟩ := omg_some h
            refine v_iald C (q := 4) (o := 20) (n := 10) rfl g4 dX1_with_95 ?_
            refine v_iconst C (n := 0) dX1_with_96 ?_
            refine v_iload C (q := 5) rfl dX1_with_97 ?_
            refine v_mmax C ml_X1_56 ms_max ini_Math mc_max (Nat.le_of_ble_eq_true rfl) (Nat.zero_le _) dX1_with_99 ?_
            refine v_imul C dX1_with_102 ?_
            refine v_iadd C dX1_with_103 ?_
            cases h
            exact v_iret C F dX1_with_104 (Nat.zero_le _)
          · replace h := (if_neg hc5).symm.trans h
            refine v_tabOut C (tgt := 89) dX1_with_19 (by omega) rfl ?_
            refine v_iload_n C (q := 1) rfl rfl dX1_with_89 ?_
            refine v_aload_n C (q := 2) rfl rfl dX1_with_90 ?_
            refine v_getr C (q := 1) (o := 17) (r := 20) fi_X1_62 rfl rfl rfl dX1_with_91 ?_
            refine v_iload_n C (q := 3) rfl rfl dX1_with_94 ?_
            obtain ⟨g5, h⟩ := omg_some h
            refine v_iald C (q := 4) (o := 20) (n := 10) rfl g5 dX1_with_95 ?_
            refine v_iconst C (n := 0) dX1_with_96 ?_
            refine v_iload C (q := 5) rfl dX1_with_97 ?_
            refine v_mmax C ml_X1_56 ms_max ini_Math mc_max (Nat.le_of_ble_eq_true rfl) (Nat.zero_le _) dX1_with_99 ?_
            refine v_imul C dX1_with_102 ?_
            refine v_iadd C dX1_with_103 ?_
            cases h
            exact v_iret C F dX1_with_104 (Nat.zero_le _)
set_option maxHeartbeats 4000000 in
set_option maxRecDepth 100000 in
theorem kl_X5_total_8 {G : omG} {x : omX} (C : omC G x RX5 cX5_total 5 (2) 0) (c2 : Nat) (σ : omH) : ∀ (n : Nat) (v3 : Int) (v4 : Int) (t : Int), l_X5_total_8 c2 σ n v3 v4 = some t → omV G x 5 39 [(3, .int (omi t))] [] σ 0 → omV G x 5 8 [(0, .ref (G.1 24)), (1, .ref (G.1 17)), (2, .ref (G.1 c2)), (3, .int (omi v3)), (4, .int (omi v4))] [] σ 0 := by
  intro n
  induction n with
  | zero => intro v3 v4 t h K; cases h
  | succ n ih =>
    intro v3 v4 t h K
    rw [l_X5_total_8.eq_2] at h
    refine v_iload C (q := 4) rfl dX5_total_8 ?_
    refine v_aload_n C (q := 1) rfl rfl dX5_total_10 ?_
    refine v_geti C (q := 1) (o := 17) fi_X5_43 rfl rfl dX5_total_11 ?_
    refine v_icmp_ge C (tgt := 39) dX5_total_14 rfl (fun hc => ?_) (fun hc => ?_)
    · replace h := (if_neg hc).symm.trans h
      cases h
      exact v_subp [3] rfl K
    · replace h := (if_pos hc).symm.trans h
      refine v_aload_n C (q := 2) rfl rfl dX5_total_17 ?_
      refine v_iload_n C (q := 3) rfl rfl dX5_total_18 ?_
      refine v_aload_n C (q := 1) rfl rfl dX5_total_19 ?_
      refine v_iload C (q := 4) rfl dX5_total_20 ?_
      refine v_aload_n C (q := 0) rfl rfl dX5_total_22 ?_
      refine v_getr C (q := 8) (o := 24) (r := 28) fi_X5_21 rfl rfl rfl dX5_total_23 ?_
      refine v_iload C (q := 4) rfl dX5_total_26 ?_
      obtain ⟨g3, h⟩ := omg_some h
      refine v_iald C (q := 12) (o := 28) (n := 10) rfl g3 dX5_total_28 ?_
      obtain ⟨g5, h⟩ := omg_some h
      obtain ⟨r4, er4, h⟩ := om_bind h
      refine v_invE_i (As := [.int (omi v3), .ref (G.1 17), .int (omi v4), .int (omi (σ 28 (omw v4).toNat))]) C mi_X1_with ml_X5_65 (k_X1_with c2 v3 v4 (σ 28 (omw v4).toNat) σ _ er4) omEn_Cost rfl g5.1 g5.2 rfl (by decide) (Nat.zero_le _) rfl (Nat.le_of_ble_eq_true rfl) dX5_total_29 ?_
      refine v_istore_n C (ls' := [(0, .ref (G.1 24)), (1, .ref (G.1 17)), (2, .ref (G.1 c2)), (3, .int (omi r4)), (4, .int (omi v4))]) rfl (by decide) rfl dX5_total_32 ?_
      refine v_iinc C (q := 4) (ls' := [(0, .ref (G.1 24)), (1, .ref (G.1 17)), (2, .ref (G.1 c2)), (3, .int (omi r4)), (4, .int (omi (v4 + 1)))]) rfl (by decide) rfl rfl dX5_total_33 ?_
      refine v_goto C (tgt := 8) dX5_total_36 rfl ?_
      exact ih _ _ _ h K
set_option maxHeartbeats 4000000 in
set_option maxRecDepth 100000 in
theorem k_X5_total {G : omG} (c2 : Nat) (σ : omH) (t : Int) (h : s_X5_total c2 σ = some t) : omM G yX5_total (.code yX5_total cX5_total 5 (some .int)) 2 0 [.ref (G.1 24), .ref (G.1 17), .ref (G.1 c2)] σ (.inr (some (.int (omi t)))) σ := by
  unfold s_X5_total at h
  obtain ⟨hg, h⟩ := omg_some h
  refine om_head (own := RX5) (ls := [(0, .ref (G.1 24)), (1, .ref (G.1 17)), (2, .ref (G.1 c2))]) (by decide +kernel) rfl (by simp [lg_sl, Value.category]) rfl (by simp [Value.category]) (fun x C F => ?_)
  refine v_aload_n C (q := 2) rfl rfl dX5_total_0 ?_
  obtain ⟨g2, h⟩ := omg_some h
  obtain ⟨r1, er1, h⟩ := om_bind h
  refine v_invE_i (As := []) C mi_X1_ofNoJob ml_X5_60 (k_X1_ofNoJob c2 σ _ er1) omEn_Cost rfl g2.1 g2.2 rfl (by decide) (Nat.zero_le _) rfl (Nat.le_of_ble_eq_true rfl) dX5_total_1 ?_
  refine v_istore_n C (ls' := [(0, .ref (G.1 24)), (1, .ref (G.1 17)), (2, .ref (G.1 c2)), (3, .int (omi r1))]) rfl (by decide) rfl dX5_total_4 ?_
  refine v_iconst C (n := 0) dX5_total_5 ?_
  refine v_istore C (ls' := [(0, .ref (G.1 24)), (1, .ref (G.1 17)), (2, .ref (G.1 c2)), (3, .int (omi r1)), (4, .int (omi 0))]) (by decide) rfl dX5_total_6 ?_
  obtain ⟨t6, et6, h⟩ := om_bind h
  refine kl_X5_total_8 C c2 σ FU _ _ t6 et6 ?_
  refine v_iload_n C (q := 0) rfl rfl dX5_total_39 ?_
  cases h
  exact v_iret C F dX5_total_40 (Nat.zero_le _)
set_option maxHeartbeats 4000000 in
set_option maxRecDepth 100000 in
theorem n_X11_planByDueDates {G : omG}  (σ : omH) (t : (Int × omH)) (h : s_X11_planByDueDates  σ = some (Sum.inr t)) : omM G yX11_planByDueDates (.code yX11_planByDueDates cX11_planByDueDates 1 (some .int)) 5 0 [.ref (G.1 16)] σ (.inr (some (.int (omi t.1)))) t.2 := by
  unfold s_X11_planByDueDates at h
  refine om_head (own := RX11) (ls := [(0, .ref (G.1 16))]) (by decide +kernel) rfl (by simp [lg_sl, Value.category]) rfl (by simp [Value.category]) (fun x C F => ?_)
  refine v_aload_n C (q := 0) rfl rfl dX11_planByDueDates_0 ?_
  obtain ⟨r1, er1, h⟩ := om_bind h
  rcases r1 with u2 | u2
  · replace h := (Sum.elim_inl _ _ _).symm.trans h
    cases h
  · replace h := (Sum.elim_inr _ _ _).symm.trans h
    refine v_invV_v (As := []) C mi_X11_needSomeJob ml_X11_105 (n_X11_needSomeJob  σ _ er1) (q := 0) rfl rfl rfl (by decide) (Nat.zero_le _) rfl (Nat.le_of_ble_eq_true rfl) dX11_planByDueDates_1 ?_
    refine v_aload_n C (q := 0) rfl rfl dX11_planByDueDates_4 ?_
    refine v_getr C (q := 0) (o := 16) (r := 29) fi_X11_26 rfl rfl rfl dX11_planByDueDates_5 ?_
    refine v_aload_n C (q := 0) rfl rfl dX11_planByDueDates_8 ?_
    refine v_getr C (q := 0) (o := 16) (r := 17) fi_X11_12 rfl rfl rfl dX11_planByDueDates_9 ?_
    obtain ⟨r3, er3, h⟩ := om_bind h
    refine v_invV_v (As := [.ref (G.1 17)]) C mi_X7_orderByDueDates ml_X11_108 (k_X7_orderByDueDates  σ _ er3) (q := 13) rfl rfl rfl (by decide) (Nat.zero_le _) rfl (Nat.le_of_ble_eq_true rfl) dX11_planByDueDates_12 ?_
    refine v_aload_n C (q := 0) rfl rfl dX11_planByDueDates_15 ?_
    refine v_getr C (q := 0) (o := 16) (r := 24) fi_X11_19 rfl rfl rfl dX11_planByDueDates_16 ?_
    refine v_aload_n C (q := 0) rfl rfl dX11_planByDueDates_19 ?_
    refine v_getr C (q := 0) (o := 16) (r := 17) fi_X11_12 rfl rfl rfl dX11_planByDueDates_20 ?_
    refine v_aload_n C (q := 0) rfl rfl dX11_planByDueDates_23 ?_
    refine v_getr C (q := 0) (o := 16) (r := 29) fi_X11_26 rfl rfl rfl dX11_planByDueDates_24 ?_
    refine v_getr C (q := 13) (o := 29) (r := 30) fi_X11_112 rfl rfl rfl dX11_planByDueDates_27 ?_
    refine v_iconst C (n := 0) dX11_planByDueDates_30 ?_
    obtain ⟨r4, er4, h⟩ := om_bind h
    refine v_invV_v (As := [.ref (G.1 17), .ref (G.1 30), .int (omi 0)]) C mi_X5_follow ml_X11_115 (k_X5_follow 0 r3 _ er4) (q := 8) rfl rfl rfl (by decide) (Nat.zero_le _) rfl (Nat.le_of_ble_eq_true rfl) dX11_planByDueDates_31 ?_
    refine v_aload_n C (q := 0) rfl rfl dX11_planByDueDates_34 ?_
    refine v_getr C (q := 0) (o := 16) (r := 24) fi_X11_19 rfl rfl rfl dX11_planByDueDates_35 ?_
    refine v_aload_n C (q := 0) rfl rfl dX11_planByDueDates_38 ?_
    refine v_getr C (q := 0) (o := 16) (r := 17) fi_X11_12 rfl rfl rfl dX11_planByDueDates_39 ?_
    refine v_gste C omEn_Cost (i := 0) (cn := 0) (by decide) rfl gs_X11_119 dX11_planByDueDates_42 ?_
    obtain ⟨r5, er5, h⟩ := om_bind h
    refine v_invV_i (As := [.ref (G.1 17), .ref (G.1 0)]) C mi_X5_total ml_X11_125 (k_X5_total 0 r4 _ er5) (q := 8) rfl rfl rfl (by decide) (Nat.zero_le _) rfl (Nat.le_of_ble_eq_true rfl) dX11_planByDueDates_45 ?_
    cases h
    exact v_iret C F dX11_planByDueDates_48 (Nat.zero_le _)
set_option maxHeartbeats 4000000 in
set_option maxRecDepth 100000 in
theorem k_X2_isIn {G : omG} (v1 : Int) (v2 : Int) (σ : omH) (t : Int) (h : s_X2_isIn v1 v2 σ = some t) : omM G yX2_isIn (.code yX2_isIn cX2_isIn 3 (some .boolean)) 1 0 [.ref (G.1 17), .int (omi v1), .int (omi v2)] σ (.inr (some (.int (omi t)))) σ := by
  unfold s_X2_isIn at h
  refine om_head (own := RX2) (ls := [(0, .ref (G.1 17)), (1, .int (omi v1)), (2, .int (omi v2))]) (by decide +kernel) rfl (by simp [lg_sl, Value.category]) rfl (by simp [Value.category]) (fun x C F => ?_)
  refine v_iload_n C (q := 1) rfl rfl dX2_isIn_0 ?_
  refine v_iload_n C (q := 2) rfl rfl dX2_isIn_1 ?_
  refine v_ishr C dX2_isIn_2 ?_
  refine v_iconst C (n := 1) dX2_isIn_3 ?_
  refine v_iand C dX2_isIn_4 ?_
  refine v_if_eq C (tgt := 12) dX2_isIn_5 rfl (fun hc => ?_) (fun hc => ?_)
  · replace h := (if_pos hc).symm.trans h
    refine v_iconst C (n := 0) dX2_isIn_12 ?_
    cases h
    exact v_zret C (by decide) F dX2_isIn_13 (Nat.zero_le _)
  · replace h := (if_neg hc).symm.trans h
    refine v_iconst C (n := 1) dX2_isIn_8 ?_
    refine v_goto C (tgt := 13) dX2_isIn_9 rfl ?_
    cases h
    exact v_zret C (by decide) F dX2_isIn_13 (Nat.zero_le _)
set_option maxHeartbeats 4000000 in
set_option maxRecDepth 100000 in
theorem kl_X2_lengthOfSet_4 {G : omG} {x : omX} (C : omC G x RX2 cX2_lengthOfSet 4 (2) 0) (v1 : Int) (σ : omH) : ∀ (n : Nat) (v2 : Int) (v3 : Int) (t : Int), l_X2_lengthOfSet_4 v1 σ n v2 v3 = some t → omV G x 4 36 [(2, .int (omi t))] [] σ 0 → omV G x 4 4 [(0, .ref (G.1 17)), (1, .int (omi v1)), (2, .int (omi v2)), (3, .int (omi v3))] [] σ 0 := by
  intro n
  induction n with
  | zero => intro v2 v3 t h K; cases h
  | succ n ih =>
    intro v2 v3 t h K
    rw [l_X2_lengthOfSet_4.eq_2] at h
    refine v_iload_n C (q := 3) rfl rfl dX2_lengthOfSet_4 ?_
    refine v_aload_n C (q := 0) rfl rfl dX2_lengthOfSet_5 ?_
    refine v_geti C (q := 1) (o := 17) fi_X2_30 rfl rfl dX2_lengthOfSet_6 ?_
    refine v_icmp_ge C (tgt := 36) dX2_lengthOfSet_9 rfl (fun hc => ?_) (fun hc => ?_)
    · replace h := (if_neg hc).symm.trans h
      cases h
      exact v_subp [2] rfl K
    · replace h := (if_pos hc).symm.trans h
      refine v_aload_n C (q := 0) rfl rfl dX2_lengthOfSet_12 ?_
      refine v_iload_n C (q := 1) rfl rfl dX2_lengthOfSet_13 ?_
      refine v_iload_n C (q := 3) rfl rfl dX2_lengthOfSet_14 ?_
      obtain ⟨r1, er1, h⟩ := om_bind h
      refine v_invV_i (As := [.int (omi v1), .int (omi v3)]) C mi_X2_isIn ml_X2_38 (k_X2_isIn v1 v3 σ _ er1) (q := 1) rfl rfl rfl (by decide) (Nat.zero_le _) rfl (Nat.le_of_ble_eq_true rfl) dX2_lengthOfSet_15 ?_
      refine v_if_eq C (tgt := 30) dX2_lengthOfSet_18 rfl (fun hc => ?_) (fun hc => ?_)
      · replace h := (if_pos hc).symm.trans h
        refine v_iinc C (q := 3) (ls' := [(0, .ref (G.1 17)), (1, .int (omi v1)), (2, .int (omi v2)), (3, .int (omi (v3 + 1)))]) rfl (by decide) rfl rfl dX2_lengthOfSet_30 ?_
        refine v_goto C (tgt := 4) dX2_lengthOfSet_33 rfl ?_
        exact ih _ _ _ h K
      · replace h := (if_neg hc).symm.trans h
        refine v_iload_n C (q := 2) rfl rfl dX2_lengthOfSet_21 ?_
        refine v_aload_n C (q := 0) rfl rfl dX2_lengthOfSet_22 ?_
        refine v_getr C (q := 1) (o := 17) (r := 18) fi_X2_9 rfl rfl rfl dX2_lengthOfSet_23 ?_
        refine v_iload_n C (q := 3) rfl rfl dX2_lengthOfSet_26 ?_
        obtain ⟨g2, h⟩ := omg_some h
        refine v_iald C (q := 2) (o := 18) (n := 10) rfl g2 dX2_lengthOfSet_27 ?_
        refine v_iadd C dX2_lengthOfSet_28 ?_
        refine v_istore_n C (ls' := [(0, .ref (G.1 17)), (1, .int (omi v1)), (2, .int (omi (v2 + (σ 18 (omw v3).toNat)))), (3, .int (omi v3))]) rfl (by decide) rfl dX2_lengthOfSet_29 ?_
        refine v_iinc C (q := 3) (ls' := [(0, .ref (G.1 17)), (1, .int (omi v1)), (2, .int (omi (v2 + (σ 18 (omw v3).toNat)))), (3, .int (omi (v3 + 1)))]) rfl (by decide) rfl rfl dX2_lengthOfSet_30 ?_
        refine v_goto C (tgt := 4) dX2_lengthOfSet_33 rfl ?_
        exact ih _ _ _ h K
set_option maxHeartbeats 4000000 in
set_option maxRecDepth 100000 in
theorem k_X2_lengthOfSet {G : omG} (v1 : Int) (σ : omH) (t : Int) (h : s_X2_lengthOfSet v1 σ = some t) : omM G yX2_lengthOfSet (.code yX2_lengthOfSet cX2_lengthOfSet 4 (some .int)) 2 0 [.ref (G.1 17), .int (omi v1)] σ (.inr (some (.int (omi t)))) σ := by
  unfold s_X2_lengthOfSet at h
  refine om_head (own := RX2) (ls := [(0, .ref (G.1 17)), (1, .int (omi v1))]) (by decide +kernel) rfl (by simp [lg_sl, Value.category]) rfl (by simp [Value.category]) (fun x C F => ?_)
  refine v_iconst C (n := 0) dX2_lengthOfSet_0 ?_
  refine v_istore_n C (ls' := [(0, .ref (G.1 17)), (1, .int (omi v1)), (2, .int (omi 0))]) rfl (by decide) rfl dX2_lengthOfSet_1 ?_
  refine v_iconst C (n := 0) dX2_lengthOfSet_2 ?_
  refine v_istore_n C (ls' := [(0, .ref (G.1 17)), (1, .int (omi v1)), (2, .int (omi 0)), (3, .int (omi 0))]) rfl (by decide) rfl dX2_lengthOfSet_3 ?_
  obtain ⟨t3, et3, h⟩ := om_bind h
  refine kl_X2_lengthOfSet_4 C v1 σ FU _ _ t3 et3 ?_
  refine v_iload_n C (q := 0) rfl rfl dX2_lengthOfSet_36 ?_
  cases h
  exact v_iret C F dX2_lengthOfSet_37 (Nat.zero_le _)
set_option maxHeartbeats 4000000 in
set_option maxRecDepth 100000 in
theorem kl_X7_longestOf_7 {G : omG} {x : omX} (C : omC G x RX7 cX7_longestOf 5 (2) 0) (v1 : Int) (σ : omH) : ∀ (n : Nat) (v2 : Int) (v3 : Int) (v4 : Int) (t : Int), l_X7_longestOf_7 v1 σ n v2 v3 v4 = some t → omV G x 5 54 [(2, .int (omi t))] [] σ 0 → omV G x 5 7 [(0, .ref (G.1 17)), (1, .int (omi v1)), (2, .int (omi v2)), (3, .int (omi v3)), (4, .int (omi v4))] [] σ 0 := by
  intro n
  induction n with
  | zero => intro v2 v3 v4 t h K; cases h
  | succ n ih =>
    intro v2 v3 v4 t h K
    rw [l_X7_longestOf_7.eq_2] at h
    refine v_iload C (q := 4) rfl dX7_longestOf_7 ?_
    refine v_aload_n C (q := 0) rfl rfl dX7_longestOf_9 ?_
    refine v_geti C (q := 1) (o := 17) fi_X7_42 rfl rfl dX7_longestOf_10 ?_
    refine v_icmp_ge C (tgt := 54) dX7_longestOf_13 rfl (fun hc => ?_) (fun hc => ?_)
    · replace h := (if_neg hc).symm.trans h
      cases h
      exact v_subp [2] rfl K
    · replace h := (if_pos hc).symm.trans h
      refine v_aload_n C (q := 0) rfl rfl dX7_longestOf_16 ?_
      refine v_iload_n C (q := 1) rfl rfl dX7_longestOf_17 ?_
      refine v_iload C (q := 4) rfl dX7_longestOf_18 ?_
      obtain ⟨r1, er1, h⟩ := om_bind h
      refine v_invV_i (As := [.int (omi v1), .int (omi v4)]) C mi_X2_isIn ml_X7_61 (k_X2_isIn v1 v4 σ _ er1) (q := 1) rfl rfl rfl (by decide) (Nat.zero_le _) rfl (Nat.le_of_ble_eq_true rfl) dX7_longestOf_20 ?_
      refine v_if_eq C (tgt := 48) dX7_longestOf_23 rfl (fun hc => ?_) (fun hc => ?_)
      · replace h := (if_pos hc).symm.trans h
        refine v_iinc C (q := 4) (ls' := [(0, .ref (G.1 17)), (1, .int (omi v1)), (2, .int (omi v2)), (3, .int (omi v3)), (4, .int (omi (v4 + 1)))]) rfl (by decide) rfl rfl dX7_longestOf_48 ?_
        refine v_goto C (tgt := 7) dX7_longestOf_51 rfl ?_
        exact ih _ _ _ _ h K
      · replace h := (if_neg hc).symm.trans h
        refine v_aload_n C (q := 0) rfl rfl dX7_longestOf_26 ?_
        refine v_getr C (q := 1) (o := 17) (r := 18) fi_X7_65 rfl rfl rfl dX7_longestOf_27 ?_
        refine v_iload C (q := 4) rfl dX7_longestOf_30 ?_
        obtain ⟨g2, h⟩ := omg_some h
        refine v_iald C (q := 2) (o := 18) (n := 10) rfl g2 dX7_longestOf_32 ?_
        refine v_iload_n C (q := 3) rfl rfl dX7_longestOf_33 ?_
        refine v_icmp_lt C (tgt := 48) dX7_longestOf_34 rfl (fun hc => ?_) (fun hc => ?_)
        · replace h := (if_pos hc).symm.trans h
          refine v_iinc C (q := 4) (ls' := [(0, .ref (G.1 17)), (1, .int (omi v1)), (2, .int (omi v2)), (3, .int (omi v3)), (4, .int (omi (v4 + 1)))]) rfl (by decide) rfl rfl dX7_longestOf_48 ?_
          refine v_goto C (tgt := 7) dX7_longestOf_51 rfl ?_
          exact ih _ _ _ _ h K
        · replace h := (if_neg hc).symm.trans h
          refine v_iload C (q := 4) rfl dX7_longestOf_37 ?_
          refine v_istore_n C (ls' := [(0, .ref (G.1 17)), (1, .int (omi v1)), (2, .int (omi v4)), (3, .int (omi v3)), (4, .int (omi v4))]) rfl (by decide) rfl dX7_longestOf_39 ?_
          refine v_aload_n C (q := 0) rfl rfl dX7_longestOf_40 ?_
          refine v_getr C (q := 1) (o := 17) (r := 18) fi_X7_65 rfl rfl rfl dX7_longestOf_41 ?_
          refine v_iload C (q := 4) rfl dX7_longestOf_44 ?_
          obtain ⟨g3, h⟩ := omg_some h
          refine v_iald C (q := 2) (o := 18) (n := 10) rfl g3 dX7_longestOf_46 ?_
          refine v_istore_n C (ls' := [(0, .ref (G.1 17)), (1, .int (omi v1)), (2, .int (omi v4)), (3, .int (omi (σ 18 (omw v4).toNat))), (4, .int (omi v4))]) rfl (by decide) rfl dX7_longestOf_47 ?_
          refine v_iinc C (q := 4) (ls' := [(0, .ref (G.1 17)), (1, .int (omi v1)), (2, .int (omi v4)), (3, .int (omi (σ 18 (omw v4).toNat))), (4, .int (omi (v4 + 1)))]) rfl (by decide) rfl rfl dX7_longestOf_48 ?_
          refine v_goto C (tgt := 7) dX7_longestOf_51 rfl ?_
          exact ih _ _ _ _ h K
set_option maxHeartbeats 4000000 in
set_option maxRecDepth 100000 in
theorem k_X7_longestOf {G : omG} (v1 : Int) (σ : omH) (t : Int) (h : s_X7_longestOf v1 σ = some t) : omM G yX7_longestOf (.code yX7_longestOf cX7_longestOf 5 (some .int)) 2 0 [.ref (G.1 17), .int (omi v1)] σ (.inr (some (.int (omi t)))) σ := by
  unfold s_X7_longestOf at h
  refine om_head (own := RX7) (ls := [(0, .ref (G.1 17)), (1, .int (omi v1))]) (by decide +kernel) rfl (by simp [lg_sl, Value.category]) rfl (by simp [Value.category]) (fun x C F => ?_)
  refine v_iconst C (n := 0) dX7_longestOf_0 ?_
  refine v_istore_n C (ls' := [(0, .ref (G.1 17)), (1, .int (omi v1)), (2, .int (omi 0))]) rfl (by decide) rfl dX7_longestOf_1 ?_
  refine v_iconst C (n := 0) dX7_longestOf_2 ?_
  refine v_istore_n C (ls' := [(0, .ref (G.1 17)), (1, .int (omi v1)), (2, .int (omi 0)), (3, .int (omi 0))]) rfl (by decide) rfl dX7_longestOf_3 ?_
  refine v_iconst C (n := 0) dX7_longestOf_4 ?_
  refine v_istore C (ls' := [(0, .ref (G.1 17)), (1, .int (omi v1)), (2, .int (omi 0)), (3, .int (omi 0)), (4, .int (omi 0))]) (by decide) rfl dX7_longestOf_5 ?_
  obtain ⟨t4, et4, h⟩ := om_bind h
  refine kl_X7_longestOf_7 C v1 σ FU _ _ _ t4 et4 ?_
  refine v_iload_n C (q := 0) rfl rfl dX7_longestOf_54 ?_
  cases h
  exact v_iret C F dX7_longestOf_55 (Nat.zero_le _)
set_option maxHeartbeats 4000000 in
set_option maxRecDepth 100000 in
theorem kl_X7_putDroppedBehind_6 {G : omG} {x : omX} (C : omC G x RX7 cX7_putDroppedBehind 6 (2) 0) (v2 : Int) (v3 : Int) : ∀ (n : Nat) (v4 : Int) (v5 : Int) (σ : omH) (t : Int × omH), l_X7_putDroppedBehind_6 v2 v3 n v4 v5 σ = some t → omV G x 6 53 [(0, .ref (G.1 29)), (3, .int (omi v3)), (4, .int (omi t.1))] [] t.2 0 → omV G x 6 6 [(0, .ref (G.1 29)), (1, .ref (G.1 17)), (2, .int (omi v2)), (3, .int (omi v3)), (4, .int (omi v4)), (5, .int (omi v5))] [] σ 0 := by
  intro n
  induction n with
  | zero => intro v4 v5 σ t h K; cases h
  | succ n ih =>
    intro v4 v5 σ t h K
    rw [l_X7_putDroppedBehind_6.eq_2] at h
    refine v_iload C (q := 5) rfl dX7_putDroppedBehind_6 ?_
    refine v_aload_n C (q := 1) rfl rfl dX7_putDroppedBehind_8 ?_
    refine v_geti C (q := 1) (o := 17) fi_X7_42 rfl rfl dX7_putDroppedBehind_9 ?_
    refine v_icmp_ge C (tgt := 53) dX7_putDroppedBehind_12 rfl (fun hc => ?_) (fun hc => ?_)
    · replace h := (if_neg hc).symm.trans h
      cases h
      exact v_subp [0, 3, 4] rfl K
    · replace h := (if_pos hc).symm.trans h
      refine v_aload_n C (q := 1) rfl rfl dX7_putDroppedBehind_15 ?_
      refine v_iload_n C (q := 2) rfl rfl dX7_putDroppedBehind_16 ?_
      refine v_aload_n C (q := 0) rfl rfl dX7_putDroppedBehind_17 ?_
      refine v_getr C (q := 13) (o := 29) (r := 31) fi_X7_15 rfl rfl rfl dX7_putDroppedBehind_18 ?_
      refine v_iload C (q := 5) rfl dX7_putDroppedBehind_21 ?_
      obtain ⟨g1, h⟩ := omg_some h
      refine v_iald C (q := 15) (o := 31) (n := 10) rfl g1 dX7_putDroppedBehind_23 ?_
      obtain ⟨r2, er2, h⟩ := om_bind h
      refine v_invV_i (As := [.int (omi v2), .int (omi (σ 31 (omw v5).toNat))]) C mi_X2_isIn ml_X7_61 (k_X2_isIn v2 (σ 31 (omw v5).toNat) σ _ er2) (q := 1) rfl rfl rfl (by decide) (Nat.zero_le _) rfl (Nat.le_of_ble_eq_true rfl) dX7_putDroppedBehind_24 ?_
      refine v_if_eq C (tgt := 47) dX7_putDroppedBehind_27 rfl (fun hc => ?_) (fun hc => ?_)
      · replace h := (if_pos hc).symm.trans h
        refine v_iinc C (q := 5) (ls' := [(0, .ref (G.1 29)), (1, .ref (G.1 17)), (2, .int (omi v2)), (3, .int (omi v3)), (4, .int (omi v4)), (5, .int (omi (v5 + 1)))]) rfl (by decide) rfl rfl dX7_putDroppedBehind_47 ?_
        refine v_goto C (tgt := 6) dX7_putDroppedBehind_50 rfl ?_
        exact ih _ _ _ _ h K
      · replace h := (if_neg hc).symm.trans h
        refine v_aload_n C (q := 0) rfl rfl dX7_putDroppedBehind_30 ?_
        refine v_getr C (q := 13) (o := 29) (r := 30) fi_X7_9 rfl rfl rfl dX7_putDroppedBehind_31 ?_
        refine v_iload C (q := 4) rfl dX7_putDroppedBehind_34 ?_
        refine v_aload_n C (q := 0) rfl rfl dX7_putDroppedBehind_36 ?_
        refine v_getr C (q := 13) (o := 29) (r := 31) fi_X7_15 rfl rfl rfl dX7_putDroppedBehind_37 ?_
        refine v_iload C (q := 5) rfl dX7_putDroppedBehind_40 ?_
        obtain ⟨g3, h⟩ := omg_some h
        refine v_iald C (q := 15) (o := 31) (n := 10) rfl g3 dX7_putDroppedBehind_42 ?_
        obtain ⟨g4, h⟩ := omg_some h
        refine v_iast C (q := 14) (o := 30) (n := 10) rfl g4 dX7_putDroppedBehind_43 ?_
        refine v_iinc C (q := 4) (ls' := [(0, .ref (G.1 29)), (1, .ref (G.1 17)), (2, .int (omi v2)), (3, .int (omi v3)), (4, .int (omi (v4 + 1))), (5, .int (omi v5))]) rfl (by decide) rfl rfl dX7_putDroppedBehind_44 ?_
        refine v_iinc C (q := 5) (ls' := [(0, .ref (G.1 29)), (1, .ref (G.1 17)), (2, .int (omi v2)), (3, .int (omi v3)), (4, .int (omi (v4 + 1))), (5, .int (omi (v5 + 1)))]) rfl (by decide) rfl rfl dX7_putDroppedBehind_47 ?_
        refine v_goto C (tgt := 6) dX7_putDroppedBehind_50 rfl ?_
        exact ih _ _ _ _ h K
set_option maxHeartbeats 4000000 in
set_option maxRecDepth 100000 in
theorem kl_X7_putDroppedBehind_56 {G : omG} {x : omX} (C : omC G x RX7 cX7_putDroppedBehind 6 (2) 0) (v3 : Int) : ∀ (n : Nat) (v4 : Int) (v5 : Int) (σ : omH) (t : omH), l_X7_putDroppedBehind_56 v3 n v4 v5 σ = some t → omV G x 6 85 [] [] t 0 → omV G x 6 56 [(0, .ref (G.1 29)), (3, .int (omi v3)), (4, .int (omi v4)), (5, .int (omi v5))] [] σ 0 := by
  intro n
  induction n with
  | zero => intro v4 v5 σ t h K; cases h
  | succ n ih =>
    intro v4 v5 σ t h K
    rw [l_X7_putDroppedBehind_56.eq_2] at h
    refine v_iload C (q := 3) rfl dX7_putDroppedBehind_56 ?_
    refine v_iload_n C (q := 1) rfl rfl dX7_putDroppedBehind_58 ?_
    refine v_icmp_ge C (tgt := 85) dX7_putDroppedBehind_59 rfl (fun hc => ?_) (fun hc => ?_)
    · replace h := (if_neg hc).symm.trans h
      cases h
      exact v_subp [] rfl K
    · replace h := (if_pos hc).symm.trans h
      refine v_aload_n C (q := 0) rfl rfl dX7_putDroppedBehind_62 ?_
      refine v_getr C (q := 13) (o := 29) (r := 30) fi_X7_9 rfl rfl rfl dX7_putDroppedBehind_63 ?_
      refine v_iload C (q := 2) rfl dX7_putDroppedBehind_66 ?_
      refine v_aload_n C (q := 0) rfl rfl dX7_putDroppedBehind_68 ?_
      refine v_getr C (q := 13) (o := 29) (r := 32) fi_X7_18 rfl rfl rfl dX7_putDroppedBehind_69 ?_
      refine v_iload C (q := 3) rfl dX7_putDroppedBehind_72 ?_
      obtain ⟨g6, h⟩ := omg_some h
      refine v_iald C (q := 16) (o := 32) (n := 10) rfl g6 dX7_putDroppedBehind_74 ?_
      obtain ⟨g7, h⟩ := omg_some h
      refine v_iast C (q := 14) (o := 30) (n := 10) rfl g7 dX7_putDroppedBehind_75 ?_
      refine v_iinc C (q := 2) (ls' := [(0, .ref (G.1 29)), (3, .int (omi v3)), (4, .int (omi (v4 + 1))), (5, .int (omi v5))]) rfl (by decide) rfl rfl dX7_putDroppedBehind_76 ?_
      refine v_iinc C (q := 3) (ls' := [(0, .ref (G.1 29)), (3, .int (omi v3)), (4, .int (omi (v4 + 1))), (5, .int (omi (v5 + 1)))]) rfl (by decide) rfl rfl dX7_putDroppedBehind_79 ?_
      refine v_goto C (tgt := 56) dX7_putDroppedBehind_82 rfl ?_
      exact ih _ _ _ _ h K
set_option maxHeartbeats 4000000 in
set_option maxRecDepth 100000 in
theorem k_X7_putDroppedBehind {G : omG} (v2 : Int) (v3 : Int) (σ : omH) (t : omH) (h : s_X7_putDroppedBehind v2 v3 σ = some t) : omM G yX7_putDroppedBehind (.code yX7_putDroppedBehind cX7_putDroppedBehind 6 none) 2 0 [.ref (G.1 29), .ref (G.1 17), .int (omi v2), .int (omi v3)] σ (.inr none) t := by
  unfold s_X7_putDroppedBehind at h
  refine om_head (own := RX7) (ls := [(0, .ref (G.1 29)), (1, .ref (G.1 17)), (2, .int (omi v2)), (3, .int (omi v3))]) (by decide +kernel) rfl (by simp [lg_sl, Value.category]) rfl (by simp [Value.category]) (fun x C F => ?_)
  refine v_iconst C (n := 0) dX7_putDroppedBehind_0 ?_
  refine v_istore C (ls' := [(0, .ref (G.1 29)), (1, .ref (G.1 17)), (2, .int (omi v2)), (3, .int (omi v3)), (4, .int (omi 0))]) (by decide) rfl dX7_putDroppedBehind_1 ?_
  refine v_iconst C (n := 0) dX7_putDroppedBehind_3 ?_
  refine v_istore C (ls' := [(0, .ref (G.1 29)), (1, .ref (G.1 17)), (2, .int (omi v2)), (3, .int (omi v3)), (4, .int (omi 0)), (5, .int (omi 0))]) (by decide) rfl dX7_putDroppedBehind_4 ?_
  obtain ⟨t5, et5, h⟩ := om_bind h
  refine kl_X7_putDroppedBehind_6 C v2 v3 FU _ _ _ t5 et5 ?_
  refine v_iconst C (n := 0) dX7_putDroppedBehind_53 ?_
  refine v_istore C (ls' := [(0, .ref (G.1 29)), (3, .int (omi v3)), (4, .int (omi t5.1)), (5, .int (omi 0))]) (by decide) rfl dX7_putDroppedBehind_54 ?_
  obtain ⟨t8, et8, h⟩ := om_bind h
  refine kl_X7_putDroppedBehind_56 C v3 FU _ _ _ t8 et8 ?_
  cases h
  exact v_vret C F dX7_putDroppedBehind_85 (Nat.zero_le _)
set_option maxHeartbeats 4000000 in
set_option maxRecDepth 100000 in
theorem kl_X7_orderWithFewestLate_18 {G : omG} {x : omX} (C : omC G x RX7 cX7_orderWithFewestLate 7 (3) 0) : ∀ (n : Nat) (v2 : Int) (v3 : Int) (v4 : Int) (σ : omH) (t : Int × Int × omH), l_X7_orderWithFewestLate_18  n v2 v3 v4 σ = some t → omV G x 7 91 [(0, .ref (G.1 29)), (1, .ref (G.1 17)), (2, .int (omi t.1)), (3, .int (omi t.2.1))] [] t.2.2 0 → omV G x 7 18 [(0, .ref (G.1 29)), (1, .ref (G.1 17)), (2, .int (omi v2)), (3, .int (omi v3)), (4, .int (omi v4))] [] σ 0 := by
  intro n
  induction n with
  | zero => intro v2 v3 v4 σ t h K; cases h
  | succ n ih =>
    intro v2 v3 v4 σ t h K
    rw [l_X7_orderWithFewestLate_18.eq_2] at h
    refine v_iload C (q := 4) rfl dX7_orderWithFewestLate_18 ?_
    refine v_aload_n C (q := 1) rfl rfl dX7_orderWithFewestLate_20 ?_
    refine v_geti C (q := 1) (o := 17) fi_X7_42 rfl rfl dX7_orderWithFewestLate_21 ?_
    refine v_icmp_ge C (tgt := 91) dX7_orderWithFewestLate_24 rfl (fun hc => ?_) (fun hc => ?_)
    · replace h := (if_neg hc).symm.trans h
      cases h
      exact v_subp [0, 1, 2, 3] rfl K
    · replace h := (if_pos hc).symm.trans h
      refine v_aload_n C (q := 0) rfl rfl dX7_orderWithFewestLate_27 ?_
      refine v_getr C (q := 13) (o := 29) (r := 31) fi_X7_15 rfl rfl rfl dX7_orderWithFewestLate_28 ?_
      refine v_iload C (q := 4) rfl dX7_orderWithFewestLate_31 ?_
      obtain ⟨g2, h⟩ := omg_some h
      refine v_iald C (q := 15) (o := 31) (n := 10) rfl g2 dX7_orderWithFewestLate_33 ?_
      refine v_istore C (ls' := [(0, .ref (G.1 29)), (1, .ref (G.1 17)), (2, .int (omi v2)), (3, .int (omi v3)), (4, .int (omi v4)), (5, .int (omi (σ 31 (omw v4).toNat)))]) (by decide) rfl dX7_orderWithFewestLate_34 ?_
      refine v_iload_n C (q := 2) rfl rfl dX7_orderWithFewestLate_36 ?_
      refine v_iconst C (n := 1) dX7_orderWithFewestLate_37 ?_
      refine v_iload C (q := 5) rfl dX7_orderWithFewestLate_38 ?_
      refine v_ishl C dX7_orderWithFewestLate_40 ?_
      refine v_ior C dX7_orderWithFewestLate_41 ?_
      refine v_istore_n C (ls' := [(0, .ref (G.1 29)), (1, .ref (G.1 17)), (2, .int (omi (omor v2 (omshl 1 (σ 31 (omw v4).toNat))))), (3, .int (omi v3)), (4, .int (omi v4)), (5, .int (omi (σ 31 (omw v4).toNat)))]) rfl (by decide) rfl dX7_orderWithFewestLate_42 ?_
      refine v_aload_n C (q := 1) rfl rfl dX7_orderWithFewestLate_43 ?_
      refine v_iload_n C (q := 2) rfl rfl dX7_orderWithFewestLate_44 ?_
      obtain ⟨r3, er3, h⟩ := om_bind h
      refine v_invV_i (As := [.int (omi (omor v2 (omshl 1 (σ 31 (omw v4).toNat))))]) C mi_X2_lengthOfSet ml_X7_46 (k_X2_lengthOfSet (omor v2 (omshl 1 (σ 31 (omw v4).toNat))) σ _ er3) (q := 1) rfl rfl rfl (by decide) (Nat.zero_le _) rfl (Nat.le_of_ble_eq_true rfl) dX7_orderWithFewestLate_45 ?_
      refine v_aload_n C (q := 1) rfl rfl dX7_orderWithFewestLate_48 ?_
      refine v_getr C (q := 1) (o := 17) (r := 19) fi_X7_50 rfl rfl rfl dX7_orderWithFewestLate_49 ?_
      refine v_iload C (q := 5) rfl dX7_orderWithFewestLate_52 ?_
      obtain ⟨g4, h⟩ := omg_some h
      refine v_iald C (q := 3) (o := 19) (n := 10) rfl g4 dX7_orderWithFewestLate_54 ?_
      refine v_icmp_le C (tgt := 85) dX7_orderWithFewestLate_55 rfl (fun hc => ?_) (fun hc => ?_)
      · replace h := (if_neg hc).symm.trans h
        refine v_iinc C (q := 4) (ls' := [(0, .ref (G.1 29)), (1, .ref (G.1 17)), (2, .int (omi (omor v2 (omshl 1 (σ 31 (omw v4).toNat))))), (3, .int (omi v3)), (4, .int (omi (v4 + 1))), (5, .int (omi (σ 31 (omw v4).toNat)))]) rfl (by decide) rfl rfl dX7_orderWithFewestLate_85 ?_
        refine v_goto C (tgt := 18) dX7_orderWithFewestLate_88 rfl ?_
        exact v_subp [0, 1, 2, 3, 4] rfl (ih _ _ _ _ _ h K)
      · replace h := (if_pos hc).symm.trans h
        refine v_aload_n C (q := 1) rfl rfl dX7_orderWithFewestLate_58 ?_
        refine v_iload_n C (q := 2) rfl rfl dX7_orderWithFewestLate_59 ?_
        obtain ⟨r5, er5, h⟩ := om_bind h
        refine v_invS_i (As := [.ref (G.1 17), .int (omi (omor v2 (omshl 1 (σ 31 (omw v4).toNat))))]) C mi_X7_longestOf ml_X7_53 (k_X7_longestOf (omor v2 (omshl 1 (σ 31 (omw v4).toNat))) σ _ er5) rfl (by decide) (Nat.zero_le _) rfl (Nat.le_of_ble_eq_true rfl) dX7_orderWithFewestLate_60 ?_
        refine v_istore C (ls' := [(0, .ref (G.1 29)), (1, .ref (G.1 17)), (2, .int (omi (omor v2 (omshl 1 (σ 31 (omw v4).toNat))))), (3, .int (omi v3)), (4, .int (omi v4)), (5, .int (omi (σ 31 (omw v4).toNat))), (6, .int (omi r5))]) (by decide) rfl dX7_orderWithFewestLate_63 ?_
        refine v_iload_n C (q := 2) rfl rfl dX7_orderWithFewestLate_65 ?_
        refine v_iconst C (n := 1) dX7_orderWithFewestLate_66 ?_
        refine v_iload C (q := 6) rfl dX7_orderWithFewestLate_67 ?_
        refine v_ishl C dX7_orderWithFewestLate_69 ?_
        refine v_iconst C (n := (-1)) dX7_orderWithFewestLate_70 ?_
        refine v_ixor C dX7_orderWithFewestLate_71 ?_
        refine v_iand C dX7_orderWithFewestLate_72 ?_
        refine v_istore_n C (ls' := [(0, .ref (G.1 29)), (1, .ref (G.1 17)), (2, .int (omi (omand (omor v2 (omshl 1 (σ 31 (omw v4).toNat))) (omxor (omshl 1 r5) (-1))))), (3, .int (omi v3)), (4, .int (omi v4)), (5, .int (omi (σ 31 (omw v4).toNat))), (6, .int (omi r5))]) rfl (by decide) rfl dX7_orderWithFewestLate_73 ?_
        refine v_aload_n C (q := 0) rfl rfl dX7_orderWithFewestLate_74 ?_
        refine v_getr C (q := 13) (o := 29) (r := 32) fi_X7_18 rfl rfl rfl dX7_orderWithFewestLate_75 ?_
        refine v_iload_n C (q := 3) rfl rfl dX7_orderWithFewestLate_78 ?_
        refine v_iload C (q := 6) rfl dX7_orderWithFewestLate_79 ?_
        obtain ⟨g6, h⟩ := omg_some h
        refine v_iast C (q := 16) (o := 32) (n := 10) rfl g6 dX7_orderWithFewestLate_81 ?_
        refine v_iinc C (q := 3) (ls' := [(0, .ref (G.1 29)), (1, .ref (G.1 17)), (2, .int (omi (omand (omor v2 (omshl 1 (σ 31 (omw v4).toNat))) (omxor (omshl 1 r5) (-1))))), (3, .int (omi (v3 + 1))), (4, .int (omi v4)), (5, .int (omi (σ 31 (omw v4).toNat))), (6, .int (omi r5))]) rfl (by decide) rfl rfl dX7_orderWithFewestLate_82 ?_
        refine v_iinc C (q := 4) (ls' := [(0, .ref (G.1 29)), (1, .ref (G.1 17)), (2, .int (omi (omand (omor v2 (omshl 1 (σ 31 (omw v4).toNat))) (omxor (omshl 1 r5) (-1))))), (3, .int (omi (v3 + 1))), (4, .int (omi (v4 + 1))), (5, .int (omi (σ 31 (omw v4).toNat))), (6, .int (omi r5))]) rfl (by decide) rfl rfl dX7_orderWithFewestLate_85 ?_
        refine v_goto C (tgt := 18) dX7_orderWithFewestLate_88 rfl ?_
        exact v_subp [0, 1, 2, 3, 4] rfl (ih _ _ _ _ _ h K)
set_option maxHeartbeats 4000000 in
set_option maxRecDepth 100000 in
theorem k_X7_orderWithFewestLate {G : omG}  (σ : omH) (t : Int × omH) (h : s_X7_orderWithFewestLate  σ = some t) : omM G yX7_orderWithFewestLate (.code yX7_orderWithFewestLate cX7_orderWithFewestLate 7 (some .int)) 3 0 [.ref (G.1 29), .ref (G.1 17)] σ (.inr (some (.int (omi t.1)))) t.2 := by
  unfold s_X7_orderWithFewestLate at h
  refine om_head (own := RX7) (ls := [(0, .ref (G.1 29)), (1, .ref (G.1 17))]) (by decide +kernel) rfl (by simp [lg_sl, Value.category]) rfl (by simp [Value.category]) (fun x C F => ?_)
  refine v_aload_n C (q := 1) rfl rfl dX7_orderWithFewestLate_0 ?_
  refine v_aload_n C (q := 0) rfl rfl dX7_orderWithFewestLate_1 ?_
  refine v_getr C (q := 13) (o := 29) (r := 31) fi_X7_15 rfl rfl rfl dX7_orderWithFewestLate_2 ?_
  refine v_gste C omEn_Key (i := 0) (cn := 5) (by decide) rfl gs_X7_27 dX7_orderWithFewestLate_5 ?_
  obtain ⟨r1, er1, h⟩ := om_bind h
  refine v_invV_v (As := [.ref (G.1 31), .ref (G.1 5)]) C mi_X2_fillInOrder ml_X7_33 (k_X2_fillInOrder 31 5 σ _ er1) (q := 1) rfl rfl rfl (by decide) (Nat.zero_le _) rfl (Nat.le_of_ble_eq_true rfl) dX7_orderWithFewestLate_8 ?_
  refine v_iconst C (n := 0) dX7_orderWithFewestLate_11 ?_
  refine v_istore_n C (ls' := [(0, .ref (G.1 29)), (1, .ref (G.1 17)), (2, .int (omi 0))]) rfl (by decide) rfl dX7_orderWithFewestLate_12 ?_
  refine v_iconst C (n := 0) dX7_orderWithFewestLate_13 ?_
  refine v_istore_n C (ls' := [(0, .ref (G.1 29)), (1, .ref (G.1 17)), (2, .int (omi 0)), (3, .int (omi 0))]) rfl (by decide) rfl dX7_orderWithFewestLate_14 ?_
  refine v_iconst C (n := 0) dX7_orderWithFewestLate_15 ?_
  refine v_istore C (ls' := [(0, .ref (G.1 29)), (1, .ref (G.1 17)), (2, .int (omi 0)), (3, .int (omi 0)), (4, .int (omi 0))]) (by decide) rfl dX7_orderWithFewestLate_16 ?_
  obtain ⟨t7, et7, h⟩ := om_bind h
  refine kl_X7_orderWithFewestLate_18 C  FU _ _ _ _ t7 et7 ?_
  refine v_aload_n C (q := 0) rfl rfl dX7_orderWithFewestLate_91 ?_
  refine v_aload_n C (q := 1) rfl rfl dX7_orderWithFewestLate_92 ?_
  refine v_iload_n C (q := 2) rfl rfl dX7_orderWithFewestLate_93 ?_
  refine v_iload_n C (q := 3) rfl rfl dX7_orderWithFewestLate_94 ?_
  obtain ⟨r8, er8, h⟩ := om_bind h
  refine v_invV_v (As := [.ref (G.1 17), .int (omi t7.1), .int (omi t7.2.1)]) C mi_X7_putDroppedBehind ml_X7_57 (k_X7_putDroppedBehind t7.1 t7.2.1 t7.2.2 _ er8) (q := 13) rfl rfl rfl (by decide) (Nat.zero_le _) rfl (Nat.le_of_ble_eq_true rfl) dX7_orderWithFewestLate_95 ?_
  refine v_iload_n C (q := 3) rfl rfl dX7_orderWithFewestLate_98 ?_
  cases h
  exact v_iret C F dX7_orderWithFewestLate_99 (Nat.zero_le _)
set_option maxHeartbeats 4000000 in
set_option maxRecDepth 100000 in
theorem n_X11_planFewestLate {G : omG}  (σ : omH) (t : (Int × omH)) (h : s_X11_planFewestLate  σ = some (Sum.inr t)) : omM G yX11_planFewestLate (.code yX11_planFewestLate cX11_planFewestLate 2 (some .int)) 5 0 [.ref (G.1 16)] σ (.inr (some (.int (omi t.1)))) t.2 := by
  unfold s_X11_planFewestLate at h
  refine om_head (own := RX11) (ls := [(0, .ref (G.1 16))]) (by decide +kernel) rfl (by simp [lg_sl, Value.category]) rfl (by simp [Value.category]) (fun x C F => ?_)
  refine v_aload_n C (q := 0) rfl rfl dX11_planFewestLate_0 ?_
  obtain ⟨r1, er1, h⟩ := om_bind h
  rcases r1 with u2 | u2
  · replace h := (Sum.elim_inl _ _ _).symm.trans h
    cases h
  · replace h := (Sum.elim_inr _ _ _).symm.trans h
    refine v_invV_v (As := []) C mi_X11_needSomeJob ml_X11_105 (n_X11_needSomeJob  σ _ er1) (q := 0) rfl rfl rfl (by decide) (Nat.zero_le _) rfl (Nat.le_of_ble_eq_true rfl) dX11_planFewestLate_1 ?_
    refine v_aload_n C (q := 0) rfl rfl dX11_planFewestLate_4 ?_
    refine v_getr C (q := 0) (o := 16) (r := 29) fi_X11_26 rfl rfl rfl dX11_planFewestLate_5 ?_
    refine v_aload_n C (q := 0) rfl rfl dX11_planFewestLate_8 ?_
    refine v_getr C (q := 0) (o := 16) (r := 17) fi_X11_12 rfl rfl rfl dX11_planFewestLate_9 ?_
    obtain ⟨r3, er3, h⟩ := om_bind h
    refine v_invV_i (As := [.ref (G.1 17)]) C mi_X7_orderWithFewestLate ml_X11_129 (k_X7_orderWithFewestLate  σ _ er3) (q := 13) rfl rfl rfl (by decide) (Nat.zero_le _) rfl (Nat.le_of_ble_eq_true rfl) dX11_planFewestLate_12 ?_
    refine v_istore_n C (ls' := [(0, .ref (G.1 16)), (1, .int (omi r3.1))]) rfl (by decide) rfl dX11_planFewestLate_15 ?_
    refine v_aload_n C (q := 0) rfl rfl dX11_planFewestLate_16 ?_
    refine v_getr C (q := 0) (o := 16) (r := 24) fi_X11_19 rfl rfl rfl dX11_planFewestLate_17 ?_
    refine v_aload_n C (q := 0) rfl rfl dX11_planFewestLate_20 ?_
    refine v_getr C (q := 0) (o := 16) (r := 17) fi_X11_12 rfl rfl rfl dX11_planFewestLate_21 ?_
    refine v_aload_n C (q := 0) rfl rfl dX11_planFewestLate_24 ?_
    refine v_getr C (q := 0) (o := 16) (r := 29) fi_X11_26 rfl rfl rfl dX11_planFewestLate_25 ?_
    refine v_getr C (q := 13) (o := 29) (r := 30) fi_X11_112 rfl rfl rfl dX11_planFewestLate_28 ?_
    refine v_iconst C (n := 0) dX11_planFewestLate_31 ?_
    obtain ⟨r4, er4, h⟩ := om_bind h
    refine v_invV_v (As := [.ref (G.1 17), .ref (G.1 30), .int (omi 0)]) C mi_X5_follow ml_X11_115 (k_X5_follow 0 r3.2 _ er4) (q := 8) rfl rfl rfl (by decide) (Nat.zero_le _) rfl (Nat.le_of_ble_eq_true rfl) dX11_planFewestLate_32 ?_
    refine v_iload_n C (q := 1) rfl rfl dX11_planFewestLate_35 ?_
    cases h
    exact v_iret C F dX11_planFewestLate_36 (Nat.zero_le _)
set_option maxHeartbeats 4000000 in
set_option maxRecDepth 100000 in
theorem k_X7_orderByRatios {G : omG}  (σ : omH) (t : omH) (h : s_X7_orderByRatios  σ = some t) : omM G yX7_orderByRatios (.code yX7_orderByRatios cX7_orderByRatios 2 none) 3 0 [.ref (G.1 29), .ref (G.1 17)] σ (.inr none) t := by
  unfold s_X7_orderByRatios at h
  refine om_head (own := RX7) (ls := [(0, .ref (G.1 29)), (1, .ref (G.1 17))]) (by decide +kernel) rfl (by simp [lg_sl, Value.category]) rfl (by simp [Value.category]) (fun x C F => ?_)
  refine v_aload_n C (q := 1) rfl rfl dX7_orderByRatios_0 ?_
  refine v_aload_n C (q := 0) rfl rfl dX7_orderByRatios_1 ?_
  refine v_getr C (q := 13) (o := 29) (r := 30) fi_X7_9 rfl rfl rfl dX7_orderByRatios_2 ?_
  refine v_gste C omEn_Key (i := 2) (cn := 7) (by decide) rfl gs_X7_39 dX7_orderByRatios_5 ?_
  obtain ⟨r1, er1, h⟩ := om_bind h
  refine v_invV_v (As := [.ref (G.1 30), .ref (G.1 7)]) C mi_X2_fillInOrder ml_X7_33 (k_X2_fillInOrder 30 7 σ _ er1) (q := 1) rfl rfl rfl (by decide) (Nat.zero_le _) rfl (Nat.le_of_ble_eq_true rfl) dX7_orderByRatios_8 ?_
  cases h
  exact v_vret C F dX7_orderByRatios_11 (Nat.zero_le _)
set_option maxHeartbeats 4000000 in
set_option maxRecDepth 100000 in
theorem n_X11_planByRatios {G : omG}  (σ : omH) (t : (Int × omH)) (h : s_X11_planByRatios  σ = some (Sum.inr t)) : omM G yX11_planByRatios (.code yX11_planByRatios cX11_planByRatios 1 (some .int)) 5 0 [.ref (G.1 16)] σ (.inr (some (.int (omi t.1)))) t.2 := by
  unfold s_X11_planByRatios at h
  refine om_head (own := RX11) (ls := [(0, .ref (G.1 16))]) (by decide +kernel) rfl (by simp [lg_sl, Value.category]) rfl (by simp [Value.category]) (fun x C F => ?_)
  refine v_aload_n C (q := 0) rfl rfl dX11_planByRatios_0 ?_
  obtain ⟨r1, er1, h⟩ := om_bind h
  rcases r1 with u2 | u2
  · replace h := (Sum.elim_inl _ _ _).symm.trans h
    cases h
  · replace h := (Sum.elim_inr _ _ _).symm.trans h
    refine v_invV_v (As := []) C mi_X11_needSomeJob ml_X11_105 (n_X11_needSomeJob  σ _ er1) (q := 0) rfl rfl rfl (by decide) (Nat.zero_le _) rfl (Nat.le_of_ble_eq_true rfl) dX11_planByRatios_1 ?_
    refine v_aload_n C (q := 0) rfl rfl dX11_planByRatios_4 ?_
    refine v_getr C (q := 0) (o := 16) (r := 29) fi_X11_26 rfl rfl rfl dX11_planByRatios_5 ?_
    refine v_aload_n C (q := 0) rfl rfl dX11_planByRatios_8 ?_
    refine v_getr C (q := 0) (o := 16) (r := 17) fi_X11_12 rfl rfl rfl dX11_planByRatios_9 ?_
    obtain ⟨r3, er3, h⟩ := om_bind h
    refine v_invV_v (As := [.ref (G.1 17)]) C mi_X7_orderByRatios ml_X11_133 (k_X7_orderByRatios  σ _ er3) (q := 13) rfl rfl rfl (by decide) (Nat.zero_le _) rfl (Nat.le_of_ble_eq_true rfl) dX11_planByRatios_12 ?_
    refine v_aload_n C (q := 0) rfl rfl dX11_planByRatios_15 ?_
    refine v_getr C (q := 0) (o := 16) (r := 24) fi_X11_19 rfl rfl rfl dX11_planByRatios_16 ?_
    refine v_aload_n C (q := 0) rfl rfl dX11_planByRatios_19 ?_
    refine v_getr C (q := 0) (o := 16) (r := 17) fi_X11_12 rfl rfl rfl dX11_planByRatios_20 ?_
    refine v_aload_n C (q := 0) rfl rfl dX11_planByRatios_23 ?_
    refine v_getr C (q := 0) (o := 16) (r := 29) fi_X11_26 rfl rfl rfl dX11_planByRatios_24 ?_
    refine v_getr C (q := 13) (o := 29) (r := 30) fi_X11_112 rfl rfl rfl dX11_planByRatios_27 ?_
    refine v_iconst C (n := 0) dX11_planByRatios_30 ?_
    obtain ⟨r4, er4, h⟩ := om_bind h
    refine v_invV_v (As := [.ref (G.1 17), .ref (G.1 30), .int (omi 0)]) C mi_X5_follow ml_X11_115 (k_X5_follow 0 r3 _ er4) (q := 8) rfl rfl rfl (by decide) (Nat.zero_le _) rfl (Nat.le_of_ble_eq_true rfl) dX11_planByRatios_31 ?_
    refine v_aload_n C (q := 0) rfl rfl dX11_planByRatios_34 ?_
    refine v_getr C (q := 0) (o := 16) (r := 24) fi_X11_19 rfl rfl rfl dX11_planByRatios_35 ?_
    refine v_aload_n C (q := 0) rfl rfl dX11_planByRatios_38 ?_
    refine v_getr C (q := 0) (o := 16) (r := 17) fi_X11_12 rfl rfl rfl dX11_planByRatios_39 ?_
    refine v_gste C omEn_Cost (i := 3) (cn := 3) (by decide) rfl gs_X11_136 dX11_planByRatios_42 ?_
    obtain ⟨r5, er5, h⟩ := om_bind h
    refine v_invV_i (As := [.ref (G.1 17), .ref (G.1 3)]) C mi_X5_total ml_X11_125 (k_X5_total 3 r4 _ er5) (q := 8) rfl rfl rfl (by decide) (Nat.zero_le _) rfl (Nat.le_of_ble_eq_true rfl) dX11_planByRatios_45 ?_
    cases h
    exact v_iret C F dX11_planByRatios_48 (Nat.zero_le _)
set_option maxHeartbeats 4000000 in
set_option maxRecDepth 100000 in
theorem k_X2_all {G : omG}  (σ : omH) (t : Int) (h : s_X2_all  σ = some t) : omM G yX2_all (.code yX2_all cX2_all 1 (some .int)) 1 0 [.ref (G.1 17)] σ (.inr (some (.int (omi t)))) σ := by
  unfold s_X2_all at h
  refine om_head (own := RX2) (ls := [(0, .ref (G.1 17))]) (by decide +kernel) rfl (by simp [lg_sl, Value.category]) rfl (by simp [Value.category]) (fun x C F => ?_)
  refine v_iconst C (n := 1) dX2_all_0 ?_
  refine v_aload_n C (q := 0) rfl rfl dX2_all_1 ?_
  refine v_geti C (q := 1) (o := 17) fi_X2_30 rfl rfl dX2_all_2 ?_
  refine v_ishl C dX2_all_5 ?_
  refine v_iconst C (n := 1) dX2_all_6 ?_
  refine v_isub C dX2_all_7 ?_
  cases h
  exact v_iret C F dX2_all_8 (Nat.zero_le _)
set_option maxHeartbeats 4000000 in
set_option maxRecDepth 100000 in
theorem k_X7_tardinessBy {G : omG} (v2 : Int) (v3 : Int) (v4 : Int) (σ : omH) (t : Int) (h : s_X7_tardinessBy v2 v3 v4 σ = some t) : omM G yX7_tardinessBy (.code yX7_tardinessBy cX7_tardinessBy 5 (some .int)) 2 0 [.ref (G.1 29), .ref (G.1 17), .int (omi v2), .int (omi v3), .int (omi v4)] σ (.inr (some (.int (omi t)))) σ := by
  unfold s_X7_tardinessBy at h
  refine om_head (own := RX7) (ls := [(0, .ref (G.1 29)), (1, .ref (G.1 17)), (2, .int (omi v2)), (3, .int (omi v3)), (4, .int (omi v4))]) (by decide +kernel) rfl (by simp [lg_sl, Value.category]) rfl (by simp [Value.category]) (fun x C F => ?_)
  refine v_gste C omEn_Cost (i := 4) (cn := 4) (by decide) rfl gs_X7_87 dX7_tardinessBy_0 ?_
  refine v_aload_n C (q := 0) rfl rfl dX7_tardinessBy_3 ?_
  refine v_getr C (q := 13) (o := 29) (r := 34) fi_X7_24 rfl rfl rfl dX7_tardinessBy_4 ?_
  refine v_iload_n C (q := 2) rfl rfl dX7_tardinessBy_7 ?_
  refine v_iconst C (n := 1) dX7_tardinessBy_8 ?_
  refine v_iload C (q := 4) rfl dX7_tardinessBy_9 ?_
  refine v_ishl C dX7_tardinessBy_11 ?_
  refine v_ior C dX7_tardinessBy_12 ?_
  obtain ⟨g1, h⟩ := omg_some h
  refine v_iald C (q := 18) (o := 34) (n := 5120) rfl g1 dX7_tardinessBy_13 ?_
  refine v_aload_n C (q := 1) rfl rfl dX7_tardinessBy_14 ?_
  refine v_iload C (q := 4) rfl dX7_tardinessBy_15 ?_
  refine v_iload_n C (q := 3) rfl rfl dX7_tardinessBy_17 ?_
  refine v_aload_n C (q := 1) rfl rfl dX7_tardinessBy_18 ?_
  refine v_getr C (q := 1) (o := 17) (r := 18) fi_X7_65 rfl rfl rfl dX7_tardinessBy_19 ?_
  refine v_iload C (q := 4) rfl dX7_tardinessBy_22 ?_
  obtain ⟨g2, h⟩ := omg_some h
  refine v_iald C (q := 2) (o := 18) (n := 10) rfl g2 dX7_tardinessBy_24 ?_
  refine v_iadd C dX7_tardinessBy_25 ?_
  obtain ⟨r3, er3, h⟩ := om_bind h
  refine v_invE_i (As := [.int (omi (σ 34 (omw (omor v2 (omshl 1 v4))).toNat)), .ref (G.1 17), .int (omi v4), .int (omi (v3 + (σ 18 (omw v4).toNat)))]) C mi_X1_with ml_X7_93 (k_X1_with 4 (σ 34 (omw (omor v2 (omshl 1 v4))).toNat) v4 (v3 + (σ 18 (omw v4).toNat)) σ _ er3) omEn_Cost rfl (by decide) (by decide) rfl (by decide) (Nat.zero_le _) rfl (Nat.le_of_ble_eq_true rfl) dX7_tardinessBy_26 ?_
  cases h
  exact v_iret C F dX7_tardinessBy_29 (Nat.zero_le _)
