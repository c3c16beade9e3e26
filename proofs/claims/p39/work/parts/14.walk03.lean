set_option maxHeartbeats 4000000 in
set_option maxRecDepth 100000 in
theorem n_X11_lateness {G : omG} (v1 : Int) (σ : omH) (t : Int) (h : s_X11_lateness v1 σ = some (Sum.inr t)) : omM G yX11_lateness (.code yX11_lateness cX11_lateness 2 (some .int)) 3 0 [.ref (G.1 16), .int (omi v1)] σ (.inr (some (.int (omi t)))) σ := by
  unfold s_X11_lateness at h
  refine om_head (own := RX11) (ls := [(0, .ref (G.1 16)), (1, .int (omi v1))]) (by decide +kernel) rfl (by simp [lg_sl, Value.category]) rfl (by simp [Value.category]) (fun x C F => ?_)
  refine v_aload_n C (q := 0) rfl rfl dX11_lateness_0 ?_
  refine v_iload_n C (q := 1) rfl rfl dX11_lateness_1 ?_
  obtain ⟨r1, er1, h⟩ := om_bind h
  rcases r1 with u2 | u2
  · replace h := (Sum.elim_inl _ _ _).symm.trans h
    cases h
  · replace h := (Sum.elim_inr _ _ _).symm.trans h
    refine v_invV_v (As := [.int (omi v1)]) C mi_X11_needJob ml_X11_80 (n_X11_needJob v1 σ _ er1) (q := 0) rfl rfl rfl (by decide) (Nat.zero_le _) rfl (Nat.le_of_ble_eq_true rfl) dX11_lateness_2 ?_
    refine v_aload_n C (q := 0) rfl rfl dX11_lateness_5 ?_
    obtain ⟨r3, er3, h⟩ := om_bind h
    rcases r3 with u4 | u4
    · replace h := (Sum.elim_inl _ _ _).symm.trans h
      cases h
    · replace h := (Sum.elim_inr _ _ _).symm.trans h
      refine v_invV_v (As := []) C mi_X11_needPlan ml_X11_172 (n_X11_needPlan  σ _ er3) (q := 0) rfl rfl rfl (by decide) (Nat.zero_le _) rfl (Nat.le_of_ble_eq_true rfl) dX11_lateness_6 ?_
      refine v_aload_n C (q := 0) rfl rfl dX11_lateness_9 ?_
      refine v_getr C (q := 0) (o := 16) (r := 24) fi_X11_19 rfl rfl rfl dX11_lateness_10 ?_
      refine v_getr C (q := 8) (o := 24) (r := 28) fi_X11_175 rfl rfl rfl dX11_lateness_13 ?_
      refine v_iload_n C (q := 1) rfl rfl dX11_lateness_16 ?_
      obtain ⟨g5, h⟩ := omg_some h
      refine v_iald C (q := 12) (o := 28) (n := 10) rfl g5 dX11_lateness_17 ?_
      refine v_aload_n C (q := 0) rfl rfl dX11_lateness_18 ?_
      refine v_getr C (q := 0) (o := 16) (r := 17) fi_X11_12 rfl rfl rfl dX11_lateness_19 ?_
      refine v_getr C (q := 1) (o := 17) (r := 19) fi_X11_178 rfl rfl rfl dX11_lateness_22 ?_
      refine v_iload_n C (q := 1) rfl rfl dX11_lateness_25 ?_
      obtain ⟨g6, h⟩ := omg_some h
      refine v_iald C (q := 3) (o := 19) (n := 10) rfl g6 dX11_lateness_26 ?_
      refine v_isub C dX11_lateness_27 ?_
      cases h
      exact v_iret C F dX11_lateness_28 (Nat.zero_le _)
set_option maxHeartbeats 4000000 in
set_option maxRecDepth 100000 in
theorem n_X11_maxLateness {G : omG}  (σ : omH) (t : Int) (h : s_X11_maxLateness  σ = some (Sum.inr t)) : omM G yX11_maxLateness (.code yX11_maxLateness cX11_maxLateness 1 (some .int)) 3 0 [.ref (G.1 16)] σ (.inr (some (.int (omi t)))) σ := by
  unfold s_X11_maxLateness at h
  refine om_head (own := RX11) (ls := [(0, .ref (G.1 16))]) (by decide +kernel) rfl (by simp [lg_sl, Value.category]) rfl (by simp [Value.category]) (fun x C F => ?_)
  refine v_aload_n C (q := 0) rfl rfl dX11_maxLateness_0 ?_
  obtain ⟨r1, er1, h⟩ := om_bind h
  rcases r1 with u2 | u2
  · replace h := (Sum.elim_inl _ _ _).symm.trans h
    cases h
  · replace h := (Sum.elim_inr _ _ _).symm.trans h
    refine v_invV_v (As := []) C mi_X11_needPlan ml_X11_172 (n_X11_needPlan  σ _ er1) (q := 0) rfl rfl rfl (by decide) (Nat.zero_le _) rfl (Nat.le_of_ble_eq_true rfl) dX11_maxLateness_1 ?_
    refine v_aload_n C (q := 0) rfl rfl dX11_maxLateness_4 ?_
    refine v_getr C (q := 0) (o := 16) (r := 24) fi_X11_19 rfl rfl rfl dX11_maxLateness_5 ?_
    refine v_aload_n C (q := 0) rfl rfl dX11_maxLateness_8 ?_
    refine v_getr C (q := 0) (o := 16) (r := 17) fi_X11_12 rfl rfl rfl dX11_maxLateness_9 ?_
    refine v_gste C omEn_Cost (i := 0) (cn := 0) (by decide) rfl gs_X11_119 dX11_maxLateness_12 ?_
    obtain ⟨r3, er3, h⟩ := om_bind h
    refine v_invV_i (As := [.ref (G.1 17), .ref (G.1 0)]) C mi_X5_total ml_X11_125 (k_X5_total 0 σ _ er3) (q := 8) rfl rfl rfl (by decide) (Nat.zero_le _) rfl (Nat.le_of_ble_eq_true rfl) dX11_maxLateness_15 ?_
    cases h
    exact v_iret C F dX11_maxLateness_18 (Nat.zero_le _)
set_option maxHeartbeats 4000000 in
set_option maxRecDepth 100000 in
theorem n_X11_lateJobs {G : omG}  (σ : omH) (t : Int) (h : s_X11_lateJobs  σ = some (Sum.inr t)) : omM G yX11_lateJobs (.code yX11_lateJobs cX11_lateJobs 1 (some .int)) 3 0 [.ref (G.1 16)] σ (.inr (some (.int (omi t)))) σ := by
  unfold s_X11_lateJobs at h
  refine om_head (own := RX11) (ls := [(0, .ref (G.1 16))]) (by decide +kernel) rfl (by simp [lg_sl, Value.category]) rfl (by simp [Value.category]) (fun x C F => ?_)
  refine v_aload_n C (q := 0) rfl rfl dX11_lateJobs_0 ?_
  obtain ⟨r1, er1, h⟩ := om_bind h
  rcases r1 with u2 | u2
  · replace h := (Sum.elim_inl _ _ _).symm.trans h
    cases h
  · replace h := (Sum.elim_inr _ _ _).symm.trans h
    refine v_invV_v (As := []) C mi_X11_needPlan ml_X11_172 (n_X11_needPlan  σ _ er1) (q := 0) rfl rfl rfl (by decide) (Nat.zero_le _) rfl (Nat.le_of_ble_eq_true rfl) dX11_lateJobs_1 ?_
    refine v_aload_n C (q := 0) rfl rfl dX11_lateJobs_4 ?_
    refine v_getr C (q := 0) (o := 16) (r := 24) fi_X11_19 rfl rfl rfl dX11_lateJobs_5 ?_
    refine v_aload_n C (q := 0) rfl rfl dX11_lateJobs_8 ?_
    refine v_getr C (q := 0) (o := 16) (r := 17) fi_X11_12 rfl rfl rfl dX11_lateJobs_9 ?_
    refine v_gste C omEn_Cost (i := 1) (cn := 1) (by decide) rfl gs_X11_181 dX11_lateJobs_12 ?_
    obtain ⟨r3, er3, h⟩ := om_bind h
    refine v_invV_i (As := [.ref (G.1 17), .ref (G.1 1)]) C mi_X5_total ml_X11_125 (k_X5_total 1 σ _ er3) (q := 8) rfl rfl rfl (by decide) (Nat.zero_le _) rfl (Nat.le_of_ble_eq_true rfl) dX11_lateJobs_15 ?_
    cases h
    exact v_iret C F dX11_lateJobs_18 (Nat.zero_le _)
set_option maxHeartbeats 4000000 in
set_option maxRecDepth 100000 in
theorem n_X11_completions {G : omG}  (σ : omH) (t : Int) (h : s_X11_completions  σ = some (Sum.inr t)) : omM G yX11_completions (.code yX11_completions cX11_completions 1 (some .int)) 3 0 [.ref (G.1 16)] σ (.inr (some (.int (omi t)))) σ := by
  unfold s_X11_completions at h
  refine om_head (own := RX11) (ls := [(0, .ref (G.1 16))]) (by decide +kernel) rfl (by simp [lg_sl, Value.category]) rfl (by simp [Value.category]) (fun x C F => ?_)
  refine v_aload_n C (q := 0) rfl rfl dX11_completions_0 ?_
  obtain ⟨r1, er1, h⟩ := om_bind h
  rcases r1 with u2 | u2
  · replace h := (Sum.elim_inl _ _ _).symm.trans h
    cases h
  · replace h := (Sum.elim_inr _ _ _).symm.trans h
    refine v_invV_v (As := []) C mi_X11_needPlan ml_X11_172 (n_X11_needPlan  σ _ er1) (q := 0) rfl rfl rfl (by decide) (Nat.zero_le _) rfl (Nat.le_of_ble_eq_true rfl) dX11_completions_1 ?_
    refine v_aload_n C (q := 0) rfl rfl dX11_completions_4 ?_
    refine v_getr C (q := 0) (o := 16) (r := 24) fi_X11_19 rfl rfl rfl dX11_completions_5 ?_
    refine v_aload_n C (q := 0) rfl rfl dX11_completions_8 ?_
    refine v_getr C (q := 0) (o := 16) (r := 17) fi_X11_12 rfl rfl rfl dX11_completions_9 ?_
    refine v_gste C omEn_Cost (i := 2) (cn := 2) (by decide) rfl gs_X11_152 dX11_completions_12 ?_
    obtain ⟨r3, er3, h⟩ := om_bind h
    refine v_invV_i (As := [.ref (G.1 17), .ref (G.1 2)]) C mi_X5_total ml_X11_125 (k_X5_total 2 σ _ er3) (q := 8) rfl rfl rfl (by decide) (Nat.zero_le _) rfl (Nat.le_of_ble_eq_true rfl) dX11_completions_15 ?_
    cases h
    exact v_iret C F dX11_completions_18 (Nat.zero_le _)
set_option maxHeartbeats 4000000 in
set_option maxRecDepth 100000 in
theorem n_X11_weightedCompletions {G : omG}  (σ : omH) (t : Int) (h : s_X11_weightedCompletions  σ = some (Sum.inr t)) : omM G yX11_weightedCompletions (.code yX11_weightedCompletions cX11_weightedCompletions 1 (some .int)) 3 0 [.ref (G.1 16)] σ (.inr (some (.int (omi t)))) σ := by
  unfold s_X11_weightedCompletions at h
  refine om_head (own := RX11) (ls := [(0, .ref (G.1 16))]) (by decide +kernel) rfl (by simp [lg_sl, Value.category]) rfl (by simp [Value.category]) (fun x C F => ?_)
  refine v_aload_n C (q := 0) rfl rfl dX11_weightedCompletions_0 ?_
  obtain ⟨r1, er1, h⟩ := om_bind h
  rcases r1 with u2 | u2
  · replace h := (Sum.elim_inl _ _ _).symm.trans h
    cases h
  · replace h := (Sum.elim_inr _ _ _).symm.trans h
    refine v_invV_v (As := []) C mi_X11_needPlan ml_X11_172 (n_X11_needPlan  σ _ er1) (q := 0) rfl rfl rfl (by decide) (Nat.zero_le _) rfl (Nat.le_of_ble_eq_true rfl) dX11_weightedCompletions_1 ?_
    refine v_aload_n C (q := 0) rfl rfl dX11_weightedCompletions_4 ?_
    refine v_getr C (q := 0) (o := 16) (r := 24) fi_X11_19 rfl rfl rfl dX11_weightedCompletions_5 ?_
    refine v_aload_n C (q := 0) rfl rfl dX11_weightedCompletions_8 ?_
    refine v_getr C (q := 0) (o := 16) (r := 17) fi_X11_12 rfl rfl rfl dX11_weightedCompletions_9 ?_
    refine v_gste C omEn_Cost (i := 3) (cn := 3) (by decide) rfl gs_X11_136 dX11_weightedCompletions_12 ?_
    obtain ⟨r3, er3, h⟩ := om_bind h
    refine v_invV_i (As := [.ref (G.1 17), .ref (G.1 3)]) C mi_X5_total ml_X11_125 (k_X5_total 3 σ _ er3) (q := 8) rfl rfl rfl (by decide) (Nat.zero_le _) rfl (Nat.le_of_ble_eq_true rfl) dX11_weightedCompletions_15 ?_
    cases h
    exact v_iret C F dX11_weightedCompletions_18 (Nat.zero_le _)
set_option maxHeartbeats 4000000 in
set_option maxRecDepth 100000 in
theorem n_X11_weightedTardiness {G : omG}  (σ : omH) (t : Int) (h : s_X11_weightedTardiness  σ = some (Sum.inr t)) : omM G yX11_weightedTardiness (.code yX11_weightedTardiness cX11_weightedTardiness 1 (some .int)) 3 0 [.ref (G.1 16)] σ (.inr (some (.int (omi t)))) σ := by
  unfold s_X11_weightedTardiness at h
  refine om_head (own := RX11) (ls := [(0, .ref (G.1 16))]) (by decide +kernel) rfl (by simp [lg_sl, Value.category]) rfl (by simp [Value.category]) (fun x C F => ?_)
  refine v_aload_n C (q := 0) rfl rfl dX11_weightedTardiness_0 ?_
  obtain ⟨r1, er1, h⟩ := om_bind h
  rcases r1 with u2 | u2
  · replace h := (Sum.elim_inl _ _ _).symm.trans h
    cases h
  · replace h := (Sum.elim_inr _ _ _).symm.trans h
    refine v_invV_v (As := []) C mi_X11_needPlan ml_X11_172 (n_X11_needPlan  σ _ er1) (q := 0) rfl rfl rfl (by decide) (Nat.zero_le _) rfl (Nat.le_of_ble_eq_true rfl) dX11_weightedTardiness_1 ?_
    refine v_aload_n C (q := 0) rfl rfl dX11_weightedTardiness_4 ?_
    refine v_getr C (q := 0) (o := 16) (r := 24) fi_X11_19 rfl rfl rfl dX11_weightedTardiness_5 ?_
    refine v_aload_n C (q := 0) rfl rfl dX11_weightedTardiness_8 ?_
    refine v_getr C (q := 0) (o := 16) (r := 17) fi_X11_12 rfl rfl rfl dX11_weightedTardiness_9 ?_
    refine v_gste C omEn_Cost (i := 4) (cn := 4) (by decide) rfl gs_X11_142 dX11_weightedTardiness_12 ?_
    obtain ⟨r3, er3, h⟩ := om_bind h
    refine v_invV_i (As := [.ref (G.1 17), .ref (G.1 4)]) C mi_X5_total ml_X11_125 (k_X5_total 4 σ _ er3) (q := 8) rfl rfl rfl (by decide) (Nat.zero_le _) rfl (Nat.le_of_ble_eq_true rfl) dX11_weightedTardiness_15 ?_
    cases h
    exact v_iret C F dX11_weightedTardiness_18 (Nat.zero_le _)
set_option maxHeartbeats 4000000 in
set_option maxRecDepth 100000 in
theorem n_X11_needFewJobs {G : omG}  (σ : omH) (t : Unit) (h : s_X11_needFewJobs  σ = some (Sum.inr t)) : omM G yX11_needFewJobs (.code yX11_needFewJobs cX11_needFewJobs 1 none) 2 0 [.ref (G.1 16)] σ (.inr none) σ := by
  unfold s_X11_needFewJobs at h
  refine om_head (own := RX11) (ls := [(0, .ref (G.1 16))]) (by decide +kernel) rfl (by simp [lg_sl, Value.category]) rfl (by simp [Value.category]) (fun x C F => ?_)
  refine v_aload_n C (q := 0) rfl rfl dX11_needFewJobs_0 ?_
  refine v_getr C (q := 0) (o := 16) (r := 17) fi_X11_12 rfl rfl rfl dX11_needFewJobs_1 ?_
  refine v_geti C (q := 1) (o := 17) fi_X11_62 rfl rfl dX11_needFewJobs_4 ?_
  refine v_iconst C (n := 1) dX11_needFewJobs_7 ?_
  refine v_bipush C (a := 7) (by decide) dX11_needFewJobs_8 ?_
  obtain ⟨r1, er1, h⟩ := om_bind h
  refine v_invS_i (As := [.int (omi (σ 17 0)), .int (omi 1), .int (omi 7)]) C mi_X11_isWithin ml_X11_87 (k_X11_isWithin (σ 17 0) 1 7 σ _ er1) rfl (by decide) (Nat.zero_le _) rfl (Nat.le_of_ble_eq_true rfl) dX11_needFewJobs_10 ?_
  refine v_if_ne C (tgt := 26) dX11_needFewJobs_13 rfl (fun hc => ?_) (fun hc => ?_)
  · replace h := (if_neg hc).symm.trans h
    cases h
    exact v_vret C F dX11_needFewJobs_26 (Nat.zero_le _)
  · replace h := (if_pos hc).symm.trans h
    cases h
set_option maxHeartbeats 4000000 in
set_option maxRecDepth 100000 in
theorem kl_X4_endInGaps_14 {G : omG} {x : omX} (C : omC G x RX4 cX4_endInGaps 10 (2) 0) (v2 : Int) (v3 : Int) (σ : omH) : ∀ (n : Nat) (v4 : Int) (v5 : Int) (v6 : Int) (t : (Int) ⊕ (Int × Int)), l_X4_endInGaps_14 v2 v3 σ n v4 v5 v6 = some t → (∀ r : Int, t = .inl r → omF G x (some .int) 0 [] (.inr (some (.int (omi r)))) σ) → (∀ u, t = .inr u → omV G x 10 119 [(1, .ref (G.1 17)), (3, .int (omi v3)), (4, .int (omi u.1)), (5, .int (omi u.2))] [] σ 0) → omV G x 10 14 [(0, .ref (G.1 38)), (1, .ref (G.1 17)), (2, .int (omi v2)), (3, .int (omi v3)), (4, .int (omi v4)), (5, .int (omi v5)), (6, .int (omi v6))] [] σ 0 := by
  intro n
  induction n with
  | zero => intro v4 v5 v6 t h FR K; cases h
  | succ n ih =>
    intro v4 v5 v6 t h FR K
    rw [l_X4_endInGaps_14.eq_2] at h
    refine v_iload C (q := 6) rfl dX4_endInGaps_14 ?_
    refine v_aload_n C (q := 1) rfl rfl dX4_endInGaps_16 ?_
    refine v_geti C (q := 1) (o := 17) fi_X4_61 rfl rfl dX4_endInGaps_17 ?_
    refine v_icmp_ge C (tgt := 119) dX4_endInGaps_20 rfl (fun hc => ?_) (fun hc => ?_)
    · replace h := (if_neg hc).symm.trans h
      cases h
      exact v_subp [1, 3, 4, 5] rfl (K _ rfl)
    · replace h := (if_pos hc).symm.trans h
      refine v_aload_n C (q := 0) rfl rfl dX4_endInGaps_23 ?_
      refine v_getr C (q := 22) (o := 38) (r := 39) fi_X4_9 rfl rfl rfl dX4_endInGaps_24 ?_
      refine v_iload C (q := 6) rfl dX4_endInGaps_27 ?_
      obtain ⟨g2, h⟩ := omg_some h
      refine v_iald C (q := 23) (o := 39) (n := 10) rfl g2 dX4_endInGaps_29 ?_
      refine v_istore C (ls' := [(0, .ref (G.1 38)), (1, .ref (G.1 17)), (2, .int (omi v2)), (3, .int (omi v3)), (4, .int (omi v4)), (5, .int (omi v5)), (6, .int (omi v6)), (7, .int (omi (σ 39 (omw v6).toNat)))]) (by decide) rfl dX4_endInGaps_30 ?_
      refine v_aload_n C (q := 1) rfl rfl dX4_endInGaps_32 ?_
      refine v_iload_n C (q := 2) rfl rfl dX4_endInGaps_33 ?_
      refine v_iload C (q := 7) rfl dX4_endInGaps_34 ?_
      obtain ⟨r3, er3, h⟩ := om_bind h
      refine v_invV_i (As := [.int (omi v2), .int (omi (σ 39 (omw v6).toNat))]) C mi_X2_isIn ml_X4_64 (k_X2_isIn v2 (σ 39 (omw v6).toNat) σ _ er3) (q := 1) rfl rfl rfl (by decide) (Nat.zero_le _) rfl (Nat.le_of_ble_eq_true rfl) dX4_endInGaps_36 ?_
      refine v_if_eq C (tgt := 113) dX4_endInGaps_39 rfl (fun hc => ?_) (fun hc => ?_)
      · replace h := (if_pos hc).symm.trans h
        refine v_iinc C (q := 6) (ls' := [(0, .ref (G.1 38)), (1, .ref (G.1 17)), (2, .int (omi v2)), (3, .int (omi v3)), (4, .int (omi v4)), (5, .int (omi v5)), (6, .int (omi (v6 + 1))), (7, .int (omi (σ 39 (omw v6).toNat)))]) rfl (by decide) rfl rfl dX4_endInGaps_113 ?_
        refine v_goto C (tgt := 14) dX4_endInGaps_116 rfl ?_
        exact v_subp [0, 1, 2, 3, 4, 5, 6] rfl (ih _ _ _ _ h FR K)
      · replace h := (if_neg hc).symm.trans h
        refine v_iload C (q := 5) rfl dX4_endInGaps_42 ?_
        refine v_aload_n C (q := 1) rfl rfl dX4_endInGaps_44 ?_
        refine v_getr C (q := 1) (o := 17) (r := 21) fi_X4_98 rfl rfl rfl dX4_endInGaps_45 ?_
        refine v_iload_n C (q := 3) rfl rfl dX4_endInGaps_48 ?_
        obtain ⟨g4, h⟩ := omg_some h
        refine v_iald C (q := 5) (o := 21) (n := 10) rfl g4 dX4_endInGaps_49 ?_
        refine v_mmax C ml_X4_101 ms_max ini_Math mc_max (Nat.le_of_ble_eq_true rfl) (Nat.zero_le _) dX4_endInGaps_50 ?_
        refine v_istore C (ls' := [(0, .ref (G.1 38)), (1, .ref (G.1 17)), (2, .int (omi v2)), (3, .int (omi v3)), (4, .int (omi v4)), (5, .int (omi v5)), (6, .int (omi v6)), (7, .int (omi (σ 39 (omw v6).toNat))), (8, .int (omi (max (omw v5) (omw (σ 21 (omw v3).toNat)))))]) (by decide) rfl dX4_endInGaps_53 ?_
        refine v_iconst C (n := 0) dX4_endInGaps_55 ?_
        refine v_aload_n C (q := 1) rfl rfl dX4_endInGaps_56 ?_
        refine v_getr C (q := 1) (o := 17) (r := 21) fi_X4_98 rfl rfl rfl dX4_endInGaps_57 ?_
        refine v_iload C (q := 7) rfl dX4_endInGaps_60 ?_
        obtain ⟨g5, h⟩ := omg_some h
        refine v_iald C (q := 5) (o := 21) (n := 10) rfl g5 dX4_endInGaps_62 ?_
        refine v_iload C (q := 8) rfl dX4_endInGaps_63 ?_
        refine v_isub C dX4_endInGaps_65 ?_
        refine v_mmax C ml_X4_101 ms_max ini_Math mc_max (Nat.le_of_ble_eq_true rfl) (Nat.zero_le _) dX4_endInGaps_66 ?_
        refine v_istore C (ls' := [(0, .ref (G.1 38)), (1, .ref (G.1 17)), (2, .int (omi v2)), (3, .int (omi v3)), (4, .int (omi v4)), (5, .int (omi v5)), (6, .int (omi v6)), (7, .int (omi (σ 39 (omw v6).toNat))), (8, .int (omi (max (omw v5) (omw (σ 21 (omw v3).toNat))))), (9, .int (omi (max (omw 0) (omw ((σ 21 (omw (σ 39 (omw v6).toNat)).toNat) - (max (omw v5) (omw (σ 21 (omw v3).toNat))))))))]) (by decide) rfl dX4_endInGaps_69 ?_
        refine v_iload C (q := 9) rfl dX4_endInGaps_71 ?_
        refine v_iload C (q := 4) rfl dX4_endInGaps_73 ?_
        refine v_icmp_lt C (tgt := 84) dX4_endInGaps_75 rfl (fun hc => ?_) (fun hc => ?_)
        · replace h := (if_pos hc).symm.trans h
          refine v_iload C (q := 4) rfl dX4_endInGaps_84 ?_
          refine v_iload C (q := 9) rfl dX4_endInGaps_86 ?_
          refine v_isub C dX4_endInGaps_88 ?_
          refine v_istore C (ls' := [(0, .ref (G.1 38)), (1, .ref (G.1 17)), (2, .int (omi v2)), (3, .int (omi v3)), (4, .int (omi (v4 - (max (omw 0) (omw ((σ 21 (omw (σ 39 (omw v6).toNat)).toNat) - (max (omw v5) (omw (σ 21 (omw v3).toNat))))))))), (5, .int (omi v5)), (6, .int (omi v6)), (7, .int (omi (σ 39 (omw v6).toNat))), (8, .int (omi (max (omw v5) (omw (σ 21 (omw v3).toNat))))), (9, .int (omi (max (omw 0) (omw ((σ 21 (omw (σ 39 (omw v6).toNat)).toNat) - (max (omw v5) (omw (σ 21 (omw v3).toNat))))))))]) (by decide) rfl dX4_endInGaps_89 ?_
          refine v_iload C (q := 5) rfl dX4_endInGaps_91 ?_
          refine v_aload_n C (q := 1) rfl rfl dX4_endInGaps_93 ?_
          refine v_getr C (q := 1) (o := 17) (r := 21) fi_X4_98 rfl rfl rfl dX4_endInGaps_94 ?_
          refine v_iload C (q := 7) rfl dX4_endInGaps_97 ?_
          obtain ⟨g6, h⟩ := omg_some h
          refine v_iald C (q := 5) (o := 21) (n := 10) rfl g6 dX4_endInGaps_99 ?_
          refine v_mmax C ml_X4_101 ms_max ini_Math mc_max (Nat.le_of_ble_eq_true rfl) (Nat.zero_le _) dX4_endInGaps_100 ?_
          refine v_aload_n C (q := 1) rfl rfl dX4_endInGaps_103 ?_
          refine v_getr C (q := 1) (o := 17) (r := 18) fi_X4_87 rfl rfl rfl dX4_endInGaps_104 ?_
          refine v_iload C (q := 7) rfl dX4_endInGaps_107 ?_
          obtain ⟨g7, h⟩ := omg_some h
          refine v_iald C (q := 2) (o := 18) (n := 10) rfl g7 dX4_endInGaps_109 ?_
          refine v_iadd C dX4_endInGaps_110 ?_
          refine v_istore C (ls' := [(0, .ref (G.1 38)), (1, .ref (G.1 17)), (2, .int (omi v2)), (3, .int (omi v3)), (4, .int (omi (v4 - (max (omw 0) (omw ((σ 21 (omw (σ 39 (omw v6).toNat)).toNat) - (max (omw v5) (omw (σ 21 (omw v3).toNat))))))))), (5, .int (omi ((max (omw v5) (omw (σ 21 (omw (σ 39 (omw v6).toNat)).toNat))) + (σ 18 (omw (σ 39 (omw v6).toNat)).toNat)))), (6, .int (omi v6)), (7, .int (omi (σ 39 (omw v6).toNat))), (8, .int (omi (max (omw v5) (omw (σ 21 (omw v3).toNat))))), (9, .int (omi (max (omw 0) (omw ((σ 21 (omw (σ 39 (omw v6).toNat)).toNat) - (max (omw v5) (omw (σ 21 (omw v3).toNat))))))))]) (by decide) rfl dX4_endInGaps_111 ?_
          refine v_iinc C (q := 6) (ls' := [(0, .ref (G.1 38)), (1, .ref (G.1 17)), (2, .int (omi v2)), (3, .int (omi v3)), (4, .int (omi (v4 - (max (omw 0) (omw ((σ 21 (omw (σ 39 (omw v6).toNat)).toNat) - (max (omw v5) (omw (σ 21 (omw v3).toNat))))))))), (5, .int (omi ((max (omw v5) (omw (σ 21 (omw (σ 39 (omw v6).toNat)).toNat))) + (σ 18 (omw (σ 39 (omw v6).toNat)).toNat)))), (6, .int (omi (v6 + 1))), (7, .int (omi (σ 39 (omw v6).toNat))), (8, .int (omi (max (omw v5) (omw (σ 21 (omw v3).toNat))))), (9, .int (omi (max (omw 0) (omw ((σ 21 (omw (σ 39 (omw v6).toNat)).toNat) - (max (omw v5) (omw (σ 21 (omw v3).toNat))))))))]) rfl (by decide) rfl rfl dX4_endInGaps_113 ?_
          refine v_goto C (tgt := 14) dX4_endInGaps_116 rfl ?_
          exact v_subp [0, 1, 2, 3, 4, 5, 6] rfl (ih _ _ _ _ h FR K)
        · replace h := (if_neg hc).symm.trans h
          refine v_iload C (q := 8) rfl dX4_endInGaps_78 ?_
          refine v_iload C (q := 4) rfl dX4_endInGaps_80 ?_
          refine v_iadd C dX4_endInGaps_82 ?_
          cases h
          exact v_iret C (FR _ rfl) dX4_endInGaps_83 (Nat.zero_le _)
set_option maxHeartbeats 4000000 in
set_option maxRecDepth 100000 in
theorem k_X4_endInGaps {G : omG} (v2 : Int) (v3 : Int) (σ : omH) (t : Int) (h : s_X4_endInGaps v2 v3 σ = some t) : omM G yX4_endInGaps (.code yX4_endInGaps cX4_endInGaps 10 (some .int)) 2 0 [.ref (G.1 38), .ref (G.1 17), .int (omi v2), .int (omi v3)] σ (.inr (some (.int (omi t)))) σ := by
  unfold s_X4_endInGaps at h
  refine om_head (own := RX4) (ls := [(0, .ref (G.1 38)), (1, .ref (G.1 17)), (2, .int (omi v2)), (3, .int (omi v3))]) (by decide +kernel) rfl (by simp [lg_sl, Value.category]) rfl (by simp [Value.category]) (fun x C F => ?_)
  refine v_aload_n C (q := 1) rfl rfl dX4_endInGaps_0 ?_
  refine v_getr C (q := 1) (o := 17) (r := 18) fi_X4_87 rfl rfl rfl dX4_endInGaps_1 ?_
  refine v_iload_n C (q := 3) rfl rfl dX4_endInGaps_4 ?_
  obtain ⟨g1, h⟩ := omg_some h
  refine v_iald C (q := 2) (o := 18) (n := 10) rfl g1 dX4_endInGaps_5 ?_
  refine v_istore C (ls' := [(0, .ref (G.1 38)), (1, .ref (G.1 17)), (2, .int (omi v2)), (3, .int (omi v3)), (4, .int (omi (σ 18 (omw v3).toNat)))]) (by decide) rfl dX4_endInGaps_6 ?_
  refine v_iconst C (n := 0) dX4_endInGaps_8 ?_
  refine v_istore C (ls' := [(0, .ref (G.1 38)), (1, .ref (G.1 17)), (2, .int (omi v2)), (3, .int (omi v3)), (4, .int (omi (σ 18 (omw v3).toNat))), (5, .int (omi 0))]) (by decide) rfl dX4_endInGaps_9 ?_
  refine v_iconst C (n := 0) dX4_endInGaps_11 ?_
  refine v_istore C (ls' := [(0, .ref (G.1 38)), (1, .ref (G.1 17)), (2, .int (omi v2)), (3, .int (omi v3)), (4, .int (omi (σ 18 (omw v3).toNat))), (5, .int (omi 0)), (6, .int (omi 0))]) (by decide) rfl dX4_endInGaps_12 ?_
  obtain ⟨t8, et8, h⟩ := om_bind h
  rcases t8 with u9 | u9
  · replace h := (Sum.elim_inl _ _ _).symm.trans h
    cases h
    exact kl_X4_endInGaps_14 C v2 v3 σ FU _ _ _ _ et8 (fun r hr => by cases hr; exact F) (fun u hu => by cases hu)
  · replace h := (Sum.elim_inr _ _ _).symm.trans h
    refine kl_X4_endInGaps_14 C v2 v3 σ FU _ _ _ _ et8 (fun r hr => by cases hr) (fun u hu => ?_)
    cases hu
    refine v_iload C (q := 3) rfl dX4_endInGaps_119 ?_
    refine v_aload_n C (q := 0) rfl rfl dX4_endInGaps_121 ?_
    refine v_getr C (q := 1) (o := 17) (r := 21) fi_X4_98 rfl rfl rfl dX4_endInGaps_122 ?_
    refine v_iload_n C (q := 1) rfl rfl dX4_endInGaps_125 ?_
    obtain ⟨g10, h⟩ := omg_some h
    refine v_iald C (q := 5) (o := 21) (n := 10) rfl g10 dX4_endInGaps_126 ?_
    refine v_mmax C ml_X4_101 ms_max ini_Math mc_max (Nat.le_of_ble_eq_true rfl) (Nat.zero_le _) dX4_endInGaps_127 ?_
    refine v_iload C (q := 2) rfl dX4_endInGaps_130 ?_
    refine v_iadd C dX4_endInGaps_132 ?_
    cases h
    exact v_iret C F dX4_endInGaps_133 (Nat.zero_le _)
set_option maxHeartbeats 4000000 in
set_option maxRecDepth 100000 in
theorem k_X4_endBehind {G : omG} (v2 : Int) (v3 : Int) (v4 : Int) (v5 : Int) (σ : omH) (t : Int) (h : s_X4_endBehind v2 v3 v4 v5 σ = some t) : omM G yX4_endBehind (.code yX4_endBehind cX4_endBehind 6 (some .int)) 3 0 [.ref (G.1 38), .ref (G.1 17), .int (omi v2), .int (omi v3), .int (omi v4), .int (omi v5)] σ (.inr (some (.int (omi t)))) σ := by
  unfold s_X4_endBehind at h
  refine om_head (own := RX4) (ls := [(0, .ref (G.1 38)), (1, .ref (G.1 17)), (2, .int (omi v2)), (3, .int (omi v3)), (4, .int (omi v4)), (5, .int (omi v5))]) (by decide +kernel) rfl (by simp [lg_sl, Value.category]) rfl (by simp [Value.category]) (fun x C F => ?_)
  refine v_gsts C omSw_Way gs_X4_79 dX4_endBehind_0 ?_
  refine v_aload_n C (q := 0) rfl rfl dX4_endBehind_3 ?_
  refine v_getd C (q := 22) (o := 38) fi_X4_21 rfl rfl dX4_endBehind_4 ?_
  obtain ⟨g1, h⟩ := omg_some h
  refine v_ord C omEn_Way (by show _ ≤ _; omega) (by show _ < _ + _; simp only [List.length_cons, List.length_nil]; omega) (by decide) (ov := (((σ 38 1).toNat - 8 : Nat) : Int)) rfl ml_X4_84 ord_same_X9 ord_sel_X9 (Nat.le_of_ble_eq_true rfl) (Nat.zero_le _) dX4_endBehind_7 ?_
  obtain ⟨g2, h⟩ := omg_some h
  refine v_swld C omSw_Way g2 dX4_endBehind_10 ?_
  by_cases hc1 : omw (omw ((((σ 38 1).toNat - 8 : Nat) : Int)) + 1) = 1
  · replace h := (if_pos hc1).symm.trans h
    refine v_tabIn C (tgt := 36) dX4_endBehind_11 hc1 (by decide) (by decide) rfl rfl ?_
    refine v_iload C (q := 4) rfl dX4_endBehind_36 ?_
    refine v_aload_n C (q := 1) rfl rfl dX4_endBehind_38 ?_
    refine v_getr C (q := 1) (o := 17) (r := 18) fi_X4_87 rfl rfl rfl dX4_endBehind_39 ?_
    refine v_iload C (q := 5) rfl dX4_endBehind_42 ?_
    obtain ⟨g3, h⟩ := omg_some h
    refine v_iald C (q := 2) (o := 18) (n := 10) rfl g3 dX4_endBehind_44 ?_
    refine v_iadd C dX4_endBehind_45 ?_
    cases h
    exact v_iret C F dX4_endBehind_46 (Nat.zero_le _)
  · replace h := (if_neg hc1).symm.trans h
    by_cases hc2 : omw (omw ((((σ 38 1).toNat - 8 : Nat) : Int)) + 1) = 2
    · replace h := (if_pos hc2).symm.trans h
      refine v_tabIn C (tgt := 47) dX4_endBehind_11 hc2 (by decide) (by decide) rfl rfl ?_
      refine v_iload C (q := 4) rfl dX4_endBehind_47 ?_
      refine v_aload_n C (q := 1) rfl rfl dX4_endBehind_49 ?_
      refine v_iload_n C (q := 3) rfl rfl dX4_endBehind_50 ?_
      refine v_iload C (q := 5) rfl dX4_endBehind_51 ?_
      obtain ⟨r4, er4, h⟩ := om_bind h
      refine v_invV_i (As := [.int (omi v3), .int (omi v5)]) C mi_X2_setupBehind ml_X4_90 (k_X2_setupBehind v3 v5 σ _ er4) (q := 1) rfl rfl rfl (by decide) (Nat.zero_le _) rfl (Nat.le_of_ble_eq_true rfl) dX4_endBehind_53 ?_
      refine v_iadd C dX4_endBehind_56 ?_
      refine v_aload_n C (q := 1) rfl rfl dX4_endBehind_57 ?_
      refine v_getr C (q := 1) (o := 17) (r := 18) fi_X4_87 rfl rfl rfl dX4_endBehind_58 ?_
      refine v_iload C (q := 5) rfl dX4_endBehind_61 ?_
      obtain ⟨g5, h⟩ := omg_some h
      refine v_iald C (q := 2) (o := 18) (n := 10) rfl g5 dX4_endBehind_63 ?_
      refine v_iadd C dX4_endBehind_64 ?_
      cases h
      exact v_iret C F dX4_endBehind_65 (Nat.zero_le _)
    · replace h := (if_neg hc2).symm.trans h
      by_cases hc3 : omw (omw ((((σ 38 1).toNat - 8 : Nat) : Int)) + 1) = 3
      · replace h := (if_pos hc3).symm.trans h
        refine v_tabIn C (tgt := 66) dX4_endBehind_11 hc3 (by decide) (by decide) rfl rfl ?_
        refine v_aload_n C (q := 0) rfl rfl dX4_endBehind_66 ?_
        refine v_aload_n C (q := 1) rfl rfl dX4_endBehind_67 ?_
        refine v_iload_n C (q := 2) rfl rfl dX4_endBehind_68 ?_
        refine v_iload C (q := 5) rfl dX4_endBehind_69 ?_
        obtain ⟨r6, er6, h⟩ := om_bind h
        refine v_invV_i (As := [.ref (G.1 17), .int (omi v2), .int (omi v5)]) C mi_X4_endInGaps ml_X4_94 (k_X4_endInGaps v2 v5 σ _ er6) (q := 22) rfl rfl rfl (by decide) (Nat.zero_le _) rfl (Nat.le_of_ble_eq_true rfl) dX4_endBehind_71 ?_
        cases h
        exact v_iret C F dX4_endBehind_74 (Nat.zero_le _)
      · replace h := (if_neg hc3).symm.trans h
        refine v_tabOut C (tgt := 66) dX4_endBehind_11 (by omega) rfl ?_
        refine v_aload_n C (q := 0) rfl rfl dX4_endBehind_66 ?_
        refine v_aload_n C (q := 1) rfl rfl dX4_endBehind_67 ?_
        refine v_iload_n C (q := 2) rfl rfl dX4_endBehind_68 ?_
        refine v_iload C (q := 5) rfl dX4_endBehind_69 ?_
        obtain ⟨r7, er7, h⟩ := om_bind h
        refine v_invV_i (As := [.ref (G.1 17), .int (omi v2), .int (omi v5)]) C mi_X4_endInGaps ml_X4_94 (k_X4_endInGaps v2 v5 σ _ er7) (q := 22) rfl rfl rfl (by decide) (Nat.zero_le _) rfl (Nat.le_of_ble_eq_true rfl) dX4_endBehind_71 ?_
        cases h
        exact v_iret C F dX4_endBehind_74 (Nat.zero_le _)
set_option maxHeartbeats 4000000 in
set_option maxRecDepth 100000 in
theorem kl_X4_tryAll_35 {G : omG} {x : omX} {n9 : Nat} (C : omC G x RX4 cX4_tryAll 10 (4 + n9 + 1) 0) (rec : Int → Int → Int → Int → Int → omH → Option (omH)) (hrec : ∀ (v2 : Int) (v3 : Int) (v4 : Int) (v5 : Int) (v6 : Int) (σ : omH) (t : omH), rec v2 v3 v4 v5 v6 σ = some t → omM G yX4_tryAll (.code yX4_tryAll cX4_tryAll 10 none) (4 + n9) 0 [.ref (G.1 38), .ref (G.1 17), .int (omi v2), .int (omi v3), .int (omi v4), .int (omi v5), .int (omi v6)] σ (.inr none) t) (v2 : Int) (v3 : Int) (v4 : Int) (v5 : Int) (v6 : Int) : ∀ (n : Nat) (v7 : Int) (σ : omH) (t : omH), l_X4_tryAll_35 rec v2 v3 v4 v5 v6 n v7 σ = some t → omV G x 10 115 [] [] t 0 → omV G x 10 35 [(0, .ref (G.1 38)), (1, .ref (G.1 17)), (2, .int (omi v2)), (3, .int (omi v3)), (4, .int (omi v4)), (5, .int (omi v5)), (6, .int (omi v6)), (7, .int (omi v7))] [] σ 0 := by
  intro n
  induction n with
  | zero => intro v7 σ t h K; cases h
  | succ n ih =>
    intro v7 σ t h K
    rw [l_X4_tryAll_35.eq_2] at h
    refine v_iload C (q := 7) rfl dX4_tryAll_35 ?_
    refine v_aload_n C (q := 1) rfl rfl dX4_tryAll_37 ?_
    refine v_geti C (q := 1) (o := 17) fi_X4_61 rfl rfl dX4_tryAll_38 ?_
    refine v_icmp_ge C (tgt := 115) dX4_tryAll_41 rfl (fun hc => ?_) (fun hc => ?_)
    · replace h := (if_neg hc).symm.trans h
      cases h
      exact v_subp [] rfl K
    · replace h := (if_pos hc).symm.trans h
      refine v_aload_n C (q := 1) rfl rfl dX4_tryAll_44 ?_
      refine v_iload_n C (q := 2) rfl rfl dX4_tryAll_45 ?_
      refine v_iload C (q := 7) rfl dX4_tryAll_46 ?_
      obtain ⟨r2, er2, h⟩ := om_bind h
      refine v_invV_i (As := [.int (omi v2), .int (omi v7)]) C mi_X2_isIn ml_X4_64 (k_X2_isIn v2 v7 σ _ er2) (q := 1) rfl rfl rfl (by omega) (Nat.zero_le _) rfl (Nat.le_of_ble_eq_true rfl) dX4_tryAll_48 ?_
      refine v_if_ne C (tgt := 109) dX4_tryAll_51 rfl (fun hc => ?_) (fun hc => ?_)
      · replace h := (if_neg hc).symm.trans h
        refine v_iinc C (q := 7) (ls' := [(0, .ref (G.1 38)), (1, .ref (G.1 17)), (2, .int (omi v2)), (3, .int (omi v3)), (4, .int (omi v4)), (5, .int (omi v5)), (6, .int (omi v6)), (7, .int (omi (v7 + 1)))]) rfl (by decide) rfl rfl dX4_tryAll_109 ?_
        refine v_goto C (tgt := 35) dX4_tryAll_112 rfl ?_
        exact ih _ _ _ h K
      · replace h := (if_pos hc).symm.trans h
        refine v_aload_n C (q := 0) rfl rfl dX4_tryAll_54 ?_
        refine v_aload_n C (q := 1) rfl rfl dX4_tryAll_55 ?_
        refine v_iload_n C (q := 2) rfl rfl dX4_tryAll_56 ?_
        refine v_iload_n C (q := 3) rfl rfl dX4_tryAll_57 ?_
        refine v_iload C (q := 4) rfl dX4_tryAll_58 ?_
        refine v_iload C (q := 7) rfl dX4_tryAll_60 ?_
        obtain ⟨r3, er3, h⟩ := om_bind h
        refine v_invV_i (As := [.ref (G.1 17), .int (omi v2), .int (omi v3), .int (omi v4), .int (omi v7)]) C mi_X4_endBehind ml_X4_68 (k_X4_endBehind v2 v3 v4 v7 σ _ er3) (q := 22) rfl rfl rfl (by omega) (Nat.zero_le _) rfl (Nat.le_of_ble_eq_true rfl) dX4_tryAll_62 ?_
        refine v_istore C (ls' := [(0, .ref (G.1 38)), (1, .ref (G.1 17)), (2, .int (omi v2)), (3, .int (omi v3)), (4, .int (omi v4)), (5, .int (omi v5)), (6, .int (omi v6)), (7, .int (omi v7)), (8, .int (omi r3))]) (by decide) rfl dX4_tryAll_65 ?_
        refine v_aload_n C (q := 0) rfl rfl dX4_tryAll_67 ?_
        refine v_getd C (q := 22) (o := 38) fi_X4_30 rfl rfl dX4_tryAll_68 ?_
        refine v_iload C (q := 5) rfl dX4_tryAll_71 ?_
        refine v_aload_n C (q := 1) rfl rfl dX4_tryAll_73 ?_
        refine v_iload C (q := 7) rfl dX4_tryAll_74 ?_
        refine v_iload C (q := 8) rfl dX4_tryAll_76 ?_
        obtain ⟨g5, h⟩ := omg_some h
        obtain ⟨r4, er4, h⟩ := om_bind h
        refine v_invE_i (As := [.int (omi v5), .ref (G.1 17), .int (omi v7), .int (omi r3)]) C mi_X1_with ml_X4_72 (k_X1_with ((σ 38 2).toNat) v5 v7 r3 σ _ er4) omEn_Cost rfl g5.1 g5.2 rfl (by omega) (Nat.zero_le _) rfl (Nat.le_of_ble_eq_true rfl) dX4_tryAll_78 ?_
        refine v_istore C (ls' := [(0, .ref (G.1 38)), (1, .ref (G.1 17)), (2, .int (omi v2)), (3, .int (omi v3)), (4, .int (omi v4)), (5, .int (omi v5)), (6, .int (omi v6)), (7, .int (omi v7)), (8, .int (omi r3)), (9, .int (omi r4))]) (by decide) rfl dX4_tryAll_81 ?_
        refine v_aload_n C (q := 0) rfl rfl dX4_tryAll_83 ?_
        refine v_aload_n C (q := 1) rfl rfl dX4_tryAll_84 ?_
        refine v_iload_n C (q := 2) rfl rfl dX4_tryAll_85 ?_
        refine v_iconst C (n := 1) dX4_tryAll_86 ?_
        refine v_iload C (q := 7) rfl dX4_tryAll_87 ?_
        refine v_ishl C dX4_tryAll_89 ?_
        refine v_ior C dX4_tryAll_90 ?_
        refine v_aload_n C (q := 1) rfl rfl dX4_tryAll_91 ?_
        refine v_getr C (q := 1) (o := 17) (r := 22) fi_X4_76 rfl rfl rfl dX4_tryAll_92 ?_
        refine v_iload C (q := 7) rfl dX4_tryAll_95 ?_
        obtain ⟨g6, h⟩ := omg_some h
        refine v_iald C (q := 6) (o := 22) (n := 10) rfl g6 dX4_tryAll_97 ?_
        refine v_iload C (q := 8) rfl dX4_tryAll_98 ?_
        refine v_iload C (q := 9) rfl dX4_tryAll_100 ?_
        refine v_iload C (q := 6) rfl dX4_tryAll_102 ?_
        refine v_iconst C (n := 1) dX4_tryAll_104 ?_
        refine v_iadd C dX4_tryAll_105 ?_
        obtain ⟨r7, er7, h⟩ := om_bind h
        refine v_invS_v (As := [.ref (G.1 38), .ref (G.1 17), .int (omi (omor v2 (omshl 1 v7))), .int (omi (σ 22 (omw v7).toNat)), .int (omi r3), .int (omi r4), .int (omi (v6 + 1))]) C mi_X4_tryAll ml_X4_54 (hrec (omor v2 (omshl 1 v7)) (σ 22 (omw v7).toNat) r3 r4 (v6 + 1) σ _ er7) rfl (by omega) (Nat.zero_le _) rfl (Nat.le_of_ble_eq_true rfl) dX4_tryAll_106 ?_
        refine v_iinc C (q := 7) (ls' := [(0, .ref (G.1 38)), (1, .ref (G.1 17)), (2, .int (omi v2)), (3, .int (omi v3)), (4, .int (omi v4)), (5, .int (omi v5)), (6, .int (omi v6)), (7, .int (omi (v7 + 1))), (8, .int (omi r3)), (9, .int (omi r4))]) rfl (by decide) rfl rfl dX4_tryAll_109 ?_
        refine v_goto C (tgt := 35) dX4_tryAll_112 rfl ?_
        exact v_subp [0, 1, 2, 3, 4, 5, 6, 7] rfl (ih _ _ _ h K)
set_option maxHeartbeats 4000000 in
set_option maxRecDepth 100000 in
theorem k_X4_tryAll {G : omG} : ∀ (n9 : Nat) (v2 : Int) (v3 : Int) (v4 : Int) (v5 : Int) (v6 : Int) (σ : omH) (t : omH), s_X4_tryAll n9 v2 v3 v4 v5 v6 σ = some t → omM G yX4_tryAll (.code yX4_tryAll cX4_tryAll 10 none) (4 + n9) 0 [.ref (G.1 38), .ref (G.1 17), .int (omi v2), .int (omi v3), .int (omi v4), .int (omi v5), .int (omi v6)] σ (.inr none) t := by
  intro n9
  induction n9 with
  | zero => intro v2 v3 v4 v5 v6 σ t h; cases h
  | succ n9 hrec =>
    intro v2 v3 v4 v5 v6 σ t h
    rw [s_X4_tryAll.eq_2] at h
    refine om_head (own := RX4) (ls := [(0, .ref (G.1 38)), (1, .ref (G.1 17)), (2, .int (omi v2)), (3, .int (omi v3)), (4, .int (omi v4)), (5, .int (omi v5)), (6, .int (omi v6))]) (by decide +kernel) rfl (by simp [lg_sl, Value.category]) rfl (by simp [Value.category]) (fun x C F => ?_)
    refine v_iload C (q := 5) rfl dX4_tryAll_0 ?_
    refine v_aload_n C (q := 0) rfl rfl dX4_tryAll_2 ?_
    refine v_geti C (q := 22) (o := 38) fi_X4_34 rfl rfl dX4_tryAll_3 ?_
    refine v_icmp_ge C (tgt := 16) dX4_tryAll_6 rfl (fun hc => ?_) (fun hc => ?_)
    · replace h := (if_neg hc).symm.trans h
      cases h
      exact v_vret C F dX4_tryAll_16 (Nat.zero_le _)
    · replace h := (if_pos hc).symm.trans h
      refine v_iload C (q := 6) rfl dX4_tryAll_9 ?_
      refine v_bipush C (a := 7) (by decide) dX4_tryAll_11 ?_
      refine v_icmp_le C (tgt := 17) dX4_tryAll_13 rfl (fun hc => ?_) (fun hc => ?_)
      · replace h := (if_neg hc).symm.trans h
        refine v_iload_n C (q := 2) rfl rfl dX4_tryAll_17 ?_
        refine v_aload_n C (q := 1) rfl rfl dX4_tryAll_18 ?_
        obtain ⟨r1, er1, h⟩ := om_bind h
        refine v_invV_i (As := []) C mi_X2_all ml_X4_58 (k_X2_all  σ _ er1) (q := 1) rfl rfl rfl (by omega) (Nat.zero_le _) rfl (Nat.le_of_ble_eq_true rfl) dX4_tryAll_19 ?_
        refine v_icmp_ne C (tgt := 32) dX4_tryAll_22 rfl (fun hc => ?_) (fun hc => ?_)
        · replace h := (if_neg hc).symm.trans h
          refine v_iconst C (n := 0) dX4_tryAll_32 ?_
          refine v_istore C (ls' := [(0, .ref (G.1 38)), (1, .ref (G.1 17)), (2, .int (omi v2)), (3, .int (omi v3)), (4, .int (omi v4)), (5, .int (omi v5)), (6, .int (omi v6)), (7, .int (omi 0))]) (by decide) rfl dX4_tryAll_33 ?_
          obtain ⟨t8, et8, h⟩ := om_bind h
          refine kl_X4_tryAll_35 C _ hrec v2 v3 v4 v5 v6 FU _ _ t8 et8 ?_
          cases h
          exact v_vret C F dX4_tryAll_115 (Nat.zero_le _)
        · replace h := (if_pos hc).symm.trans h
          refine v_aload_n C (q := 0) rfl rfl dX4_tryAll_25 ?_
          refine v_iload C (q := 5) rfl dX4_tryAll_26 ?_
          refine v_puti C (q := 22) (o := 38) fp_X4_34 rfl rfl dX4_tryAll_28 ?_
          cases h
          exact v_vret C F dX4_tryAll_31 (Nat.zero_le _)
      · replace h := (if_pos hc).symm.trans h
        cases h
        exact v_vret C F dX4_tryAll_16 (Nat.zero_le _)
set_option maxHeartbeats 4000000 in
set_option maxRecDepth 100000 in
theorem k_X4_least {G : omG} (c2 : Nat) (c3 : Nat) (σ : omH) (t : Int × omH) (h : s_X4_least c2 c3 σ = some t) : omM G yX4_least (.code yX4_least cX4_least 4 (some .int)) 15 0 [.ref (G.1 38), .ref (G.1 17), .ref (G.1 c2), .ref (G.1 c3)] σ (.inr (some (.int (omi t.1)))) t.2 := by
  unfold s_X4_least at h
  obtain ⟨hg, h⟩ := omg_some h
  refine om_head (own := RX4) (ls := [(0, .ref (G.1 38)), (1, .ref (G.1 17)), (2, .ref (G.1 c2)), (3, .ref (G.1 c3))]) (by decide +kernel) rfl (by simp [lg_sl, Value.category]) rfl (by simp [Value.category]) (fun x C F => ?_)
  refine v_aload_n C (q := 0) rfl rfl dX4_least_0 ?_
  refine v_aload_n C (q := 2) rfl rfl dX4_least_1 ?_
  refine v_putr C (q := 22) (o := 38) fp_X4_21 rfl rfl dX4_least_2 ?_
  refine v_aload_n C (q := 0) rfl rfl dX4_least_5 ?_
  refine v_aload_n C (q := 3) rfl rfl dX4_least_6 ?_
  refine v_putr C (q := 22) (o := 38) fp_X4_30 rfl rfl dX4_least_7 ?_
  refine v_aload_n C (q := 0) rfl rfl dX4_least_10 ?_
  refine v_ldc C kc_X4_33 dX4_least_11 ?_
  refine v_puti C (q := 22) (o := 38) fp_X4_34 rfl rfl dX4_least_13 ?_
  refine v_aload_n C (q := 1) rfl rfl dX4_least_16 ?_
  refine v_aload_n C (q := 0) rfl rfl dX4_least_17 ?_
  refine v_getr C (q := 22) (o := 38) (r := 39) fi_X4_9 rfl rfl rfl dX4_least_18 ?_
  refine v_gste C omEn_Key (i := 1) (cn := 6) (by decide) rfl gs_X4_38 dX4_least_21 ?_
  obtain ⟨r1, er1, h⟩ := om_bind h
  refine v_invV_v (As := [.ref (G.1 39), .ref (G.1 6)]) C mi_X2_fillInOrder ml_X4_44 (k_X2_fillInOrder 39 6 (omsu (omsu (omsu σ 38 1 ((c2 : Nat))) 38 2 ((c3 : Nat))) 38 3 1000000) _ er1) (q := 1) rfl rfl rfl (by decide) (Nat.zero_le _) rfl (Nat.le_of_ble_eq_true rfl) dX4_least_24 ?_
  refine v_aload_n C (q := 0) rfl rfl dX4_least_27 ?_
  refine v_aload_n C (q := 1) rfl rfl dX4_least_28 ?_
  refine v_iconst C (n := 0) dX4_least_29 ?_
  refine v_iconst C (n := 4) dX4_least_30 ?_
  refine v_iconst C (n := 0) dX4_least_31 ?_
  refine v_aload_n C (q := 3) rfl rfl dX4_least_32 ?_
  obtain ⟨g3, h⟩ := omg_some h
  obtain ⟨r2, er2, h⟩ := om_bind h
  refine v_invE_i (As := []) C mi_X1_ofNoJob ml_X4_50 (k_X1_ofNoJob c3 r1 _ er2) omEn_Cost rfl g3.1 g3.2 rfl (by decide) (Nat.zero_le _) rfl (Nat.le_of_ble_eq_true rfl) dX4_least_33 ?_
  refine v_iconst C (n := 0) dX4_least_36 ?_
  obtain ⟨r4, er4, h⟩ := om_bind h
  refine v_invS_v (As := [.ref (G.1 38), .ref (G.1 17), .int (omi 0), .int (omi 4), .int (omi 0), .int (omi r2), .int (omi 0)]) C mi_X4_tryAll ml_X4_54 (k_X4_tryAll 10 0 4 0 r2 0 r1 _ er4) rfl (by decide) (Nat.zero_le _) rfl (Nat.le_of_ble_eq_true rfl) dX4_least_37 ?_
  refine v_aload_n C (q := 0) rfl rfl dX4_least_40 ?_
  refine v_geti C (q := 22) (o := 38) fi_X4_34 rfl rfl dX4_least_41 ?_
  cases h
  exact v_iret C F dX4_least_44 (Nat.zero_le _)
set_option maxHeartbeats 4000000 in
set_option maxRecDepth 100000 in
theorem n_X11_leastLateness {G : omG}  (σ : omH) (t : (Int × omH)) (h : s_X11_leastLateness  σ = some (Sum.inr t)) : omM G yX11_leastLateness (.code yX11_leastLateness cX11_leastLateness 1 (some .int)) 16 0 [.ref (G.1 16)] σ (.inr (some (.int (omi t.1)))) t.2 := by
  unfold s_X11_leastLateness at h
  refine om_head (own := RX11) (ls := [(0, .ref (G.1 16))]) (by decide +kernel) rfl (by simp [lg_sl, Value.category]) rfl (by simp [Value.category]) (fun x C F => ?_)
  refine v_aload_n C (q := 0) rfl rfl dX11_leastLateness_0 ?_
  obtain ⟨r1, er1, h⟩ := om_bind h
  rcases r1 with u2 | u2
  · replace h := (Sum.elim_inl _ _ _).symm.trans h
    cases h
  · replace h := (Sum.elim_inr _ _ _).symm.trans h
    refine v_invV_v (As := []) C mi_X11_needFewJobs ml_X11_184 (n_X11_needFewJobs  σ _ er1) (q := 0) rfl rfl rfl (by decide) (Nat.zero_le _) rfl (Nat.le_of_ble_eq_true rfl) dX11_leastLateness_1 ?_
    refine v_aload_n C (q := 0) rfl rfl dX11_leastLateness_4 ?_
    refine v_getr C (q := 0) (o := 16) (r := 38) fi_X11_40 rfl rfl rfl dX11_leastLateness_5 ?_
    refine v_aload_n C (q := 0) rfl rfl dX11_leastLateness_8 ?_
    refine v_getr C (q := 0) (o := 16) (r := 17) fi_X11_12 rfl rfl rfl dX11_leastLateness_9 ?_
    refine v_gste C omEn_Way (i := 0) (cn := 8) (by decide) rfl gs_X11_187 dX11_leastLateness_12 ?_
    refine v_gste C omEn_Cost (i := 0) (cn := 0) (by decide) rfl gs_X11_119 dX11_leastLateness_15 ?_
    obtain ⟨r3, er3, h⟩ := om_bind h
    refine v_invV_i (As := [.ref (G.1 17), .ref (G.1 8), .ref (G.1 0)]) C mi_X4_least ml_X11_193 (k_X4_least 8 0 σ _ er3) (q := 22) rfl rfl rfl (by decide) (Nat.zero_le _) rfl (Nat.le_of_ble_eq_true rfl) dX11_leastLateness_18 ?_
    cases h
    exact v_iret C F dX11_leastLateness_21 (Nat.zero_le _)
set_option maxHeartbeats 4000000 in
set_option maxRecDepth 100000 in
theorem n_X11_leastCompletions {G : omG}  (σ : omH) (t : (Int × omH)) (h : s_X11_leastCompletions  σ = some (Sum.inr t)) : omM G yX11_leastCompletions (.code yX11_leastCompletions cX11_leastCompletions 1 (some .int)) 16 0 [.ref (G.1 16)] σ (.inr (some (.int (omi t.1)))) t.2 := by
  unfold s_X11_leastCompletions at h
  refine om_head (own := RX11) (ls := [(0, .ref (G.1 16))]) (by decide +kernel) rfl (by simp [lg_sl, Value.category]) rfl (by simp [Value.category]) (fun x C F => ?_)
  refine v_aload_n C (q := 0) rfl rfl dX11_leastCompletions_0 ?_
  obtain ⟨r1, er1, h⟩ := om_bind h
  rcases r1 with u2 | u2
  · replace h := (Sum.elim_inl _ _ _).symm.trans h
    cases h
  · replace h := (Sum.elim_inr _ _ _).symm.trans h
    refine v_invV_v (As := []) C mi_X11_needFewJobs ml_X11_184 (n_X11_needFewJobs  σ _ er1) (q := 0) rfl rfl rfl (by decide) (Nat.zero_le _) rfl (Nat.le_of_ble_eq_true rfl) dX11_leastCompletions_1 ?_
    refine v_aload_n C (q := 0) rfl rfl dX11_leastCompletions_4 ?_
    refine v_getr C (q := 0) (o := 16) (r := 38) fi_X11_40 rfl rfl rfl dX11_leastCompletions_5 ?_
    refine v_aload_n C (q := 0) rfl rfl dX11_leastCompletions_8 ?_
    refine v_getr C (q := 0) (o := 16) (r := 17) fi_X11_12 rfl rfl rfl dX11_leastCompletions_9 ?_
    refine v_gste C omEn_Way (i := 0) (cn := 8) (by decide) rfl gs_X11_187 dX11_leastCompletions_12 ?_
    refine v_gste C omEn_Cost (i := 3) (cn := 3) (by decide) rfl gs_X11_136 dX11_leastCompletions_15 ?_
    obtain ⟨r3, er3, h⟩ := om_bind h
    refine v_invV_i (As := [.ref (G.1 17), .ref (G.1 8), .ref (G.1 3)]) C mi_X4_least ml_X11_193 (k_X4_least 8 3 σ _ er3) (q := 22) rfl rfl rfl (by decide) (Nat.zero_le _) rfl (Nat.le_of_ble_eq_true rfl) dX11_leastCompletions_18 ?_
    cases h
    exact v_iret C F dX11_leastCompletions_21 (Nat.zero_le _)
set_option maxHeartbeats 4000000 in
set_option maxRecDepth 100000 in
theorem n_X11_leastTardiness {G : omG}  (σ : omH) (t : (Int × omH)) (h : s_X11_leastTardiness  σ = some (Sum.inr t)) : omM G yX11_leastTardiness (.code yX11_leastTardiness cX11_leastTardiness 1 (some .int)) 16 0 [.ref (G.1 16)] σ (.inr (some (.int (omi t.1)))) t.2 := by
  unfold s_X11_leastTardiness at h
  refine om_head (own := RX11) (ls := [(0, .ref (G.1 16))]) (by decide +kernel) rfl (by simp [lg_sl, Value.category]) rfl (by simp [Value.category]) (fun x C F => ?_)
  refine v_aload_n C (q := 0) rfl rfl dX11_leastTardiness_0 ?_
  obtain ⟨r1, er1, h⟩ := om_bind h
  rcases r1 with u2 | u2
  · replace h := (Sum.elim_inl _ _ _).symm.trans h
    cases h
  · replace h := (Sum.elim_inr _ _ _).symm.trans h
    refine v_invV_v (As := []) C mi_X11_needFewJobs ml_X11_184 (n_X11_needFewJobs  σ _ er1) (q := 0) rfl rfl rfl (by decide) (Nat.zero_le _) rfl (Nat.le_of_ble_eq_true rfl) dX11_leastTardiness_1 ?_
    refine v_aload_n C (q := 0) rfl rfl dX11_leastTardiness_4 ?_
    refine v_getr C (q := 0) (o := 16) (r := 38) fi_X11_40 rfl rfl rfl dX11_leastTardiness_5 ?_
    refine v_aload_n C (q := 0) rfl rfl dX11_leastTardiness_8 ?_
    refine v_getr C (q := 0) (o := 16) (r := 17) fi_X11_12 rfl rfl rfl dX11_leastTardiness_9 ?_
    refine v_gste C omEn_Way (i := 0) (cn := 8) (by decide) rfl gs_X11_187 dX11_leastTardiness_12 ?_
    refine v_gste C omEn_Cost (i := 4) (cn := 4) (by decide) rfl gs_X11_142 dX11_leastTardiness_15 ?_
    obtain ⟨r3, er3, h⟩ := om_bind h
    refine v_invV_i (As := [.ref (G.1 17), .ref (G.1 8), .ref (G.1 4)]) C mi_X4_least ml_X11_193 (k_X4_least 8 4 σ _ er3) (q := 22) rfl rfl rfl (by decide) (Nat.zero_le _) rfl (Nat.le_of_ble_eq_true rfl) dX11_leastTardiness_18 ?_
    cases h
    exact v_iret C F dX11_leastTardiness_21 (Nat.zero_le _)
set_option maxHeartbeats 4000000 in
set_option maxRecDepth 100000 in
theorem n_X11_leastWithSetups {G : omG}  (σ : omH) (t : (Int × omH)) (h : s_X11_leastWithSetups  σ = some (Sum.inr t)) : omM G yX11_leastWithSetups (.code yX11_leastWithSetups cX11_leastWithSetups 1 (some .int)) 16 0 [.ref (G.1 16)] σ (.inr (some (.int (omi t.1)))) t.2 := by
  unfold s_X11_leastWithSetups at h
  refine om_head (own := RX11) (ls := [(0, .ref (G.1 16))]) (by decide +kernel) rfl (by simp [lg_sl, Value.category]) rfl (by simp [Value.category]) (fun x C F => ?_)
  refine v_aload_n C (q := 0) rfl rfl dX11_leastWithSetups_0 ?_
  obtain ⟨r1, er1, h⟩ := om_bind h
  rcases r1 with u2 | u2
  · replace h := (Sum.elim_inl _ _ _).symm.trans h
    cases h
  · replace h := (Sum.elim_inr _ _ _).symm.trans h
    refine v_invV_v (As := []) C mi_X11_needFewJobs ml_X11_184 (n_X11_needFewJobs  σ _ er1) (q := 0) rfl rfl rfl (by decide) (Nat.zero_le _) rfl (Nat.le_of_ble_eq_true rfl) dX11_leastWithSetups_1 ?_
    refine v_aload_n C (q := 0) rfl rfl dX11_leastWithSetups_4 ?_
    refine v_getr C (q := 0) (o := 16) (r := 38) fi_X11_40 rfl rfl rfl dX11_leastWithSetups_5 ?_
    refine v_aload_n C (q := 0) rfl rfl dX11_leastWithSetups_8 ?_
    refine v_getr C (q := 0) (o := 16) (r := 17) fi_X11_12 rfl rfl rfl dX11_leastWithSetups_9 ?_
    refine v_gste C omEn_Way (i := 1) (cn := 9) (by decide) rfl gs_X11_197 dX11_leastWithSetups_12 ?_
    refine v_gste C omEn_Cost (i := 0) (cn := 0) (by decide) rfl gs_X11_119 dX11_leastWithSetups_15 ?_
    obtain ⟨r3, er3, h⟩ := om_bind h
    refine v_invV_i (As := [.ref (G.1 17), .ref (G.1 9), .ref (G.1 0)]) C mi_X4_least ml_X11_193 (k_X4_least 9 0 σ _ er3) (q := 22) rfl rfl rfl (by decide) (Nat.zero_le _) rfl (Nat.le_of_ble_eq_true rfl) dX11_leastWithSetups_18 ?_
    cases h
    exact v_iret C F dX11_leastWithSetups_21 (Nat.zero_le _)
set_option maxHeartbeats 4000000 in
set_option maxRecDepth 100000 in
theorem n_X11_leastPreemptiveLateness {G : omG}  (σ : omH) (t : (Int × omH)) (h : s_X11_leastPreemptiveLateness  σ = some (Sum.inr t)) : omM G yX11_leastPreemptiveLateness (.code yX11_leastPreemptiveLateness cX11_leastPreemptiveLateness 1 (some .int)) 16 0 [.ref (G.1 16)] σ (.inr (some (.int (omi t.1)))) t.2 := by
  unfold s_X11_leastPreemptiveLateness at h
  refine om_head (own := RX11) (ls := [(0, .ref (G.1 16))]) (by decide +kernel) rfl (by simp [lg_sl, Value.category]) rfl (by simp [Value.category]) (fun x C F => ?_)
  refine v_aload_n C (q := 0) rfl rfl dX11_leastPreemptiveLateness_0 ?_
  obtain ⟨r1, er1, h⟩ := om_bind h
  rcases r1 with u2 | u2
  · replace h := (Sum.elim_inl _ _ _).symm.trans h
    cases h
  · replace h := (Sum.elim_inr _ _ _).symm.trans h
    refine v_invV_v (As := []) C mi_X11_needFewJobs ml_X11_184 (n_X11_needFewJobs  σ _ er1) (q := 0) rfl rfl rfl (by decide) (Nat.zero_le _) rfl (Nat.le_of_ble_eq_true rfl) dX11_leastPreemptiveLateness_1 ?_
    refine v_aload_n C (q := 0) rfl rfl dX11_leastPreemptiveLateness_4 ?_
    refine v_getr C (q := 0) (o := 16) (r := 38) fi_X11_40 rfl rfl rfl dX11_leastPreemptiveLateness_5 ?_
    refine v_aload_n C (q := 0) rfl rfl dX11_leastPreemptiveLateness_8 ?_
    refine v_getr C (q := 0) (o := 16) (r := 17) fi_X11_12 rfl rfl rfl dX11_leastPreemptiveLateness_9 ?_
    refine v_gste C omEn_Way (i := 2) (cn := 10) (by decide) rfl gs_X11_200 dX11_leastPreemptiveLateness_12 ?_
    refine v_gste C omEn_Cost (i := 0) (cn := 0) (by decide) rfl gs_X11_119 dX11_leastPreemptiveLateness_15 ?_
    obtain ⟨r3, er3, h⟩ := om_bind h
    refine v_invV_i (As := [.ref (G.1 17), .ref (G.1 10), .ref (G.1 0)]) C mi_X4_least ml_X11_193 (k_X4_least 10 0 σ _ er3) (q := 22) rfl rfl rfl (by decide) (Nat.zero_le _) rfl (Nat.le_of_ble_eq_true rfl) dX11_leastPreemptiveLateness_18 ?_
    cases h
    exact v_iret C F dX11_leastPreemptiveLateness_21 (Nat.zero_le _)
set_option maxHeartbeats 4000000 in
set_option maxRecDepth 100000 in
theorem n_X11_leastPreemptiveCompletions {G : omG}  (σ : omH) (t : (Int × omH)) (h : s_X11_leastPreemptiveCompletions  σ = some (Sum.inr t)) : omM G yX11_leastPreemptiveCompletions (.code yX11_leastPreemptiveCompletions cX11_leastPreemptiveCompletions 1 (some .int)) 16 0 [.ref (G.1 16)] σ (.inr (some (.int (omi t.1)))) t.2 := by
  unfold s_X11_leastPreemptiveCompletions at h
  refine om_head (own := RX11) (ls := [(0, .ref (G.1 16))]) (by decide +kernel) rfl (by simp [lg_sl, Value.category]) rfl (by simp [Value.category]) (fun x C F => ?_)
  refine v_aload_n C (q := 0) rfl rfl dX11_leastPreemptiveCompletions_0 ?_
  obtain ⟨r1, er1, h⟩ := om_bind h
  rcases r1 with u2 | u2
  · replace h := (Sum.elim_inl _ _ _).symm.trans h
    cases h
  · replace h := (Sum.elim_inr _ _ _).symm.trans h
    refine v_invV_v (As := []) C mi_X11_needFewJobs ml_X11_184 (n_X11_needFewJobs  σ _ er1) (q := 0) rfl rfl rfl (by decide) (Nat.zero_le _) rfl (Nat.le_of_ble_eq_true rfl) dX11_leastPreemptiveCompletions_1 ?_
    refine v_aload_n C (q := 0) rfl rfl dX11_leastPreemptiveCompletions_4 ?_
    refine v_getr C (q := 0) (o := 16) (r := 38) fi_X11_40 rfl rfl rfl dX11_leastPreemptiveCompletions_5 ?_
    refine v_aload_n C (q := 0) rfl rfl dX11_leastPreemptiveCompletions_8 ?_
    refine v_getr C (q := 0) (o := 16) (r := 17) fi_X11_12 rfl rfl rfl dX11_leastPreemptiveCompletions_9 ?_
    refine v_gste C omEn_Way (i := 2) (cn := 10) (by decide) rfl gs_X11_200 dX11_leastPreemptiveCompletions_12 ?_
    refine v_gste C omEn_Cost (i := 2) (cn := 2) (by decide) rfl gs_X11_152 dX11_leastPreemptiveCompletions_15 ?_
    obtain ⟨r3, er3, h⟩ := om_bind h
    refine v_invV_i (As := [.ref (G.1 17), .ref (G.1 10), .ref (G.1 2)]) C mi_X4_least ml_X11_193 (k_X4_least 10 2 σ _ er3) (q := 22) rfl rfl rfl (by decide) (Nat.zero_le _) rfl (Nat.le_of_ble_eq_true rfl) dX11_leastPreemptiveCompletions_18 ?_
    cases h
    exact v_iret C F dX11_leastPreemptiveCompletions_21 (Nat.zero_le _)
set_option maxHeartbeats 4000000 in
set_option maxRecDepth 100000 in
theorem kl_X8_isOnTimeByDue_5 {G : omG} {x : omX} (C : omC G x RX8 cX8_isOnTimeByDue 6 (2) 0) (v2 : Int) (σ : omH) : ∀ (n : Nat) (v3 : Int) (v4 : Int) (t : (Int) ⊕ (Unit)), l_X8_isOnTimeByDue_5 v2 σ n v3 v4 = some t → (∀ r : Int, t = .inl r → omF G x (some .boolean) 0 [] (.inr (some (.int (omi r)))) σ) → omV G x 6 5 [(0, .ref (G.1 40)), (1, .ref (G.1 17)), (2, .int (omi v2)), (3, .int (omi v3)), (4, .int (omi v4))] [] σ 0 := by
  intro n
  induction n with
  | zero => intro v3 v4 t h FR ; cases h
  | succ n ih =>
    intro v3 v4 t h FR 
    rw [l_X8_isOnTimeByDue_5.eq_2] at h
    refine v_iload C (q := 4) rfl dX8_isOnTimeByDue_5 ?_
    refine v_aload_n C (q := 1) rfl rfl dX8_isOnTimeByDue_7 ?_
    refine v_geti C (q := 1) (o := 17) fi_X8_41 rfl rfl dX8_isOnTimeByDue_8 ?_
    refine v_icmp_ge C (tgt := 62) dX8_isOnTimeByDue_11 rfl (fun hc => ?_) (fun hc => ?_)
    · replace h := (if_neg hc).symm.trans h
      refine v_iconst C (n := 1) dX8_isOnTimeByDue_62 ?_
      cases h
      exact v_zret C (by decide) (FR _ rfl) dX8_isOnTimeByDue_63 (Nat.zero_le _)
    · replace h := (if_pos hc).symm.trans h
      refine v_aload_n C (q := 0) rfl rfl dX8_isOnTimeByDue_14 ?_
      refine v_getr C (q := 24) (o := 40) (r := 41) fi_X8_9 rfl rfl rfl dX8_isOnTimeByDue_15 ?_
      refine v_iload C (q := 4) rfl dX8_isOnTimeByDue_18 ?_
      obtain ⟨g1, h⟩ := omg_some h
      refine v_iald C (q := 25) (o := 41) (n := 10) rfl g1 dX8_isOnTimeByDue_20 ?_
      refine v_istore C (ls' := [(0, .ref (G.1 40)), (1, .ref (G.1 17)), (2, .int (omi v2)), (3, .int (omi v3)), (4, .int (omi v4)), (5, .int (omi (σ 41 (omw v4).toNat)))]) (by decide) rfl dX8_isOnTimeByDue_21 ?_
      refine v_aload_n C (q := 1) rfl rfl dX8_isOnTimeByDue_23 ?_
      refine v_iload_n C (q := 2) rfl rfl dX8_isOnTimeByDue_24 ?_
      refine v_iload C (q := 5) rfl dX8_isOnTimeByDue_25 ?_
      obtain ⟨r2, er2, h⟩ := om_bind h
      refine v_invV_i (As := [.int (omi v2), .int (omi (σ 41 (omw v4).toNat))]) C mi_X2_isIn ml_X8_45 (k_X2_isIn v2 (σ 41 (omw v4).toNat) σ _ er2) (q := 1) rfl rfl rfl (by decide) (Nat.zero_le _) rfl (Nat.le_of_ble_eq_true rfl) dX8_isOnTimeByDue_27 ?_
      refine v_if_eq C (tgt := 56) dX8_isOnTimeByDue_30 rfl (fun hc => ?_) (fun hc => ?_)
      · replace h := (if_pos hc).symm.trans h
        refine v_iinc C (q := 4) (ls' := [(0, .ref (G.1 40)), (1, .ref (G.1 17)), (2, .int (omi v2)), (3, .int (omi v3)), (4, .int (omi (v4 + 1))), (5, .int (omi (σ 41 (omw v4).toNat)))]) rfl (by decide) rfl rfl dX8_isOnTimeByDue_56 ?_
        refine v_goto C (tgt := 5) dX8_isOnTimeByDue_59 rfl ?_
        exact v_subp [0, 1, 2, 3, 4] rfl (ih _ _ _ h FR)
      · replace h := (if_neg hc).symm.trans h
        refine v_iload_n C (q := 3) rfl rfl dX8_isOnTimeByDue_33 ?_
        refine v_aload_n C (q := 1) rfl rfl dX8_isOnTimeByDue_34 ?_
        refine v_getr C (q := 1) (o := 17) (r := 18) fi_X8_49 rfl rfl rfl dX8_isOnTimeByDue_35 ?_
        refine v_iload C (q := 5) rfl dX8_isOnTimeByDue_38 ?_
        obtain ⟨g3, h⟩ := omg_some h
        refine v_iald C (q := 2) (o := 18) (n := 10) rfl g3 dX8_isOnTimeByDue_40 ?_
        refine v_iadd C dX8_isOnTimeByDue_41 ?_
        refine v_istore_n C (ls' := [(0, .ref (G.1 40)), (1, .ref (G.1 17)), (2, .int (omi v2)), (3, .int (omi (v3 + (σ 18 (omw (σ 41 (omw v4).toNat)).toNat)))), (4, .int (omi v4)), (5, .int (omi (σ 41 (omw v4).toNat)))]) rfl (by decide) rfl dX8_isOnTimeByDue_42 ?_
        refine v_iload_n C (q := 3) rfl rfl dX8_isOnTimeByDue_43 ?_
        refine v_aload_n C (q := 1) rfl rfl dX8_isOnTimeByDue_44 ?_
        refine v_getr C (q := 1) (o := 17) (r := 19) fi_X8_52 rfl rfl rfl dX8_isOnTimeByDue_45 ?_
        refine v_iload C (q := 5) rfl dX8_isOnTimeByDue_48 ?_
        obtain ⟨g4, h⟩ := omg_some h
        refine v_iald C (q := 3) (o := 19) (n := 10) rfl g4 dX8_isOnTimeByDue_50 ?_
        refine v_icmp_le C (tgt := 56) dX8_isOnTimeByDue_51 rfl (fun hc => ?_) (fun hc => ?_)
        · replace h := (if_neg hc).symm.trans h
          refine v_iinc C (q := 4) (ls' := [(0, .ref (G.1 40)), (1, .ref (G.1 17)), (2, .int (omi v2)), (3, .int (omi (v3 + (σ 18 (omw (σ 41 (omw v4).toNat)).toNat)))), (4, .int (omi (v4 + 1))), (5, .int (omi (σ 41 (omw v4).toNat)))]) rfl (by decide) rfl rfl dX8_isOnTimeByDue_56 ?_
          refine v_goto C (tgt := 5) dX8_isOnTimeByDue_59 rfl ?_
          exact v_subp [0, 1, 2, 3, 4] rfl (ih _ _ _ h FR)
        · replace h := (if_pos hc).symm.trans h
          refine v_iconst C (n := 0) dX8_isOnTimeByDue_54 ?_
          cases h
          exact v_zret C (by decide) (FR _ rfl) dX8_isOnTimeByDue_55 (Nat.zero_le _)
set_option maxHeartbeats 4000000 in
set_option maxRecDepth 100000 in
theorem k_X8_isOnTimeByDue {G : omG} (v2 : Int) (σ : omH) (t : Int) (h : s_X8_isOnTimeByDue v2 σ = some t) : omM G yX8_isOnTimeByDue (.code yX8_isOnTimeByDue cX8_isOnTimeByDue 6 (some .boolean)) 2 0 [.ref (G.1 40), .ref (G.1 17), .int (omi v2)] σ (.inr (some (.int (omi t)))) σ := by
  unfold s_X8_isOnTimeByDue at h
  refine om_head (own := RX8) (ls := [(0, .ref (G.1 40)), (1, .ref (G.1 17)), (2, .int (omi v2))]) (by decide +kernel) rfl (by simp [lg_sl, Value.category]) rfl (by simp [Value.category]) (fun x C F => ?_)
  refine v_iconst C (n := 0) dX8_isOnTimeByDue_0 ?_
  refine v_istore_n C (ls' := [(0, .ref (G.1 40)), (1, .ref (G.1 17)), (2, .int (omi v2)), (3, .int (omi 0))]) rfl (by decide) rfl dX8_isOnTimeByDue_1 ?_
  refine v_iconst C (n := 0) dX8_isOnTimeByDue_2 ?_
  refine v_istore C (ls' := [(0, .ref (G.1 40)), (1, .ref (G.1 17)), (2, .int (omi v2)), (3, .int (omi 0)), (4, .int (omi 0))]) (by decide) rfl dX8_isOnTimeByDue_3 ?_
  obtain ⟨t5, et5, h⟩ := om_bind h
  rcases t5 with u6 | u6
  · replace h := (Sum.elim_inl _ _ _).symm.trans h
    cases h
    exact kl_X8_isOnTimeByDue_5 C v2 σ FU _ _ _ et5 (fun r hr => by cases hr; exact F)
  · replace h := (Sum.elim_inr _ _ _).symm.trans h
    refine kl_X8_isOnTimeByDue_5 C v2 σ FU _ _ _ et5 (fun r hr => by cases hr)
set_option maxHeartbeats 4000000 in
set_option maxRecDepth 100000 in
theorem k_X8_isOnTime {G : omG} (v2 : Int) (σ : omH) (t : Int × omH) (h : s_X8_isOnTime v2 σ = some t) : omM G yX8_isOnTime (.code yX8_isOnTime cX8_isOnTime 3 (some .boolean)) 3 0 [.ref (G.1 40), .ref (G.1 17), .int (omi v2)] σ (.inr (some (.int (omi t.1)))) t.2 := by
  unfold s_X8_isOnTime at h
  refine om_head (own := RX8) (ls := [(0, .ref (G.1 40)), (1, .ref (G.1 17)), (2, .int (omi v2))]) (by decide +kernel) rfl (by simp [lg_sl, Value.category]) rfl (by simp [Value.category]) (fun x C F => ?_)
  refine v_aload_n C (q := 1) rfl rfl dX8_isOnTime_0 ?_
  refine v_aload_n C (q := 0) rfl rfl dX8_isOnTime_1 ?_
  refine v_getr C (q := 24) (o := 40) (r := 41) fi_X8_9 rfl rfl rfl dX8_isOnTime_2 ?_
  refine v_gste C omEn_Key (i := 0) (cn := 5) (by decide) rfl gs_X8_15 dX8_isOnTime_5 ?_
  obtain ⟨r1, er1, h⟩ := om_bind h
  refine v_invV_v (As := [.ref (G.1 41), .ref (G.1 5)]) C mi_X2_fillInOrder ml_X8_21 (k_X2_fillInOrder 41 5 σ _ er1) (q := 1) rfl rfl rfl (by decide) (Nat.zero_le _) rfl (Nat.le_of_ble_eq_true rfl) dX8_isOnTime_8 ?_
  refine v_aload_n C (q := 0) rfl rfl dX8_isOnTime_11 ?_
  refine v_aload_n C (q := 1) rfl rfl dX8_isOnTime_12 ?_
  refine v_iload_n C (q := 2) rfl rfl dX8_isOnTime_13 ?_
  obtain ⟨r2, er2, h⟩ := om_bind h
  refine v_invV_i (As := [.ref (G.1 17), .int (omi v2)]) C mi_X8_isOnTimeByDue ml_X8_27 (k_X8_isOnTimeByDue v2 r1 _ er2) (q := 24) rfl rfl rfl (by decide) (Nat.zero_le _) rfl (Nat.le_of_ble_eq_true rfl) dX8_isOnTime_14 ?_
  obtain ⟨g3, h⟩ := omg_some h
  cases h
  exact v_zret C g3 F dX8_isOnTime_17 (Nat.zero_le _)
set_option maxHeartbeats 4000000 in
set_option maxRecDepth 100000 in
theorem n_X11_canBeOnTime {G : omG} (v1 : Int) (σ : omH) (t : (Int × omH)) (h : s_X11_canBeOnTime v1 σ = some (Sum.inr t)) : omM G yX11_canBeOnTime (.code yX11_canBeOnTime cX11_canBeOnTime 2 (some .boolean)) 4 0 [.ref (G.1 16), .int (omi v1)] σ (.inr (some (.int (omi t.1)))) t.2 := by
  unfold s_X11_canBeOnTime at h
  refine om_head (own := RX11) (ls := [(0, .ref (G.1 16)), (1, .int (omi v1))]) (by decide +kernel) rfl (by simp [lg_sl, Value.category]) rfl (by simp [Value.category]) (fun x C F => ?_)
  refine v_iload_n C (q := 1) rfl rfl dX11_canBeOnTime_0 ?_
  refine v_iconst C (n := 0) dX11_canBeOnTime_1 ?_
  refine v_aload_n C (q := 0) rfl rfl dX11_canBeOnTime_2 ?_
  refine v_getr C (q := 0) (o := 16) (r := 17) fi_X11_12 rfl rfl rfl dX11_canBeOnTime_3 ?_
  obtain ⟨r1, er1, h⟩ := om_bind h
  refine v_invV_i (As := []) C mi_X2_all ml_X11_203 (k_X2_all  σ _ er1) (q := 1) rfl rfl rfl (by decide) (Nat.zero_le _) rfl (Nat.le_of_ble_eq_true rfl) dX11_canBeOnTime_6 ?_
  obtain ⟨r2, er2, h⟩ := om_bind h
  refine v_invS_i (As := [.int (omi v1), .int (omi 0), .int (omi r1)]) C mi_X11_isWithin ml_X11_87 (k_X11_isWithin v1 0 r1 σ _ er2) rfl (by decide) (Nat.zero_le _) rfl (Nat.le_of_ble_eq_true rfl) dX11_canBeOnTime_9 ?_
  refine v_if_ne C (tgt := 25) dX11_canBeOnTime_12 rfl (fun hc => ?_) (fun hc => ?_)
  · replace h := (if_neg hc).symm.trans h
    refine v_aload_n C (q := 0) rfl rfl dX11_canBeOnTime_25 ?_
    refine v_getr C (q := 0) (o := 16) (r := 40) fi_X11_47 rfl rfl rfl dX11_canBeOnTime_26 ?_
    refine v_aload_n C (q := 0) rfl rfl dX11_canBeOnTime_29 ?_
    refine v_getr C (q := 0) (o := 16) (r := 17) fi_X11_12 rfl rfl rfl dX11_canBeOnTime_30 ?_
    refine v_iload_n C (q := 1) rfl rfl dX11_canBeOnTime_33 ?_
    obtain ⟨r3, er3, h⟩ := om_bind h
    refine v_invV_i (As := [.ref (G.1 17), .int (omi v1)]) C mi_X8_isOnTime ml_X11_209 (k_X8_isOnTime v1 σ _ er3) (q := 24) rfl rfl rfl (by decide) (Nat.zero_le _) rfl (Nat.le_of_ble_eq_true rfl) dX11_canBeOnTime_34 ?_
    obtain ⟨g4, h⟩ := omg_some h
    cases h
    exact v_zret C g4 F dX11_canBeOnTime_37 (Nat.zero_le _)
  · replace h := (if_pos hc).symm.trans h
    cases h
set_option maxHeartbeats 4000000 in
set_option maxRecDepth 100000 in
theorem k_J6_bitCount_0f7a4 {G : omG} (v0 : Int) (σ : omH) (t : Int) (h : s_J6_bitCount_0f7a4 v0 σ = some t) : omM G yJ6_bitCount_0f7a4 (.code yJ6_bitCount_0f7a4 cJ6_bitCount_0f7a4 1 (some .int)) 1 0 [.int (omi v0)] σ (.inr (some (.int (omi t)))) σ := by
  unfold s_J6_bitCount_0f7a4 at h
  refine om_head (own := RJ6) (ls := [(0, .int (omi v0))]) (by decide +kernel) rfl (by simp [lg_sl, Value.category]) rfl (by simp [Value.category]) (fun x C F => ?_)
  refine v_iload_n C (q := 0) rfl rfl dJ6_bitCount_0f7a4_0 ?_
  refine v_iload_n C (q := 0) rfl rfl dJ6_bitCount_0f7a4_1 ?_
  refine v_iconst C (n := 1) dJ6_bitCount_0f7a4_2 ?_
  refine v_iushr C dJ6_bitCount_0f7a4_3 ?_
  refine v_ldcw C kc_J6_265 dJ6_bitCount_0f7a4_4 ?_
  refine v_iand C dJ6_bitCount_0f7a4_7 ?_
  refine v_isub C dJ6_bitCount_0f7a4_8 ?_
  refine v_istore_n C (ls' := [(0, .int (omi (v0 - (omand (omushr v0 1) 1431655765))))]) rfl (by decide) rfl dJ6_bitCount_0f7a4_9 ?_
  refine v_iload_n C (q := 0) rfl rfl dJ6_bitCount_0f7a4_10 ?_
  refine v_ldcw C kc_J6_266 dJ6_bitCount_0f7a4_11 ?_
  refine v_iand C dJ6_bitCount_0f7a4_14 ?_
  refine v_iload_n C (q := 0) rfl rfl dJ6_bitCount_0f7a4_15 ?_
  refine v_iconst C (n := 2) dJ6_bitCount_0f7a4_16 ?_
  refine v_iushr C dJ6_bitCount_0f7a4_17 ?_
  refine v_ldcw C kc_J6_266 dJ6_bitCount_0f7a4_18 ?_
  refine v_iand C dJ6_bitCount_0f7a4_21 ?_
  refine v_iadd C dJ6_bitCount_0f7a4_22 ?_
  refine v_istore_n C (ls' := [(0, .int (omi ((omand (v0 - (omand (omushr v0 1) 1431655765)) 858993459) + (omand (omushr (v0 - (omand (omushr v0 1) 1431655765)) 2) 858993459))))]) rfl (by decide) rfl dJ6_bitCount_0f7a4_23 ?_
  refine v_iload_n C (q := 0) rfl rfl dJ6_bitCount_0f7a4_24 ?_
  refine v_iload_n C (q := 0) rfl rfl dJ6_bitCount_0f7a4_25 ?_
  refine v_iconst C (n := 4) dJ6_bitCount_0f7a4_26 ?_
  refine v_iushr C dJ6_bitCount_0f7a4_27 ?_
  refine v_iadd C dJ6_bitCount_0f7a4_28 ?_
  refine v_ldcw C kc_J6_267 dJ6_bitCount_0f7a4_29 ?_
  refine v_iand C dJ6_bitCount_0f7a4_32 ?_
  refine v_istore_n C (ls' := [(0, .int (omi (omand (((omand (v0 - (omand (omushr v0 1) 1431655765)) 858993459) + (omand (omushr (v0 - (omand (omushr v0 1) 1431655765)) 2) 858993459)) + (omushr ((omand (v0 - (omand (omushr v0 1) 1431655765)) 858993459) + (omand (omushr (v0 - (omand (omushr v0 1) 1431655765)) 2) 858993459)) 4)) 252645135)))]) rfl (by decide) rfl dJ6_bitCount_0f7a4_33 ?_
  refine v_iload_n C (q := 0) rfl rfl dJ6_bitCount_0f7a4_34 ?_
  refine v_iload_n C (q := 0) rfl rfl dJ6_bitCount_0f7a4_35 ?_
  refine v_bipush C (a := 8) (by decide) dJ6_bitCount_0f7a4_36 ?_
  refine v_iushr C dJ6_bitCount_0f7a4_38 ?_
  refine v_iadd C dJ6_bitCount_0f7a4_39 ?_
  refine v_istore_n C (ls' := [(0, .int (omi ((omand (((omand (v0 - (omand (omushr v0 1) 1431655765)) 858993459) + (omand (omushr (v0 - (omand (omushr v0 1) 1431655765)) 2) 858993459)) + (omushr ((omand (v0 - (omand (omushr v0 1) 1431655765)) 858993459) + (omand (omushr (v0 - (omand (omushr v0 1) 1431655765)) 2) 858993459)) 4)) 252645135) + (omushr (omand (((omand (v0 - (omand (omushr v0 1) 1431655765)) 858993459) + (omand (omushr (v0 - (omand (omushr v0 1) 1431655765)) 2) 858993459)) + (omushr ((omand (v0 - (omand (omushr v0 1) 1431655765)) 858993459) + (omand (omushr (v0 - (omand (omushr v0 1) 1431655765)) 2) 858993459)) 4)) 252645135) 8))))]) rfl (by decide) rfl dJ6_bitCount_0f7a4_40 ?_
  refine v_iload_n C (q := 0) rfl rfl dJ6_bitCount_0f7a4_41 ?_
  refine v_iload_n C (q := 0) rfl rfl dJ6_bitCount_0f7a4_42 ?_
  refine v_bipush C (a := 16) (by decide) dJ6_bitCount_0f7a4_43 ?_
  refine v_iushr C dJ6_bitCount_0f7a4_45 ?_
  refine v_iadd C dJ6_bitCount_0f7a4_46 ?_
  refine v_istore_n C (ls' := [(0, .int (omi (((omand (((omand (v0 - (omand (omushr v0 1) 1431655765)) 858993459) + (omand (omushr (v0 - (omand (omushr v0 1) 1431655765)) 2) 858993459)) + (omushr ((omand (v0 - (omand (omushr v0 1) 1431655765)) 858993459) + (omand (omushr (v0 - (omand (omushr v0 1) 1431655765)) 2) 858993459)) 4)) 252645135) + (omushr (omand (((omand (v0 - (omand (omushr v0 1) 1431655765)) 858993459) + (omand (omushr (v0 - (omand (omushr v0 1) 1431655765)) 2) 858993459)) + (omushr ((omand (v0 - (omand (omushr v0 1) 1431655765)) 858993459) + (omand (omushr (v0 - (omand (omushr v0 1) 1431655765)) 2) 858993459)) 4)) 252645135) 8)) + (omushr ((omand (((omand (v0 - (omand (omushr v0 1) 1431655765)) 858993459) + (omand (omushr (v0 - (omand (omushr v0 1) 1431655765)) 2) 858993459)) + (omushr ((omand (v0 - (omand (omushr v0 1) 1431655765)) 858993459) + (omand (omushr (v0 - (omand (omushr v0 1) 1431655765)) 2) 858993459)) 4)) 252645135) + (omushr (omand (((omand (v0 - (omand (omushr v0 1) 1431655765)) 858993459) + (omand (omushr (v0 - (omand (omushr v0 1) 1431655765)) 2) 858993459)) + (omushr ((omand (v0 - (omand (omushr v0 1) 1431655765)) 858993459) + (omand (omushr (v0 - (omand (omushr v0 1) 1431655765)) 2) 858993459)) 4)) 252645135) 8)) 16))))]) rfl (by decide) rfl dJ6_bitCount_0f7a4_47 ?_
  refine v_iload_n C (q := 0) rfl rfl dJ6_bitCount_0f7a4_48 ?_
  refine v_bipush C (a := 63) (by decide) dJ6_bitCount_0f7a4_49 ?_
  refine v_iand C dJ6_bitCount_0f7a4_51 ?_
  cases h
  exact v_iret C F dJ6_bitCount_0f7a4_52 (Nat.zero_le _)
set_option maxHeartbeats 4000000 in
set_option maxRecDepth 100000 in
theorem kl_X8_mostOnTime_15 {G : omG} {x : omX} (C : omC G x RX8 cX8_mostOnTime 4 (3) 0) (σ : omH) : ∀ (n : Nat) (v2 : Int) (v3 : Int) (t : Int), l_X8_mostOnTime_15  σ n v2 v3 = some t → omV G x 4 51 [(2, .int (omi t))] [] σ 0 → omV G x 4 15 [(0, .ref (G.1 40)), (1, .ref (G.1 17)), (2, .int (omi v2)), (3, .int (omi v3))] [] σ 0 := by
  intro n
  induction n with
  | zero => intro v2 v3 t h K; cases h
  | succ n ih =>
    intro v2 v3 t h K
    rw [l_X8_mostOnTime_15.eq_2] at h
    refine v_iload_n C (q := 3) rfl rfl dX8_mostOnTime_15 ?_
    refine v_aload_n C (q := 1) rfl rfl dX8_mostOnTime_16 ?_
    obtain ⟨r2, er2, h⟩ := om_bind h
    refine v_invV_i (As := []) C mi_X2_all ml_X8_31 (k_X2_all  σ _ er2) (q := 1) rfl rfl rfl (by decide) (Nat.zero_le _) rfl (Nat.le_of_ble_eq_true rfl) dX8_mostOnTime_17 ?_
    refine v_icmp_gt C (tgt := 51) dX8_mostOnTime_20 rfl (fun hc => ?_) (fun hc => ?_)
    · replace h := (if_pos hc).symm.trans h
      cases h
      exact v_subp [2] rfl K
    · replace h := (if_neg hc).symm.trans h
      refine v_iload_n C (q := 3) rfl rfl dX8_mostOnTime_23 ?_
      obtain ⟨r3, er3, h⟩ := om_bind h
      refine v_invS_i (As := [.int (omi v3)]) C mi_J6_bitCount_0f7a4 ml_X8_35 (k_J6_bitCount_0f7a4 v3 σ _ er3) rfl (by decide) (Nat.zero_le _) rfl (Nat.le_of_ble_eq_true rfl) dX8_mostOnTime_24 ?_
      refine v_iload_n C (q := 2) rfl rfl dX8_mostOnTime_27 ?_
      refine v_icmp_le C (tgt := 45) dX8_mostOnTime_28 rfl (fun hc => ?_) (fun hc => ?_)
      · replace h := (if_neg hc).symm.trans h
        refine v_iinc C (q := 3) (ls' := [(0, .ref (G.1 40)), (1, .ref (G.1 17)), (2, .int (omi v2)), (3, .int (omi (v3 + 1)))]) rfl (by decide) rfl rfl dX8_mostOnTime_45 ?_
        refine v_goto C (tgt := 15) dX8_mostOnTime_48 rfl ?_
        exact ih _ _ _ h K
      · replace h := (if_pos hc).symm.trans h
        refine v_aload_n C (q := 0) rfl rfl dX8_mostOnTime_31 ?_
        refine v_aload_n C (q := 1) rfl rfl dX8_mostOnTime_32 ?_
        refine v_iload_n C (q := 3) rfl rfl dX8_mostOnTime_33 ?_
        obtain ⟨r4, er4, h⟩ := om_bind h
        refine v_invV_i (As := [.ref (G.1 17), .int (omi v3)]) C mi_X8_isOnTimeByDue ml_X8_27 (k_X8_isOnTimeByDue v3 σ _ er4) (q := 24) rfl rfl rfl (by decide) (Nat.zero_le _) rfl (Nat.le_of_ble_eq_true rfl) dX8_mostOnTime_34 ?_
        refine v_if_eq C (tgt := 45) dX8_mostOnTime_37 rfl (fun hc => ?_) (fun hc => ?_)
        · replace h := (if_pos hc).symm.trans h
          refine v_iinc C (q := 3) (ls' := [(0, .ref (G.1 40)), (1, .ref (G.1 17)), (2, .int (omi v2)), (3, .int (omi (v3 + 1)))]) rfl (by decide) rfl rfl dX8_mostOnTime_45 ?_
          refine v_goto C (tgt := 15) dX8_mostOnTime_48 rfl ?_
          exact ih _ _ _ h K
        · replace h := (if_neg hc).symm.trans h
          refine v_iload_n C (q := 3) rfl rfl dX8_mostOnTime_40 ?_
          obtain ⟨r5, er5, h⟩ := om_bind h
          refine v_invS_i (As := [.int (omi v3)]) C mi_J6_bitCount_0f7a4 ml_X8_35 (k_J6_bitCount_0f7a4 v3 σ _ er5) rfl (by decide) (Nat.zero_le _) rfl (Nat.le_of_ble_eq_true rfl) dX8_mostOnTime_41 ?_
          refine v_istore_n C (ls' := [(0, .ref (G.1 40)), (1, .ref (G.1 17)), (2, .int (omi r5)), (3, .int (omi v3))]) rfl (by decide) rfl dX8_mostOnTime_44 ?_
          refine v_iinc C (q := 3) (ls' := [(0, .ref (G.1 40)), (1, .ref (G.1 17)), (2, .int (omi r5)), (3, .int (omi (v3 + 1)))]) rfl (by decide) rfl rfl dX8_mostOnTime_45 ?_
          refine v_goto C (tgt := 15) dX8_mostOnTime_48 rfl ?_
          exact ih _ _ _ h K
set_option maxHeartbeats 4000000 in
set_option maxRecDepth 100000 in
theorem k_X8_mostOnTime {G : omG}  (σ : omH) (t : Int × omH) (h : s_X8_mostOnTime  σ = some t) : omM G yX8_mostOnTime (.code yX8_mostOnTime cX8_mostOnTime 4 (some .int)) 3 0 [.ref (G.1 40), .ref (G.1 17)] σ (.inr (some (.int (omi t.1)))) t.2 := by
  unfold s_X8_mostOnTime at h
  refine om_head (own := RX8) (ls := [(0, .ref (G.1 40)), (1, .ref (G.1 17))]) (by decide +kernel) rfl (by simp [lg_sl, Value.category]) rfl (by simp [Value.category]) (fun x C F => ?_)
  refine v_aload_n C (q := 1) rfl rfl dX8_mostOnTime_0 ?_
  refine v_aload_n C (q := 0) rfl rfl dX8_mostOnTime_1 ?_
  refine v_getr C (q := 24) (o := 40) (r := 41) fi_X8_9 rfl rfl rfl dX8_mostOnTime_2 ?_
  refine v_gste C omEn_Key (i := 0) (cn := 5) (by decide) rfl gs_X8_15 dX8_mostOnTime_5 ?_
  obtain ⟨r1, er1, h⟩ := om_bind h
  refine v_invV_v (As := [.ref (G.1 41), .ref (G.1 5)]) C mi_X2_fillInOrder ml_X8_21 (k_X2_fillInOrder 41 5 σ _ er1) (q := 1) rfl rfl rfl (by decide) (Nat.zero_le _) rfl (Nat.le_of_ble_eq_true rfl) dX8_mostOnTime_8 ?_
  refine v_iconst C (n := 0) dX8_mostOnTime_11 ?_
  refine v_istore_n C (ls' := [(0, .ref (G.1 40)), (1, .ref (G.1 17)), (2, .int (omi 0))]) rfl (by decide) rfl dX8_mostOnTime_12 ?_
  refine v_iconst C (n := 0) dX8_mostOnTime_13 ?_
  refine v_istore_n C (ls' := [(0, .ref (G.1 40)), (1, .ref (G.1 17)), (2, .int (omi 0)), (3, .int (omi 0))]) rfl (by decide) rfl dX8_mostOnTime_14 ?_
  obtain ⟨t6, et6, h⟩ := om_bind h
  refine kl_X8_mostOnTime_15 C  r1 FU _ _ t6 et6 ?_
  refine v_iload_n C (q := 0) rfl rfl dX8_mostOnTime_51 ?_
  cases h
  exact v_iret C F dX8_mostOnTime_52 (Nat.zero_le _)
set_option maxHeartbeats 4000000 in
set_option maxRecDepth 100000 in
theorem k_X11_fewestLateBySets {G : omG}  (σ : omH) (t : Int × omH) (h : s_X11_fewestLateBySets  σ = some t) : omM G yX11_fewestLateBySets (.code yX11_fewestLateBySets cX11_fewestLateBySets 1 (some .int)) 4 0 [.ref (G.1 16)] σ (.inr (some (.int (omi t.1)))) t.2 := by
  unfold s_X11_fewestLateBySets at h
  refine om_head (own := RX11) (ls := [(0, .ref (G.1 16))]) (by decide +kernel) rfl (by simp [lg_sl, Value.category]) rfl (by simp [Value.category]) (fun x C F => ?_)
  refine v_aload_n C (q := 0) rfl rfl dX11_fewestLateBySets_0 ?_
  refine v_getr C (q := 0) (o := 16) (r := 17) fi_X11_12 rfl rfl rfl dX11_fewestLateBySets_1 ?_
  refine v_geti C (q := 1) (o := 17) fi_X11_62 rfl rfl dX11_fewestLateBySets_4 ?_
  refine v_aload_n C (q := 0) rfl rfl dX11_fewestLateBySets_7 ?_
  refine v_getr C (q := 0) (o := 16) (r := 40) fi_X11_47 rfl rfl rfl dX11_fewestLateBySets_8 ?_
  refine v_aload_n C (q := 0) rfl rfl dX11_fewestLateBySets_11 ?_
  refine v_getr C (q := 0) (o := 16) (r := 17) fi_X11_12 rfl rfl rfl dX11_fewestLateBySets_12 ?_
  obtain ⟨r1, er1, h⟩ := om_bind h
  refine v_invV_i (As := [.ref (G.1 17)]) C mi_X8_mostOnTime ml_X11_213 (k_X8_mostOnTime  σ _ er1) (q := 24) rfl rfl rfl (by decide) (Nat.zero_le _) rfl (Nat.le_of_ble_eq_true rfl) dX11_fewestLateBySets_15 ?_
  refine v_isub C dX11_fewestLateBySets_18 ?_
  cases h
  exact v_iret C F dX11_fewestLateBySets_19 (Nat.zero_le _)
set_option maxHeartbeats 4000000 in
set_option maxRecDepth 100000 in
theorem kl_X10_lengthsWithin_6 {G : omG} {x : omX} (C : omC G x RX10 cX10_lengthsWithin 7 (1) 0) (v1 : Int) (v2 : Int) (v3 : Int) (σ : omH) : ∀ (n : Nat) (v4 : Int) (v5 : Int) (t : Int), l_X10_lengthsWithin_6 v1 v2 v3 σ n v4 v5 = some t → omV G x 7 71 [(4, .int (omi t))] [] σ 0 → omV G x 7 6 [(0, .ref (G.1 17)), (1, .int (omi v1)), (2, .int (omi v2)), (3, .int (omi v3)), (4, .int (omi v4)), (5, .int (omi v5))] [] σ 0 := by
  intro n
  induction n with
  | zero => intro v4 v5 t h K; cases h
  | succ n ih =>
    intro v4 v5 t h K
    rw [l_X10_lengthsWithin_6.eq_2] at h
    refine v_iload C (q := 5) rfl dX10_lengthsWithin_6 ?_
    refine v_aload_n C (q := 0) rfl rfl dX10_lengthsWithin_8 ?_
    refine v_geti C (q := 1) (o := 17) fi_X10_16 rfl rfl dX10_lengthsWithin_9 ?_
    refine v_icmp_ge C (tgt := 71) dX10_lengthsWithin_12 rfl (fun hc => ?_) (fun hc => ?_)
    · replace h := (if_neg hc).symm.trans h
      cases h
      exact v_subp [4] rfl K
    · replace h := (if_pos hc).symm.trans h
      refine v_iload_n C (q := 1) rfl rfl dX10_lengthsWithin_15 ?_
      obtain ⟨t1, et1, h⟩ := om_bind h
      have Jt1 : omV G x 7 35 [(0, .ref (G.1 17)), (1, .int (omi v1)), (2, .int (omi v2)), (3, .int (omi v3)), (4, .int (omi v4)), (5, .int (omi v5))] [.int (omi t1)] σ 0 := by
        refine v_istore C (ls' := [(0, .ref (G.1 17)), (1, .int (omi v1)), (2, .int (omi v2)), (3, .int (omi v3)), (4, .int (omi v4)), (5, .int (omi v5)), (6, .int (omi t1))]) (by decide) rfl dX10_lengthsWithin_35 ?_
        refine v_iload C (q := 6) rfl dX10_lengthsWithin_37 ?_
        refine v_if_eq C (tgt := 65) dX10_lengthsWithin_39 rfl (fun hc => ?_) (fun hc => ?_)
        · replace h := (if_pos hc).symm.trans h
          refine v_iinc C (q := 5) (ls' := [(0, .ref (G.1 17)), (1, .int (omi v1)), (2, .int (omi v2)), (3, .int (omi v3)), (4, .int (omi v4)), (5, .int (omi (v5 + 1))), (6, .int (omi t1))]) rfl (by decide) rfl rfl dX10_lengthsWithin_65 ?_
          refine v_goto C (tgt := 6) dX10_lengthsWithin_68 rfl ?_
          exact v_subp [0, 1, 2, 3, 4, 5] rfl (ih _ _ _ h K)
        · replace h := (if_neg hc).symm.trans h
          refine v_aload_n C (q := 0) rfl rfl dX10_lengthsWithin_42 ?_
          refine v_getr C (q := 1) (o := 17) (r := 19) fi_X10_25 rfl rfl rfl dX10_lengthsWithin_43 ?_
          refine v_iload C (q := 5) rfl dX10_lengthsWithin_46 ?_
          obtain ⟨g2, h⟩ := omg_some h
          refine v_iald C (q := 3) (o := 19) (n := 10) rfl g2 dX10_lengthsWithin_48 ?_
          refine v_iload_n C (q := 3) rfl rfl dX10_lengthsWithin_49 ?_
          refine v_icmp_gt C (tgt := 65) dX10_lengthsWithin_50 rfl (fun hc => ?_) (fun hc => ?_)
          · replace h := (if_pos hc).symm.trans h
            refine v_iinc C (q := 5) (ls' := [(0, .ref (G.1 17)), (1, .int (omi v1)), (2, .int (omi v2)), (3, .int (omi v3)), (4, .int (omi v4)), (5, .int (omi (v5 + 1))), (6, .int (omi t1))]) rfl (by decide) rfl rfl dX10_lengthsWithin_65 ?_
            refine v_goto C (tgt := 6) dX10_lengthsWithin_68 rfl ?_
            exact v_subp [0, 1, 2, 3, 4, 5] rfl (ih _ _ _ h K)
          · replace h := (if_neg hc).symm.trans h
            refine v_iload C (q := 4) rfl dX10_lengthsWithin_53 ?_
            refine v_aload_n C (q := 0) rfl rfl dX10_lengthsWithin_55 ?_
            refine v_getr C (q := 1) (o := 17) (r := 18) fi_X10_44 rfl rfl rfl dX10_lengthsWithin_56 ?_
            refine v_iload C (q := 5) rfl dX10_lengthsWithin_59 ?_
            obtain ⟨g3, h⟩ := omg_some h
            refine v_iald C (q := 2) (o := 18) (n := 10) rfl g3 dX10_lengthsWithin_61 ?_
            refine v_iadd C dX10_lengthsWithin_62 ?_
            refine v_istore C (ls' := [(0, .ref (G.1 17)), (1, .int (omi v1)), (2, .int (omi v2)), (3, .int (omi v3)), (4, .int (omi (v4 + (σ 18 (omw v5).toNat)))), (5, .int (omi v5)), (6, .int (omi t1))]) (by decide) rfl dX10_lengthsWithin_63 ?_
            refine v_iinc C (q := 5) (ls' := [(0, .ref (G.1 17)), (1, .int (omi v1)), (2, .int (omi v2)), (3, .int (omi v3)), (4, .int (omi (v4 + (σ 18 (omw v5).toNat)))), (5, .int (omi (v5 + 1))), (6, .int (omi t1))]) rfl (by decide) rfl rfl dX10_lengthsWithin_65 ?_
            refine v_goto C (tgt := 6) dX10_lengthsWithin_68 rfl ?_
            exact v_subp [0, 1, 2, 3, 4, 5] rfl (ih _ _ _ h K)
      clear h
      have h := et1
      clear et1
      refine v_if_eq C (tgt := 30) dX10_lengthsWithin_16 rfl (fun hc => ?_) (fun hc => ?_)
      · replace h := (if_pos hc).symm.trans h
        refine v_iconst C (n := 1) dX10_lengthsWithin_30 ?_
        refine v_goto C (tgt := 35) dX10_lengthsWithin_31 rfl ?_
        cases h
        exact Jt1
      · replace h := (if_neg hc).symm.trans h
        refine v_aload_n C (q := 0) rfl rfl dX10_lengthsWithin_19 ?_
        refine v_getr C (q := 1) (o := 17) (r := 21) fi_X10_21 rfl rfl rfl dX10_lengthsWithin_20 ?_
        refine v_iload C (q := 5) rfl dX10_lengthsWithin_23 ?_
        obtain ⟨g4, h⟩ := omg_some h
        refine v_iald C (q := 5) (o := 21) (n := 10) rfl g4 dX10_lengthsWithin_25 ?_
        refine v_iload_n C (q := 2) rfl rfl dX10_lengthsWithin_26 ?_
        refine v_icmp_lt C (tgt := 34) dX10_lengthsWithin_27 rfl (fun hc => ?_) (fun hc => ?_)
        · replace h := (if_pos hc).symm.trans h
          refine v_iconst C (n := 0) dX10_lengthsWithin_34 ?_
          cases h
          exact Jt1
        · replace h := (if_neg hc).symm.trans h
          refine v_iconst C (n := 1) dX10_lengthsWithin_30 ?_
          refine v_goto C (tgt := 35) dX10_lengthsWithin_31 rfl ?_
          cases h
          exact Jt1
set_option maxHeartbeats 4000000 in
set_option maxRecDepth 100000 in
theorem k_X10_lengthsWithin {G : omG} (v1 : Int) (v2 : Int) (v3 : Int) (σ : omH) (t : Int) (h : s_X10_lengthsWithin v1 v2 v3 σ = some t) : omM G yX10_lengthsWithin (.code yX10_lengthsWithin cX10_lengthsWithin 7 (some .int)) 1 0 [.ref (G.1 17), .int (omi v1), .int (omi v2), .int (omi v3)] σ (.inr (some (.int (omi t)))) σ := by
  unfold s_X10_lengthsWithin at h
  refine om_head (own := RX10) (ls := [(0, .ref (G.1 17)), (1, .int (omi v1)), (2, .int (omi v2)), (3, .int (omi v3))]) (by decide +kernel) rfl (by simp [lg_sl, Value.category]) rfl (by simp [Value.category]) (fun x C F => ?_)
  refine v_iconst C (n := 0) dX10_lengthsWithin_0 ?_
  refine v_istore C (ls' := [(0, .ref (G.1 17)), (1, .int (omi v1)), (2, .int (omi v2)), (3, .int (omi v3)), (4, .int (omi 0))]) (by decide) rfl dX10_lengthsWithin_1 ?_
  refine v_iconst C (n := 0) dX10_lengthsWithin_3 ?_
  refine v_istore C (ls' := [(0, .ref (G.1 17)), (1, .int (omi v1)), (2, .int (omi v2)), (3, .int (omi v3)), (4, .int (omi 0)), (5, .int (omi 0))]) (by decide) rfl dX10_lengthsWithin_4 ?_
  obtain ⟨t5, et5, h⟩ := om_bind h
  refine kl_X10_lengthsWithin_6 C v1 v2 v3 σ FU _ _ t5 et5 ?_
  refine v_iload C (q := 0) rfl dX10_lengthsWithin_71 ?_
  cases h
  exact v_iret C F dX10_lengthsWithin_73 (Nat.zero_le _)
set_option maxHeartbeats 4000000 in
set_option maxRecDepth 100000 in
theorem k_X10_isBetter {G : omG} (v1 : Int) (v2 : Int) (v3 : Int) (σ : omH) (t : Int) (h : s_X10_isBetter v1 v2 v3 σ = some t) : omM G yX10_isBetter (.code yX10_isBetter cX10_isBetter 4 (some .boolean)) 1 0 [.ref (G.1 42), .int (omi v1), .int (omi v2), .int (omi v3)] σ (.inr (some (.int (omi t)))) σ := by
  unfold s_X10_isBetter at h
  refine om_head (own := RX10) (ls := [(0, .ref (G.1 42)), (1, .int (omi v1)), (2, .int (omi v2)), (3, .int (omi v3))]) (by decide +kernel) rfl (by simp [lg_sl, Value.category]) rfl (by simp [Value.category]) (fun x C F => ?_)
  refine v_iload_n C (q := 1) rfl rfl dX10_isBetter_0 ?_
  refine v_aload_n C (q := 0) rfl rfl dX10_isBetter_1 ?_
  refine v_geti C (q := 26) (o := 42) fi_X10_10 rfl rfl dX10_isBetter_2 ?_
  refine v_icmp_eq C (tgt := 22) dX10_isBetter_5 rfl (fun hc => ?_) (fun hc => ?_)
  · replace h := (if_pos hc).symm.trans h
    refine v_iload_n C (q := 2) rfl rfl dX10_isBetter_22 ?_
    refine v_aload_n C (q := 0) rfl rfl dX10_isBetter_23 ?_
    refine v_geti C (q := 26) (o := 42) fi_X10_40 rfl rfl dX10_isBetter_24 ?_
    refine v_icmp_eq C (tgt := 46) dX10_isBetter_27 rfl (fun hc => ?_) (fun hc => ?_)
    · replace h := (if_pos hc).symm.trans h
      refine v_iload_n C (q := 3) rfl rfl dX10_isBetter_46 ?_
      refine v_aload_n C (q := 0) rfl rfl dX10_isBetter_47 ?_
      refine v_geti C (q := 26) (o := 42) fi_X10_42 rfl rfl dX10_isBetter_48 ?_
      refine v_icmp_ge C (tgt := 58) dX10_isBetter_51 rfl (fun hc => ?_) (fun hc => ?_)
      · replace h := (if_neg hc).symm.trans h
        refine v_iconst C (n := 0) dX10_isBetter_58 ?_
        cases h
        exact v_zret C (by decide) F dX10_isBetter_59 (Nat.zero_le _)
      · replace h := (if_pos hc).symm.trans h
        refine v_iconst C (n := 1) dX10_isBetter_54 ?_
        refine v_goto C (tgt := 59) dX10_isBetter_55 rfl ?_
        cases h
        exact v_zret C (by decide) F dX10_isBetter_59 (Nat.zero_le _)
    · replace h := (if_neg hc).symm.trans h
      refine v_iload_n C (q := 2) rfl rfl dX10_isBetter_30 ?_
      refine v_aload_n C (q := 0) rfl rfl dX10_isBetter_31 ?_
      refine v_geti C (q := 26) (o := 42) fi_X10_40 rfl rfl dX10_isBetter_32 ?_
      refine v_icmp_ge C (tgt := 42) dX10_isBetter_35 rfl (fun hc => ?_) (fun hc => ?_)
      · replace h := (if_neg hc).symm.trans h
        refine v_iconst C (n := 0) dX10_isBetter_42 ?_
        refine v_goto C (tgt := 59) dX10_isBetter_43 rfl ?_
        cases h
        exact v_zret C (by decide) F dX10_isBetter_59 (Nat.zero_le _)
      · replace h := (if_pos hc).symm.trans h
        refine v_iconst C (n := 1) dX10_isBetter_38 ?_
        refine v_goto C (tgt := 59) dX10_isBetter_39 rfl ?_
        cases h
        exact v_zret C (by decide) F dX10_isBetter_59 (Nat.zero_le _)
  · replace h := (if_neg hc).symm.trans h
    refine v_iload_n C (q := 1) rfl rfl dX10_isBetter_8 ?_
    refine v_aload_n C (q := 0) rfl rfl dX10_isBetter_9 ?_
    refine v_geti C (q := 26) (o := 42) fi_X10_10 rfl rfl dX10_isBetter_10 ?_
    refine v_icmp_le C (tgt := 20) dX10_isBetter_13 rfl (fun hc => ?_) (fun hc => ?_)
    · replace h := (if_neg hc).symm.trans h
      refine v_iconst C (n := 0) dX10_isBetter_20 ?_
      cases h
      exact v_zret C (by decide) F dX10_isBetter_21 (Nat.zero_le _)
    · replace h := (if_pos hc).symm.trans h
      refine v_iconst C (n := 1) dX10_isBetter_16 ?_
      refine v_goto C (tgt := 21) dX10_isBetter_17 rfl ?_
      cases h
      exact v_zret C (by decide) F dX10_isBetter_21 (Nat.zero_le _)
set_option maxHeartbeats 4000000 in
set_option maxRecDepth 100000 in
theorem k_X10_tryWindow {G : omG} (v2 : Int) (v3 : Int) (v4 : Int) (σ : omH) (t : omH) (h : s_X10_tryWindow v2 v3 v4 σ = some t) : omM G yX10_tryWindow (.code yX10_tryWindow cX10_tryWindow 7 none) 2 0 [.ref (G.1 42), .ref (G.1 17), .int (omi v2), .int (omi v3), .int (omi v4)] σ (.inr none) t := by
  unfold s_X10_tryWindow at h
  refine om_head (own := RX10) (ls := [(0, .ref (G.1 42)), (1, .ref (G.1 17)), (2, .int (omi v2)), (3, .int (omi v3)), (4, .int (omi v4))]) (by decide +kernel) rfl (by simp [lg_sl, Value.category]) rfl (by simp [Value.category]) (fun x C F => ?_)
  refine v_aload_n C (q := 1) rfl rfl dX10_tryWindow_0 ?_
  refine v_iload_n C (q := 2) rfl rfl dX10_tryWindow_1 ?_
  refine v_iload_n C (q := 3) rfl rfl dX10_tryWindow_2 ?_
  refine v_iload C (q := 4) rfl dX10_tryWindow_3 ?_
  obtain ⟨r1, er1, h⟩ := om_bind h
  refine v_invS_i (As := [.ref (G.1 17), .int (omi v2), .int (omi v3), .int (omi v4)]) C mi_X10_lengthsWithin ml_X10_32 (k_X10_lengthsWithin v2 v3 v4 σ _ er1) rfl (by decide) (Nat.zero_le _) rfl (Nat.le_of_ble_eq_true rfl) dX10_tryWindow_5 ?_
  refine v_istore C (ls' := [(0, .ref (G.1 42)), (1, .ref (G.1 17)), (2, .int (omi v2)), (3, .int (omi v3)), (4, .int (omi v4)), (5, .int (omi r1))]) (by decide) rfl dX10_tryWindow_8 ?_
  refine v_iload_n C (q := 3) rfl rfl dX10_tryWindow_10 ?_
  refine v_iload C (q := 5) rfl dX10_tryWindow_11 ?_
  refine v_iadd C dX10_tryWindow_13 ?_
  refine v_iload C (q := 4) rfl dX10_tryWindow_14 ?_
  refine v_isub C dX10_tryWindow_16 ?_
  refine v_istore C (ls' := [(0, .ref (G.1 42)), (1, .ref (G.1 17)), (2, .int (omi v2)), (3, .int (omi v3)), (4, .int (omi v4)), (5, .int (omi r1)), (6, .int (omi ((v3 + r1) - v4)))]) (by decide) rfl dX10_tryWindow_17 ?_
  refine v_iload C (q := 5) rfl dX10_tryWindow_19 ?_
  refine v_if_le C (tgt := 53) dX10_tryWindow_21 rfl (fun hc => ?_) (fun hc => ?_)
  · replace h := (if_neg hc).symm.trans h
    cases h
    exact v_vret C F dX10_tryWindow_53 (Nat.zero_le _)
  · replace h := (if_pos hc).symm.trans h
    refine v_aload_n C (q := 0) rfl rfl dX10_tryWindow_24 ?_
    refine v_iload C (q := 6) rfl dX10_tryWindow_25 ?_
    refine v_iload C (q := 4) rfl dX10_tryWindow_27 ?_
    refine v_iload_n C (q := 3) rfl rfl dX10_tryWindow_29 ?_
    obtain ⟨r2, er2, h⟩ := om_bind h
    refine v_invV_i (As := [.int (omi ((v3 + r1) - v4)), .int (omi v4), .int (omi v3)]) C mi_X10_isBetter ml_X10_36 (k_X10_isBetter ((v3 + r1) - v4) v4 v3 σ _ er2) (q := 26) rfl rfl rfl (by decide) (Nat.zero_le _) rfl (Nat.le_of_ble_eq_true rfl) dX10_tryWindow_30 ?_
    refine v_if_eq C (tgt := 53) dX10_tryWindow_33 rfl (fun hc => ?_) (fun hc => ?_)
    · replace h := (if_pos hc).symm.trans h
      cases h
      exact v_vret C F dX10_tryWindow_53 (Nat.zero_le _)
    · replace h := (if_neg hc).symm.trans h
      refine v_aload_n C (q := 0) rfl rfl dX10_tryWindow_36 ?_
      refine v_iload C (q := 6) rfl dX10_tryWindow_37 ?_
      refine v_puti C (q := 26) (o := 42) fp_X10_10 rfl rfl dX10_tryWindow_39 ?_
      refine v_aload_n C (q := 0) rfl rfl dX10_tryWindow_42 ?_
      refine v_iload C (q := 4) rfl dX10_tryWindow_43 ?_
      refine v_puti C (q := 26) (o := 42) fp_X10_40 rfl rfl dX10_tryWindow_45 ?_
      refine v_aload_n C (q := 0) rfl rfl dX10_tryWindow_48 ?_
      refine v_iload_n C (q := 3) rfl rfl dX10_tryWindow_49 ?_
      refine v_puti C (q := 26) (o := 42) fp_X10_42 rfl rfl dX10_tryWindow_50 ?_
      cases h
      exact v_vret C F dX10_tryWindow_53 (Nat.zero_le _)
set_option maxHeartbeats 4000000 in
set_option maxRecDepth 100000 in
theorem kl_X10_findGreatest_19 {G : omG} {x : omX} (C : omC G x RX10 cX10_findGreatest 5 (3) 0) (v2 : Int) (v3 : Int) : ∀ (n : Nat) (v4 : Int) (σ : omH) (t : omH), l_X10_findGreatest_19 v2 v3 n v4 σ = some t → omV G x 5 61 [(0, .ref (G.1 42)), (1, .ref (G.1 17)), (2, .int (omi v2)), (3, .int (omi v3))] [] t 0 → omV G x 5 19 [(0, .ref (G.1 42)), (1, .ref (G.1 17)), (2, .int (omi v2)), (3, .int (omi v3)), (4, .int (omi v4))] [] σ 0 := by
  intro n
  induction n with
  | zero => intro v4 σ t h K; cases h
  | succ n ih =>
    intro v4 σ t h K
    rw [l_X10_findGreatest_19.eq_2] at h
    refine v_iload C (q := 4) rfl dX10_findGreatest_19 ?_
    refine v_aload_n C (q := 1) rfl rfl dX10_findGreatest_21 ?_
    refine v_geti C (q := 1) (o := 17) fi_X10_16 rfl rfl dX10_findGreatest_22 ?_
    refine v_icmp_ge C (tgt := 61) dX10_findGreatest_25 rfl (fun hc => ?_) (fun hc => ?_)
    · replace h := (if_neg hc).symm.trans h
      cases h
      exact v_subp [0, 1, 2, 3] rfl K
    · replace h := (if_pos hc).symm.trans h
      refine v_aload_n C (q := 0) rfl rfl dX10_findGreatest_28 ?_
      refine v_aload_n C (q := 1) rfl rfl dX10_findGreatest_29 ?_
      refine v_iload_n C (q := 2) rfl rfl dX10_findGreatest_30 ?_
      refine v_iload_n C (q := 2) rfl rfl dX10_findGreatest_31 ?_
      obtain ⟨t1, et1, h⟩ := om_bind h
      have Jt1 : omV G x 5 45 [(0, .ref (G.1 42)), (1, .ref (G.1 17)), (2, .int (omi v2)), (3, .int (omi v3)), (4, .int (omi v4))] [.int (omi t1), .int (omi v2), .ref (G.1 17), .ref (G.1 42)] σ 0 := by
        refine v_aload_n C (q := 1) rfl rfl dX10_findGreatest_45 ?_
        refine v_getr C (q := 1) (o := 17) (r := 19) fi_X10_25 rfl rfl rfl dX10_findGreatest_46 ?_
        refine v_iload C (q := 4) rfl dX10_findGreatest_49 ?_
        obtain ⟨g2, h⟩ := omg_some h
        refine v_iald C (q := 3) (o := 19) (n := 10) rfl g2 dX10_findGreatest_51 ?_
        obtain ⟨r3, er3, h⟩ := om_bind h
        refine v_invV_v (As := [.ref (G.1 17), .int (omi v2), .int (omi t1), .int (omi (σ 19 (omw v4).toNat))]) C mi_X10_tryWindow ml_X10_28 (k_X10_tryWindow v2 t1 (σ 19 (omw v4).toNat) σ _ er3) (q := 26) rfl rfl rfl (by decide) (Nat.zero_le _) rfl (Nat.le_of_ble_eq_true rfl) dX10_findGreatest_52 ?_
        refine v_iinc C (q := 4) (ls' := [(0, .ref (G.1 42)), (1, .ref (G.1 17)), (2, .int (omi v2)), (3, .int (omi v3)), (4, .int (omi (v4 + 1)))]) rfl (by decide) rfl rfl dX10_findGreatest_55 ?_
        refine v_goto C (tgt := 19) dX10_findGreatest_58 rfl ?_
        exact ih _ _ _ h K
      clear h
      have h := et1
      clear et1
      refine v_if_eq C (tgt := 44) dX10_findGreatest_32 rfl (fun hc => ?_) (fun hc => ?_)
      · replace h := (if_pos hc).symm.trans h
        refine v_iconst C (n := 0) dX10_findGreatest_44 ?_
        cases h
        exact Jt1
      · replace h := (if_neg hc).symm.trans h
        refine v_aload_n C (q := 1) rfl rfl dX10_findGreatest_35 ?_
        refine v_getr C (q := 1) (o := 17) (r := 21) fi_X10_21 rfl rfl rfl dX10_findGreatest_36 ?_
        refine v_iload_n C (q := 3) rfl rfl dX10_findGreatest_39 ?_
        obtain ⟨g4, h⟩ := omg_some h
        refine v_iald C (q := 5) (o := 21) (n := 10) rfl g4 dX10_findGreatest_40 ?_
        refine v_goto C (tgt := 45) dX10_findGreatest_41 rfl ?_
        cases h
        exact Jt1
set_option maxHeartbeats 4000000 in
set_option maxRecDepth 100000 in
theorem kl_X10_findGreatest_8 {G : omG} {x : omX} (C : omC G x RX10 cX10_findGreatest 5 (3) 0) (v2 : Int) : ∀ (n : Nat) (v3 : Int) (σ : omH) (t : omH), l_X10_findGreatest_8 v2 n v3 σ = some t → omV G x 5 67 [] [] t 0 → omV G x 5 8 [(0, .ref (G.1 42)), (1, .ref (G.1 17)), (2, .int (omi v2)), (3, .int (omi v3))] [] σ 0 := by
  intro n
  induction n with
  | zero => intro v3 σ t h K; cases h
  | succ n ih =>
    intro v3 σ t h K
    rw [l_X10_findGreatest_8.eq_2] at h
    refine v_iload_n C (q := 3) rfl rfl dX10_findGreatest_8 ?_
    refine v_aload_n C (q := 1) rfl rfl dX10_findGreatest_9 ?_
    refine v_geti C (q := 1) (o := 17) fi_X10_16 rfl rfl dX10_findGreatest_10 ?_
    refine v_icmp_ge C (tgt := 67) dX10_findGreatest_13 rfl (fun hc => ?_) (fun hc => ?_)
    · replace h := (if_neg hc).symm.trans h
      cases h
      exact v_subp [] rfl K
    · replace h := (if_pos hc).symm.trans h
      refine v_iconst C (n := 0) dX10_findGreatest_16 ?_
      refine v_istore C (ls' := [(0, .ref (G.1 42)), (1, .ref (G.1 17)), (2, .int (omi v2)), (3, .int (omi v3)), (4, .int (omi 0))]) (by decide) rfl dX10_findGreatest_17 ?_
      obtain ⟨t5, et5, h⟩ := om_bind h
      refine kl_X10_findGreatest_19 C v2 v3 FU _ _ t5 et5 ?_
      refine v_iinc C (q := 3) (ls' := [(0, .ref (G.1 42)), (1, .ref (G.1 17)), (2, .int (omi v2)), (3, .int (omi (v3 + 1)))]) rfl (by decide) rfl rfl dX10_findGreatest_61 ?_
      refine v_goto C (tgt := 8) dX10_findGreatest_64 rfl ?_
      exact ih _ _ _ h K
set_option maxHeartbeats 4000000 in
set_option maxRecDepth 100000 in
theorem k_X10_findGreatest {G : omG} (v2 : Int) (σ : omH) (t : omH) (h : s_X10_findGreatest v2 σ = some t) : omM G yX10_findGreatest (.code yX10_findGreatest cX10_findGreatest 5 none) 3 0 [.ref (G.1 42), .ref (G.1 17), .int (omi v2)] σ (.inr none) t := by
  unfold s_X10_findGreatest at h
  refine om_head (own := RX10) (ls := [(0, .ref (G.1 42)), (1, .ref (G.1 17)), (2, .int (omi v2))]) (by decide +kernel) rfl (by simp [lg_sl, Value.category]) rfl (by simp [Value.category]) (fun x C F => ?_)
  refine v_aload_n C (q := 0) rfl rfl dX10_findGreatest_0 ?_
  refine v_ldc C kc_X10_9 dX10_findGreatest_1 ?_
  refine v_puti C (q := 26) (o := 42) fp_X10_10 rfl rfl dX10_findGreatest_3 ?_
  refine v_iconst C (n := 0) dX10_findGreatest_6 ?_
  refine v_istore_n C (ls' := [(0, .ref (G.1 42)), (1, .ref (G.1 17)), (2, .int (omi v2)), (3, .int (omi 0))]) rfl (by decide) rfl dX10_findGreatest_7 ?_
  obtain ⟨t6, et6, h⟩ := om_bind h
  refine kl_X10_findGreatest_8 C v2 FU _ _ t6 et6 ?_
  cases h
  exact v_vret C F dX10_findGreatest_67 (Nat.zero_le _)
set_option maxHeartbeats 4000000 in
set_option maxRecDepth 100000 in
theorem n_X11_windowBound {G : omG} (v1 : Int) (σ : omH) (t : (Int × omH)) (h : s_X11_windowBound v1 σ = some (Sum.inr t)) : omM G yX11_windowBound (.code yX11_windowBound cX11_windowBound 2 (some .int)) 4 0 [.ref (G.1 16), .int (omi v1)] σ (.inr (some (.int (omi t.1)))) t.2 := by
  unfold s_X11_windowBound at h
  refine om_head (own := RX11) (ls := [(0, .ref (G.1 16)), (1, .int (omi v1))]) (by decide +kernel) rfl (by simp [lg_sl, Value.category]) rfl (by simp [Value.category]) (fun x C F => ?_)
  refine v_aload_n C (q := 0) rfl rfl dX11_windowBound_0 ?_
  obtain ⟨r1, er1, h⟩ := om_bind h
  rcases r1 with u2 | u2
  · replace h := (Sum.elim_inl _ _ _).symm.trans h
    cases h
  · replace h := (Sum.elim_inr _ _ _).symm.trans h
    refine v_invV_v (As := []) C mi_X11_needSomeJob ml_X11_105 (n_X11_needSomeJob  σ _ er1) (q := 0) rfl rfl rfl (by decide) (Nat.zero_le _) rfl (Nat.le_of_ble_eq_true rfl) dX11_windowBound_1 ?_
    refine v_aload_n C (q := 0) rfl rfl dX11_windowBound_4 ?_
    refine v_getr C (q := 0) (o := 16) (r := 42) fi_X11_54 rfl rfl rfl dX11_windowBound_5 ?_
    refine v_aload_n C (q := 0) rfl rfl dX11_windowBound_8 ?_
    refine v_getr C (q := 0) (o := 16) (r := 17) fi_X11_12 rfl rfl rfl dX11_windowBound_9 ?_
    refine v_iload_n C (q := 1) rfl rfl dX11_windowBound_12 ?_
    obtain ⟨r3, er3, h⟩ := om_bind h
    refine v_invV_v (As := [.ref (G.1 17), .int (omi v1)]) C mi_X10_findGreatest ml_X11_216 (k_X10_findGreatest v1 σ _ er3) (q := 26) rfl rfl rfl (by decide) (Nat.zero_le _) rfl (Nat.le_of_ble_eq_true rfl) dX11_windowBound_13 ?_
    refine v_aload_n C (q := 0) rfl rfl dX11_windowBound_16 ?_
    refine v_getr C (q := 0) (o := 16) (r := 42) fi_X11_54 rfl rfl rfl dX11_windowBound_17 ?_
    refine v_geti C (q := 26) (o := 42) fi_X11_220 rfl rfl dX11_windowBound_20 ?_
    cases h
    exact v_iret C F dX11_windowBound_23 (Nat.zero_le _)
set_option maxHeartbeats 4000000 in
set_option maxRecDepth 100000 in
theorem n_X11_windowDue {G : omG}  (σ : omH) (t : (Int × omH)) (h : s_X11_windowDue  σ = some (Sum.inr t)) : omM G yX11_windowDue (.code yX11_windowDue cX11_windowDue 1 (some .int)) 4 0 [.ref (G.1 16)] σ (.inr (some (.int (omi t.1)))) t.2 := by
  unfold s_X11_windowDue at h
  refine om_head (own := RX11) (ls := [(0, .ref (G.1 16))]) (by decide +kernel) rfl (by simp [lg_sl, Value.category]) rfl (by simp [Value.category]) (fun x C F => ?_)
  refine v_aload_n C (q := 0) rfl rfl dX11_windowDue_0 ?_
  obtain ⟨r1, er1, h⟩ := om_bind h
  rcases r1 with u2 | u2
  · replace h := (Sum.elim_inl _ _ _).symm.trans h
    cases h
  · replace h := (Sum.elim_inr _ _ _).symm.trans h
    refine v_invV_v (As := []) C mi_X11_needSomeJob ml_X11_105 (n_X11_needSomeJob  σ _ er1) (q := 0) rfl rfl rfl (by decide) (Nat.zero_le _) rfl (Nat.le_of_ble_eq_true rfl) dX11_windowDue_1 ?_
    refine v_aload_n C (q := 0) rfl rfl dX11_windowDue_4 ?_
    refine v_getr C (q := 0) (o := 16) (r := 42) fi_X11_54 rfl rfl rfl dX11_windowDue_5 ?_
    refine v_aload_n C (q := 0) rfl rfl dX11_windowDue_8 ?_
    refine v_getr C (q := 0) (o := 16) (r := 17) fi_X11_12 rfl rfl rfl dX11_windowDue_9 ?_
    refine v_iconst C (n := 1) dX11_windowDue_12 ?_
    obtain ⟨r3, er3, h⟩ := om_bind h
    refine v_invV_v (As := [.ref (G.1 17), .int (omi 1)]) C mi_X10_findGreatest ml_X11_216 (k_X10_findGreatest 1 σ _ er3) (q := 26) rfl rfl rfl (by decide) (Nat.zero_le _) rfl (Nat.le_of_ble_eq_true rfl) dX11_windowDue_13 ?_
    refine v_aload_n C (q := 0) rfl rfl dX11_windowDue_16 ?_
    refine v_getr C (q := 0) (o := 16) (r := 42) fi_X11_54 rfl rfl rfl dX11_windowDue_17 ?_
    refine v_geti C (q := 26) (o := 42) fi_X11_223 rfl rfl dX11_windowDue_20 ?_
    cases h
    exact v_iret C F dX11_windowDue_23 (Nat.zero_le _)
set_option maxHeartbeats 4000000 in
set_option maxRecDepth 100000 in
theorem n_X11_windowRelease {G : omG}  (σ : omH) (t : (Int × omH)) (h : s_X11_windowRelease  σ = some (Sum.inr t)) : omM G yX11_windowRelease (.code yX11_windowRelease cX11_windowRelease 1 (some .int)) 4 0 [.ref (G.1 16)] σ (.inr (some (.int (omi t.1)))) t.2 := by
  unfold s_X11_windowRelease at h
  refine om_head (own := RX11) (ls := [(0, .ref (G.1 16))]) (by decide +kernel) rfl (by simp [lg_sl, Value.category]) rfl (by simp [Value.category]) (fun x C F => ?_)
  refine v_aload_n C (q := 0) rfl rfl dX11_windowRelease_0 ?_
  obtain ⟨r1, er1, h⟩ := om_bind h
  rcases r1 with u2 | u2
  · replace h := (Sum.elim_inl _ _ _).symm.trans h
    cases h
  · replace h := (Sum.elim_inr _ _ _).symm.trans h
    refine v_invV_v (As := []) C mi_X11_needSomeJob ml_X11_105 (n_X11_needSomeJob  σ _ er1) (q := 0) rfl rfl rfl (by decide) (Nat.zero_le _) rfl (Nat.le_of_ble_eq_true rfl) dX11_windowRelease_1 ?_
    refine v_aload_n C (q := 0) rfl rfl dX11_windowRelease_4 ?_
    refine v_getr C (q := 0) (o := 16) (r := 42) fi_X11_54 rfl rfl rfl dX11_windowRelease_5 ?_
    refine v_aload_n C (q := 0) rfl rfl dX11_windowRelease_8 ?_
    refine v_getr C (q := 0) (o := 16) (r := 17) fi_X11_12 rfl rfl rfl dX11_windowRelease_9 ?_
    refine v_iconst C (n := 1) dX11_windowRelease_12 ?_
    obtain ⟨r3, er3, h⟩ := om_bind h
    refine v_invV_v (As := [.ref (G.1 17), .int (omi 1)]) C mi_X10_findGreatest ml_X11_216 (k_X10_findGreatest 1 σ _ er3) (q := 26) rfl rfl rfl (by decide) (Nat.zero_le _) rfl (Nat.le_of_ble_eq_true rfl) dX11_windowRelease_13 ?_
    refine v_aload_n C (q := 0) rfl rfl dX11_windowRelease_16 ?_
    refine v_getr C (q := 0) (o := 16) (r := 42) fi_X11_54 rfl rfl rfl dX11_windowRelease_17 ?_
    refine v_geti C (q := 26) (o := 42) fi_X11_225 rfl rfl dX11_windowRelease_20 ?_
    cases h
    exact v_iret C F dX11_windowRelease_23 (Nat.zero_le _)
set_option maxHeartbeats 4000000 in
set_option maxRecDepth 100000 in
theorem k_L_draw {G : omG} {L : Nat} {xs : Nat → Int} (hL : L = G.2.2.2.1.1) (hxs : xs = omscr G) (v1 : Int) (σ : omH) (t : Int) (h : s_L_draw L xs v1 σ = some t) : omM G yL_draw (.code yL_draw cL_draw 2 (some .int)) 1 0 [.ref (G.1 14), .int (omi v1)] σ (.inr (some (.int (omi t)))) σ := by
  unfold s_L_draw at h
  refine om_head (own := RL) (ls := [(0, .ref (G.1 14)), (1, .int (omi v1))]) (by decide +kernel) rfl (by simp [lg_sl, Value.category]) rfl (by simp [Value.category]) (fun x C F => ?_)
  refine v_iload_n C (q := 1) rfl rfl dL_draw_0 ?_
  refine v_aload_n C (q := 0) rfl rfl dL_draw_1 ?_
  refine v_scrlenx C hL dL_draw_2 ?_
  refine v_icmp_ge C (tgt := 15) dL_draw_3 rfl (fun hc => ?_) (fun hc => ?_)
  · replace h := (if_neg hc).symm.trans h
    refine v_ldc C kc_L_8 dL_draw_15 ?_
    refine v_iload_n C (q := 1) rfl rfl dL_draw_17 ?_
    refine v_iconst C (n := 2) dL_draw_18 ?_
    refine v_iadd C dL_draw_19 ?_
    refine v_imul C dL_draw_20 ?_
    refine v_ldc C kc_L_9 dL_draw_21 ?_
    obtain ⟨g1, h⟩ := omg_some h
    refine v_irem C g1 dL_draw_23 ?_
    cases h
    exact v_iret C F dL_draw_24 (Nat.zero_le _)
  · replace h := (if_pos hc).symm.trans h
    refine v_aload_n C (q := 0) rfl rfl dL_draw_6 ?_
    refine v_iload_n C (q := 1) rfl rfl dL_draw_7 ?_
    obtain ⟨g2, h⟩ := omg_some h
    refine v_scrldx C hL hxs g2 dL_draw_8 ?_
    refine v_ldc C kc_L_7 dL_draw_9 ?_
    refine v_iand C dL_draw_11 ?_
    refine v_goto C (tgt := 24) dL_draw_12 rfl ?_
    cases h
    exact v_iret C F dL_draw_24 (Nat.zero_le _)
set_option maxHeartbeats 4000000 in
set_option maxRecDepth 100000 in
theorem k_L_tells {G : omG} (v1 : Int) (v2 : Int) (v3 : Int) (σ : omH) (t : omH) (h : s_L_tells v1 v2 v3 σ = some t) : omM G yL_tells (.code yL_tells cL_tells 4 none) 1 0 [.ref (G.1 43), .int (omi v1), .int (omi v2), .int (omi v3)] σ (.inr none) t := by
  unfold s_L_tells at h
  refine om_head (own := RL) (ls := [(0, .ref (G.1 43)), (1, .int (omi v1)), (2, .int (omi v2)), (3, .int (omi v3))]) (by decide +kernel) rfl (by simp [lg_sl, Value.category]) rfl (by simp [Value.category]) (fun x C F => ?_)
  refine v_aload_n C (q := 0) rfl rfl dL_tells_0 ?_
  refine v_iload_n C (q := 1) rfl rfl dL_tells_1 ?_
  refine v_iconst C (n := 1) dL_tells_2 ?_
  refine v_iload_n C (q := 2) rfl rfl dL_tells_3 ?_
  refine v_bipush C (a := 30) (by decide) dL_tells_4 ?_
  obtain ⟨g1, h⟩ := omg_some h
  refine v_irem C g1 dL_tells_6 ?_
  refine v_iadd C dL_tells_7 ?_
  obtain ⟨g2, h⟩ := omg_some h
  refine v_iast C (q := 27) (o := 43) (n := 55) rfl g2 dL_tells_8 ?_
  refine v_aload_n C (q := 0) rfl rfl dL_tells_9 ?_
  refine v_bipush C (a := 10) (by decide) dL_tells_10 ?_
  refine v_iload_n C (q := 1) rfl rfl dL_tells_12 ?_
  refine v_iadd C dL_tells_13 ?_
  refine v_iload_n C (q := 2) rfl rfl dL_tells_14 ?_
  refine v_bipush C (a := 30) (by decide) dL_tells_15 ?_
  obtain ⟨g3, h⟩ := omg_some h
  refine v_idiv C g3 dL_tells_17 ?_
  refine v_iload_n C (q := 3) rfl rfl dL_tells_18 ?_
  refine v_iconst C (n := 3) dL_tells_19 ?_
  obtain ⟨g4, h⟩ := omg_some h
  refine v_irem C g4 dL_tells_20 ?_
  obtain ⟨t5, et5, h⟩ := om_bind h
  have Jt5 : omV G x 4 32 [(0, .ref (G.1 43)), (1, .int (omi v1)), (2, .int (omi v2)), (3, .int (omi v3))] [.int (omi t5), .int (omi ((omw v2).tdiv (omw 30))), .int (omi (10 + v1)), .ref (G.1 43)] (omsu σ 43 (omw v1).toNat (1 + ((omw v2).tmod (omw 30)))) 0 := by
    obtain ⟨g6, h⟩ := omg_some h
    refine v_irem C g6 dL_tells_32 ?_
    obtain ⟨g7, h⟩ := omg_some h
    refine v_iast C (q := 27) (o := 43) (n := 55) rfl g7 dL_tells_33 ?_
    refine v_aload_n C (q := 0) rfl rfl dL_tells_34 ?_
    refine v_bipush C (a := 20) (by decide) dL_tells_35 ?_
    refine v_iload_n C (q := 1) rfl rfl dL_tells_37 ?_
    refine v_iadd C dL_tells_38 ?_
    refine v_iconst C (n := 1) dL_tells_39 ?_
    refine v_iload_n C (q := 2) rfl rfl dL_tells_40 ?_
    refine v_sipush C (a := 9030) (by decide) dL_tells_41 ?_
    obtain ⟨g8, h⟩ := omg_some h
    refine v_idiv C g8 dL_tells_44 ?_
    refine v_bipush C (a := 20) (by decide) dL_tells_45 ?_
    obtain ⟨g9, h⟩ := omg_some h
    refine v_irem C g9 dL_tells_47 ?_
    refine v_iadd C dL_tells_48 ?_
    obtain ⟨g10, h⟩ := omg_some h
    refine v_iast C (q := 27) (o := 43) (n := 55) rfl g10 dL_tells_49 ?_
    refine v_aload_n C (q := 0) rfl rfl dL_tells_50 ?_
    refine v_bipush C (a := 30) (by decide) dL_tells_51 ?_
    refine v_iload_n C (q := 1) rfl rfl dL_tells_53 ?_
    refine v_iadd C dL_tells_54 ?_
    refine v_iload_n C (q := 3) rfl rfl dL_tells_55 ?_
    refine v_iload_n C (q := 2) rfl rfl dL_tells_56 ?_
    refine v_iconst C (n := 2) dL_tells_57 ?_
    obtain ⟨g11, h⟩ := omg_some h
    refine v_irem C g11 dL_tells_58 ?_
    obtain ⟨t12, et12, h⟩ := om_bind h
    have Jt12 : omV G x 4 69 [(0, .ref (G.1 43)), (1, .int (omi v1)), (3, .int (omi v3))] [.int (omi t12), .int (omi v3), .int (omi (30 + v1)), .ref (G.1 43)] (omsu (omsu (omsu σ 43 (omw v1).toNat (1 + ((omw v2).tmod (omw 30)))) 43 (omw (10 + v1)).toNat ((omw ((omw v2).tdiv (omw 30))).tmod (omw t5))) 43 (omw (20 + v1)).toNat (1 + ((omw ((omw v2).tdiv (omw 9030))).tmod (omw 20)))) 0 := by
      obtain ⟨g13, h⟩ := omg_some h
      refine v_irem C g13 dL_tells_69 ?_
      obtain ⟨g14, h⟩ := omg_some h
      refine v_iast C (q := 27) (o := 43) (n := 55) rfl g14 dL_tells_70 ?_
      refine v_aload_n C (q := 0) rfl rfl dL_tells_71 ?_
      refine v_bipush C (a := 40) (by decide) dL_tells_72 ?_
      refine v_iload_n C (q := 1) rfl rfl dL_tells_74 ?_
      refine v_iadd C dL_tells_75 ?_
      refine v_iload_n C (q := 2) rfl rfl dL_tells_76 ?_
      refine v_bipush C (a := 101) (by decide) dL_tells_77 ?_
      obtain ⟨g15, h⟩ := omg_some h
      refine v_idiv C g15 dL_tells_79 ?_
      refine v_iconst C (n := 4) dL_tells_80 ?_
      obtain ⟨g16, h⟩ := omg_some h
      refine v_irem C g16 dL_tells_81 ?_
      obtain ⟨g17, h⟩ := omg_some h
      refine v_iast C (q := 27) (o := 43) (n := 55) rfl g17 dL_tells_82 ?_
      cases h
      exact v_vret C F dL_tells_83 (Nat.zero_le _)
    clear h
    have h := et12
    clear et12
    refine v_if_ne C (tgt := 67) dL_tells_59 rfl (fun hc => ?_) (fun hc => ?_)
    · replace h := (if_neg hc).symm.trans h
      refine v_bipush C (a := 40) (by decide) dL_tells_67 ?_
      cases h
      exact v_subp [0, 1, 3] rfl Jt12
    · replace h := (if_pos hc).symm.trans h
      refine v_bipush C (a := 101) (by decide) dL_tells_62 ?_
      refine v_goto C (tgt := 69) dL_tells_64 rfl ?_
      cases h
      exact v_subp [0, 1, 3] rfl Jt12
  clear h
  have h := et5
  clear et5
  refine v_if_ne C (tgt := 30) dL_tells_21 rfl (fun hc => ?_) (fun hc => ?_)
  · replace h := (if_neg hc).symm.trans h
    refine v_bipush C (a := 90) (by decide) dL_tells_30 ?_
    cases h
    exact Jt5
  · replace h := (if_pos hc).symm.trans h
    refine v_sipush C (a := 301) (by decide) dL_tells_24 ?_
    refine v_goto C (tgt := 32) dL_tells_27 rfl ?_
    cases h
    exact Jt5
set_option maxHeartbeats 4000000 in
set_option maxRecDepth 100000 in
theorem kl_L_step_313 {G : omG} {x : omX} (C : omC G x RL cL_step 9 (5) 0) (v5 : Int) (v6 : Int) (v7 : Int) : ∀ (n : Nat) (v8 : Int) (σ : omH) (t : omH), l_L_step_313 v5 v6 v7 n v8 σ = some t → omV G x 9 342 [(0, .ref (G.1 16)), (1, .ref (G.1 43)), (5, .int (omi v5)), (6, .int (omi v6)), (7, .int (omi v7))] [] t 0 → omV G x 9 313 [(0, .ref (G.1 16)), (1, .ref (G.1 43)), (5, .int (omi v5)), (6, .int (omi v6)), (7, .int (omi v7)), (8, .int (omi v8))] [] σ 0 := by
  intro n
  induction n with
  | zero => intro v8 σ t h K; cases h
  | succ n ih =>
    intro v8 σ t h K
    rw [l_L_step_313.eq_2] at h
    refine v_iload C (q := 5) rfl dL_step_313 ?_
    refine v_bipush C (a := 50) (by decide) dL_step_315 ?_
    refine v_icmp_ge C (tgt := 342) dL_step_317 rfl (fun hc => ?_) (fun hc => ?_)
    · replace h := (if_neg hc).symm.trans h
      cases h
      exact v_subp [0, 1, 2, 3, 4] rfl K
    · replace h := (if_pos hc).symm.trans h
      refine v_aload_n C (q := 1) rfl rfl dL_step_320 ?_
      refine v_iload C (q := 5) rfl dL_step_321 ?_
      refine v_iload C (q := 4) rfl dL_step_323 ?_
      refine v_iadd C dL_step_325 ?_
      refine v_aload_n C (q := 1) rfl rfl dL_step_326 ?_
      refine v_iload C (q := 5) rfl dL_step_327 ?_
      refine v_iload C (q := 4) rfl dL_step_329 ?_
      refine v_iadd C dL_step_331 ?_
      refine v_iconst C (n := 1) dL_step_332 ?_
      refine v_iadd C dL_step_333 ?_
      obtain ⟨g9, h⟩ := omg_some h
      refine v_iald C (q := 27) (o := 43) (n := 55) rfl g9 dL_step_334 ?_
      obtain ⟨g10, h⟩ := omg_some h
      refine v_iast C (q := 27) (o := 43) (n := 55) rfl g10 dL_step_335 ?_
      refine v_iinc C (q := 5) (ls' := [(0, .ref (G.1 16)), (1, .ref (G.1 43)), (5, .int (omi v5)), (6, .int (omi v6)), (7, .int (omi v7)), (8, .int (omi (v8 + 10)))]) rfl (by decide) rfl rfl dL_step_336 ?_
      refine v_goto C (tgt := 313) dL_step_339 rfl ?_
      exact ih _ _ _ h K
set_option maxHeartbeats 4000000 in
set_option maxRecDepth 100000 in
theorem kl_L_step_301 {G : omG} {x : omX} (C : omC G x RL cL_step 9 (5) 0) (v5 : Int) (v6 : Int) : ∀ (n : Nat) (v7 : Int) (σ : omH) (t : omH), l_L_step_301 v5 v6 n v7 σ = some t → omV G x 9 348 [(0, .ref (G.1 16)), (5, .int (omi v5)), (6, .int (omi v6))] [] t 0 → omV G x 9 301 [(0, .ref (G.1 16)), (1, .ref (G.1 43)), (5, .int (omi v5)), (6, .int (omi v6)), (7, .int (omi v7))] [] σ 0 := by
  intro n
  induction n with
  | zero => intro v7 σ t h K; cases h
  | succ n ih =>
    intro v7 σ t h K
    rw [l_L_step_301.eq_2] at h
    refine v_iload C (q := 4) rfl dL_step_301 ?_
    refine v_aload_n C (q := 1) rfl rfl dL_step_303 ?_
    refine v_bipush C (a := 54) (by decide) dL_step_304 ?_
    obtain ⟨g8, h⟩ := omg_some h
    refine v_iald C (q := 27) (o := 43) (n := 55) rfl g8 dL_step_306 ?_
    refine v_icmp_ge C (tgt := 348) dL_step_307 rfl (fun hc => ?_) (fun hc => ?_)
    · replace h := (if_neg hc).symm.trans h
      cases h
      exact v_subp [0, 2, 3] rfl K
    · replace h := (if_pos hc).symm.trans h
      refine v_iconst C (n := 0) dL_step_310 ?_
      refine v_istore C (ls' := [(0, .ref (G.1 16)), (1, .ref (G.1 43)), (5, .int (omi v5)), (6, .int (omi v6)), (7, .int (omi v7)), (8, .int (omi 0))]) (by decide) rfl dL_step_311 ?_
      obtain ⟨t11, et11, h⟩ := om_bind h
      refine kl_L_step_313 C v5 v6 v7 FU _ _ t11 et11 ?_
      refine v_iinc C (q := 4) (ls' := [(0, .ref (G.1 16)), (1, .ref (G.1 43)), (5, .int (omi v5)), (6, .int (omi v6)), (7, .int (omi (v7 + 1)))]) rfl (by decide) rfl rfl dL_step_342 ?_
      refine v_goto C (tgt := 301) dL_step_345 rfl ?_
      exact ih _ _ _ h K
set_option maxHeartbeats 4000000 in
set_option maxRecDepth 100000 in
theorem k_L_step {G : omG} (v2 : Int) (v3 : Int) (v4 : Int) (σ : omH) (t : Int × omH) (h : s_L_step v2 v3 v4 σ = some t) : omM G yL_step (.code yL_step cL_step 9 (some .boolean)) 5 0 [.ref (G.1 16), .ref (G.1 43), .int (omi v2), .int (omi v3), .int (omi v4)] σ (.inr (some (.int (omi t.1)))) t.2 := by
  unfold s_L_step at h
  refine om_head (own := RL) (ls := [(0, .ref (G.1 16)), (1, .ref (G.1 43)), (2, .int (omi v2)), (3, .int (omi v3)), (4, .int (omi v4))]) (by decide +kernel) rfl (by simp [lg_sl, Value.category]) rfl (by simp [Value.category]) (fun x C F => ?_)
  refine v_aload_n C (q := 1) rfl rfl dL_step_0 ?_
  refine v_bipush C (a := 54) (by decide) dL_step_1 ?_
  obtain ⟨g1, h⟩ := omg_some h
  refine v_iald C (q := 27) (o := 43) (n := 55) rfl g1 dL_step_3 ?_
  refine v_istore C (ls' := [(0, .ref (G.1 16)), (1, .ref (G.1 43)), (2, .int (omi v2)), (3, .int (omi v3)), (4, .int (omi v4)), (5, .int (omi (σ 43 (omw 54).toNat)))]) (by decide) rfl dL_step_4 ?_
  refine v_iload_n C (q := 2) rfl rfl dL_step_6 ?_
  refine v_bipush C (a := 8) (by decide) dL_step_7 ?_
  obtain ⟨g2, h⟩ := omg_some h
  refine v_irem C g2 dL_step_9 ?_
  refine v_iconst C (n := 5) dL_step_10 ?_
  refine v_icmp_ge C (tgt := 103) dL_step_11 rfl (fun hc => ?_) (fun hc => ?_)
  · replace h := (if_neg hc).symm.trans h
    refine v_iload_n C (q := 2) rfl rfl dL_step_103 ?_
    refine v_bipush C (a := 8) (by decide) dL_step_104 ?_
    obtain ⟨g3, h⟩ := omg_some h
    refine v_irem C g3 dL_step_106 ?_
    refine v_bipush C (a := 7) (by decide) dL_step_107 ?_
    refine v_icmp_ne C (tgt := 165) dL_step_109 rfl (fun hc => ?_) (fun hc => ?_)
    · replace h := (if_neg hc).symm.trans h
      refine v_iload C (q := 5) rfl dL_step_165 ?_
      refine v_if_ne C (tgt := 205) dL_step_167 rfl (fun hc => ?_) (fun hc => ?_)
      · replace h := (if_neg hc).symm.trans h
        refine v_iload_n C (q := 3) rfl rfl dL_step_205 ?_
        refine v_iload C (q := 5) rfl dL_step_206 ?_
        obtain ⟨g4, h⟩ := omg_some h
        refine v_irem C g4 dL_step_208 ?_
        refine v_istore C (ls' := [(0, .ref (G.1 16)), (1, .ref (G.1 43)), (2, .int (omi v2)), (3, .int (omi v3)), (4, .int (omi v4)), (5, .int (omi (σ 43 (omw 54).toNat))), (6, .int (omi ((omw v3).tmod (omw (σ 43 (omw 54).toNat)))))]) (by decide) rfl dL_step_209 ?_
        refine v_iload_n C (q := 2) rfl rfl dL_step_211 ?_
        refine v_bipush C (a := 8) (by decide) dL_step_212 ?_
        obtain ⟨g5, h⟩ := omg_some h
        refine v_irem C g5 dL_step_214 ?_
        refine v_bipush C (a := 6) (by decide) dL_step_215 ?_
        refine v_icmp_ne C (tgt := 289) dL_step_217 rfl (fun hc => ?_) (fun hc => ?_)
        · replace h := (if_neg hc).symm.trans h
          refine v_aload_n C (q := 1) rfl rfl dL_step_289 ?_
          refine v_bipush C (a := 54) (by decide) dL_step_290 ?_
          refine v_dup2 C rfl rfl dL_step_292 ?_
          obtain ⟨g6, h⟩ := omg_some h
          refine v_iald C (q := 27) (o := 43) (n := 55) rfl g6 dL_step_293 ?_
          refine v_iconst C (n := 1) dL_step_294 ?_
          refine v_isub C dL_step_295 ?_
          obtain ⟨g7, h⟩ := omg_some h
          refine v_iast C (q := 27) (o := 43) (n := 55) rfl g7 dL_step_296 ?_
          refine v_iload C (q := 6) rfl dL_step_297 ?_
          refine v_istore C (ls' := [(0, .ref (G.1 16)), (1, .ref (G.1 43)), (2, .int (omi v2)), (3, .int (omi v3)), (4, .int (omi v4)), (5, .int (omi (σ 43 (omw 54).toNat))), (6, .int (omi ((omw v3).tmod (omw (σ 43 (omw 54).toNat))))), (7, .int (omi ((omw v3).tmod (omw (σ 43 (omw 54).toNat)))))]) (by decide) rfl dL_step_299 ?_
          obtain ⟨t12, et12, h⟩ := om_bind h
          refine v_subp (ls' := [(0, .ref (G.1 16)), (1, .ref (G.1 43)), (5, .int (omi (σ 43 (omw 54).toNat))), (6, .int (omi ((omw v3).tmod (omw (σ 43 (omw 54).toNat))))), (7, .int (omi ((omw v3).tmod (omw (σ 43 (omw 54).toNat)))))]) [0, 1, 5, 6, 7] rfl ?_
          refine kl_L_step_301 C (σ 43 (omw 54).toNat) ((omw v3).tmod (omw (σ 43 (omw 54).toNat))) FU _ _ t12 et12 ?_
          refine v_aload_n C (q := 0) rfl rfl dL_step_348 ?_
          refine v_iload C (q := 2) rfl dL_step_349 ?_
          obtain ⟨r13, er13, h⟩ := om_bind h
          rcases r13 with u14 | u14
          · replace h := (Sum.elim_inl _ _ _).symm.trans h
            cases h
          · replace h := (Sum.elim_inr _ _ _).symm.trans h
            refine v_invV_i (As := [.int (omi ((omw v3).tmod (omw (σ 43 (omw 54).toNat))))]) C mi_X11_removeJob ml_L_48 (n_X11_removeJob ((omw v3).tmod (omw (σ 43 (omw 54).toNat))) t12 _ er13) (q := 0) rfl rfl rfl (by decide) (Nat.zero_le _) rfl (Nat.le_of_ble_eq_true rfl) dL_step_351 ?_
            refine v_iload C (q := 1) rfl dL_step_354 ?_
            refine v_iconst C (n := 1) dL_step_356 ?_
            refine v_isub C dL_step_357 ?_
            refine v_icmp_ne C (tgt := 372) dL_step_358 rfl (fun hc => ?_) (fun hc => ?_)
            · replace h := (if_neg hc).symm.trans h
              refine v_iconst C (n := 0) dL_step_372 ?_
              cases h
              exact v_zret C (by decide) F dL_step_373 (Nat.zero_le _)
            · replace h := (if_pos hc).symm.trans h
              refine v_aload_n C (q := 0) rfl rfl dL_step_361 ?_
              obtain ⟨r15, er15, h⟩ := om_bind h
              refine v_invV_i (As := []) C mi_X11_hasPlan ml_L_26 (k_X11_hasPlan  u14.2 _ er15) (q := 0) rfl rfl rfl (by decide) (Nat.zero_le _) rfl (Nat.le_of_ble_eq_true rfl) dL_step_362 ?_
              refine v_if_ne C (tgt := 372) dL_step_365 rfl (fun hc => ?_) (fun hc => ?_)
              · replace h := (if_neg hc).symm.trans h
                refine v_iconst C (n := 0) dL_step_372 ?_
                cases h
                exact v_zret C (by decide) F dL_step_373 (Nat.zero_le _)
              · replace h := (if_pos hc).symm.trans h
                refine v_iconst C (n := 1) dL_step_368 ?_
                refine v_goto C (tgt := 373) dL_step_369 rfl ?_
                cases h
                exact v_zret C (by decide) F dL_step_373 (Nat.zero_le _)
        · replace h := (if_pos hc).symm.trans h
          refine v_aload_n C (q := 1) rfl rfl dL_step_220 ?_
          refine v_iload C (q := 6) rfl dL_step_221 ?_
          refine v_iload C (q := 4) rfl dL_step_223 ?_
          refine v_iload_n C (q := 3) rfl rfl dL_step_225 ?_
          obtain ⟨r16, er16, h⟩ := om_bind h
          refine v_invS_v (As := [.ref (G.1 43), .int (omi ((omw v3).tmod (omw (σ 43 (omw 54).toNat)))), .int (omi v4), .int (omi v3)]) C mi_L_tells ml_L_10 (k_L_tells ((omw v3).tmod (omw (σ 43 (omw 54).toNat))) v4 v3 σ _ er16) rfl (by decide) (Nat.zero_le _) rfl (Nat.le_of_ble_eq_true rfl) dL_step_226 ?_
          refine v_aload_n C (q := 0) rfl rfl dL_step_229 ?_
          refine v_iload C (q := 6) rfl dL_step_230 ?_
          refine v_aload_n C (q := 1) rfl rfl dL_step_232 ?_
          refine v_iload C (q := 6) rfl dL_step_233 ?_
          obtain ⟨g17, h⟩ := omg_some h
          refine v_iald C (q := 27) (o := 43) (n := 55) rfl g17 dL_step_235 ?_
          refine v_aload_n C (q := 1) rfl rfl dL_step_236 ?_
          refine v_bipush C (a := 10) (by decide) dL_step_237 ?_
          refine v_iload C (q := 6) rfl dL_step_239 ?_
          refine v_iadd C dL_step_241 ?_
          obtain ⟨g18, h⟩ := omg_some h
          refine v_iald C (q := 27) (o := 43) (n := 55) rfl g18 dL_step_242 ?_
          refine v_aload_n C (q := 1) rfl rfl dL_step_243 ?_
          refine v_bipush C (a := 20) (by decide) dL_step_244 ?_
          refine v_iload C (q := 6) rfl dL_step_246 ?_
          refine v_iadd C dL_step_248 ?_
          obtain ⟨g19, h⟩ := omg_some h
          refine v_iald C (q := 27) (o := 43) (n := 55) rfl g19 dL_step_249 ?_
          refine v_aload_n C (q := 1) rfl rfl dL_step_250 ?_
          refine v_bipush C (a := 30) (by decide) dL_step_251 ?_
          refine v_iload C (q := 6) rfl dL_step_253 ?_
          refine v_iadd C dL_step_255 ?_
          obtain ⟨g20, h⟩ := omg_some h
          refine v_iald C (q := 27) (o := 43) (n := 55) rfl g20 dL_step_256 ?_
          refine v_aload_n C (q := 1) rfl rfl dL_step_257 ?_
          refine v_bipush C (a := 40) (by decide) dL_step_258 ?_
          refine v_iload C (q := 6) rfl dL_step_260 ?_
          refine v_iadd C dL_step_262 ?_
          obtain ⟨g21, h⟩ := omg_some h
          refine v_iald C (q := 27) (o := 43) (n := 55) rfl g21 dL_step_263 ?_
          obtain ⟨r22, er22, h⟩ := om_bind h
          rcases r22 with u23 | u23
          · replace h := (Sum.elim_inl _ _ _).symm.trans h
            cases h
          · replace h := (Sum.elim_inr _ _ _).symm.trans h
            refine v_invV_v (As := [.int (omi ((omw v3).tmod (omw (σ 43 (omw 54).toNat)))), .int (omi (r16 43 (omw ((omw v3).tmod (omw (σ 43 (omw 54).toNat)))).toNat)), .int (omi (r16 43 (omw (10 + ((omw v3).tmod (omw (σ 43 (omw 54).toNat))))).toNat)), .int (omi (r16 43 (omw (20 + ((omw v3).tmod (omw (σ 43 (omw 54).toNat))))).toNat)), .int (omi (r16 43 (omw (30 + ((omw v3).tmod (omw (σ 43 (omw 54).toNat))))).toNat)), .int (omi (r16 43 (omw (40 + ((omw v3).tmod (omw (σ 43 (omw 54).toNat))))).toNat))]) C mi_X11_changeJob ml_L_44 (n_X11_changeJob ((omw v3).tmod (omw (σ 43 (omw 54).toNat))) (r16 43 (omw ((omw v3).tmod (omw (σ 43 (omw 54).toNat)))).toNat) (r16 43 (omw (10 + ((omw v3).tmod (omw (σ 43 (omw 54).toNat))))).toNat) (r16 43 (omw (20 + ((omw v3).tmod (omw (σ 43 (omw 54).toNat))))).toNat) (r16 43 (omw (30 + ((omw v3).tmod (omw (σ 43 (omw 54).toNat))))).toNat) (r16 43 (omw (40 + ((omw v3).tmod (omw (σ 43 (omw 54).toNat))))).toNat) r16 _ er22) (q := 0) rfl rfl rfl (by decide) (Nat.zero_le _) rfl (Nat.le_of_ble_eq_true rfl) dL_step_264 ?_
            refine v_aload_n C (q := 0) rfl rfl dL_step_267 ?_
            obtain ⟨r24, er24, h⟩ := om_bind h
            refine v_invV_i (As := []) C mi_X11_hasPlan ml_L_26 (k_X11_hasPlan  u23 _ er24) (q := 0) rfl rfl rfl (by decide) (Nat.zero_le _) rfl (Nat.le_of_ble_eq_true rfl) dL_step_268 ?_
            refine v_if_ne C (tgt := 287) dL_step_271 rfl (fun hc => ?_) (fun hc => ?_)
            · replace h := (if_neg hc).symm.trans h
              refine v_iconst C (n := 0) dL_step_287 ?_
              cases h
              exact v_zret C (by decide) F dL_step_288 (Nat.zero_le _)
            · replace h := (if_pos hc).symm.trans h
              refine v_aload_n C (q := 0) rfl rfl dL_step_274 ?_
              obtain ⟨r25, er25, h⟩ := om_bind h
              refine v_invV_i (As := []) C mi_X11_jobs ml_L_22 (k_X11_jobs  u23 _ er25) (q := 0) rfl rfl rfl (by decide) (Nat.zero_le _) rfl (Nat.le_of_ble_eq_true rfl) dL_step_275 ?_
              refine v_iload C (q := 5) rfl dL_step_278 ?_
              refine v_icmp_ne C (tgt := 287) dL_step_280 rfl (fun hc => ?_) (fun hc => ?_)
              · replace h := (if_neg hc).symm.trans h
                refine v_iconst C (n := 0) dL_step_287 ?_
                cases h
                exact v_zret C (by decide) F dL_step_288 (Nat.zero_le _)
              · replace h := (if_pos hc).symm.trans h
                refine v_iconst C (n := 1) dL_step_283 ?_
                refine v_goto C (tgt := 288) dL_step_284 rfl ?_
                cases h
                exact v_zret C (by decide) F dL_step_288 (Nat.zero_le _)
      · replace h := (if_pos hc).symm.trans h
        refine v_aload_n C (q := 0) rfl rfl dL_step_170 ?_
        obtain ⟨r26, er26, h⟩ := om_bind h
        refine v_invV_i (As := []) C mi_X11_hasPlan ml_L_26 (k_X11_hasPlan  σ _ er26) (q := 0) rfl rfl rfl (by decide) (Nat.zero_le _) rfl (Nat.le_of_ble_eq_true rfl) dL_step_171 ?_
        refine v_if_ne C (tgt := 203) dL_step_174 rfl (fun hc => ?_) (fun hc => ?_)
        · replace h := (if_neg hc).symm.trans h
          refine v_iconst C (n := 0) dL_step_203 ?_
          cases h
          exact v_zret C (by decide) F dL_step_204 (Nat.zero_le _)
        · replace h := (if_pos hc).symm.trans h
          refine v_aload_n C (q := 0) rfl rfl dL_step_177 ?_
          obtain ⟨r27, er27, h⟩ := om_bind h
          refine v_invV_i (As := []) C mi_X11_pieces ml_L_34 (k_X11_pieces  σ _ er27) (q := 0) rfl rfl rfl (by decide) (Nat.zero_le _) rfl (Nat.le_of_ble_eq_true rfl) dL_step_178 ?_
          refine v_if_ne C (tgt := 203) dL_step_181 rfl (fun hc => ?_) (fun hc => ?_)
          · replace h := (if_neg hc).symm.trans h
            refine v_iconst C (n := 0) dL_step_203 ?_
            cases h
            exact v_zret C (by decide) F dL_step_204 (Nat.zero_le _)
          · replace h := (if_pos hc).symm.trans h
            refine v_aload_n C (q := 0) rfl rfl dL_step_184 ?_
            obtain ⟨r28, er28, h⟩ := om_bind h
            refine v_invV_i (As := []) C mi_X11_fewestLateBySets ml_L_37 (k_X11_fewestLateBySets  σ _ er28) (q := 0) rfl rfl rfl (by decide) (Nat.zero_le _) rfl (Nat.le_of_ble_eq_true rfl) dL_step_185 ?_
            refine v_if_ne C (tgt := 203) dL_step_188 rfl (fun hc => ?_) (fun hc => ?_)
            · replace h := (if_neg hc).symm.trans h
              refine v_iconst C (n := 0) dL_step_203 ?_
              cases h
              exact v_zret C (by decide) F dL_step_204 (Nat.zero_le _)
            · replace h := (if_pos hc).symm.trans h
              refine v_aload_n C (q := 0) rfl rfl dL_step_191 ?_
              refine v_iconst C (n := 0) dL_step_192 ?_
              obtain ⟨r29, er29, h⟩ := om_bind h
              rcases r29 with u30 | u30
              · replace h := (Sum.elim_inl _ _ _).symm.trans h
                cases h
              · replace h := (Sum.elim_inr _ _ _).symm.trans h
                refine v_invV_i (As := [.int (omi 0)]) C mi_X11_canBeOnTime ml_L_40 (n_X11_canBeOnTime 0 r28.2 _ er29) (q := 0) rfl rfl rfl (by decide) (Nat.zero_le _) rfl (Nat.le_of_ble_eq_true rfl) dL_step_193 ?_
                refine v_if_eq C (tgt := 203) dL_step_196 rfl (fun hc => ?_) (fun hc => ?_)
                · replace h := (if_pos hc).symm.trans h
                  refine v_iconst C (n := 0) dL_step_203 ?_
                  cases h
                  exact v_zret C (by decide) F dL_step_204 (Nat.zero_le _)
                · replace h := (if_neg hc).symm.trans h
                  refine v_iconst C (n := 1) dL_step_199 ?_
                  refine v_goto C (tgt := 204) dL_step_200 rfl ?_
                  cases h
                  exact v_zret C (by decide) F dL_step_204 (Nat.zero_le _)
    · replace h := (if_pos hc).symm.trans h
      refine v_aload_n C (q := 1) rfl rfl dL_step_112 ?_
      refine v_bipush C (a := 50) (by decide) dL_step_113 ?_
      refine v_iload_n C (q := 3) rfl rfl dL_step_115 ?_
      refine v_iconst C (n := 4) dL_step_116 ?_
      obtain ⟨g31, h⟩ := omg_some h
      refine v_irem C g31 dL_step_117 ?_
      refine v_iadd C dL_step_118 ?_
      obtain ⟨g32, h⟩ := omg_some h
      refine v_iald C (q := 27) (o := 43) (n := 55) rfl g32 dL_step_119 ?_
      refine v_istore C (ls' := [(0, .ref (G.1 16)), (1, .ref (G.1 43)), (2, .int (omi v2)), (3, .int (omi v3)), (4, .int (omi v4)), (5, .int (omi (σ 43 (omw 54).toNat))), (6, .int (omi (σ 43 (omw (50 + ((omw v3).tmod (omw 4)))).toNat)))]) (by decide) rfl dL_step_120 ?_
      refine v_aload_n C (q := 1) rfl rfl dL_step_122 ?_
      refine v_bipush C (a := 50) (by decide) dL_step_123 ?_
      refine v_iload_n C (q := 3) rfl rfl dL_step_125 ?_
      refine v_iconst C (n := 4) dL_step_126 ?_
      obtain ⟨g33, h⟩ := omg_some h
      refine v_irem C g33 dL_step_127 ?_
      refine v_iadd C dL_step_128 ?_
      refine v_iload C (q := 4) rfl dL_step_129 ?_
      refine v_bipush C (a := 21) (by decide) dL_step_131 ?_
      obtain ⟨g34, h⟩ := omg_some h
      refine v_irem C g34 dL_step_133 ?_
      obtain ⟨g35, h⟩ := omg_some h
      refine v_iast C (q := 27) (o := 43) (n := 55) rfl g35 dL_step_134 ?_
      refine v_aload_n C (q := 0) rfl rfl dL_step_135 ?_
      refine v_iload_n C (q := 3) rfl rfl dL_step_136 ?_
      refine v_iconst C (n := 4) dL_step_137 ?_
      obtain ⟨g36, h⟩ := omg_some h
      refine v_irem C g36 dL_step_138 ?_
      refine v_iload C (q := 4) rfl dL_step_139 ?_
      refine v_bipush C (a := 21) (by decide) dL_step_141 ?_
      obtain ⟨g37, h⟩ := omg_some h
      refine v_irem C g37 dL_step_143 ?_
      obtain ⟨r38, er38, h⟩ := om_bind h
      rcases r38 with u39 | u39
      · replace h := (Sum.elim_inl _ _ _).symm.trans h
        cases h
      · replace h := (Sum.elim_inr _ _ _).symm.trans h
        refine v_invV_i (As := [.int (omi ((omw v3).tmod (omw 4))), .int (omi ((omw v4).tmod (omw 21)))]) C mi_X11_setSetup ml_L_30 (n_X11_setSetup ((omw v3).tmod (omw 4)) ((omw v4).tmod (omw 21)) (omsu σ 43 (omw (50 + ((omw v3).tmod (omw 4)))).toNat ((omw v4).tmod (omw 21))) _ er38) (q := 0) rfl rfl rfl (by decide) (Nat.zero_le _) rfl (Nat.le_of_ble_eq_true rfl) dL_step_144 ?_
        refine v_iload C (q := 6) rfl dL_step_147 ?_
        refine v_icmp_ne C (tgt := 163) dL_step_149 rfl (fun hc => ?_) (fun hc => ?_)
        · replace h := (if_neg hc).symm.trans h
          refine v_iconst C (n := 0) dL_step_163 ?_
          cases h
          exact v_zret C (by decide) F dL_step_164 (Nat.zero_le _)
        · replace h := (if_pos hc).symm.trans h
          refine v_aload_n C (q := 0) rfl rfl dL_step_152 ?_
          obtain ⟨r40, er40, h⟩ := om_bind h
          refine v_invV_i (As := []) C mi_X11_hasPlan ml_L_26 (k_X11_hasPlan  u39.2 _ er40) (q := 0) rfl rfl rfl (by decide) (Nat.zero_le _) rfl (Nat.le_of_ble_eq_true rfl) dL_step_153 ?_
          refine v_if_ne C (tgt := 163) dL_step_156 rfl (fun hc => ?_) (fun hc => ?_)
          · replace h := (if_neg hc).symm.trans h
            refine v_iconst C (n := 0) dL_step_163 ?_
            cases h
            exact v_zret C (by decide) F dL_step_164 (Nat.zero_le _)
          · replace h := (if_pos hc).symm.trans h
            refine v_iconst C (n := 1) dL_step_159 ?_
            refine v_goto C (tgt := 164) dL_step_160 rfl ?_
            cases h
            exact v_zret C (by decide) F dL_step_164 (Nat.zero_le _)
  · replace h := (if_pos hc).symm.trans h
    refine v_iload C (q := 5) rfl dL_step_14 ?_
    refine v_bipush C (a := 10) (by decide) dL_step_16 ?_
    refine v_icmp_ge C (tgt := 103) dL_step_18 rfl (fun hc => ?_) (fun hc => ?_)
    · replace h := (if_neg hc).symm.trans h
      refine v_iload_n C (q := 2) rfl rfl dL_step_103 ?_
      refine v_bipush C (a := 8) (by decide) dL_step_104 ?_
      obtain ⟨g41, h⟩ := omg_some h
      refine v_irem C g41 dL_step_106 ?_
      refine v_bipush C (a := 7) (by decide) dL_step_107 ?_
      refine v_icmp_ne C (tgt := 165) dL_step_109 rfl (fun hc => ?_) (fun hc => ?_)
      · replace h := (if_neg hc).symm.trans h
        refine v_iload C (q := 5) rfl dL_step_165 ?_
        refine v_if_ne C (tgt := 205) dL_step_167 rfl (fun hc => ?_) (fun hc => ?_)
        · replace h := (if_neg hc).symm.trans h
          refine v_iload_n C (q := 3) rfl rfl dL_step_205 ?_
          refine v_iload C (q := 5) rfl dL_step_206 ?_
          obtain ⟨g42, h⟩ := omg_some h
          refine v_irem C g42 dL_step_208 ?_
          refine v_istore C (ls' := [(0, .ref (G.1 16)), (1, .ref (G.1 43)), (2, .int (omi v2)), (3, .int (omi v3)), (4, .int (omi v4)), (5, .int (omi (σ 43 (omw 54).toNat))), (6, .int (omi ((omw v3).tmod (omw (σ 43 (omw 54).toNat)))))]) (by decide) rfl dL_step_209 ?_
          refine v_iload_n C (q := 2) rfl rfl dL_step_211 ?_
          refine v_bipush C (a := 8) (by decide) dL_step_212 ?_
          obtain ⟨g43, h⟩ := omg_some h
          refine v_irem C g43 dL_step_214 ?_
          refine v_bipush C (a := 6) (by decide) dL_step_215 ?_
          refine v_icmp_ne C (tgt := 289) dL_step_217 rfl (fun hc => ?_) (fun hc => ?_)
          · replace h := (if_neg hc).symm.trans h
            refine v_aload_n C (q := 1) rfl rfl dL_step_289 ?_
            refine v_bipush C (a := 54) (by decide) dL_step_290 ?_
            refine v_dup2 C rfl rfl dL_step_292 ?_
            obtain ⟨g44, h⟩ := omg_some h
            refine v_iald C (q := 27) (o := 43) (n := 55) rfl g44 dL_step_293 ?_
            refine v_iconst C (n := 1) dL_step_294 ?_
            refine v_isub C dL_step_295 ?_
            obtain ⟨g45, h⟩ := omg_some h
            refine v_iast C (q := 27) (o := 43) (n := 55) rfl g45 dL_step_296 ?_
            refine v_iload C (q := 6) rfl dL_step_297 ?_
            refine v_istore C (ls' := [(0, .ref (G.1 16)), (1, .ref (G.1 43)), (2, .int (omi v2)), (3, .int (omi v3)), (4, .int (omi v4)), (5, .int (omi (σ 43 (omw 54).toNat))), (6, .int (omi ((omw v3).tmod (omw (σ 43 (omw 54).toNat))))), (7, .int (omi ((omw v3).tmod (omw (σ 43 (omw 54).toNat)))))]) (by decide) rfl dL_step_299 ?_
            obtain ⟨t46, et46, h⟩ := om_bind h
            refine v_subp (ls' := [(0, .ref (G.1 16)), (1, .ref (G.1 43)), (5, .int (omi (σ 43 (omw 54).toNat))), (6, .int (omi ((omw v3).tmod (omw (σ 43 (omw 54).toNat))))), (7, .int (omi ((omw v3).tmod (omw (σ 43 (omw 54).toNat)))))]) [0, 1, 5, 6, 7] rfl ?_
            refine kl_L_step_301 C (σ 43 (omw 54).toNat) ((omw v3).tmod (omw (σ 43 (omw 54).toNat))) FU _ _ t46 et46 ?_
            refine v_aload_n C (q := 0) rfl rfl dL_step_348 ?_
            refine v_iload C (q := 2) rfl dL_step_349 ?_
            obtain ⟨r47, er47, h⟩ := om_bind h
            rcases r47 with u48 | u48
            · replace h := (Sum.elim_inl _ _ _).symm.trans h
              cases h
            · replace h := (Sum.elim_inr _ _ _).symm.trans h
              refine v_invV_i (As := [.int (omi ((omw v3).tmod (omw (σ 43 (omw 54).toNat))))]) C mi_X11_removeJob ml_L_48 (n_X11_removeJob ((omw v3).tmod (omw (σ 43 (omw 54).toNat))) t46 _ er47) (q := 0) rfl rfl rfl (by decide) (Nat.zero_le _) rfl (Nat.le_of_ble_eq_true rfl) dL_step_351 ?_
              refine v_iload C (q := 1) rfl dL_step_354 ?_
              refine v_iconst C (n := 1) dL_step_356 ?_
              refine v_isub C dL_step_357 ?_
              refine v_icmp_ne C (tgt := 372) dL_step_358 rfl (fun hc => ?_) (fun hc => ?_)
              · replace h := (if_neg hc).symm.trans h
                refine v_iconst C (n := 0) dL_step_372 ?_
                cases h
                exact v_zret C (by decide) F dL_step_373 (Nat.zero_le _)
              · replace h := (if_pos hc).symm.trans h
                refine v_aload_n C (q := 0) rfl rfl dL_step_361 ?_
                obtain ⟨r49, er49, h⟩ := om_bind h
                refine v_invV_i (As := []) C mi_X11_hasPlan ml_L_26 (k_X11_hasPlan  u48.2 _ er49) (q := 0) rfl rfl rfl (by decide) (Nat.zero_le _) rfl (Nat.le_of_ble_eq_true rfl) dL_step_362 ?_
                refine v_if_ne C (tgt := 372) dL_step_365 rfl (fun hc => ?_) (fun hc => ?_)
                · replace h := (if_neg hc).symm.trans h
                  refine v_iconst C (n := 0) dL_step_372 ?_
                  cases h
                  exact v_zret C (by decide) F dL_step_373 (Nat.zero_le _)
                · replace h := (if_pos hc).symm.trans h
                  refine v_iconst C (n := 1) dL_step_368 ?_
                  refine v_goto C (tgt := 373) dL_step_369 rfl ?_
                  cases h
                  exact v_zret C (by decide) F dL_step_373 (Nat.zero_le _)
          · replace h := (if_pos hc).symm.trans h
            refine v_aload_n C (q := 1) rfl rfl dL_step_220 ?_
            refine v_iload C (q := 6) rfl dL_step_221 ?_
            refine v_iload C (q := 4) rfl dL_step_223 ?_
            refine v_iload_n C (q := 3) rfl rfl dL_step_225 ?_
            obtain ⟨r50, er50, h⟩ := om_bind h
            refine v_invS_v (As := [.ref (G.1 43), .int (omi ((omw v3).tmod (omw (σ 43 (omw 54).toNat)))), .int (omi v4), .int (omi v3)]) C mi_L_tells ml_L_10 (k_L_tells ((omw v3).tmod (omw (σ 43 (omw 54).toNat))) v4 v3 σ _ er50) rfl (by decide) (Nat.zero_le _) rfl (Nat.le_of_ble_eq_true rfl) dL_step_226 ?_
            refine v_aload_n C (q := 0) rfl rfl dL_step_229 ?_
            refine v_iload C (q := 6) rfl dL_step_230 ?_
            refine v_aload_n C (q := 1) rfl rfl dL_step_232 ?_
            refine v_iload C (q := 6) rfl dL_step_233 ?_
            obtain ⟨g51, h⟩ := omg_some h
            refine v_iald C (q := 27) (o := 43) (n := 55) rfl g51 dL_step_235 ?_
            refine v_aload_n C (q := 1) rfl rfl dL_step_236 ?_
            refine v_bipush C (a := 10) (by decide) dL_step_237 ?_
            refine v_iload C (q := 6) rfl dL_step_239 ?_
            refine v_iadd C dL_step_241 ?_
            obtain ⟨g52, h⟩ := omg_some h
            refine v_iald C (q := 27) (o := 43) (n := 55) rfl g52 dL_step_242 ?_
            refine v_aload_n C (q := 1) rfl rfl dL_step_243 ?_
            refine v_bipush C (a := 20) (by decide) dL_step_244 ?_
            refine v_iload C (q := 6) rfl dL_step_246 ?_
            refine v_iadd C dL_step_248 ?_
            obtain ⟨g53, h⟩ := omg_some h
            refine v_iald C (q := 27) (o := 43) (n := 55) rfl g53 dL_step_249 ?_
            refine v_aload_n C (q := 1) rfl rfl dL_step_250 ?_
            refine v_bipush C (a := 30) (by decide) dL_step_251 ?_
            refine v_iload C (q := 6) rfl dL_step_253 ?_
            refine v_iadd C dL_step_255 ?_
            obtain ⟨g54, h⟩ := omg_some h
            refine v_iald C (q := 27) (o := 43) (n := 55) rfl g54 dL_step_256 ?_
            refine v_aload_n C (q := 1) rfl rfl dL_step_257 ?_
            refine v_bipush C (a := 40) (by decide) dL_step_258 ?_
            refine v_iload C (q := 6) rfl dL_step_260 ?_
            refine v_iadd C dL_step_262 ?_
            obtain ⟨g55, h⟩ := omg_some h
            refine v_iald C (q := 27) (o := 43) (n := 55) rfl g55 dL_step_263 ?_
            obtain ⟨r56, er56, h⟩ := om_bind h
            rcases r56 with u57 | u57
            · replace h := (Sum.elim_inl _ _ _).symm.trans h
              cases h
            · replace h := (Sum.elim_inr _ _ _).symm.trans h
              refine v_invV_v (As := [.int (omi ((omw v3).tmod (omw (σ 43 (omw 54).toNat)))), .int (omi (r50 43 (omw ((omw v3).tmod (omw (σ 43 (omw 54).toNat)))).toNat)), .int (omi (r50 43 (omw (10 + ((omw v3).tmod (omw (σ 43 (omw 54).toNat))))).toNat)), .int (omi (r50 43 (omw (20 + ((omw v3).tmod (omw (σ 43 (omw 54).toNat))))).toNat)), .int (omi (r50 43 (omw (30 + ((omw v3).tmod (omw (σ 43 (omw 54).toNat))))).toNat)), .int (omi (r50 43 (omw (40 + ((omw v3).tmod (omw (σ 43 (omw 54).toNat))))).toNat))]) C mi_X11_changeJob ml_L_44 (n_X11_changeJob ((omw v3).tmod (omw (σ 43 (omw 54).toNat))) (r50 43 (omw ((omw v3).tmod (omw (σ 43 (omw 54).toNat)))).toNat) (r50 43 (omw (10 + ((omw v3).tmod (omw (σ 43 (omw 54).toNat))))).toNat) (r50 43 (omw (20 + ((omw v3).tmod (omw (σ 43 (omw 54).toNat))))).toNat) (r50 43 (omw (30 + ((omw v3).tmod (omw (σ 43 (omw 54).toNat))))).toNat) (r50 43 (omw (40 + ((omw v3).tmod (omw (σ 43 (omw 54).toNat))))).toNat) r50 _ er56) (q := 0) rfl rfl rfl (by decide) (Nat.zero_le _) rfl (Nat.le_of_ble_eq_true rfl) dL_step_264 ?_
              refine v_aload_n C (q := 0) rfl rfl dL_step_267 ?_
              obtain ⟨r58, er58, h⟩ := om_bind h
              refine v_invV_i (As := []) C mi_X11_hasPlan ml_L_26 (k_X11_hasPlan  u57 _ er58) (q := 0) rfl rfl rfl (by decide) (Nat.zero_le _) rfl (Nat.le_of_ble_eq_true rfl) dL_step_268 ?_
              refine v_if_ne C (tgt := 287) dL_step_271 rfl (fun hc => ?_) (fun hc => ?_)
              · replace h := (if_neg hc).symm.trans h
                refine v_iconst C (n := 0) dL_step_287 ?_
                cases h
                exact v_zret C (by decide) F dL_step_288 (Nat.zero_le _)
              · replace h := (if_pos hc).symm.trans h
                refine v_aload_n C (q := 0) rfl rfl dL_step_274 ?_
                obtain ⟨r59, er59, h⟩ := om_bind h
                refine v_invV_i (As := []) C mi_X11_jobs ml_L_22 (k_X11_jobs  u57 _ er59) (q := 0) rfl rfl rfl (by decide) (Nat.zero_le _) rfl (Nat.le_of_ble_eq_true rfl) dL_step_275 ?_
                refine v_iload C (q := 5) rfl dL_step_278 ?_
                refine v_icmp_ne C (tgt := 287) dL_step_280 rfl (fun hc => ?_) (fun hc => ?_)
                · replace h := (if_neg hc).symm.trans h
                  refine v_iconst C (n := 0) dL_step_287 ?_
                  cases h
                  exact v_zret C (by decide) F dL_step_288 (Nat.zero_le _)
                · replace h := (if_pos hc).symm.trans h
                  refine v_iconst C (n := 1) dL_step_283 ?_
                  refine v_goto C (tgt := 288) dL_step_284 rfl ?_
                  cases h
                  exact v_zret C (by decide) F dL_step_288 (Nat.zero_le _)
        · replace h := (if_pos hc).symm.trans h
          refine v_aload_n C (q := 0) rfl rfl dL_step_170 ?_
          obtain ⟨r60, er60, h⟩ := om_bind h
          refine v_invV_i (As := []) C mi_X11_hasPlan ml_L_26 (k_X11_hasPlan  σ _ er60) (q := 0) rfl rfl rfl (by decide) (Nat.zero_le _) rfl (Nat.le_of_ble_eq_true rfl) dL_step_171 ?_
          refine v_if_ne C (tgt := 203) dL_step_174 rfl (fun hc => ?_) (fun hc => ?_)
          · replace h := (if_neg hc).symm.trans h
            refine v_iconst C (n := 0) dL_step_203 ?_
            cases h
            exact v_zret C (by decide) F dL_step_204 (Nat.zero_le _)
          · replace h := (if_pos hc).symm.trans h
            refine v_aload_n C (q := 0) rfl rfl dL_step_177 ?_
            obtain ⟨r61, er61, h⟩ := om_bind h
            refine v_invV_i (As := []) C mi_X11_pieces ml_L_34 (k_X11_pieces  σ _ er61) (q := 0) rfl rfl rfl (by decide) (Nat.zero_le _) rfl (Nat.le_of_ble_eq_true rfl) dL_step_178 ?_
            refine v_if_ne C (tgt := 203) dL_step_181 rfl (fun hc => ?_) (fun hc => ?_)
            · replace h := (if_neg hc).symm.trans h
              refine v_iconst C (n := 0) dL_step_203 ?_
              cases h
              exact v_zret C (by decide) F dL_step_204 (Nat.zero_le _)
            · replace h := (if_pos hc).symm.trans h
              refine v_aload_n C (q := 0) rfl rfl dL_step_184 ?_
              obtain ⟨r62, er62, h⟩ := om_bind h
              refine v_invV_i (As := []) C mi_X11_fewestLateBySets ml_L_37 (k_X11_fewestLateBySets  σ _ er62) (q := 0) rfl rfl rfl (by decide) (Nat.zero_le _) rfl (Nat.le_of_ble_eq_true rfl) dL_step_185 ?_
              refine v_if_ne C (tgt := 203) dL_step_188 rfl (fun hc => ?_) (fun hc => ?_)
              · replace h := (if_neg hc).symm.trans h
                refine v_iconst C (n := 0) dL_step_203 ?_
                cases h
                exact v_zret C (by decide) F dL_step_204 (Nat.zero_le _)
              · replace h := (if_pos hc).symm.trans h
                refine v_aload_n C (q := 0) rfl rfl dL_step_191 ?_
                refine v_iconst C (n := 0) dL_step_192 ?_
                obtain ⟨r63, er63, h⟩ := om_bind h
                rcases r63 with u64 | u64
                · replace h := (Sum.elim_inl _ _ _).symm.trans h
                  cases h
                · replace h := (Sum.elim_inr _ _ _).symm.trans h
                  refine v_invV_i (As := [.int (omi 0)]) C mi_X11_canBeOnTime ml_L_40 (n_X11_canBeOnTime 0 r62.2 _ er63) (q := 0) rfl rfl rfl (by decide) (Nat.zero_le _) rfl (Nat.le_of_ble_eq_true rfl) dL_step_193 ?_
                  refine v_if_eq C (tgt := 203) dL_step_196 rfl (fun hc => ?_) (fun hc => ?_)
                  · replace h := (if_pos hc).symm.trans h
                    refine v_iconst C (n := 0) dL_step_203 ?_
                    cases h
                    exact v_zret C (by decide) F dL_step_204 (Nat.zero_le _)
                  · replace h := (if_neg hc).symm.trans h
                    refine v_iconst C (n := 1) dL_step_199 ?_
                    refine v_goto C (tgt := 204) dL_step_200 rfl ?_
                    cases h
                    exact v_zret C (by decide) F dL_step_204 (Nat.zero_le _)
      · replace h := (if_pos hc).symm.trans h
        refine v_aload_n C (q := 1) rfl rfl dL_step_112 ?_
        refine v_bipush C (a := 50) (by decide) dL_step_113 ?_
        refine v_iload_n C (q := 3) rfl rfl dL_step_115 ?_
        refine v_iconst C (n := 4) dL_step_116 ?_
        obtain ⟨g65, h⟩ := omg_some h
        refine v_irem C g65 dL_step_117 ?_
        refine v_iadd C dL_step_118 ?_
        obtain ⟨g66, h⟩ := omg_some h
        refine v_iald C (q := 27) (o := 43) (n := 55) rfl g66 dL_step_119 ?_
        refine v_istore C (ls' := [(0, .ref (G.1 16)), (1, .ref (G.1 43)), (2, .int (omi v2)), (3, .int (omi v3)), (4, .int (omi v4)), (5, .int (omi (σ 43 (omw 54).toNat))), (6, .int (omi (σ 43 (omw (50 + ((omw v3).tmod (omw 4)))).toNat)))]) (by decide) rfl dL_step_120 ?_
        refine v_aload_n C (q := 1) rfl rfl dL_step_122 ?_
        refine v_bipush C (a := 50) (by decide) dL_step_123 ?_
        refine v_iload_n C (q := 3) rfl rfl dL_step_125 ?_
        refine v_iconst C (n := 4) dL_step_126 ?_
        obtain ⟨g67, h⟩ := omg_some h
        refine v_irem C g67 dL_step_127 ?_
        refine v_iadd C dL_step_128 ?_
        refine v_iload C (q := 4) rfl dL_step_129 ?_
        refine v_bipush C (a := 21) (by decide) dL_step_131 ?_
        obtain ⟨g68, h⟩ := omg_some h
        refine v_irem C g68 dL_step_133 ?_
        obtain ⟨g69, h⟩ := omg_some h
        refine v_iast C (q := 27) (o := 43) (n := 55) rfl g69 dL_step_134 ?_
        refine v_aload_n C (q := 0) rfl rfl dL_step_135 ?_
        refine v_iload_n C (q := 3) rfl rfl dL_step_136 ?_
        refine v_iconst C (n := 4) dL_step_137 ?_
        obtain ⟨g70, h⟩ := omg_some h
        refine v_irem C g70 dL_step_138 ?_
        refine v_iload C (q := 4) rfl dL_step_139 ?_
        refine v_bipush C (a := 21) (by decide) dL_step_141 ?_
        obtain ⟨g71, h⟩ := omg_some h
        refine v_irem C g71 dL_step_143 ?_
        obtain ⟨r72, er72, h⟩ := om_bind h
        rcases r72 with u73 | u73
        · replace h := (Sum.elim_inl _ _ _).symm.trans h
          cases h
        · replace h := (Sum.elim_inr _ _ _).symm.trans h
          refine v_invV_i (As := [.int (omi ((omw v3).tmod (omw 4))), .int (omi ((omw v4).tmod (omw 21)))]) C mi_X11_setSetup ml_L_30 (n_X11_setSetup ((omw v3).tmod (omw 4)) ((omw v4).tmod (omw 21)) (omsu σ 43 (omw (50 + ((omw v3).tmod (omw 4)))).toNat ((omw v4).tmod (omw 21))) _ er72) (q := 0) rfl rfl rfl (by decide) (Nat.zero_le _) rfl (Nat.le_of_ble_eq_true rfl) dL_step_144 ?_
          refine v_iload C (q := 6) rfl dL_step_147 ?_
          refine v_icmp_ne C (tgt := 163) dL_step_149 rfl (fun hc => ?_) (fun hc => ?_)
          · replace h := (if_neg hc).symm.trans h
            refine v_iconst C (n := 0) dL_step_163 ?_
            cases h
            exact v_zret C (by decide) F dL_step_164 (Nat.zero_le _)
          · replace h := (if_pos hc).symm.trans h
            refine v_aload_n C (q := 0) rfl rfl dL_step_152 ?_
            obtain ⟨r74, er74, h⟩ := om_bind h
            refine v_invV_i (As := []) C mi_X11_hasPlan ml_L_26 (k_X11_hasPlan  u73.2 _ er74) (q := 0) rfl rfl rfl (by decide) (Nat.zero_le _) rfl (Nat.le_of_ble_eq_true rfl) dL_step_153 ?_
            refine v_if_ne C (tgt := 163) dL_step_156 rfl (fun hc => ?_) (fun hc => ?_)
            · replace h := (if_neg hc).symm.trans h
              refine v_iconst C (n := 0) dL_step_163 ?_
              cases h
              exact v_zret C (by decide) F dL_step_164 (Nat.zero_le _)
            · replace h := (if_pos hc).symm.trans h
              refine v_iconst C (n := 1) dL_step_159 ?_
              refine v_goto C (tgt := 164) dL_step_160 rfl ?_
              cases h
              exact v_zret C (by decide) F dL_step_164 (Nat.zero_le _)
    · replace h := (if_pos hc).symm.trans h
      refine v_aload_n C (q := 1) rfl rfl dL_step_21 ?_
      refine v_iload C (q := 5) rfl dL_step_22 ?_
      refine v_iload_n C (q := 3) rfl rfl dL_step_24 ?_
      refine v_iload C (q := 4) rfl dL_step_25 ?_
      obtain ⟨r75, er75, h⟩ := om_bind h
      refine v_invS_v (As := [.ref (G.1 43), .int (omi (σ 43 (omw 54).toNat)), .int (omi v3), .int (omi v4)]) C mi_L_tells ml_L_10 (k_L_tells (σ 43 (omw 54).toNat) v3 v4 σ _ er75) rfl (by decide) (Nat.zero_le _) rfl (Nat.le_of_ble_eq_true rfl) dL_step_27 ?_
      refine v_aload_n C (q := 1) rfl rfl dL_step_30 ?_
      refine v_bipush C (a := 54) (by decide) dL_step_31 ?_
      refine v_dup2 C rfl rfl dL_step_33 ?_
      obtain ⟨g76, h⟩ := omg_some h
      refine v_iald C (q := 27) (o := 43) (n := 55) rfl g76 dL_step_34 ?_
      refine v_iconst C (n := 1) dL_step_35 ?_
      refine v_iadd C dL_step_36 ?_
      obtain ⟨g77, h⟩ := omg_some h
      refine v_iast C (q := 27) (o := 43) (n := 55) rfl g77 dL_step_37 ?_
      refine v_aload_n C (q := 0) rfl rfl dL_step_38 ?_
      refine v_aload_n C (q := 1) rfl rfl dL_step_39 ?_
      refine v_iload C (q := 5) rfl dL_step_40 ?_
      obtain ⟨g78, h⟩ := omg_some h
      refine v_iald C (q := 27) (o := 43) (n := 55) rfl g78 dL_step_42 ?_
      refine v_aload_n C (q := 1) rfl rfl dL_step_43 ?_
      refine v_bipush C (a := 10) (by decide) dL_step_44 ?_
      refine v_iload C (q := 5) rfl dL_step_46 ?_
      refine v_iadd C dL_step_48 ?_
      obtain ⟨g79, h⟩ := omg_some h
      refine v_iald C (q := 27) (o := 43) (n := 55) rfl g79 dL_step_49 ?_
      refine v_aload_n C (q := 1) rfl rfl dL_step_50 ?_
      refine v_bipush C (a := 20) (by decide) dL_step_51 ?_
      refine v_iload C (q := 5) rfl dL_step_53 ?_
      refine v_iadd C dL_step_55 ?_
      obtain ⟨g80, h⟩ := omg_some h
      refine v_iald C (q := 27) (o := 43) (n := 55) rfl g80 dL_step_56 ?_
      refine v_aload_n C (q := 1) rfl rfl dL_step_57 ?_
      refine v_bipush C (a := 30) (by decide) dL_step_58 ?_
      refine v_iload C (q := 5) rfl dL_step_60 ?_
      refine v_iadd C dL_step_62 ?_
      obtain ⟨g81, h⟩ := omg_some h
      refine v_iald C (q := 27) (o := 43) (n := 55) rfl g81 dL_step_63 ?_
      refine v_aload_n C (q := 1) rfl rfl dL_step_64 ?_
      refine v_bipush C (a := 40) (by decide) dL_step_65 ?_
      refine v_iload C (q := 5) rfl dL_step_67 ?_
      refine v_iadd C dL_step_69 ?_
      obtain ⟨g82, h⟩ := omg_some h
      refine v_iald C (q := 27) (o := 43) (n := 55) rfl g82 dL_step_70 ?_
      obtain ⟨r83, er83, h⟩ := om_bind h
      rcases r83 with u84 | u84
      · replace h := (Sum.elim_inl _ _ _).symm.trans h
        cases h
      · replace h := (Sum.elim_inr _ _ _).symm.trans h
        refine v_invV_i (As := [.int (omi ((omsu r75 43 (omw 54).toNat ((r75 43 (omw 54).toNat) + 1)) 43 (omw (σ 43 (omw 54).toNat)).toNat)), .int (omi ((omsu r75 43 (omw 54).toNat ((r75 43 (omw 54).toNat) + 1)) 43 (omw (10 + (σ 43 (omw 54).toNat))).toNat)), .int (omi ((omsu r75 43 (omw 54).toNat ((r75 43 (omw 54).toNat) + 1)) 43 (omw (20 + (σ 43 (omw 54).toNat))).toNat)), .int (omi ((omsu r75 43 (omw 54).toNat ((r75 43 (omw 54).toNat) + 1)) 43 (omw (30 + (σ 43 (omw 54).toNat))).toNat)), .int (omi ((omsu r75 43 (omw 54).toNat ((r75 43 (omw 54).toNat) + 1)) 43 (omw (40 + (σ 43 (omw 54).toNat))).toNat))]) C mi_X11_addJob ml_L_16 (n_X11_addJob ((omsu r75 43 (omw 54).toNat ((r75 43 (omw 54).toNat) + 1)) 43 (omw (σ 43 (omw 54).toNat)).toNat) ((omsu r75 43 (omw 54).toNat ((r75 43 (omw 54).toNat) + 1)) 43 (omw (10 + (σ 43 (omw 54).toNat))).toNat) ((omsu r75 43 (omw 54).toNat ((r75 43 (omw 54).toNat) + 1)) 43 (omw (20 + (σ 43 (omw 54).toNat))).toNat) ((omsu r75 43 (omw 54).toNat ((r75 43 (omw 54).toNat) + 1)) 43 (omw (30 + (σ 43 (omw 54).toNat))).toNat) ((omsu r75 43 (omw 54).toNat ((r75 43 (omw 54).toNat) + 1)) 43 (omw (40 + (σ 43 (omw 54).toNat))).toNat) (omsu r75 43 (omw 54).toNat ((r75 43 (omw 54).toNat) + 1)) _ er83) (q := 0) rfl rfl rfl (by decide) (Nat.zero_le _) rfl (Nat.le_of_ble_eq_true rfl) dL_step_71 ?_
        refine v_iload C (q := 5) rfl dL_step_74 ?_
        refine v_icmp_ne C (tgt := 101) dL_step_76 rfl (fun hc => ?_) (fun hc => ?_)
        · replace h := (if_neg hc).symm.trans h
          refine v_iconst C (n := 0) dL_step_101 ?_
          cases h
          exact v_zret C (by decide) F dL_step_102 (Nat.zero_le _)
        · replace h := (if_pos hc).symm.trans h
          refine v_aload_n C (q := 0) rfl rfl dL_step_79 ?_
          obtain ⟨r85, er85, h⟩ := om_bind h
          refine v_invV_i (As := []) C mi_X11_jobs ml_L_22 (k_X11_jobs  u84.2 _ er85) (q := 0) rfl rfl rfl (by decide) (Nat.zero_le _) rfl (Nat.le_of_ble_eq_true rfl) dL_step_80 ?_
          refine v_iload C (q := 5) rfl dL_step_83 ?_
          refine v_iconst C (n := 1) dL_step_85 ?_
          refine v_iadd C dL_step_86 ?_
          refine v_icmp_ne C (tgt := 101) dL_step_87 rfl (fun hc => ?_) (fun hc => ?_)
          · replace h := (if_neg hc).symm.trans h
            refine v_iconst C (n := 0) dL_step_101 ?_
            cases h
            exact v_zret C (by decide) F dL_step_102 (Nat.zero_le _)
          · replace h := (if_pos hc).symm.trans h
            refine v_aload_n C (q := 0) rfl rfl dL_step_90 ?_
            obtain ⟨r86, er86, h⟩ := om_bind h
            refine v_invV_i (As := []) C mi_X11_hasPlan ml_L_26 (k_X11_hasPlan  u84.2 _ er86) (q := 0) rfl rfl rfl (by decide) (Nat.zero_le _) rfl (Nat.le_of_ble_eq_true rfl) dL_step_91 ?_
            refine v_if_ne C (tgt := 101) dL_step_94 rfl (fun hc => ?_) (fun hc => ?_)
            · replace h := (if_neg hc).symm.trans h
              refine v_iconst C (n := 0) dL_step_101 ?_
              cases h
              exact v_zret C (by decide) F dL_step_102 (Nat.zero_le _)
            · replace h := (if_pos hc).symm.trans h
              refine v_iconst C (n := 1) dL_step_97 ?_
              refine v_goto C (tgt := 102) dL_step_98 rfl ?_
              cases h
              exact v_zret C (by decide) F dL_step_102 (Nat.zero_le _)
set_option maxHeartbeats 4000000 in
set_option maxRecDepth 100000 in
theorem k_L_plans {G : omG} (v1 : Int) (σ : omH) (t : Int × omH) (h : s_L_plans v1 σ = some t) : omM G yL_plans (.code yL_plans cL_plans 2 (some .int)) 7 0 [.ref (G.1 16), .int (omi v1)] σ (.inr (some (.int (omi t.1)))) t.2 := by
  unfold s_L_plans at h
  refine om_head (own := RL) (ls := [(0, .ref (G.1 16)), (1, .int (omi v1))]) (by decide +kernel) rfl (by simp [lg_sl, Value.category]) rfl (by simp [Value.category]) (fun x C F => ?_)
  refine v_iload_n C (q := 1) rfl rfl dL_plans_0 ?_
  by_cases hc0 : omw v1 = 0
  · replace h := (if_pos hc0).symm.trans h
    refine v_tabIn C (tgt := 40) dL_plans_1 hc0 (by decide) (by decide) rfl rfl ?_
    refine v_aload_n C (q := 0) rfl rfl dL_plans_40 ?_
    obtain ⟨r1, er1, h⟩ := om_bind h
    rcases r1 with u2 | u2
    · replace h := (Sum.elim_inl _ _ _).symm.trans h
      cases h
    · replace h := (Sum.elim_inr _ _ _).symm.trans h
      refine v_invV_i (As := []) C mi_X11_planByDueDates ml_L_52 (n_X11_planByDueDates  σ _ er1) (q := 0) rfl rfl rfl (by decide) (Nat.zero_le _) rfl (Nat.le_of_ble_eq_true rfl) dL_plans_41 ?_
      cases h
      exact v_iret C F dL_plans_44 (Nat.zero_le _)
  · replace h := (if_neg hc0).symm.trans h
    by_cases hc1 : omw v1 = 1
    · replace h := (if_pos hc1).symm.trans h
      refine v_tabIn C (tgt := 45) dL_plans_1 hc1 (by decide) (by decide) rfl rfl ?_
      refine v_aload_n C (q := 0) rfl rfl dL_plans_45 ?_
      obtain ⟨r3, er3, h⟩ := om_bind h
      rcases r3 with u4 | u4
      · replace h := (Sum.elim_inl _ _ _).symm.trans h
        cases h
      · replace h := (Sum.elim_inr _ _ _).symm.trans h
        refine v_invV_i (As := []) C mi_X11_planFewestLate ml_L_55 (n_X11_planFewestLate  σ _ er3) (q := 0) rfl rfl rfl (by decide) (Nat.zero_le _) rfl (Nat.le_of_ble_eq_true rfl) dL_plans_46 ?_
        cases h
        exact v_iret C F dL_plans_49 (Nat.zero_le _)
    · replace h := (if_neg hc1).symm.trans h
      by_cases hc2 : omw v1 = 2
      · replace h := (if_pos hc2).symm.trans h
        refine v_tabIn C (tgt := 50) dL_plans_1 hc2 (by decide) (by decide) rfl rfl ?_
        refine v_aload_n C (q := 0) rfl rfl dL_plans_50 ?_
        obtain ⟨r5, er5, h⟩ := om_bind h
        rcases r5 with u6 | u6
        · replace h := (Sum.elim_inl _ _ _).symm.trans h
          cases h
        · replace h := (Sum.elim_inr _ _ _).symm.trans h
          refine v_invV_i (As := []) C mi_X11_planByRatios ml_L_58 (n_X11_planByRatios  σ _ er5) (q := 0) rfl rfl rfl (by decide) (Nat.zero_le _) rfl (Nat.le_of_ble_eq_true rfl) dL_plans_51 ?_
          cases h
          exact v_iret C F dL_plans_54 (Nat.zero_le _)
      · replace h := (if_neg hc2).symm.trans h
        by_cases hc3 : omw v1 = 3
        · replace h := (if_pos hc3).symm.trans h
          refine v_tabIn C (tgt := 55) dL_plans_1 hc3 (by decide) (by decide) rfl rfl ?_
          refine v_aload_n C (q := 0) rfl rfl dL_plans_55 ?_
          obtain ⟨r7, er7, h⟩ := om_bind h
          rcases r7 with u8 | u8
          · replace h := (Sum.elim_inl _ _ _).symm.trans h
            cases h
          · replace h := (Sum.elim_inr _ _ _).symm.trans h
            refine v_invV_i (As := []) C mi_X11_planLeastTardiness ml_L_61 (n_X11_planLeastTardiness  σ _ er7) (q := 0) rfl rfl rfl (by decide) (Nat.zero_le _) rfl (Nat.le_of_ble_eq_true rfl) dL_plans_56 ?_
            cases h
            exact v_iret C F dL_plans_59 (Nat.zero_le _)
        · replace h := (if_neg hc3).symm.trans h
          by_cases hc4 : omw v1 = 4
          · replace h := (if_pos hc4).symm.trans h
            refine v_tabIn C (tgt := 60) dL_plans_1 hc4 (by decide) (by decide) rfl rfl ?_
            refine v_aload_n C (q := 0) rfl rfl dL_plans_60 ?_
            obtain ⟨r9, er9, h⟩ := om_bind h
            rcases r9 with u10 | u10
            · replace h := (Sum.elim_inl _ _ _).symm.trans h
              cases h
            · replace h := (Sum.elim_inr _ _ _).symm.trans h
              refine v_invV_i (As := []) C mi_X11_planByFamilies ml_L_64 (n_X11_planByFamilies  σ _ er9) (q := 0) rfl rfl rfl (by decide) (Nat.zero_le _) rfl (Nat.le_of_ble_eq_true rfl) dL_plans_61 ?_
              cases h
              exact v_iret C F dL_plans_64 (Nat.zero_le _)
          · replace h := (if_neg hc4).symm.trans h
            by_cases hc5 : omw v1 = 5
            · replace h := (if_pos hc5).symm.trans h
              refine v_tabIn C (tgt := 65) dL_plans_1 hc5 (by decide) (by decide) rfl rfl ?_
              refine v_aload_n C (q := 0) rfl rfl dL_plans_65 ?_
              obtain ⟨r11, er11, h⟩ := om_bind h
              rcases r11 with u12 | u12
              · replace h := (Sum.elim_inl _ _ _).symm.trans h
                cases h
              · replace h := (Sum.elim_inr _ _ _).symm.trans h
                refine v_invV_i (As := []) C mi_X11_planPreemptiveByDates ml_L_67 (n_X11_planPreemptiveByDates  σ _ er11) (q := 0) rfl rfl rfl (by decide) (Nat.zero_le _) rfl (Nat.le_of_ble_eq_true rfl) dL_plans_66 ?_
                cases h
                exact v_iret C F dL_plans_69 (Nat.zero_le _)
            · replace h := (if_neg hc5).symm.trans h
              refine v_tabOut C (tgt := 70) dL_plans_1 (by omega) rfl ?_
              refine v_aload_n C (q := 0) rfl rfl dL_plans_70 ?_
              obtain ⟨r13, er13, h⟩ := om_bind h
              rcases r13 with u14 | u14
              · replace h := (Sum.elim_inl _ _ _).symm.trans h
                cases h
              · replace h := (Sum.elim_inr _ _ _).symm.trans h
                refine v_invV_i (As := []) C mi_X11_planPreemptiveShortest ml_L_70 (n_X11_planPreemptiveShortest  σ _ er13) (q := 0) rfl rfl rfl (by decide) (Nat.zero_le _) rfl (Nat.le_of_ble_eq_true rfl) dL_plans_71 ?_
                cases h
                exact v_iret C F dL_plans_74 (Nat.zero_le _)
set_option maxHeartbeats 4000000 in
set_option maxRecDepth 100000 in
theorem k_L_told {G : omG} (v1 : Int) (σ : omH) (t : Int) (h : s_L_told v1 σ = some t) : omM G yL_told (.code yL_told cL_told 2 (some .int)) 4 0 [.ref (G.1 16), .int (omi v1)] σ (.inr (some (.int (omi t)))) σ := by
  unfold s_L_told at h
  refine om_head (own := RL) (ls := [(0, .ref (G.1 16)), (1, .int (omi v1))]) (by decide +kernel) rfl (by simp [lg_sl, Value.category]) rfl (by simp [Value.category]) (fun x C F => ?_)
  refine v_iload_n C (q := 1) rfl rfl dL_told_0 ?_
  refine v_iconst C (n := 1) dL_told_1 ?_
  refine v_icmp_ne C (tgt := 12) dL_told_2 rfl (fun hc => ?_) (fun hc => ?_)
  · replace h := (if_neg hc).symm.trans h
    refine v_iload_n C (q := 1) rfl rfl dL_told_12 ?_
    refine v_iconst C (n := 2) dL_told_13 ?_
    refine v_icmp_ne C (tgt := 24) dL_told_14 rfl (fun hc => ?_) (fun hc => ?_)
    · replace h := (if_neg hc).symm.trans h
      refine v_iload_n C (q := 1) rfl rfl dL_told_24 ?_
      refine v_iconst C (n := 3) dL_told_25 ?_
      refine v_icmp_ne C (tgt := 36) dL_told_26 rfl (fun hc => ?_) (fun hc => ?_)
      · replace h := (if_neg hc).symm.trans h
        refine v_iload_n C (q := 1) rfl rfl dL_told_36 ?_
        refine v_bipush C (a := 6) (by decide) dL_told_37 ?_
        refine v_icmp_ne C (tgt := 49) dL_told_39 rfl (fun hc => ?_) (fun hc => ?_)
        · replace h := (if_neg hc).symm.trans h
          refine v_aload_n C (q := 0) rfl rfl dL_told_49 ?_
          obtain ⟨r1, er1, h⟩ := om_bind h
          rcases r1 with u2 | u2
          · replace h := (Sum.elim_inl _ _ _).symm.trans h
            cases h
          · replace h := (Sum.elim_inr _ _ _).symm.trans h
            refine v_invV_i (As := []) C mi_X11_maxLateness ml_L_85 (n_X11_maxLateness  σ _ er1) (q := 0) rfl rfl rfl (by decide) (Nat.zero_le _) rfl (Nat.le_of_ble_eq_true rfl) dL_told_50 ?_
            cases h
            exact v_iret C F dL_told_53 (Nat.zero_le _)
        · replace h := (if_pos hc).symm.trans h
          refine v_aload_n C (q := 0) rfl rfl dL_told_42 ?_
          obtain ⟨r3, er3, h⟩ := om_bind h
          rcases r3 with u4 | u4
          · replace h := (Sum.elim_inl _ _ _).symm.trans h
            cases h
          · replace h := (Sum.elim_inr _ _ _).symm.trans h
            refine v_invV_i (As := []) C mi_X11_completions ml_L_82 (n_X11_completions  σ _ er3) (q := 0) rfl rfl rfl (by decide) (Nat.zero_le _) rfl (Nat.le_of_ble_eq_true rfl) dL_told_43 ?_
            refine v_goto C (tgt := 53) dL_told_46 rfl ?_
            cases h
            exact v_iret C F dL_told_53 (Nat.zero_le _)
      · replace h := (if_pos hc).symm.trans h
        refine v_aload_n C (q := 0) rfl rfl dL_told_29 ?_
        obtain ⟨r5, er5, h⟩ := om_bind h
        rcases r5 with u6 | u6
        · replace h := (Sum.elim_inl _ _ _).symm.trans h
          cases h
        · replace h := (Sum.elim_inr _ _ _).symm.trans h
          refine v_invV_i (As := []) C mi_X11_weightedTardiness ml_L_79 (n_X11_weightedTardiness  σ _ er5) (q := 0) rfl rfl rfl (by decide) (Nat.zero_le _) rfl (Nat.le_of_ble_eq_true rfl) dL_told_30 ?_
          refine v_goto C (tgt := 53) dL_told_33 rfl ?_
          cases h
          exact v_iret C F dL_told_53 (Nat.zero_le _)
    · replace h := (if_pos hc).symm.trans h
      refine v_aload_n C (q := 0) rfl rfl dL_told_17 ?_
      obtain ⟨r7, er7, h⟩ := om_bind h
      rcases r7 with u8 | u8
      · replace h := (Sum.elim_inl _ _ _).symm.trans h
        cases h
      · replace h := (Sum.elim_inr _ _ _).symm.trans h
        refine v_invV_i (As := []) C mi_X11_weightedCompletions ml_L_76 (n_X11_weightedCompletions  σ _ er7) (q := 0) rfl rfl rfl (by decide) (Nat.zero_le _) rfl (Nat.le_of_ble_eq_true rfl) dL_told_18 ?_
        refine v_goto C (tgt := 53) dL_told_21 rfl ?_
        cases h
        exact v_iret C F dL_told_53 (Nat.zero_le _)
  · replace h := (if_pos hc).symm.trans h
    refine v_aload_n C (q := 0) rfl rfl dL_told_5 ?_
    obtain ⟨r9, er9, h⟩ := om_bind h
    rcases r9 with u10 | u10
    · replace h := (Sum.elim_inl _ _ _).symm.trans h
      cases h
    · replace h := (Sum.elim_inr _ _ _).symm.trans h
      refine v_invV_i (As := []) C mi_X11_lateJobs ml_L_73 (n_X11_lateJobs  σ _ er9) (q := 0) rfl rfl rfl (by decide) (Nat.zero_le _) rfl (Nat.le_of_ble_eq_true rfl) dL_told_6 ?_
      refine v_goto C (tgt := 53) dL_told_9 rfl ?_
      cases h
      exact v_iret C F dL_told_53 (Nat.zero_le _)
set_option maxHeartbeats 4000000 in
set_option maxRecDepth 100000 in
theorem k_L_isBest {G : omG} (v1 : Int) (v2 : Int) (σ : omH) (t : Int × omH) (h : s_L_isBest v1 v2 σ = some t) : omM G yL_isBest (.code yL_isBest cL_isBest 4 (some .boolean)) 17 0 [.ref (G.1 16), .int (omi v1), .int (omi v2)] σ (.inr (some (.int (omi t.1)))) t.2 := by
  unfold s_L_isBest at h
  refine om_head (own := RL) (ls := [(0, .ref (G.1 16)), (1, .int (omi v1)), (2, .int (omi v2))]) (by decide +kernel) rfl (by simp [lg_sl, Value.category]) rfl (by simp [Value.category]) (fun x C F => ?_)
  refine v_aload_n C (q := 0) rfl rfl dL_isBest_0 ?_
  obtain ⟨r1, er1, h⟩ := om_bind h
  refine v_invV_i (As := []) C mi_X11_jobs ml_L_22 (k_X11_jobs  σ _ er1) (q := 0) rfl rfl rfl (by decide) (Nat.zero_le _) rfl (Nat.le_of_ble_eq_true rfl) dL_isBest_1 ?_
  refine v_bipush C (a := 7) (by decide) dL_isBest_4 ?_
  obtain ⟨t2, et2, h⟩ := om_bind h
  have Jt2 : omV G x 4 14 [(0, .ref (G.1 16)), (1, .int (omi v1)), (2, .int (omi v2))] [.int (omi t2)] σ 0 := by
    refine v_istore_n C (ls' := [(0, .ref (G.1 16)), (1, .int (omi v1)), (2, .int (omi v2)), (3, .int (omi t2))]) rfl (by decide) rfl dL_isBest_14 ?_
    refine v_iload_n C (q := 1) rfl rfl dL_isBest_15 ?_
    by_cases hc0 : omw v1 = 0
    · replace h := (if_pos hc0).symm.trans h
      refine v_tabIn C (tgt := 56) dL_isBest_16 hc0 (by decide) (by decide) rfl rfl ?_
      refine v_iload_n C (q := 2) rfl rfl dL_isBest_56 ?_
      refine v_aload_n C (q := 0) rfl rfl dL_isBest_57 ?_
      refine v_iconst C (n := 0) dL_isBest_58 ?_
      obtain ⟨r3, er3, h⟩ := om_bind h
      rcases r3 with u4 | u4
      · replace h := (Sum.elim_inl _ _ _).symm.trans h
        cases h
      · replace h := (Sum.elim_inr _ _ _).symm.trans h
        refine v_invV_i (As := [.int (omi 0)]) C mi_X11_windowBound ml_L_88 (n_X11_windowBound 0 σ _ er3) (q := 0) rfl rfl rfl (by decide) (Nat.zero_le _) rfl (Nat.le_of_ble_eq_true rfl) dL_isBest_59 ?_
        refine v_icmp_ne C (tgt := 81) dL_isBest_62 rfl (fun hc => ?_) (fun hc => ?_)
        · replace h := (if_neg hc).symm.trans h
          refine v_iconst C (n := 0) dL_isBest_81 ?_
          cases h
          exact v_zret C (by decide) F dL_isBest_82 (Nat.zero_le _)
        · replace h := (if_pos hc).symm.trans h
          refine v_iload_n C (q := 3) rfl rfl dL_isBest_65 ?_
          refine v_if_eq C (tgt := 77) dL_isBest_66 rfl (fun hc => ?_) (fun hc => ?_)
          · replace h := (if_pos hc).symm.trans h
            refine v_iconst C (n := 1) dL_isBest_77 ?_
            refine v_goto C (tgt := 82) dL_isBest_78 rfl ?_
            cases h
            exact v_zret C (by decide) F dL_isBest_82 (Nat.zero_le _)
          · replace h := (if_neg hc).symm.trans h
            refine v_iload_n C (q := 2) rfl rfl dL_isBest_69 ?_
            refine v_aload_n C (q := 0) rfl rfl dL_isBest_70 ?_
            obtain ⟨r5, er5, h⟩ := om_bind h
            rcases r5 with u6 | u6
            · replace h := (Sum.elim_inl _ _ _).symm.trans h
              cases h
            · replace h := (Sum.elim_inr _ _ _).symm.trans h
              refine v_invV_i (As := []) C mi_X11_leastLateness ml_L_92 (n_X11_leastLateness  u4.2 _ er5) (q := 0) rfl rfl rfl (by decide) (Nat.zero_le _) rfl (Nat.le_of_ble_eq_true rfl) dL_isBest_71 ?_
              refine v_icmp_ne C (tgt := 81) dL_isBest_74 rfl (fun hc => ?_) (fun hc => ?_)
              · replace h := (if_neg hc).symm.trans h
                refine v_iconst C (n := 0) dL_isBest_81 ?_
                cases h
                exact v_zret C (by decide) F dL_isBest_82 (Nat.zero_le _)
              · replace h := (if_pos hc).symm.trans h
                refine v_iconst C (n := 1) dL_isBest_77 ?_
                refine v_goto C (tgt := 82) dL_isBest_78 rfl ?_
                cases h
                exact v_zret C (by decide) F dL_isBest_82 (Nat.zero_le _)
    · replace h := (if_neg hc0).symm.trans h
      by_cases hc1 : omw v1 = 1
      · replace h := (if_pos hc1).symm.trans h
        refine v_tabIn C (tgt := 83) dL_isBest_16 hc1 (by decide) (by decide) rfl rfl ?_
        refine v_iload_n C (q := 2) rfl rfl dL_isBest_83 ?_
        refine v_aload_n C (q := 0) rfl rfl dL_isBest_84 ?_
        obtain ⟨r7, er7, h⟩ := om_bind h
        refine v_invV_i (As := []) C mi_X11_fewestLateBySets ml_L_37 (k_X11_fewestLateBySets  σ _ er7) (q := 0) rfl rfl rfl (by decide) (Nat.zero_le _) rfl (Nat.le_of_ble_eq_true rfl) dL_isBest_85 ?_
        refine v_icmp_ne C (tgt := 95) dL_isBest_88 rfl (fun hc => ?_) (fun hc => ?_)
        · replace h := (if_neg hc).symm.trans h
          refine v_iconst C (n := 0) dL_isBest_95 ?_
          cases h
          exact v_zret C (by decide) F dL_isBest_96 (Nat.zero_le _)
        · replace h := (if_pos hc).symm.trans h
          refine v_iconst C (n := 1) dL_isBest_91 ?_
          refine v_goto C (tgt := 96) dL_isBest_92 rfl ?_
          cases h
          exact v_zret C (by decide) F dL_isBest_96 (Nat.zero_le _)
      · replace h := (if_neg hc1).symm.trans h
        by_cases hc2 : omw v1 = 2
        · replace h := (if_pos hc2).symm.trans h
          refine v_tabIn C (tgt := 97) dL_isBest_16 hc2 (by decide) (by decide) rfl rfl ?_
          refine v_iload_n C (q := 3) rfl rfl dL_isBest_97 ?_
          refine v_if_eq C (tgt := 109) dL_isBest_98 rfl (fun hc => ?_) (fun hc => ?_)
          · replace h := (if_pos hc).symm.trans h
            refine v_iconst C (n := 1) dL_isBest_109 ?_
            refine v_goto C (tgt := 114) dL_isBest_110 rfl ?_
            cases h
            exact v_zret C (by decide) F dL_isBest_114 (Nat.zero_le _)
          · replace h := (if_neg hc).symm.trans h
            refine v_iload_n C (q := 2) rfl rfl dL_isBest_101 ?_
            refine v_aload_n C (q := 0) rfl rfl dL_isBest_102 ?_
            obtain ⟨r8, er8, h⟩ := om_bind h
            rcases r8 with u9 | u9
            · replace h := (Sum.elim_inl _ _ _).symm.trans h
              cases h
            · replace h := (Sum.elim_inr _ _ _).symm.trans h
              refine v_invV_i (As := []) C mi_X11_leastCompletions ml_L_95 (n_X11_leastCompletions  σ _ er8) (q := 0) rfl rfl rfl (by decide) (Nat.zero_le _) rfl (Nat.le_of_ble_eq_true rfl) dL_isBest_103 ?_
              refine v_icmp_ne C (tgt := 113) dL_isBest_106 rfl (fun hc => ?_) (fun hc => ?_)
              · replace h := (if_neg hc).symm.trans h
                refine v_iconst C (n := 0) dL_isBest_113 ?_
                cases h
                exact v_zret C (by decide) F dL_isBest_114 (Nat.zero_le _)
              · replace h := (if_pos hc).symm.trans h
                refine v_iconst C (n := 1) dL_isBest_109 ?_
                refine v_goto C (tgt := 114) dL_isBest_110 rfl ?_
                cases h
                exact v_zret C (by decide) F dL_isBest_114 (Nat.zero_le _)
        · replace h := (if_neg hc2).symm.trans h
          by_cases hc3 : omw v1 = 3
          · replace h := (if_pos hc3).symm.trans h
            refine v_tabIn C (tgt := 115) dL_isBest_16 hc3 (by decide) (by decide) rfl rfl ?_
            refine v_iload_n C (q := 3) rfl rfl dL_isBest_115 ?_
            refine v_if_eq C (tgt := 127) dL_isBest_116 rfl (fun hc => ?_) (fun hc => ?_)
            · replace h := (if_pos hc).symm.trans h
              refine v_iconst C (n := 1) dL_isBest_127 ?_
              refine v_goto C (tgt := 132) dL_isBest_128 rfl ?_
              cases h
              exact v_zret C (by decide) F dL_isBest_132 (Nat.zero_le _)
            · replace h := (if_neg hc).symm.trans h
              refine v_iload_n C (q := 2) rfl rfl dL_isBest_119 ?_
              refine v_aload_n C (q := 0) rfl rfl dL_isBest_120 ?_
              obtain ⟨r10, er10, h⟩ := om_bind h
              rcases r10 with u11 | u11
              · replace h := (Sum.elim_inl _ _ _).symm.trans h
                cases h
              · replace h := (Sum.elim_inr _ _ _).symm.trans h
                refine v_invV_i (As := []) C mi_X11_leastTardiness ml_L_98 (n_X11_leastTardiness  σ _ er10) (q := 0) rfl rfl rfl (by decide) (Nat.zero_le _) rfl (Nat.le_of_ble_eq_true rfl) dL_isBest_121 ?_
                refine v_icmp_ne C (tgt := 131) dL_isBest_124 rfl (fun hc => ?_) (fun hc => ?_)
                · replace h := (if_neg hc).symm.trans h
                  refine v_iconst C (n := 0) dL_isBest_131 ?_
                  cases h
                  exact v_zret C (by decide) F dL_isBest_132 (Nat.zero_le _)
                · replace h := (if_pos hc).symm.trans h
                  refine v_iconst C (n := 1) dL_isBest_127 ?_
                  refine v_goto C (tgt := 132) dL_isBest_128 rfl ?_
                  cases h
                  exact v_zret C (by decide) F dL_isBest_132 (Nat.zero_le _)
          · replace h := (if_neg hc3).symm.trans h
            by_cases hc4 : omw v1 = 4
            · replace h := (if_pos hc4).symm.trans h
              refine v_tabIn C (tgt := 133) dL_isBest_16 hc4 (by decide) (by decide) rfl rfl ?_
              refine v_iload_n C (q := 3) rfl rfl dL_isBest_133 ?_
              refine v_if_eq C (tgt := 145) dL_isBest_134 rfl (fun hc => ?_) (fun hc => ?_)
              · replace h := (if_pos hc).symm.trans h
                refine v_iconst C (n := 1) dL_isBest_145 ?_
                refine v_goto C (tgt := 150) dL_isBest_146 rfl ?_
                cases h
                exact v_zret C (by decide) F dL_isBest_150 (Nat.zero_le _)
              · replace h := (if_neg hc).symm.trans h
                refine v_iload_n C (q := 2) rfl rfl dL_isBest_137 ?_
                refine v_aload_n C (q := 0) rfl rfl dL_isBest_138 ?_
                obtain ⟨r12, er12, h⟩ := om_bind h
                rcases r12 with u13 | u13
                · replace h := (Sum.elim_inl _ _ _).symm.trans h
                  cases h
                · replace h := (Sum.elim_inr _ _ _).symm.trans h
                  refine v_invV_i (As := []) C mi_X11_leastWithSetups ml_L_101 (n_X11_leastWithSetups  σ _ er12) (q := 0) rfl rfl rfl (by decide) (Nat.zero_le _) rfl (Nat.le_of_ble_eq_true rfl) dL_isBest_139 ?_
                  refine v_icmp_ne C (tgt := 149) dL_isBest_142 rfl (fun hc => ?_) (fun hc => ?_)
                  · replace h := (if_neg hc).symm.trans h
                    refine v_iconst C (n := 0) dL_isBest_149 ?_
                    cases h
                    exact v_zret C (by decide) F dL_isBest_150 (Nat.zero_le _)
                  · replace h := (if_pos hc).symm.trans h
                    refine v_iconst C (n := 1) dL_isBest_145 ?_
                    refine v_goto C (tgt := 150) dL_isBest_146 rfl ?_
                    cases h
                    exact v_zret C (by decide) F dL_isBest_150 (Nat.zero_le _)
            · replace h := (if_neg hc4).symm.trans h
              by_cases hc5 : omw v1 = 5
              · replace h := (if_pos hc5).symm.trans h
                refine v_tabIn C (tgt := 151) dL_isBest_16 hc5 (by decide) (by decide) rfl rfl ?_
                refine v_iload_n C (q := 2) rfl rfl dL_isBest_151 ?_
                refine v_aload_n C (q := 0) rfl rfl dL_isBest_152 ?_
                refine v_iconst C (n := 1) dL_isBest_153 ?_
                obtain ⟨r14, er14, h⟩ := om_bind h
                rcases r14 with u15 | u15
                · replace h := (Sum.elim_inl _ _ _).symm.trans h
                  cases h
                · replace h := (Sum.elim_inr _ _ _).symm.trans h
                  refine v_invV_i (As := [.int (omi 1)]) C mi_X11_windowBound ml_L_88 (n_X11_windowBound 1 σ _ er14) (q := 0) rfl rfl rfl (by decide) (Nat.zero_le _) rfl (Nat.le_of_ble_eq_true rfl) dL_isBest_154 ?_
                  refine v_icmp_ne C (tgt := 176) dL_isBest_157 rfl (fun hc => ?_) (fun hc => ?_)
                  · replace h := (if_neg hc).symm.trans h
                    refine v_iconst C (n := 0) dL_isBest_176 ?_
                    cases h
                    exact v_zret C (by decide) F dL_isBest_177 (Nat.zero_le _)
                  · replace h := (if_pos hc).symm.trans h
                    refine v_iload_n C (q := 3) rfl rfl dL_isBest_160 ?_
                    refine v_if_eq C (tgt := 172) dL_isBest_161 rfl (fun hc => ?_) (fun hc => ?_)
                    · replace h := (if_pos hc).symm.trans h
                      refine v_iconst C (n := 1) dL_isBest_172 ?_
                      refine v_goto C (tgt := 177) dL_isBest_173 rfl ?_
                      cases h
                      exact v_zret C (by decide) F dL_isBest_177 (Nat.zero_le _)
                    · replace h := (if_neg hc).symm.trans h
                      refine v_iload_n C (q := 2) rfl rfl dL_isBest_164 ?_
                      refine v_aload_n C (q := 0) rfl rfl dL_isBest_165 ?_
                      obtain ⟨r16, er16, h⟩ := om_bind h
                      rcases r16 with u17 | u17
                      · replace h := (Sum.elim_inl _ _ _).symm.trans h
                        cases h
                      · replace h := (Sum.elim_inr _ _ _).symm.trans h
                        refine v_invV_i (As := []) C mi_X11_leastPreemptiveLateness ml_L_104 (n_X11_leastPreemptiveLateness  u15.2 _ er16) (q := 0) rfl rfl rfl (by decide) (Nat.zero_le _) rfl (Nat.le_of_ble_eq_true rfl) dL_isBest_166 ?_
                        refine v_icmp_ne C (tgt := 176) dL_isBest_169 rfl (fun hc => ?_) (fun hc => ?_)
                        · replace h := (if_neg hc).symm.trans h
                          refine v_iconst C (n := 0) dL_isBest_176 ?_
                          cases h
                          exact v_zret C (by decide) F dL_isBest_177 (Nat.zero_le _)
                        · replace h := (if_pos hc).symm.trans h
                          refine v_iconst C (n := 1) dL_isBest_172 ?_
                          refine v_goto C (tgt := 177) dL_isBest_173 rfl ?_
                          cases h
                          exact v_zret C (by decide) F dL_isBest_177 (Nat.zero_le _)
              · replace h := (if_neg hc5).symm.trans h
                refine v_tabOut C (tgt := 178) dL_isBest_16 (by omega) rfl ?_
                refine v_iload_n C (q := 3) rfl rfl dL_isBest_178 ?_
                refine v_if_eq C (tgt := 190) dL_isBest_179 rfl (fun hc => ?_) (fun hc => ?_)
                · replace h := (if_pos hc).symm.trans h
                  refine v_iconst C (n := 1) dL_isBest_190 ?_
                  refine v_goto C (tgt := 195) dL_isBest_191 rfl ?_
                  cases h
                  exact v_zret C (by decide) F dL_isBest_195 (Nat.zero_le _)
                · replace h := (if_neg hc).symm.trans h
                  refine v_iload_n C (q := 2) rfl rfl dL_isBest_182 ?_
                  refine v_aload_n C (q := 0) rfl rfl dL_isBest_183 ?_
                  obtain ⟨r18, er18, h⟩ := om_bind h
                  rcases r18 with u19 | u19
                  · replace h := (Sum.elim_inl _ _ _).symm.trans h
                    cases h
                  · replace h := (Sum.elim_inr _ _ _).symm.trans h
                    refine v_invV_i (As := []) C mi_X11_leastPreemptiveCompletions ml_L_107 (n_X11_leastPreemptiveCompletions  σ _ er18) (q := 0) rfl rfl rfl (by decide) (Nat.zero_le _) rfl (Nat.le_of_ble_eq_true rfl) dL_isBest_184 ?_
                    refine v_icmp_ne C (tgt := 194) dL_isBest_187 rfl (fun hc => ?_) (fun hc => ?_)
                    · replace h := (if_neg hc).symm.trans h
                      refine v_iconst C (n := 0) dL_isBest_194 ?_
                      cases h
                      exact v_zret C (by decide) F dL_isBest_195 (Nat.zero_le _)
                    · replace h := (if_pos hc).symm.trans h
                      refine v_iconst C (n := 1) dL_isBest_190 ?_
                      refine v_goto C (tgt := 195) dL_isBest_191 rfl ?_
                      cases h
                      exact v_zret C (by decide) F dL_isBest_195 (Nat.zero_le _)
  clear h
  have h := et2
  clear et2
  refine v_icmp_gt C (tgt := 13) dL_isBest_6 rfl (fun hc => ?_) (fun hc => ?_)
  · replace h := (if_pos hc).symm.trans h
    refine v_iconst C (n := 0) dL_isBest_13 ?_
    cases h
    exact Jt2
  · replace h := (if_neg hc).symm.trans h
    refine v_iconst C (n := 1) dL_isBest_9 ?_
    refine v_goto C (tgt := 14) dL_isBest_10 rfl ?_
    cases h
    exact Jt2
