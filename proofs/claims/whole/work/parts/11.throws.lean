theorem at_E1 : ∀ w ∈ (vx_atS RX11 100 "java/lang/IllegalArgumentException" ["java/lang/RuntimeException", "java/lang/Exception"]).filter goodWord, w ∈ omTB := by
  have h : ∀ w ∈ (vx_atS RX11 100 "java/lang/IllegalArgumentException" ["java/lang/RuntimeException", "java/lang/Exception"]).filter goodWord, w ∈ lw_tbl := by decide +kernel
  exact fun w hw => List.mem_filter.mpr ⟨h w hw, (List.mem_filter.mp hw).2⟩
theorem ac_E1 : ∀ w ∈ (vx_atS RX11 100 "java/lang/IllegalArgumentException" ["java/lang/RuntimeException", "java/lang/Exception"]).filter (fun w => !goodWord w), w ∈ [Cond.castable "java/lang/IllegalArgumentException" "java/lang/IllegalArgumentException", Cond.declares (Bundle.initS "java/lang/RuntimeException"), Cond.declares (Bundle.initS "java/lang/Exception"), Cond.declares (Bundle.initS "java/lang/Throwable")] := by decide +kernel
theorem ag_E1 : ∀ w ∈ Cond.classLink RX11 96 "java/lang/IllegalArgumentException" :: Cond.initialized "java/lang/IllegalArgumentException" :: vx_atS RX11 100 "java/lang/IllegalArgumentException" ["java/lang/RuntimeException", "java/lang/Exception"], vx_ot w = true := by decide +kernel
theorem at_E2 : ∀ w ∈ (vx_atS RX11 70 "java/lang/IllegalStateException" ["java/lang/RuntimeException", "java/lang/Exception"]).filter goodWord, w ∈ omTB := by
  have h : ∀ w ∈ (vx_atS RX11 70 "java/lang/IllegalStateException" ["java/lang/RuntimeException", "java/lang/Exception"]).filter goodWord, w ∈ lw_tbl := by decide +kernel
  exact fun w hw => List.mem_filter.mpr ⟨h w hw, (List.mem_filter.mp hw).2⟩
theorem ac_E2 : ∀ w ∈ (vx_atS RX11 70 "java/lang/IllegalStateException" ["java/lang/RuntimeException", "java/lang/Exception"]).filter (fun w => !goodWord w), w ∈ [Cond.castable "java/lang/IllegalStateException" "java/lang/IllegalStateException", Cond.declares (Bundle.initS "java/lang/RuntimeException"), Cond.declares (Bundle.initS "java/lang/Exception"), Cond.declares (Bundle.initS "java/lang/Throwable")] := by decide +kernel
theorem ag_E2 : ∀ w ∈ Cond.classLink RX11 66 "java/lang/IllegalStateException" :: Cond.initialized "java/lang/IllegalStateException" :: vx_atS RX11 70 "java/lang/IllegalStateException" ["java/lang/RuntimeException", "java/lang/Exception"], vx_ot w = true := by decide +kernel
theorem at_E3 : ∀ w ∈ (vx_atS RX11 95 "java/lang/IndexOutOfBoundsException" ["java/lang/RuntimeException", "java/lang/Exception"]).filter goodWord, w ∈ omTB := by
  have h : ∀ w ∈ (vx_atS RX11 95 "java/lang/IndexOutOfBoundsException" ["java/lang/RuntimeException", "java/lang/Exception"]).filter goodWord, w ∈ lw_tbl := by decide +kernel
  exact fun w hw => List.mem_filter.mpr ⟨h w hw, (List.mem_filter.mp hw).2⟩
theorem ac_E3 : ∀ w ∈ (vx_atS RX11 95 "java/lang/IndexOutOfBoundsException" ["java/lang/RuntimeException", "java/lang/Exception"]).filter (fun w => !goodWord w), w ∈ [Cond.castable "java/lang/IndexOutOfBoundsException" "java/lang/IndexOutOfBoundsException", Cond.declares (Bundle.initS "java/lang/RuntimeException"), Cond.declares (Bundle.initS "java/lang/Exception"), Cond.declares (Bundle.initS "java/lang/Throwable")] := by decide +kernel
theorem ag_E3 : ∀ w ∈ Cond.classLink RX11 91 "java/lang/IndexOutOfBoundsException" :: Cond.initialized "java/lang/IndexOutOfBoundsException" :: vx_atS RX11 95 "java/lang/IndexOutOfBoundsException" ["java/lang/RuntimeException", "java/lang/Exception"], vx_ot w = true := by decide +kernel
theorem dc_E : ∀ y ∈ [Bundle.initS "java/lang/RuntimeException", Bundle.initS "java/lang/Exception", Bundle.initS "java/lang/Throwable"], ∃ (b : ByteArray) (mm : Nat) (rr : Option FieldType), Cond.instanceMethod y ∈ omTB ∧ Cond.code y b mm rr ∈ omTB := by
  intro y hy
  rcases List.mem_cons.mp hy with rfl | hy
  · exact ⟨prog_22_method_2_code, 2, none, omTB_in (i := 405) (by decide +kernel) (by decide +kernel), omTB_in (i := 406) (by decide +kernel) (by decide +kernel)⟩
  rcases List.mem_cons.mp hy with rfl | hy
  · exact ⟨prog_16_method_2_code, 2, none, omTB_in (i := 408) (by decide +kernel) (by decide +kernel), omTB_in (i := 409) (by decide +kernel) (by decide +kernel)⟩
  · have hy := List.mem_singleton.mp hy; subst hy
    exact ⟨prog_25_method_2_code, 2, none, omTB_in (i := 411) (by decide +kernel) (by decide +kernel), omTB_in (i := 412) (by decide +kernel) (by decide +kernel)⟩
