/-! ===== words of the tables, by their places ===== -/
theorem om_in_r (ws : List Cond) (ps : List Nat) (hp : ws = ps.filterMap (fun i => lw_tbl[i]?)) (h : ws.all goodWord = true) : ∀ w ∈ ws, w ∈ omTB := by
  intro w hw
  have h1 := List.all_eq_true.mp h w hw
  rw [hp] at hw
  obtain ⟨i, -, hi⟩ := List.mem_filterMap.mp hw
  exact omTB_in hi h1
theorem fx_X2 : ∀ w ∈ u_ws RX2 TX2 7, w ∈ omTB := om_in_r _ [97, 99, 101, 103, 105, 107, 109] (by decide +kernel) (by decide +kernel)
theorem fx_X4 : ∀ w ∈ u_ws RX4 TX4 4, w ∈ omTB := om_in_r _ [194, 196, 198, 200] (by decide +kernel) (by decide +kernel)
theorem fx_X5 : ∀ w ∈ u_ws RX5 TX5 6, w ∈ omTB := om_in_r _ [131, 133, 135, 137, 139, 141] (by decide +kernel) (by decide +kernel)
theorem fx_X6 : ∀ w ∈ u_ws RX6 TX6 2, w ∈ omTB := om_in_r _ [175, 177] (by decide +kernel) (by decide +kernel)
theorem fx_X7 : ∀ w ∈ u_ws RX7 TX7 5, w ∈ omTB := om_in_r _ [156, 158, 160, 162, 164] (by decide +kernel) (by decide +kernel)
theorem fx_X8 : ∀ w ∈ u_ws RX8 TX8 1, w ∈ omTB := om_in_r _ [210] (by decide +kernel) (by decide +kernel)
theorem fx_X10 : ∀ w ∈ u_ws RX10 TX10 3, w ∈ omTB := om_in_r _ [225, 227, 229] (by decide +kernel) (by decide +kernel)
theorem fx_X11 : ∀ w ∈ u_ws RX11 TX11 7, w ∈ omTB := om_in_r _ [239, 241, 243, 245, 247, 249, 251] (by decide +kernel) (by decide +kernel)
theorem mi_X11_addJob : omMI yX11_addJob cX11_addJob 7 (some .int) 5 := ⟨omTB_in (i := 321) (by decide +kernel) (by decide +kernel), omTB_in (i := 319) (by decide +kernel) (by decide +kernel), omTB_in (i := 320) (by decide +kernel) (by decide +kernel), omTB_in (i := 24) (by decide +kernel) (by decide +kernel), ⟨by decide +kernel, by decide +kernel⟩, by decide +kernel, by decide⟩
theorem mi_X11_changeJob : omMI yX11_changeJob cX11_changeJob 7 none 6 := ⟨omTB_in (i := 458) (by decide +kernel) (by decide +kernel), omTB_in (i := 456) (by decide +kernel) (by decide +kernel), omTB_in (i := 457) (by decide +kernel) (by decide +kernel), omTB_in (i := 24) (by decide +kernel) (by decide +kernel), ⟨by decide +kernel, by decide +kernel⟩, by decide +kernel, by decide⟩
theorem mi_X11_removeJob : omMI yX11_removeJob cX11_removeJob 2 (some .int) 1 := ⟨omTB_in (i := 467) (by decide +kernel) (by decide +kernel), omTB_in (i := 465) (by decide +kernel) (by decide +kernel), omTB_in (i := 466) (by decide +kernel) (by decide +kernel), omTB_in (i := 24) (by decide +kernel) (by decide +kernel), ⟨by decide +kernel, by decide +kernel⟩, by decide +kernel, by decide⟩
theorem mi_X11_setSetup : omMI yX11_setSetup cX11_setSetup 4 (some .int) 2 := ⟨omTB_in (i := 423) (by decide +kernel) (by decide +kernel), omTB_in (i := 421) (by decide +kernel) (by decide +kernel), omTB_in (i := 422) (by decide +kernel) (by decide +kernel), omTB_in (i := 24) (by decide +kernel) (by decide +kernel), ⟨by decide +kernel, by decide +kernel⟩, by decide +kernel, by decide⟩
theorem mi_X11_jobs : omMI yX11_jobs cX11_jobs 1 (some .int) 0 := ⟨omTB_in (i := 257) (by decide +kernel) (by decide +kernel), omTB_in (i := 255) (by decide +kernel) (by decide +kernel), omTB_in (i := 256) (by decide +kernel) (by decide +kernel), omTB_in (i := 24) (by decide +kernel) (by decide +kernel), ⟨by decide +kernel, by decide +kernel⟩, by decide +kernel, by decide⟩
theorem mi_X11_planByDueDates : omMI yX11_planByDueDates cX11_planByDueDates 1 (some .int) 0 := ⟨omTB_in (i := 479) (by decide +kernel) (by decide +kernel), omTB_in (i := 477) (by decide +kernel) (by decide +kernel), omTB_in (i := 478) (by decide +kernel) (by decide +kernel), omTB_in (i := 24) (by decide +kernel) (by decide +kernel), ⟨by decide +kernel, by decide +kernel⟩, by decide +kernel, by decide⟩
theorem mi_X11_planFewestLate : omMI yX11_planFewestLate cX11_planFewestLate 2 (some .int) 0 := ⟨omTB_in (i := 542) (by decide +kernel) (by decide +kernel), omTB_in (i := 540) (by decide +kernel) (by decide +kernel), omTB_in (i := 541) (by decide +kernel) (by decide +kernel), omTB_in (i := 24) (by decide +kernel) (by decide +kernel), ⟨by decide +kernel, by decide +kernel⟩, by decide +kernel, by decide⟩
theorem mi_X11_planByRatios : omMI yX11_planByRatios cX11_planByRatios 1 (some .int) 0 := ⟨omTB_in (i := 563) (by decide +kernel) (by decide +kernel), omTB_in (i := 561) (by decide +kernel) (by decide +kernel), omTB_in (i := 562) (by decide +kernel) (by decide +kernel), omTB_in (i := 24) (by decide +kernel) (by decide +kernel), ⟨by decide +kernel, by decide +kernel⟩, by decide +kernel, by decide⟩
theorem mi_X11_planLeastTardiness : omMI yX11_planLeastTardiness cX11_planLeastTardiness 1 (some .int) 0 := ⟨omTB_in (i := 575) (by decide +kernel) (by decide +kernel), omTB_in (i := 573) (by decide +kernel) (by decide +kernel), omTB_in (i := 574) (by decide +kernel) (by decide +kernel), omTB_in (i := 24) (by decide +kernel) (by decide +kernel), ⟨by decide +kernel, by decide +kernel⟩, by decide +kernel, by decide⟩
theorem mi_X11_planByFamilies : omMI yX11_planByFamilies cX11_planByFamilies 1 (some .int) 0 := ⟨omTB_in (i := 600) (by decide +kernel) (by decide +kernel), omTB_in (i := 598) (by decide +kernel) (by decide +kernel), omTB_in (i := 599) (by decide +kernel) (by decide +kernel), omTB_in (i := 24) (by decide +kernel) (by decide +kernel), ⟨by decide +kernel, by decide +kernel⟩, by decide +kernel, by decide⟩
theorem mi_X11_planPreemptiveByDates : omMI yX11_planPreemptiveByDates cX11_planPreemptiveByDates 1 (some .int) 0 := ⟨omTB_in (i := 638) (by decide +kernel) (by decide +kernel), omTB_in (i := 636) (by decide +kernel) (by decide +kernel), omTB_in (i := 637) (by decide +kernel) (by decide +kernel), omTB_in (i := 24) (by decide +kernel) (by decide +kernel), ⟨by decide +kernel, by decide +kernel⟩, by decide +kernel, by decide⟩
theorem mi_X11_planPreemptiveShortest : omMI yX11_planPreemptiveShortest cX11_planPreemptiveShortest 1 (some .int) 0 := ⟨omTB_in (i := 672) (by decide +kernel) (by decide +kernel), omTB_in (i := 670) (by decide +kernel) (by decide +kernel), omTB_in (i := 671) (by decide +kernel) (by decide +kernel), omTB_in (i := 24) (by decide +kernel) (by decide +kernel), ⟨by decide +kernel, by decide +kernel⟩, by decide +kernel, by decide⟩
theorem mi_X11_hasPlan : omMI yX11_hasPlan cX11_hasPlan 1 (some .boolean) 0 := ⟨omTB_in (i := 261) (by decide +kernel) (by decide +kernel), omTB_in (i := 259) (by decide +kernel) (by decide +kernel), omTB_in (i := 260) (by decide +kernel) (by decide +kernel), omTB_in (i := 24) (by decide +kernel) (by decide +kernel), ⟨by decide +kernel, by decide +kernel⟩, by decide +kernel, by decide⟩
theorem mi_X11_pieces : omMI yX11_pieces cX11_pieces 1 (some .int) 0 := ⟨omTB_in (i := 444) (by decide +kernel) (by decide +kernel), omTB_in (i := 442) (by decide +kernel) (by decide +kernel), omTB_in (i := 443) (by decide +kernel) (by decide +kernel), omTB_in (i := 24) (by decide +kernel) (by decide +kernel), ⟨by decide +kernel, by decide +kernel⟩, by decide +kernel, by decide⟩
theorem mi_X11_kindOf : omMI yX11_kindOf cX11_kindOf 2 (some .int) 1 := ⟨omTB_in (i := 797) (by decide +kernel) (by decide +kernel), omTB_in (i := 795) (by decide +kernel) (by decide +kernel), omTB_in (i := 796) (by decide +kernel) (by decide +kernel), omTB_in (i := 24) (by decide +kernel) (by decide +kernel), ⟨by decide +kernel, by decide +kernel⟩, by decide +kernel, by decide⟩
theorem mi_X11_whoseIs : omMI yX11_whoseIs cX11_whoseIs 2 (some .int) 1 := ⟨omTB_in (i := 806) (by decide +kernel) (by decide +kernel), omTB_in (i := 804) (by decide +kernel) (by decide +kernel), omTB_in (i := 805) (by decide +kernel) (by decide +kernel), omTB_in (i := 24) (by decide +kernel) (by decide +kernel), ⟨by decide +kernel, by decide +kernel⟩, by decide +kernel, by decide⟩
theorem mi_X11_startOf : omMI yX11_startOf cX11_startOf 2 (some .int) 1 := ⟨omTB_in (i := 810) (by decide +kernel) (by decide +kernel), omTB_in (i := 808) (by decide +kernel) (by decide +kernel), omTB_in (i := 809) (by decide +kernel) (by decide +kernel), omTB_in (i := 24) (by decide +kernel) (by decide +kernel), ⟨by decide +kernel, by decide +kernel⟩, by decide +kernel, by decide⟩
theorem mi_X11_endOf : omMI yX11_endOf cX11_endOf 2 (some .int) 1 := ⟨omTB_in (i := 814) (by decide +kernel) (by decide +kernel), omTB_in (i := 812) (by decide +kernel) (by decide +kernel), omTB_in (i := 813) (by decide +kernel) (by decide +kernel), omTB_in (i := 24) (by decide +kernel) (by decide +kernel), ⟨by decide +kernel, by decide +kernel⟩, by decide +kernel, by decide⟩
theorem mi_X11_completion : omMI yX11_completion cX11_completion 2 (some .int) 1 := ⟨omTB_in (i := 821) (by decide +kernel) (by decide +kernel), omTB_in (i := 819) (by decide +kernel) (by decide +kernel), omTB_in (i := 820) (by decide +kernel) (by decide +kernel), omTB_in (i := 24) (by decide +kernel) (by decide +kernel), ⟨by decide +kernel, by decide +kernel⟩, by decide +kernel, by decide⟩
theorem mi_X11_lateness : omMI yX11_lateness cX11_lateness 2 (some .int) 1 := ⟨omTB_in (i := 825) (by decide +kernel) (by decide +kernel), omTB_in (i := 823) (by decide +kernel) (by decide +kernel), omTB_in (i := 824) (by decide +kernel) (by decide +kernel), omTB_in (i := 24) (by decide +kernel) (by decide +kernel), ⟨by decide +kernel, by decide +kernel⟩, by decide +kernel, by decide⟩
theorem mi_X11_maxLateness : omMI yX11_maxLateness cX11_maxLateness 1 (some .int) 0 := ⟨omTB_in (i := 703) (by decide +kernel) (by decide +kernel), omTB_in (i := 701) (by decide +kernel) (by decide +kernel), omTB_in (i := 702) (by decide +kernel) (by decide +kernel), omTB_in (i := 24) (by decide +kernel) (by decide +kernel), ⟨by decide +kernel, by decide +kernel⟩, by decide +kernel, by decide⟩
theorem mi_X11_lateJobs : omMI yX11_lateJobs cX11_lateJobs 1 (some .int) 0 := ⟨omTB_in (i := 680) (by decide +kernel) (by decide +kernel), omTB_in (i := 678) (by decide +kernel) (by decide +kernel), omTB_in (i := 679) (by decide +kernel) (by decide +kernel), omTB_in (i := 24) (by decide +kernel) (by decide +kernel), ⟨by decide +kernel, by decide +kernel⟩, by decide +kernel, by decide⟩
theorem mi_X11_completions : omMI yX11_completions cX11_completions 1 (some .int) 0 := ⟨omTB_in (i := 699) (by decide +kernel) (by decide +kernel), omTB_in (i := 697) (by decide +kernel) (by decide +kernel), omTB_in (i := 698) (by decide +kernel) (by decide +kernel), omTB_in (i := 24) (by decide +kernel) (by decide +kernel), ⟨by decide +kernel, by decide +kernel⟩, by decide +kernel, by decide⟩
theorem mi_X11_weightedCompletions : omMI yX11_weightedCompletions cX11_weightedCompletions 1 (some .int) 0 := ⟨omTB_in (i := 691) (by decide +kernel) (by decide +kernel), omTB_in (i := 689) (by decide +kernel) (by decide +kernel), omTB_in (i := 690) (by decide +kernel) (by decide +kernel), omTB_in (i := 24) (by decide +kernel) (by decide +kernel), ⟨by decide +kernel, by decide +kernel⟩, by decide +kernel, by decide⟩
theorem mi_X11_weightedTardiness : omMI yX11_weightedTardiness cX11_weightedTardiness 1 (some .int) 0 := ⟨omTB_in (i := 695) (by decide +kernel) (by decide +kernel), omTB_in (i := 693) (by decide +kernel) (by decide +kernel), omTB_in (i := 694) (by decide +kernel) (by decide +kernel), omTB_in (i := 24) (by decide +kernel) (by decide +kernel), ⟨by decide +kernel, by decide +kernel⟩, by decide +kernel, by decide⟩
theorem mi_X11_leastLateness : omMI yX11_leastLateness cX11_leastLateness 1 (some .int) 0 := ⟨omTB_in (i := 730) (by decide +kernel) (by decide +kernel), omTB_in (i := 728) (by decide +kernel) (by decide +kernel), omTB_in (i := 729) (by decide +kernel) (by decide +kernel), omTB_in (i := 24) (by decide +kernel) (by decide +kernel), ⟨by decide +kernel, by decide +kernel⟩, by decide +kernel, by decide⟩
theorem mi_X11_leastCompletions : omMI yX11_leastCompletions cX11_leastCompletions 1 (some .int) 0 := ⟨omTB_in (i := 770) (by decide +kernel) (by decide +kernel), omTB_in (i := 768) (by decide +kernel) (by decide +kernel), omTB_in (i := 769) (by decide +kernel) (by decide +kernel), omTB_in (i := 24) (by decide +kernel) (by decide +kernel), ⟨by decide +kernel, by decide +kernel⟩, by decide +kernel, by decide⟩
theorem mi_X11_leastTardiness : omMI yX11_leastTardiness cX11_leastTardiness 1 (some .int) 0 := ⟨omTB_in (i := 774) (by decide +kernel) (by decide +kernel), omTB_in (i := 772) (by decide +kernel) (by decide +kernel), omTB_in (i := 773) (by decide +kernel) (by decide +kernel), omTB_in (i := 24) (by decide +kernel) (by decide +kernel), ⟨by decide +kernel, by decide +kernel⟩, by decide +kernel, by decide⟩
theorem mi_X11_leastWithSetups : omMI yX11_leastWithSetups cX11_leastWithSetups 1 (some .int) 0 := ⟨omTB_in (i := 778) (by decide +kernel) (by decide +kernel), omTB_in (i := 776) (by decide +kernel) (by decide +kernel), omTB_in (i := 777) (by decide +kernel) (by decide +kernel), omTB_in (i := 24) (by decide +kernel) (by decide +kernel), ⟨by decide +kernel, by decide +kernel⟩, by decide +kernel, by decide⟩
theorem mi_X11_leastPreemptiveLateness : omMI yX11_leastPreemptiveLateness cX11_leastPreemptiveLateness 1 (some .int) 0 := ⟨omTB_in (i := 784) (by decide +kernel) (by decide +kernel), omTB_in (i := 782) (by decide +kernel) (by decide +kernel), omTB_in (i := 783) (by decide +kernel) (by decide +kernel), omTB_in (i := 24) (by decide +kernel) (by decide +kernel), ⟨by decide +kernel, by decide +kernel⟩, by decide +kernel, by decide⟩
theorem mi_X11_leastPreemptiveCompletions : omMI yX11_leastPreemptiveCompletions cX11_leastPreemptiveCompletions 1 (some .int) 0 := ⟨omTB_in (i := 790) (by decide +kernel) (by decide +kernel), omTB_in (i := 788) (by decide +kernel) (by decide +kernel), omTB_in (i := 789) (by decide +kernel) (by decide +kernel), omTB_in (i := 24) (by decide +kernel) (by decide +kernel), ⟨by decide +kernel, by decide +kernel⟩, by decide +kernel, by decide⟩
theorem mi_X11_canBeOnTime : omMI yX11_canBeOnTime cX11_canBeOnTime 2 (some .boolean) 1 := ⟨omTB_in (i := 448) (by decide +kernel) (by decide +kernel), omTB_in (i := 446) (by decide +kernel) (by decide +kernel), omTB_in (i := 447) (by decide +kernel) (by decide +kernel), omTB_in (i := 24) (by decide +kernel) (by decide +kernel), ⟨by decide +kernel, by decide +kernel⟩, by decide +kernel, by decide⟩
theorem mi_X11_fewestLateBySets : omMI yX11_fewestLateBySets cX11_fewestLateBySets 1 (some .int) 0 := ⟨omTB_in (i := 265) (by decide +kernel) (by decide +kernel), omTB_in (i := 263) (by decide +kernel) (by decide +kernel), omTB_in (i := 264) (by decide +kernel) (by decide +kernel), omTB_in (i := 24) (by decide +kernel) (by decide +kernel), ⟨by decide +kernel, by decide +kernel⟩, by decide +kernel, by decide⟩
theorem mi_X11_windowBound : omMI yX11_windowBound cX11_windowBound 2 (some .int) 1 := ⟨omTB_in (i := 710) (by decide +kernel) (by decide +kernel), omTB_in (i := 708) (by decide +kernel) (by decide +kernel), omTB_in (i := 709) (by decide +kernel) (by decide +kernel), omTB_in (i := 24) (by decide +kernel) (by decide +kernel), ⟨by decide +kernel, by decide +kernel⟩, by decide +kernel, by decide⟩
theorem mi_X11_windowDue : omMI yX11_windowDue cX11_windowDue 1 (some .int) 0 := ⟨omTB_in (i := 836) (by decide +kernel) (by decide +kernel), omTB_in (i := 834) (by decide +kernel) (by decide +kernel), omTB_in (i := 835) (by decide +kernel) (by decide +kernel), omTB_in (i := 24) (by decide +kernel) (by decide +kernel), ⟨by decide +kernel, by decide +kernel⟩, by decide +kernel, by decide⟩
theorem mi_X11_windowRelease : omMI yX11_windowRelease cX11_windowRelease 1 (some .int) 0 := ⟨omTB_in (i := 832) (by decide +kernel) (by decide +kernel), omTB_in (i := 830) (by decide +kernel) (by decide +kernel), omTB_in (i := 831) (by decide +kernel) (by decide +kernel), omTB_in (i := 24) (by decide +kernel) (by decide +kernel), ⟨by decide +kernel, by decide +kernel⟩, by decide +kernel, by decide⟩
theorem mi_X11_isWithin : omMS yX11_isWithin cX11_isWithin 3 (some .boolean) 3 := ⟨omTB_in (i := 327) (by decide +kernel) (by decide +kernel), omTB_in (i := 326) (by decide +kernel) (by decide +kernel), omTB_in (i := 24) (by decide +kernel) (by decide +kernel), ⟨by decide +kernel, by decide +kernel⟩, by decide +kernel, by decide⟩
theorem mi_X11_needJobInRange : omMS yX11_needJobInRange cX11_needJobInRange 5 none 5 := ⟨omTB_in (i := 324) (by decide +kernel) (by decide +kernel), omTB_in (i := 323) (by decide +kernel) (by decide +kernel), omTB_in (i := 24) (by decide +kernel) (by decide +kernel), ⟨by decide +kernel, by decide +kernel⟩, by decide +kernel, by decide⟩
theorem mi_X11_needJob : omMI yX11_needJob cX11_needJob 2 none 1 := ⟨omTB_in (i := 462) (by decide +kernel) (by decide +kernel), omTB_in (i := 461) (by decide +kernel) (by decide +kernel), omTB_in (i := 2) (by decide +kernel) (by decide +kernel), omTB_in (i := 24) (by decide +kernel) (by decide +kernel), ⟨by decide +kernel, by decide +kernel⟩, by decide +kernel, by decide⟩
theorem mi_X11_needPiece : omMI yX11_needPiece cX11_needPiece 2 none 1 := ⟨omTB_in (i := 801) (by decide +kernel) (by decide +kernel), omTB_in (i := 800) (by decide +kernel) (by decide +kernel), omTB_in (i := 22) (by decide +kernel) (by decide +kernel), omTB_in (i := 24) (by decide +kernel) (by decide +kernel), ⟨by decide +kernel, by decide +kernel⟩, by decide +kernel, by decide⟩
theorem mi_X11_needPlan : omMI yX11_needPlan cX11_needPlan 1 none 0 := ⟨omTB_in (i := 684) (by decide +kernel) (by decide +kernel), omTB_in (i := 683) (by decide +kernel) (by decide +kernel), omTB_in (i := 16) (by decide +kernel) (by decide +kernel), omTB_in (i := 24) (by decide +kernel) (by decide +kernel), ⟨by decide +kernel, by decide +kernel⟩, by decide +kernel, by decide⟩
theorem mi_X11_needSomeJob : omMI yX11_needSomeJob cX11_needSomeJob 1 none 0 := ⟨omTB_in (i := 483) (by decide +kernel) (by decide +kernel), omTB_in (i := 482) (by decide +kernel) (by decide +kernel), omTB_in (i := 3) (by decide +kernel) (by decide +kernel), omTB_in (i := 24) (by decide +kernel) (by decide +kernel), ⟨by decide +kernel, by decide +kernel⟩, by decide +kernel, by decide⟩
theorem mi_X11_needFewJobs : omMI yX11_needFewJobs cX11_needFewJobs 1 none 0 := ⟨omTB_in (i := 734) (by decide +kernel) (by decide +kernel), omTB_in (i := 733) (by decide +kernel) (by decide +kernel), omTB_in (i := 19) (by decide +kernel) (by decide +kernel), omTB_in (i := 24) (by decide +kernel) (by decide +kernel), ⟨by decide +kernel, by decide +kernel⟩, by decide +kernel, by decide⟩
theorem mi_X1_ofNoJob : omMI yX1_ofNoJob cX1_ofNoJob 1 (some .int) 0 := ⟨omTB_in (i := 524) (by decide +kernel) (by decide +kernel), omTB_in (i := 522) (by decide +kernel) (by decide +kernel), omTB_in (i := 523) (by decide +kernel) (by decide +kernel), omTB_in (i := 32) (by decide +kernel) (by decide +kernel), ⟨by decide +kernel, by decide +kernel⟩, by decide +kernel, by decide⟩
theorem mi_X1_with : omMI yX1_with cX1_with 6 (some .int) 4 := ⟨omTB_in (i := 530) (by decide +kernel) (by decide +kernel), omTB_in (i := 528) (by decide +kernel) (by decide +kernel), omTB_in (i := 529) (by decide +kernel) (by decide +kernel), omTB_in (i := 32) (by decide +kernel) (by decide +kernel), ⟨by decide +kernel, by decide +kernel⟩, by decide +kernel, by decide⟩
theorem mi_X2_put : omMI yX2_put cX2_put 7 none 6 := ⟨omTB_in (i := 415) (by decide +kernel) (by decide +kernel), omTB_in (i := 413) (by decide +kernel) (by decide +kernel), omTB_in (i := 414) (by decide +kernel) (by decide +kernel), omTB_in (i := 25) (by decide +kernel) (by decide +kernel), ⟨by decide +kernel, by decide +kernel⟩, by decide +kernel, by decide⟩
theorem mi_X2_remove : omMI yX2_remove cX2_remove 3 none 1 := ⟨omTB_in (i := 471) (by decide +kernel) (by decide +kernel), omTB_in (i := 469) (by decide +kernel) (by decide +kernel), omTB_in (i := 470) (by decide +kernel) (by decide +kernel), omTB_in (i := 25) (by decide +kernel) (by decide +kernel), ⟨by decide +kernel, by decide +kernel⟩, by decide +kernel, by decide⟩
theorem mi_X2_all : omMI yX2_all cX2_all 1 (some .int) 0 := ⟨omTB_in (i := 291) (by decide +kernel) (by decide +kernel), omTB_in (i := 289) (by decide +kernel) (by decide +kernel), omTB_in (i := 290) (by decide +kernel) (by decide +kernel), omTB_in (i := 25) (by decide +kernel) (by decide +kernel), ⟨by decide +kernel, by decide +kernel⟩, by decide +kernel, by decide⟩
theorem mi_X2_isIn : omMI yX2_isIn cX2_isIn 3 (some .boolean) 2 := ⟨omTB_in (i := 305) (by decide +kernel) (by decide +kernel), omTB_in (i := 303) (by decide +kernel) (by decide +kernel), omTB_in (i := 304) (by decide +kernel) (by decide +kernel), omTB_in (i := 25) (by decide +kernel) (by decide +kernel), ⟨by decide +kernel, by decide +kernel⟩, by decide +kernel, by decide⟩
theorem mi_X2_lengthOfSet : omMI yX2_lengthOfSet cX2_lengthOfSet 4 (some .int) 1 := ⟨omTB_in (i := 550) (by decide +kernel) (by decide +kernel), omTB_in (i := 548) (by decide +kernel) (by decide +kernel), omTB_in (i := 549) (by decide +kernel) (by decide +kernel), omTB_in (i := 25) (by decide +kernel) (by decide +kernel), ⟨by decide +kernel, by decide +kernel⟩, by decide +kernel, by decide⟩
theorem mi_X2_setupBehind : omMI yX2_setupBehind cX2_setupBehind 3 (some .int) 2 := ⟨omTB_in (i := 502) (by decide +kernel) (by decide +kernel), omTB_in (i := 500) (by decide +kernel) (by decide +kernel), omTB_in (i := 501) (by decide +kernel) (by decide +kernel), omTB_in (i := 25) (by decide +kernel) (by decide +kernel), ⟨by decide +kernel, by decide +kernel⟩, by decide +kernel, by decide⟩
theorem mi_X2_fillInOrder : omMI yX2_fillInOrder cX2_fillInOrder 5 none 2 := ⟨omTB_in (i := 275) (by decide +kernel) (by decide +kernel), omTB_in (i := 273) (by decide +kernel) (by decide +kernel), omTB_in (i := 274) (by decide +kernel) (by decide +kernel), omTB_in (i := 25) (by decide +kernel) (by decide +kernel), ⟨by decide +kernel, by decide +kernel⟩, by decide +kernel, by decide⟩
theorem mi_X3_putsBehind : omMI yX3_putsBehind cX3_putsBehind 4 (some .boolean) 3 := ⟨omTB_in (i := 279) (by decide +kernel) (by decide +kernel), omTB_in (i := 277) (by decide +kernel) (by decide +kernel), omTB_in (i := 278) (by decide +kernel) (by decide +kernel), omTB_in (i := 35) (by decide +kernel) (by decide +kernel), ⟨by decide +kernel, by decide +kernel⟩, by decide +kernel, by decide⟩
theorem mi_X4_least : omMI yX4_least cX4_least 4 (some .int) 3 := ⟨omTB_in (i := 740) (by decide +kernel) (by decide +kernel), omTB_in (i := 738) (by decide +kernel) (by decide +kernel), omTB_in (i := 739) (by decide +kernel) (by decide +kernel), omTB_in (i := 29) (by decide +kernel) (by decide +kernel), ⟨by decide +kernel, by decide +kernel⟩, by decide +kernel, by decide⟩
theorem mi_X4_tryAll : omMS yX4_tryAll cX4_tryAll 10 none 7 := ⟨omTB_in (i := 748) (by decide +kernel) (by decide +kernel), omTB_in (i := 747) (by decide +kernel) (by decide +kernel), omTB_in (i := 29) (by decide +kernel) (by decide +kernel), ⟨by decide +kernel, by decide +kernel⟩, by decide +kernel, by decide⟩
theorem mi_X4_endBehind : omMI yX4_endBehind cX4_endBehind 6 (some .int) 5 := ⟨omTB_in (i := 754) (by decide +kernel) (by decide +kernel), omTB_in (i := 753) (by decide +kernel) (by decide +kernel), omTB_in (i := 20) (by decide +kernel) (by decide +kernel), omTB_in (i := 29) (by decide +kernel) (by decide +kernel), ⟨by decide +kernel, by decide +kernel⟩, by decide +kernel, by decide⟩
theorem mi_X4_endInGaps : omMI yX4_endInGaps cX4_endInGaps 10 (some .int) 3 := ⟨omTB_in (i := 764) (by decide +kernel) (by decide +kernel), omTB_in (i := 763) (by decide +kernel) (by decide +kernel), omTB_in (i := 21) (by decide +kernel) (by decide +kernel), omTB_in (i := 29) (by decide +kernel) (by decide +kernel), ⟨by decide +kernel, by decide +kernel⟩, by decide +kernel, by decide⟩
theorem mi_X5_drop : omMI yX5_drop cX5_drop 1 none 0 := ⟨omTB_in (i := 419) (by decide +kernel) (by decide +kernel), omTB_in (i := 417) (by decide +kernel) (by decide +kernel), omTB_in (i := 418) (by decide +kernel) (by decide +kernel), omTB_in (i := 26) (by decide +kernel) (by decide +kernel), ⟨by decide +kernel, by decide +kernel⟩, by decide +kernel, by decide⟩
theorem mi_X5_begin : omMI yX5_begin cX5_begin 1 none 0 := ⟨omTB_in (i := 498) (by decide +kernel) (by decide +kernel), omTB_in (i := 496) (by decide +kernel) (by decide +kernel), omTB_in (i := 497) (by decide +kernel) (by decide +kernel), omTB_in (i := 26) (by decide +kernel) (by decide +kernel), ⟨by decide +kernel, by decide +kernel⟩, by decide +kernel, by decide⟩
theorem mi_X5_now : omMI yX5_now cX5_now 1 (some .int) 0 := ⟨omTB_in (i := 510) (by decide +kernel) (by decide +kernel), omTB_in (i := 508) (by decide +kernel) (by decide +kernel), omTB_in (i := 509) (by decide +kernel) (by decide +kernel), omTB_in (i := 26) (by decide +kernel) (by decide +kernel), ⟨by decide +kernel, by decide +kernel⟩, by decide +kernel, by decide⟩
theorem mi_X5_addWork : omMI yX5_addWork cX5_addWork 3 none 2 := ⟨omTB_in (i := 514) (by decide +kernel) (by decide +kernel), omTB_in (i := 512) (by decide +kernel) (by decide +kernel), omTB_in (i := 513) (by decide +kernel) (by decide +kernel), omTB_in (i := 26) (by decide +kernel) (by decide +kernel), ⟨by decide +kernel, by decide +kernel⟩, by decide +kernel, by decide⟩
theorem mi_X5_add : omMI yX5_add cX5_add 6 none 3 := ⟨omTB_in (i := 506) (by decide +kernel) (by decide +kernel), omTB_in (i := 504) (by decide +kernel) (by decide +kernel), omTB_in (i := 505) (by decide +kernel) (by decide +kernel), omTB_in (i := 26) (by decide +kernel) (by decide +kernel), ⟨by decide +kernel, by decide +kernel⟩, by decide +kernel, by decide⟩
theorem mi_X5_follow : omMI yX5_follow cX5_follow 7 none 3 := ⟨omTB_in (i := 494) (by decide +kernel) (by decide +kernel), omTB_in (i := 492) (by decide +kernel) (by decide +kernel), omTB_in (i := 493) (by decide +kernel) (by decide +kernel), omTB_in (i := 26) (by decide +kernel) (by decide +kernel), ⟨by decide +kernel, by decide +kernel⟩, by decide +kernel, by decide⟩
theorem mi_X5_total : omMI yX5_total cX5_total 5 (some .int) 2 := ⟨omTB_in (i := 520) (by decide +kernel) (by decide +kernel), omTB_in (i := 518) (by decide +kernel) (by decide +kernel), omTB_in (i := 519) (by decide +kernel) (by decide +kernel), omTB_in (i := 26) (by decide +kernel) (by decide +kernel), ⟨by decide +kernel, by decide +kernel⟩, by decide +kernel, by decide⟩
theorem mi_X6_make : omMI yX6_make cX6_make 9 none 3 := ⟨omTB_in (i := 642) (by decide +kernel) (by decide +kernel), omTB_in (i := 640) (by decide +kernel) (by decide +kernel), omTB_in (i := 641) (by decide +kernel) (by decide +kernel), omTB_in (i := 28) (by decide +kernel) (by decide +kernel), ⟨by decide +kernel, by decide +kernel⟩, by decide +kernel, by decide⟩
theorem mi_X6_isOpen : omMI yX6_isOpen cX6_isOpen 4 (some .boolean) 3 := ⟨omTB_in (i := 658) (by decide +kernel) (by decide +kernel), omTB_in (i := 657) (by decide +kernel) (by decide +kernel), omTB_in (i := 14) (by decide +kernel) (by decide +kernel), omTB_in (i := 28) (by decide +kernel) (by decide +kernel), ⟨by decide +kernel, by decide +kernel⟩, by decide +kernel, by decide⟩
theorem mi_X6_firstByDateAt : omMI yX6_firstByDateAt cX6_firstByDateAt 4 (some .int) 2 := ⟨omTB_in (i := 662) (by decide +kernel) (by decide +kernel), omTB_in (i := 661) (by decide +kernel) (by decide +kernel), omTB_in (i := 15) (by decide +kernel) (by decide +kernel), omTB_in (i := 28) (by decide +kernel) (by decide +kernel), ⟨by decide +kernel, by decide +kernel⟩, by decide +kernel, by decide⟩
theorem mi_X6_shortestAt : omMI yX6_shortestAt cX6_shortestAt 6 (some .int) 2 := ⟨omTB_in (i := 653) (by decide +kernel) (by decide +kernel), omTB_in (i := 652) (by decide +kernel) (by decide +kernel), omTB_in (i := 13) (by decide +kernel) (by decide +kernel), omTB_in (i := 28) (by decide +kernel) (by decide +kernel), ⟨by decide +kernel, by decide +kernel⟩, by decide +kernel, by decide⟩
theorem mi_X6_nextRelease : omMS yX6_nextRelease cX6_nextRelease 4 (some .int) 2 := ⟨omTB_in (i := 665) (by decide +kernel) (by decide +kernel), omTB_in (i := 664) (by decide +kernel) (by decide +kernel), omTB_in (i := 28) (by decide +kernel) (by decide +kernel), ⟨by decide +kernel, by decide +kernel⟩, by decide +kernel, by decide⟩
theorem mi_X7_orderByDueDates : omMI yX7_orderByDueDates cX7_orderByDueDates 2 none 1 := ⟨omTB_in (i := 488) (by decide +kernel) (by decide +kernel), omTB_in (i := 486) (by decide +kernel) (by decide +kernel), omTB_in (i := 487) (by decide +kernel) (by decide +kernel), omTB_in (i := 27) (by decide +kernel) (by decide +kernel), ⟨by decide +kernel, by decide +kernel⟩, by decide +kernel, by decide⟩
theorem mi_X7_orderByRatios : omMI yX7_orderByRatios cX7_orderByRatios 2 none 1 := ⟨omTB_in (i := 567) (by decide +kernel) (by decide +kernel), omTB_in (i := 565) (by decide +kernel) (by decide +kernel), omTB_in (i := 566) (by decide +kernel) (by decide +kernel), omTB_in (i := 27) (by decide +kernel) (by decide +kernel), ⟨by decide +kernel, by decide +kernel⟩, by decide +kernel, by decide⟩
theorem mi_X7_orderWithFewestLate : omMI yX7_orderWithFewestLate cX7_orderWithFewestLate 7 (some .int) 1 := ⟨omTB_in (i := 546) (by decide +kernel) (by decide +kernel), omTB_in (i := 544) (by decide +kernel) (by decide +kernel), omTB_in (i := 545) (by decide +kernel) (by decide +kernel), omTB_in (i := 27) (by decide +kernel) (by decide +kernel), ⟨by decide +kernel, by decide +kernel⟩, by decide +kernel, by decide⟩
theorem mi_X7_longestOf : omMS yX7_longestOf cX7_longestOf 5 (some .int) 2 := ⟨omTB_in (i := 554) (by decide +kernel) (by decide +kernel), omTB_in (i := 553) (by decide +kernel) (by decide +kernel), omTB_in (i := 27) (by decide +kernel) (by decide +kernel), ⟨by decide +kernel, by decide +kernel⟩, by decide +kernel, by decide⟩
theorem mi_X7_putDroppedBehind : omMI yX7_putDroppedBehind cX7_putDroppedBehind 6 none 3 := ⟨omTB_in (i := 559) (by decide +kernel) (by decide +kernel), omTB_in (i := 558) (by decide +kernel) (by decide +kernel), omTB_in (i := 4) (by decide +kernel) (by decide +kernel), omTB_in (i := 27) (by decide +kernel) (by decide +kernel), ⟨by decide +kernel, by decide +kernel⟩, by decide +kernel, by decide⟩
theorem mi_X7_orderByTardiness : omMI yX7_orderByTardiness cX7_orderByTardiness 6 none 1 := ⟨omTB_in (i := 579) (by decide +kernel) (by decide +kernel), omTB_in (i := 577) (by decide +kernel) (by decide +kernel), omTB_in (i := 578) (by decide +kernel) (by decide +kernel), omTB_in (i := 27) (by decide +kernel) (by decide +kernel), ⟨by decide +kernel, by decide +kernel⟩, by decide +kernel, by decide⟩
theorem mi_X7_fillLeastTardiness : omMI yX7_fillLeastTardiness cX7_fillLeastTardiness 5 none 1 := ⟨omTB_in (i := 583) (by decide +kernel) (by decide +kernel), omTB_in (i := 582) (by decide +kernel) (by decide +kernel), omTB_in (i := 5) (by decide +kernel) (by decide +kernel), omTB_in (i := 27) (by decide +kernel) (by decide +kernel), ⟨by decide +kernel, by decide +kernel⟩, by decide +kernel, by decide⟩
theorem mi_X7_tardinessBy : omMI yX7_tardinessBy cX7_tardinessBy 5 (some .int) 4 := ⟨omTB_in (i := 589) (by decide +kernel) (by decide +kernel), omTB_in (i := 588) (by decide +kernel) (by decide +kernel), omTB_in (i := 6) (by decide +kernel) (by decide +kernel), omTB_in (i := 27) (by decide +kernel) (by decide +kernel), ⟨by decide +kernel, by decide +kernel⟩, by decide +kernel, by decide⟩
theorem mi_X7_orderByFamilies : omMI yX7_orderByFamilies cX7_orderByFamilies 8 none 1 := ⟨omTB_in (i := 604) (by decide +kernel) (by decide +kernel), omTB_in (i := 602) (by decide +kernel) (by decide +kernel), omTB_in (i := 603) (by decide +kernel) (by decide +kernel), omTB_in (i := 27) (by decide +kernel) (by decide +kernel), ⟨by decide +kernel, by decide +kernel⟩, by decide +kernel, by decide⟩
theorem mi_X7_fillMustBeDone : omMI yX7_fillMustBeDone cX7_fillMustBeDone 5 none 1 := ⟨omTB_in (i := 608) (by decide +kernel) (by decide +kernel), omTB_in (i := 607) (by decide +kernel) (by decide +kernel), omTB_in (i := 7) (by decide +kernel) (by decide +kernel), omTB_in (i := 27) (by decide +kernel) (by decide +kernel), ⟨by decide +kernel, by decide +kernel⟩, by decide +kernel, by decide⟩
theorem mi_X7_fillLeastLateness : omMI yX7_fillLeastLateness cX7_fillLeastLateness 4 none 1 := ⟨omTB_in (i := 612) (by decide +kernel) (by decide +kernel), omTB_in (i := 611) (by decide +kernel) (by decide +kernel), omTB_in (i := 8) (by decide +kernel) (by decide +kernel), omTB_in (i := 27) (by decide +kernel) (by decide +kernel), ⟨by decide +kernel, by decide +kernel⟩, by decide +kernel, by decide⟩
theorem mi_X7_keepsFamilyOrders : omMI yX7_keepsFamilyOrders cX7_keepsFamilyOrders 4 (some .boolean) 2 := ⟨omTB_in (i := 620) (by decide +kernel) (by decide +kernel), omTB_in (i := 619) (by decide +kernel) (by decide +kernel), omTB_in (i := 9) (by decide +kernel) (by decide +kernel), omTB_in (i := 27) (by decide +kernel) (by decide +kernel), ⟨by decide +kernel, by decide +kernel⟩, by decide +kernel, by decide⟩
theorem mi_X7_leastLatenessFrom : omMI yX7_leastLatenessFrom cX7_leastLatenessFrom 6 (some .int) 3 := ⟨omTB_in (i := 624) (by decide +kernel) (by decide +kernel), omTB_in (i := 623) (by decide +kernel) (by decide +kernel), omTB_in (i := 10) (by decide +kernel) (by decide +kernel), omTB_in (i := 27) (by decide +kernel) (by decide +kernel), ⟨by decide +kernel, by decide +kernel⟩, by decide +kernel, by decide⟩
theorem mi_X7_latenessBy : omMI yX7_latenessBy cX7_latenessBy 6 (some .int) 4 := ⟨omTB_in (i := 632) (by decide +kernel) (by decide +kernel), omTB_in (i := 631) (by decide +kernel) (by decide +kernel), omTB_in (i := 12) (by decide +kernel) (by decide +kernel), omTB_in (i := 27) (by decide +kernel) (by decide +kernel), ⟨by decide +kernel, by decide +kernel⟩, by decide +kernel, by decide⟩
theorem mi_X7_isNext : omMI yX7_isNext cX7_isNext 4 (some .boolean) 3 := ⟨omTB_in (i := 628) (by decide +kernel) (by decide +kernel), omTB_in (i := 627) (by decide +kernel) (by decide +kernel), omTB_in (i := 11) (by decide +kernel) (by decide +kernel), omTB_in (i := 27) (by decide +kernel) (by decide +kernel), ⟨by decide +kernel, by decide +kernel⟩, by decide +kernel, by decide⟩
theorem mi_X7_state : omMS yX7_state cX7_state 2 (some .int) 2 := ⟨omTB_in (i := 615) (by decide +kernel) (by decide +kernel), omTB_in (i := 614) (by decide +kernel) (by decide +kernel), omTB_in (i := 27) (by decide +kernel) (by decide +kernel), ⟨by decide +kernel, by decide +kernel⟩, by decide +kernel, by decide⟩
theorem mi_X8_isOnTime : omMI yX8_isOnTime cX8_isOnTime 3 (some .boolean) 2 := ⟨omTB_in (i := 454) (by decide +kernel) (by decide +kernel), omTB_in (i := 452) (by decide +kernel) (by decide +kernel), omTB_in (i := 453) (by decide +kernel) (by decide +kernel), omTB_in (i := 33) (by decide +kernel) (by decide +kernel), ⟨by decide +kernel, by decide +kernel⟩, by decide +kernel, by decide⟩
theorem mi_X8_mostOnTime : omMI yX8_mostOnTime cX8_mostOnTime 4 (some .int) 1 := ⟨omTB_in (i := 269) (by decide +kernel) (by decide +kernel), omTB_in (i := 267) (by decide +kernel) (by decide +kernel), omTB_in (i := 268) (by decide +kernel) (by decide +kernel), omTB_in (i := 33) (by decide +kernel) (by decide +kernel), ⟨by decide +kernel, by decide +kernel⟩, by decide +kernel, by decide⟩
theorem mi_X8_isOnTimeByDue : omMI yX8_isOnTimeByDue cX8_isOnTimeByDue 6 (some .boolean) 2 := ⟨omTB_in (i := 301) (by decide +kernel) (by decide +kernel), omTB_in (i := 300) (by decide +kernel) (by decide +kernel), omTB_in (i := 0) (by decide +kernel) (by decide +kernel), omTB_in (i := 33) (by decide +kernel) (by decide +kernel), ⟨by decide +kernel, by decide +kernel⟩, by decide +kernel, by decide⟩
theorem mi_X10_findGreatest : omMI yX10_findGreatest cX10_findGreatest 5 none 2 := ⟨omTB_in (i := 714) (by decide +kernel) (by decide +kernel), omTB_in (i := 712) (by decide +kernel) (by decide +kernel), omTB_in (i := 713) (by decide +kernel) (by decide +kernel), omTB_in (i := 34) (by decide +kernel) (by decide +kernel), ⟨by decide +kernel, by decide +kernel⟩, by decide +kernel, by decide⟩
theorem mi_X10_tryWindow : omMI yX10_tryWindow cX10_tryWindow 7 none 4 := ⟨omTB_in (i := 719) (by decide +kernel) (by decide +kernel), omTB_in (i := 718) (by decide +kernel) (by decide +kernel), omTB_in (i := 17) (by decide +kernel) (by decide +kernel), omTB_in (i := 34) (by decide +kernel) (by decide +kernel), ⟨by decide +kernel, by decide +kernel⟩, by decide +kernel, by decide⟩
theorem mi_X10_isBetter : omMI yX10_isBetter cX10_isBetter 4 (some .boolean) 3 := ⟨omTB_in (i := 726) (by decide +kernel) (by decide +kernel), omTB_in (i := 725) (by decide +kernel) (by decide +kernel), omTB_in (i := 18) (by decide +kernel) (by decide +kernel), omTB_in (i := 34) (by decide +kernel) (by decide +kernel), ⟨by decide +kernel, by decide +kernel⟩, by decide +kernel, by decide⟩
theorem mi_X10_lengthsWithin : omMS yX10_lengthsWithin cX10_lengthsWithin 7 (some .int) 4 := ⟨omTB_in (i := 722) (by decide +kernel) (by decide +kernel), omTB_in (i := 721) (by decide +kernel) (by decide +kernel), omTB_in (i := 34) (by decide +kernel) (by decide +kernel), ⟨by decide +kernel, by decide +kernel⟩, by decide +kernel, by decide⟩
theorem mi_L_draw : omMS yL_draw cL_draw 2 (some .int) 2 := ⟨omTB_in (i := 308) (by decide +kernel) (by decide +kernel), omTB_in (i := 307) (by decide +kernel) (by decide +kernel), omTB_in (i := 23) (by decide +kernel) (by decide +kernel), ⟨by decide +kernel, by decide +kernel⟩, by decide +kernel, by decide⟩
theorem mi_L_step : omMS yL_step cL_step 9 (some .boolean) 5 := ⟨omTB_in (i := 314) (by decide +kernel) (by decide +kernel), omTB_in (i := 313) (by decide +kernel) (by decide +kernel), omTB_in (i := 23) (by decide +kernel) (by decide +kernel), ⟨by decide +kernel, by decide +kernel⟩, by decide +kernel, by decide⟩
theorem mi_L_tells : omMS yL_tells cL_tells 4 none 4 := ⟨omTB_in (i := 317) (by decide +kernel) (by decide +kernel), omTB_in (i := 316) (by decide +kernel) (by decide +kernel), omTB_in (i := 23) (by decide +kernel) (by decide +kernel), ⟨by decide +kernel, by decide +kernel⟩, by decide +kernel, by decide⟩
theorem mi_L_plans : omMS yL_plans cL_plans 2 (some .int) 2 := ⟨omTB_in (i := 475) (by decide +kernel) (by decide +kernel), omTB_in (i := 474) (by decide +kernel) (by decide +kernel), omTB_in (i := 23) (by decide +kernel) (by decide +kernel), ⟨by decide +kernel, by decide +kernel⟩, by decide +kernel, by decide⟩
theorem mi_L_told : omMS yL_told cL_told 2 (some .int) 2 := ⟨omTB_in (i := 676) (by decide +kernel) (by decide +kernel), omTB_in (i := 675) (by decide +kernel) (by decide +kernel), omTB_in (i := 23) (by decide +kernel) (by decide +kernel), ⟨by decide +kernel, by decide +kernel⟩, by decide +kernel, by decide⟩
theorem mi_L_isBest : omMS yL_isBest cL_isBest 4 (some .boolean) 3 := ⟨omTB_in (i := 706) (by decide +kernel) (by decide +kernel), omTB_in (i := 705) (by decide +kernel) (by decide +kernel), omTB_in (i := 23) (by decide +kernel) (by decide +kernel), ⟨by decide +kernel, by decide +kernel⟩, by decide +kernel, by decide⟩
theorem mi_L_isPlan : omMS yL_isPlan cL_isPlan 8 (some .boolean) 3 := ⟨omTB_in (i := 793) (by decide +kernel) (by decide +kernel), omTB_in (i := 792) (by decide +kernel) (by decide +kernel), omTB_in (i := 23) (by decide +kernel) (by decide +kernel), ⟨by decide +kernel, by decide +kernel⟩, by decide +kernel, by decide⟩
theorem mi_L_areJobs : omMS yL_areJobs cL_areJobs 13 (some .boolean) 2 := ⟨omTB_in (i := 817) (by decide +kernel) (by decide +kernel), omTB_in (i := 816) (by decide +kernel) (by decide +kernel), omTB_in (i := 23) (by decide +kernel) (by decide +kernel), ⟨by decide +kernel, by decide +kernel⟩, by decide +kernel, by decide⟩
theorem mi_L_isWindow : omMS yL_isWindow cL_isWindow 4 (some .boolean) 2 := ⟨omTB_in (i := 828) (by decide +kernel) (by decide +kernel), omTB_in (i := 827) (by decide +kernel) (by decide +kernel), omTB_in (i := 23) (by decide +kernel) (by decide +kernel), ⟨by decide +kernel, by decide +kernel⟩, by decide +kernel, by decide⟩
theorem mi_J6_bitCount_0f7a4 : omMS yJ6_bitCount_0f7a4 cJ6_bitCount_0f7a4 1 (some .int) 1 := ⟨omTB_in (i := 294) (by decide +kernel) (by decide +kernel), omTB_in (i := 293) (by decide +kernel) (by decide +kernel), omTB_in (i := 37) (by decide +kernel) (by decide +kernel), ⟨by decide +kernel, by decide +kernel⟩, by decide +kernel, by decide⟩
theorem ml_X11_58 : Cond.methodLink RX11 58 yX11_needJobInRange ∈ omTB := omTB_in (i := 322) (by decide +kernel) (by decide +kernel)
theorem fi_X11_12 : omFI RX11 12 7 0 := ⟨RX11, TX11, 7, rfl, by decide, fx_X11, omTB_in (i := 232) (by decide +kernel) (by decide +kernel), rfl⟩
theorem fi_X11_62 : omFI RX11 62 0 0 := ⟨RX2, TX2, 7, rfl, by decide, fx_X2, omTB_in (i := 61) (by decide +kernel) (by decide +kernel), rfl⟩
theorem fp_X11_62 : omFP RX11 62 0 0 .int := ⟨RX2, TX2, 7, tyX2, rfl, by decide, fx_X2, omTB_in (i := 61) (by decide +kernel) (by decide +kernel), rfl, tyX2_ok, nmX2, rfl, rfl⟩
theorem ml_X11_73 : Cond.methodLink RX11 73 yX2_put ∈ omTB := omTB_in (i := 412) (by decide +kernel) (by decide +kernel)
theorem fi_X11_19 : omFI RX11 19 7 1 := ⟨RX11, TX11, 7, rfl, by decide, fx_X11, omTB_in (i := 233) (by decide +kernel) (by decide +kernel), rfl⟩
theorem ml_X11_77 : Cond.methodLink RX11 77 yX5_drop ∈ omTB := omTB_in (i := 416) (by decide +kernel) (by decide +kernel)
theorem ml_X11_80 : Cond.methodLink RX11 80 yX11_needJob ∈ omTB := omTB_in (i := 459) (by decide +kernel) (by decide +kernel)
theorem ml_X11_84 : Cond.methodLink RX11 84 yX2_remove ∈ omTB := omTB_in (i := 468) (by decide +kernel) (by decide +kernel)
theorem ml_X11_87 : Cond.methodLink RX11 87 yX11_isWithin ∈ omTB := omTB_in (i := 325) (by decide +kernel) (by decide +kernel)
theorem fi_X11_101 : omFI RX11 101 0 6 := ⟨RX2, TX2, 7, rfl, by decide, fx_X2, omTB_in (i := 96) (by decide +kernel) (by decide +kernel), rfl⟩
theorem ml_X11_105 : Cond.methodLink RX11 105 yX11_needSomeJob ∈ omTB := omTB_in (i := 480) (by decide +kernel) (by decide +kernel)
theorem fi_X11_26 : omFI RX11 26 7 2 := ⟨RX11, TX11, 7, rfl, by decide, fx_X11, omTB_in (i := 234) (by decide +kernel) (by decide +kernel), rfl⟩
theorem ml_X11_108 : Cond.methodLink RX11 108 yX7_orderByDueDates ∈ omTB := omTB_in (i := 485) (by decide +kernel) (by decide +kernel)
theorem fi_X11_112 : omFI RX11 112 4 0 := ⟨RX7, TX7, 5, rfl, by decide, fx_X7, omTB_in (i := 151) (by decide +kernel) (by decide +kernel), rfl⟩
theorem ml_X11_115 : Cond.methodLink RX11 115 yX5_follow ∈ omTB := omTB_in (i := 491) (by decide +kernel) (by decide +kernel)
theorem gs_X11_119 : Cond.fieldLink RX11 119 RX1 "GREATEST_LATENESS" "LOneMachine$Cost;" ∈ omTB := omTB_in (i := 515) (by decide +kernel) (by decide +kernel)
theorem ml_X11_125 : Cond.methodLink RX11 125 yX5_total ∈ omTB := omTB_in (i := 517) (by decide +kernel) (by decide +kernel)
theorem ml_X11_129 : Cond.methodLink RX11 129 yX7_orderWithFewestLate ∈ omTB := omTB_in (i := 543) (by decide +kernel) (by decide +kernel)
theorem ml_X11_133 : Cond.methodLink RX11 133 yX7_orderByRatios ∈ omTB := omTB_in (i := 564) (by decide +kernel) (by decide +kernel)
theorem gs_X11_136 : Cond.fieldLink RX11 136 RX1 "WEIGHTED_COMPLETIONS" "LOneMachine$Cost;" ∈ omTB := omTB_in (i := 570) (by decide +kernel) (by decide +kernel)
theorem ml_X11_139 : Cond.methodLink RX11 139 yX7_orderByTardiness ∈ omTB := omTB_in (i := 576) (by decide +kernel) (by decide +kernel)
theorem gs_X11_142 : Cond.fieldLink RX11 142 RX1 "WEIGHTED_TARDINESS" "LOneMachine$Cost;" ∈ omTB := omTB_in (i := 596) (by decide +kernel) (by decide +kernel)
theorem ml_X11_145 : Cond.methodLink RX11 145 yX7_orderByFamilies ∈ omTB := omTB_in (i := 601) (by decide +kernel) (by decide +kernel)
theorem fi_X11_33 : omFI RX11 33 7 3 := ⟨RX11, TX11, 7, rfl, by decide, fx_X11, omTB_in (i := 235) (by decide +kernel) (by decide +kernel), rfl⟩
theorem ml_X11_148 : Cond.methodLink RX11 148 yX6_make ∈ omTB := omTB_in (i := 639) (by decide +kernel) (by decide +kernel)
theorem gs_X11_152 : Cond.fieldLink RX11 152 RX1 "COMPLETIONS" "LOneMachine$Cost;" ∈ omTB := omTB_in (i := 673) (by decide +kernel) (by decide +kernel)
theorem fi_X11_155 : omFI RX11 155 2 0 := ⟨RX5, TX5, 6, rfl, by decide, fx_X5, omTB_in (i := 120) (by decide +kernel) (by decide +kernel), rfl⟩
theorem fi_X11_159 : omFI RX11 159 2 1 := ⟨RX5, TX5, 6, rfl, by decide, fx_X5, omTB_in (i := 122) (by decide +kernel) (by decide +kernel), rfl⟩
theorem ml_X11_160 : Cond.methodLink RX11 160 yX11_needPiece ∈ omTB := omTB_in (i := 798) (by decide +kernel) (by decide +kernel)
theorem fi_X11_163 : omFI RX11 163 2 2 := ⟨RX5, TX5, 6, rfl, by decide, fx_X5, omTB_in (i := 124) (by decide +kernel) (by decide +kernel), rfl⟩
theorem fi_X11_166 : omFI RX11 166 2 3 := ⟨RX5, TX5, 6, rfl, by decide, fx_X5, omTB_in (i := 126) (by decide +kernel) (by decide +kernel), rfl⟩
theorem fi_X11_169 : omFI RX11 169 2 4 := ⟨RX5, TX5, 6, rfl, by decide, fx_X5, omTB_in (i := 128) (by decide +kernel) (by decide +kernel), rfl⟩
theorem ml_X11_172 : Cond.methodLink RX11 172 yX11_needPlan ∈ omTB := omTB_in (i := 681) (by decide +kernel) (by decide +kernel)
theorem fi_X11_175 : omFI RX11 175 2 5 := ⟨RX5, TX5, 6, rfl, by decide, fx_X5, omTB_in (i := 130) (by decide +kernel) (by decide +kernel), rfl⟩
theorem fi_X11_178 : omFI RX11 178 0 2 := ⟨RX2, TX2, 7, rfl, by decide, fx_X2, omTB_in (i := 82) (by decide +kernel) (by decide +kernel), rfl⟩
theorem gs_X11_181 : Cond.fieldLink RX11 181 RX1 "LATE_JOBS" "LOneMachine$Cost;" ∈ omTB := omTB_in (i := 686) (by decide +kernel) (by decide +kernel)
theorem ml_X11_184 : Cond.methodLink RX11 184 yX11_needFewJobs ∈ omTB := omTB_in (i := 731) (by decide +kernel) (by decide +kernel)
theorem fi_X11_40 : omFI RX11 40 7 4 := ⟨RX11, TX11, 7, rfl, by decide, fx_X11, omTB_in (i := 236) (by decide +kernel) (by decide +kernel), rfl⟩
theorem gs_X11_187 : Cond.fieldLink RX11 187 RX9 "IN_A_ROW" "LOneMachine$Way;" ∈ omTB := omTB_in (i := 736) (by decide +kernel) (by decide +kernel)
theorem ml_X11_193 : Cond.methodLink RX11 193 yX4_least ∈ omTB := omTB_in (i := 737) (by decide +kernel) (by decide +kernel)
theorem gs_X11_197 : Cond.fieldLink RX11 197 RX9 "WITH_SETUPS" "LOneMachine$Way;" ∈ omTB := omTB_in (i := 779) (by decide +kernel) (by decide +kernel)
theorem gs_X11_200 : Cond.fieldLink RX11 200 RX9 "AS_PRIORITIES" "LOneMachine$Way;" ∈ omTB := omTB_in (i := 785) (by decide +kernel) (by decide +kernel)
theorem ml_X11_203 : Cond.methodLink RX11 203 yX2_all ∈ omTB := omTB_in (i := 449) (by decide +kernel) (by decide +kernel)
theorem fi_X11_47 : omFI RX11 47 7 5 := ⟨RX11, TX11, 7, rfl, by decide, fx_X11, omTB_in (i := 237) (by decide +kernel) (by decide +kernel), rfl⟩
theorem ml_X11_209 : Cond.methodLink RX11 209 yX8_isOnTime ∈ omTB := omTB_in (i := 451) (by decide +kernel) (by decide +kernel)
theorem ml_X11_213 : Cond.methodLink RX11 213 yX8_mostOnTime ∈ omTB := omTB_in (i := 266) (by decide +kernel) (by decide +kernel)
theorem fi_X11_54 : omFI RX11 54 7 6 := ⟨RX11, TX11, 7, rfl, by decide, fx_X11, omTB_in (i := 238) (by decide +kernel) (by decide +kernel), rfl⟩
theorem ml_X11_216 : Cond.methodLink RX11 216 yX10_findGreatest ∈ omTB := omTB_in (i := 711) (by decide +kernel) (by decide +kernel)
theorem fi_X11_220 : omFI RX11 220 6 0 := ⟨RX10, TX10, 3, rfl, by decide, fx_X10, omTB_in (i := 220) (by decide +kernel) (by decide +kernel), rfl⟩
theorem fi_X11_223 : omFI RX11 223 6 1 := ⟨RX10, TX10, 3, rfl, by decide, fx_X10, omTB_in (i := 222) (by decide +kernel) (by decide +kernel), rfl⟩
theorem fi_X11_225 : omFI RX11 225 6 2 := ⟨RX10, TX10, 3, rfl, by decide, fx_X10, omTB_in (i := 224) (by decide +kernel) (by decide +kernel), rfl⟩
theorem gs_X1_5 : Cond.fieldLink RX1 5 RX1 "GREATEST_LATENESS" "LOneMachine$Cost;" ∈ omTB := omTB_in (i := 525) (by decide +kernel) (by decide +kernel)
theorem kc_X1_40 : Cond.constant RX1 40 (omi (-1000000)) ∈ omTB := omTB_in (i := 526) (by decide +kernel) (by decide +kernel)
theorem fi_X1_41 : omFI RX1 41 0 2 := ⟨RX2, TX2, 7, rfl, by decide, fx_X2, omTB_in (i := 81) (by decide +kernel) (by decide +kernel), rfl⟩
theorem gs_X1_47 : Cond.fieldLink RX1 47 RX0 "$SwitchMap$OneMachine$Cost" "[I" ∈ omTB := omTB_in (i := 531) (by decide +kernel) (by decide +kernel)
theorem ml_X1_52 : Cond.methodLink RX1 52 ⟨RX1, "ordinal", "()I"⟩ ∈ omTB := omTB_in (i := 533) (by decide +kernel) (by decide +kernel)
theorem ml_X1_56 : Cond.methodLink RX1 56 Lib.Math.max.name ∈ omTB := omTB_in (i := 536) (by decide +kernel) (by decide +kernel)
theorem fi_X1_62 : omFI RX1 62 0 3 := ⟨RX2, TX2, 7, rfl, by decide, fx_X2, omTB_in (i := 85) (by decide +kernel) (by decide +kernel), rfl⟩
theorem fi_X2_9 : omFI RX2 9 0 1 := ⟨RX2, TX2, 7, rfl, by decide, fx_X2, omTB_in (i := 68) (by decide +kernel) (by decide +kernel), rfl⟩
theorem fi_X2_15 : omFI RX2 15 0 2 := ⟨RX2, TX2, 7, rfl, by decide, fx_X2, omTB_in (i := 76) (by decide +kernel) (by decide +kernel), rfl⟩
theorem fi_X2_18 : omFI RX2 18 0 3 := ⟨RX2, TX2, 7, rfl, by decide, fx_X2, omTB_in (i := 83) (by decide +kernel) (by decide +kernel), rfl⟩
theorem fi_X2_21 : omFI RX2 21 0 4 := ⟨RX2, TX2, 7, rfl, by decide, fx_X2, omTB_in (i := 86) (by decide +kernel) (by decide +kernel), rfl⟩
theorem fi_X2_24 : omFI RX2 24 0 5 := ⟨RX2, TX2, 7, rfl, by decide, fx_X2, omTB_in (i := 91) (by decide +kernel) (by decide +kernel), rfl⟩
theorem fi_X2_30 : omFI RX2 30 0 0 := ⟨RX2, TX2, 7, rfl, by decide, fx_X2, omTB_in (i := 62) (by decide +kernel) (by decide +kernel), rfl⟩
theorem ml_X2_34 : Cond.methodLink RX2 34 yX2_put ∈ omTB := omTB_in (i := 472) (by decide +kernel) (by decide +kernel)
theorem fp_X2_30 : omFP RX2 30 0 0 .int := ⟨RX2, TX2, 7, tyX2, rfl, by decide, fx_X2, omTB_in (i := 62) (by decide +kernel) (by decide +kernel), rfl, tyX2_ok, nmX2, rfl, rfl⟩
theorem ml_X2_38 : Cond.methodLink RX2 38 yX2_isIn ∈ omTB := omTB_in (i := 551) (by decide +kernel) (by decide +kernel)
theorem fi_X2_27 : omFI RX2 27 0 6 := ⟨RX2, TX2, 7, rfl, by decide, fx_X2, omTB_in (i := 95) (by decide +kernel) (by decide +kernel), rfl⟩
theorem ml_X2_42 : Cond.methodLink RX2 42 yX3_putsBehind ∈ omTB := omTB_in (i := 276) (by decide +kernel) (by decide +kernel)
theorem gs_X3_32 : Cond.fieldLink RX3 32 RX0 "$SwitchMap$OneMachine$Key" "[I" ∈ omTB := omTB_in (i := 280) (by decide +kernel) (by decide +kernel)
theorem ml_X3_38 : Cond.methodLink RX3 38 ⟨RX3, "ordinal", "()I"⟩ ∈ omTB := omTB_in (i := 282) (by decide +kernel) (by decide +kernel)
theorem fi_X3_42 : omFI RX3 42 0 2 := ⟨RX2, TX2, 7, rfl, by decide, fx_X2, omTB_in (i := 78) (by decide +kernel) (by decide +kernel), rfl⟩
theorem fi_X3_47 : omFI RX3 47 0 4 := ⟨RX2, TX2, 7, rfl, by decide, fx_X2, omTB_in (i := 89) (by decide +kernel) (by decide +kernel), rfl⟩
theorem fi_X3_50 : omFI RX3 50 0 3 := ⟨RX2, TX2, 7, rfl, by decide, fx_X2, omTB_in (i := 84) (by decide +kernel) (by decide +kernel), rfl⟩
theorem fi_X3_53 : omFI RX3 53 0 1 := ⟨RX2, TX2, 7, rfl, by decide, fx_X2, omTB_in (i := 72) (by decide +kernel) (by decide +kernel), rfl⟩
theorem fp_X4_21 : omFP RX4 21 1 1 (.object "OneMachine$Way") := ⟨RX4, TX4, 4, tyX4, rfl, by decide, fx_X4, omTB_in (i := 191) (by decide +kernel) (by decide +kernel), rfl, tyX4_ok, nmX4, rfl, rfl⟩
theorem fp_X4_30 : omFP RX4 30 1 2 (.object "OneMachine$Cost") := ⟨RX4, TX4, 4, tyX4, rfl, by decide, fx_X4, omTB_in (i := 192) (by decide +kernel) (by decide +kernel), rfl, tyX4_ok, nmX4, rfl, rfl⟩
theorem kc_X4_33 : Cond.constant RX4 33 (omi (1000000)) ∈ omTB := omTB_in (i := 741) (by decide +kernel) (by decide +kernel)
theorem fp_X4_34 : omFP RX4 34 1 3 .int := ⟨RX4, TX4, 4, tyX4, rfl, by decide, fx_X4, omTB_in (i := 193) (by decide +kernel) (by decide +kernel), rfl, tyX4_ok, nmX4, rfl, rfl⟩
theorem fi_X4_9 : omFI RX4 9 1 0 := ⟨RX4, TX4, 4, rfl, by decide, fx_X4, omTB_in (i := 190) (by decide +kernel) (by decide +kernel), rfl⟩
theorem gs_X4_38 : Cond.fieldLink RX4 38 RX3 "RELEASE" "LOneMachine$Key;" ∈ omTB := omTB_in (i := 742) (by decide +kernel) (by decide +kernel)
theorem ml_X4_44 : Cond.methodLink RX4 44 yX2_fillInOrder ∈ omTB := omTB_in (i := 744) (by decide +kernel) (by decide +kernel)
theorem ml_X4_50 : Cond.methodLink RX4 50 yX1_ofNoJob ∈ omTB := omTB_in (i := 745) (by decide +kernel) (by decide +kernel)
theorem ml_X4_54 : Cond.methodLink RX4 54 yX4_tryAll ∈ omTB := omTB_in (i := 746) (by decide +kernel) (by decide +kernel)
theorem fi_X4_34 : omFI RX4 34 1 3 := ⟨RX4, TX4, 4, rfl, by decide, fx_X4, omTB_in (i := 193) (by decide +kernel) (by decide +kernel), rfl⟩
theorem ml_X4_58 : Cond.methodLink RX4 58 yX2_all ∈ omTB := omTB_in (i := 749) (by decide +kernel) (by decide +kernel)
theorem fi_X4_61 : omFI RX4 61 0 0 := ⟨RX2, TX2, 7, rfl, by decide, fx_X2, omTB_in (i := 63) (by decide +kernel) (by decide +kernel), rfl⟩
theorem ml_X4_64 : Cond.methodLink RX4 64 yX2_isIn ∈ omTB := omTB_in (i := 750) (by decide +kernel) (by decide +kernel)
theorem ml_X4_68 : Cond.methodLink RX4 68 yX4_endBehind ∈ omTB := omTB_in (i := 751) (by decide +kernel) (by decide +kernel)
theorem fi_X4_30 : omFI RX4 30 1 2 := ⟨RX4, TX4, 4, rfl, by decide, fx_X4, omTB_in (i := 192) (by decide +kernel) (by decide +kernel), rfl⟩
theorem ml_X4_72 : Cond.methodLink RX4 72 yX1_with ∈ omTB := omTB_in (i := 766) (by decide +kernel) (by decide +kernel)
theorem fi_X4_76 : omFI RX4 76 0 5 := ⟨RX2, TX2, 7, rfl, by decide, fx_X2, omTB_in (i := 92) (by decide +kernel) (by decide +kernel), rfl⟩
theorem gs_X4_79 : Cond.fieldLink RX4 79 RX0 "$SwitchMap$OneMachine$Way" "[I" ∈ omTB := omTB_in (i := 755) (by decide +kernel) (by decide +kernel)
theorem fi_X4_21 : omFI RX4 21 1 1 := ⟨RX4, TX4, 4, rfl, by decide, fx_X4, omTB_in (i := 191) (by decide +kernel) (by decide +kernel), rfl⟩
theorem ml_X4_84 : Cond.methodLink RX4 84 ⟨RX9, "ordinal", "()I"⟩ ∈ omTB := omTB_in (i := 757) (by decide +kernel) (by decide +kernel)
theorem fi_X4_87 : omFI RX4 87 0 1 := ⟨RX2, TX2, 7, rfl, by decide, fx_X2, omTB_in (i := 71) (by decide +kernel) (by decide +kernel), rfl⟩
theorem ml_X4_90 : Cond.methodLink RX4 90 yX2_setupBehind ∈ omTB := omTB_in (i := 760) (by decide +kernel) (by decide +kernel)
theorem ml_X4_94 : Cond.methodLink RX4 94 yX4_endInGaps ∈ omTB := omTB_in (i := 761) (by decide +kernel) (by decide +kernel)
theorem fi_X4_98 : omFI RX4 98 0 4 := ⟨RX2, TX2, 7, rfl, by decide, fx_X2, omTB_in (i := 90) (by decide +kernel) (by decide +kernel), rfl⟩
theorem ml_X4_101 : Cond.methodLink RX4 101 Lib.Math.max.name ∈ omTB := omTB_in (i := 765) (by decide +kernel) (by decide +kernel)
theorem fp_X5_24 : omFP RX5 24 2 0 .boolean := ⟨RX5, TX5, 6, tyX5, rfl, by decide, fx_X5, omTB_in (i := 119) (by decide +kernel) (by decide +kernel), rfl, tyX5_ok, nmX5, rfl, rfl⟩
theorem fp_X5_28 : omFP RX5 28 2 1 .int := ⟨RX5, TX5, 6, tyX5, rfl, by decide, fx_X5, omTB_in (i := 121) (by decide +kernel) (by decide +kernel), rfl, tyX5_ok, nmX5, rfl, rfl⟩
theorem fi_X5_28 : omFI RX5 28 2 1 := ⟨RX5, TX5, 6, rfl, by decide, fx_X5, omTB_in (i := 121) (by decide +kernel) (by decide +kernel), rfl⟩
theorem fi_X5_18 : omFI RX5 18 2 4 := ⟨RX5, TX5, 6, rfl, by decide, fx_X5, omTB_in (i := 127) (by decide +kernel) (by decide +kernel), rfl⟩
theorem ml_X5_32 : Cond.methodLink RX5 32 yX5_add ∈ omTB := omTB_in (i := 503) (by decide +kernel) (by decide +kernel)
theorem fi_X5_21 : omFI RX5 21 2 5 := ⟨RX5, TX5, 6, rfl, by decide, fx_X5, omTB_in (i := 129) (by decide +kernel) (by decide +kernel), rfl⟩
theorem ml_X5_36 : Cond.methodLink RX5 36 yX5_now ∈ omTB := omTB_in (i := 507) (by decide +kernel) (by decide +kernel)
theorem fi_X5_9 : omFI RX5 9 2 2 := ⟨RX5, TX5, 6, rfl, by decide, fx_X5, omTB_in (i := 123) (by decide +kernel) (by decide +kernel), rfl⟩
theorem fi_X5_15 : omFI RX5 15 2 3 := ⟨RX5, TX5, 6, rfl, by decide, fx_X5, omTB_in (i := 125) (by decide +kernel) (by decide +kernel), rfl⟩
theorem ml_X5_40 : Cond.methodLink RX5 40 yX5_begin ∈ omTB := omTB_in (i := 495) (by decide +kernel) (by decide +kernel)
theorem fi_X5_43 : omFI RX5 43 0 0 := ⟨RX2, TX2, 7, rfl, by decide, fx_X2, omTB_in (i := 67) (by decide +kernel) (by decide +kernel), rfl⟩
theorem fi_X5_46 : omFI RX5 46 0 5 := ⟨RX2, TX2, 7, rfl, by decide, fx_X2, omTB_in (i := 93) (by decide +kernel) (by decide +kernel), rfl⟩
theorem ml_X5_49 : Cond.methodLink RX5 49 yX2_setupBehind ∈ omTB := omTB_in (i := 499) (by decide +kernel) (by decide +kernel)
theorem fi_X5_53 : omFI RX5 53 0 1 := ⟨RX2, TX2, 7, rfl, by decide, fx_X2, omTB_in (i := 75) (by decide +kernel) (by decide +kernel), rfl⟩
theorem ml_X5_56 : Cond.methodLink RX5 56 yX5_addWork ∈ omTB := omTB_in (i := 511) (by decide +kernel) (by decide +kernel)
theorem ml_X5_60 : Cond.methodLink RX5 60 yX1_ofNoJob ∈ omTB := omTB_in (i := 521) (by decide +kernel) (by decide +kernel)
theorem ml_X5_65 : Cond.methodLink RX5 65 yX1_with ∈ omTB := omTB_in (i := 527) (by decide +kernel) (by decide +kernel)
theorem fi_X6_9 : omFI RX6 9 3 0 := ⟨RX6, TX6, 2, rfl, by decide, fx_X6, omTB_in (i := 173) (by decide +kernel) (by decide +kernel), rfl⟩
theorem gs_X6_18 : Cond.fieldLink RX6 18 RX3 "DUE" "LOneMachine$Key;" ∈ omTB := omTB_in (i := 643) (by decide +kernel) (by decide +kernel)
theorem ml_X6_24 : Cond.methodLink RX6 24 yX2_fillInOrder ∈ omTB := omTB_in (i := 644) (by decide +kernel) (by decide +kernel)
theorem fi_X6_30 : omFI RX6 30 0 1 := ⟨RX2, TX2, 7, rfl, by decide, fx_X2, omTB_in (i := 69) (by decide +kernel) (by decide +kernel), rfl⟩
theorem fi_X6_15 : omFI RX6 15 3 1 := ⟨RX6, TX6, 2, rfl, by decide, fx_X6, omTB_in (i := 174) (by decide +kernel) (by decide +kernel), rfl⟩
theorem ml_X6_33 : Cond.methodLink RX6 33 arraycopyName ∈ omTB := omTB_in (i := 645) (by decide +kernel) (by decide +kernel)
theorem ml_X6_39 : Cond.methodLink RX6 39 yX5_begin ∈ omTB := omTB_in (i := 648) (by decide +kernel) (by decide +kernel)
theorem ml_X6_44 : Cond.methodLink RX6 44 yX5_now ∈ omTB := omTB_in (i := 649) (by decide +kernel) (by decide +kernel)
theorem ml_X6_48 : Cond.methodLink RX6 48 yX6_shortestAt ∈ omTB := omTB_in (i := 650) (by decide +kernel) (by decide +kernel)
theorem ml_X6_52 : Cond.methodLink RX6 52 yX6_firstByDateAt ∈ omTB := omTB_in (i := 659) (by decide +kernel) (by decide +kernel)
theorem ml_X6_55 : Cond.methodLink RX6 55 yX6_nextRelease ∈ omTB := omTB_in (i := 663) (by decide +kernel) (by decide +kernel)
theorem ml_X6_58 : Cond.methodLink RX6 58 Lib.Math.min.name ∈ omTB := omTB_in (i := 666) (by decide +kernel) (by decide +kernel)
theorem ml_X6_64 : Cond.methodLink RX6 64 yX5_addWork ∈ omTB := omTB_in (i := 667) (by decide +kernel) (by decide +kernel)
theorem kc_X6_68 : Cond.constant RX6 68 (omi (1000000)) ∈ omTB := omTB_in (i := 654) (by decide +kernel) (by decide +kernel)
theorem ml_X6_69 : Cond.methodLink RX6 69 yX5_add ∈ omTB := omTB_in (i := 668) (by decide +kernel) (by decide +kernel)
theorem fi_X6_73 : omFI RX6 73 0 4 := ⟨RX2, TX2, 7, rfl, by decide, fx_X2, omTB_in (i := 88) (by decide +kernel) (by decide +kernel), rfl⟩
theorem fi_X6_76 : omFI RX6 76 0 0 := ⟨RX2, TX2, 7, rfl, by decide, fx_X2, omTB_in (i := 64) (by decide +kernel) (by decide +kernel), rfl⟩
theorem ml_X6_80 : Cond.methodLink RX6 80 yX6_isOpen ∈ omTB := omTB_in (i := 655) (by decide +kernel) (by decide +kernel)
theorem fi_X7_9 : omFI RX7 9 4 0 := ⟨RX7, TX7, 5, rfl, by decide, fx_X7, omTB_in (i := 150) (by decide +kernel) (by decide +kernel), rfl⟩
theorem gs_X7_27 : Cond.fieldLink RX7 27 RX3 "DUE" "LOneMachine$Key;" ∈ omTB := omTB_in (i := 489) (by decide +kernel) (by decide +kernel)
theorem ml_X7_33 : Cond.methodLink RX7 33 yX2_fillInOrder ∈ omTB := omTB_in (i := 490) (by decide +kernel) (by decide +kernel)
theorem gs_X7_39 : Cond.fieldLink RX7 39 RX3 "RATIO" "LOneMachine$Key;" ∈ omTB := omTB_in (i := 568) (by decide +kernel) (by decide +kernel)
theorem fi_X7_15 : omFI RX7 15 4 1 := ⟨RX7, TX7, 5, rfl, by decide, fx_X7, omTB_in (i := 152) (by decide +kernel) (by decide +kernel), rfl⟩
theorem fi_X7_42 : omFI RX7 42 0 0 := ⟨RX2, TX2, 7, rfl, by decide, fx_X2, omTB_in (i := 66) (by decide +kernel) (by decide +kernel), rfl⟩
theorem ml_X7_46 : Cond.methodLink RX7 46 yX2_lengthOfSet ∈ omTB := omTB_in (i := 547) (by decide +kernel) (by decide +kernel)
theorem fi_X7_50 : omFI RX7 50 0 2 := ⟨RX2, TX2, 7, rfl, by decide, fx_X2, omTB_in (i := 80) (by decide +kernel) (by decide +kernel), rfl⟩
theorem ml_X7_53 : Cond.methodLink RX7 53 yX7_longestOf ∈ omTB := omTB_in (i := 552) (by decide +kernel) (by decide +kernel)
theorem fi_X7_18 : omFI RX7 18 4 2 := ⟨RX7, TX7, 5, rfl, by decide, fx_X7, omTB_in (i := 153) (by decide +kernel) (by decide +kernel), rfl⟩
theorem ml_X7_57 : Cond.methodLink RX7 57 yX7_putDroppedBehind ∈ omTB := omTB_in (i := 556) (by decide +kernel) (by decide +kernel)
theorem ml_X7_61 : Cond.methodLink RX7 61 yX2_isIn ∈ omTB := omTB_in (i := 555) (by decide +kernel) (by decide +kernel)
theorem fi_X7_65 : omFI RX7 65 0 1 := ⟨RX2, TX2, 7, rfl, by decide, fx_X2, omTB_in (i := 73) (by decide +kernel) (by decide +kernel), rfl⟩
theorem ml_X7_68 : Cond.methodLink RX7 68 yX7_fillLeastTardiness ∈ omTB := omTB_in (i := 580) (by decide +kernel) (by decide +kernel)
theorem ml_X7_72 : Cond.methodLink RX7 72 yX7_tardinessBy ∈ omTB := omTB_in (i := 586) (by decide +kernel) (by decide +kernel)
theorem fi_X7_24 : omFI RX7 24 4 4 := ⟨RX7, TX7, 5, rfl, by decide, fx_X7, omTB_in (i := 155) (by decide +kernel) (by decide +kernel), rfl⟩
theorem ml_X7_76 : Cond.methodLink RX7 76 yX2_all ∈ omTB := omTB_in (i := 584) (by decide +kernel) (by decide +kernel)
theorem kc_X7_80 : Cond.constant RX7 80 (omi (1000000)) ∈ omTB := omTB_in (i := 585) (by decide +kernel) (by decide +kernel)
theorem ml_X7_81 : Cond.methodLink RX7 81 Lib.Math.min.name ∈ omTB := omTB_in (i := 593) (by decide +kernel) (by decide +kernel)
theorem gs_X7_87 : Cond.fieldLink RX7 87 RX1 "WEIGHTED_TARDINESS" "LOneMachine$Cost;" ∈ omTB := omTB_in (i := 590) (by decide +kernel) (by decide +kernel)
theorem ml_X7_93 : Cond.methodLink RX7 93 yX1_with ∈ omTB := omTB_in (i := 592) (by decide +kernel) (by decide +kernel)
theorem ml_X7_97 : Cond.methodLink RX7 97 yX7_fillMustBeDone ∈ omTB := omTB_in (i := 605) (by decide +kernel) (by decide +kernel)
theorem ml_X7_100 : Cond.methodLink RX7 100 yX7_fillLeastLateness ∈ omTB := omTB_in (i := 609) (by decide +kernel) (by decide +kernel)
theorem ml_X7_103 : Cond.methodLink RX7 103 yX7_state ∈ omTB := omTB_in (i := 613) (by decide +kernel) (by decide +kernel)
theorem ml_X7_106 : Cond.methodLink RX7 106 yX7_isNext ∈ omTB := omTB_in (i := 625) (by decide +kernel) (by decide +kernel)
theorem ml_X7_110 : Cond.methodLink RX7 110 yX7_latenessBy ∈ omTB := omTB_in (i := 629) (by decide +kernel) (by decide +kernel)
theorem ml_X7_113 : Cond.methodLink RX7 113 yX2_setupBehind ∈ omTB := omTB_in (i := 633) (by decide +kernel) (by decide +kernel)
theorem fi_X7_116 : omFI RX7 116 0 5 := ⟨RX2, TX2, 7, rfl, by decide, fx_X2, omTB_in (i := 94) (by decide +kernel) (by decide +kernel), rfl⟩
theorem fi_X7_21 : omFI RX7 21 4 3 := ⟨RX7, TX7, 5, rfl, by decide, fx_X7, omTB_in (i := 154) (by decide +kernel) (by decide +kernel), rfl⟩
theorem kc_X7_119 : Cond.constant RX7 119 (omi (-1000000)) ∈ omTB := omTB_in (i := 616) (by decide +kernel) (by decide +kernel)
theorem ml_X7_120 : Cond.methodLink RX7 120 yX7_keepsFamilyOrders ∈ omTB := omTB_in (i := 617) (by decide +kernel) (by decide +kernel)
theorem ml_X7_124 : Cond.methodLink RX7 124 yX7_leastLatenessFrom ∈ omTB := omTB_in (i := 621) (by decide +kernel) (by decide +kernel)
theorem ml_X7_128 : Cond.methodLink RX7 128 Lib.Math.max.name ∈ omTB := omTB_in (i := 634) (by decide +kernel) (by decide +kernel)
theorem fi_X8_9 : omFI RX8 9 5 0 := ⟨RX8, TX8, 1, rfl, by decide, fx_X8, omTB_in (i := 209) (by decide +kernel) (by decide +kernel), rfl⟩
theorem gs_X8_15 : Cond.fieldLink RX8 15 RX3 "DUE" "LOneMachine$Key;" ∈ omTB := omTB_in (i := 270) (by decide +kernel) (by decide +kernel)
theorem ml_X8_21 : Cond.methodLink RX8 21 yX2_fillInOrder ∈ omTB := omTB_in (i := 272) (by decide +kernel) (by decide +kernel)
theorem ml_X8_27 : Cond.methodLink RX8 27 yX8_isOnTimeByDue ∈ omTB := omTB_in (i := 298) (by decide +kernel) (by decide +kernel)
theorem ml_X8_31 : Cond.methodLink RX8 31 yX2_all ∈ omTB := omTB_in (i := 288) (by decide +kernel) (by decide +kernel)
theorem ml_X8_35 : Cond.methodLink RX8 35 yJ6_bitCount_0f7a4 ∈ omTB := omTB_in (i := 292) (by decide +kernel) (by decide +kernel)
theorem fi_X8_41 : omFI RX8 41 0 0 := ⟨RX2, TX2, 7, rfl, by decide, fx_X2, omTB_in (i := 65) (by decide +kernel) (by decide +kernel), rfl⟩
theorem ml_X8_45 : Cond.methodLink RX8 45 yX2_isIn ∈ omTB := omTB_in (i := 302) (by decide +kernel) (by decide +kernel)
theorem fi_X8_49 : omFI RX8 49 0 1 := ⟨RX2, TX2, 7, rfl, by decide, fx_X2, omTB_in (i := 70) (by decide +kernel) (by decide +kernel), rfl⟩
theorem fi_X8_52 : omFI RX8 52 0 2 := ⟨RX2, TX2, 7, rfl, by decide, fx_X2, omTB_in (i := 79) (by decide +kernel) (by decide +kernel), rfl⟩
theorem kc_X10_9 : Cond.constant RX10 9 (omi (-1000000)) ∈ omTB := omTB_in (i := 715) (by decide +kernel) (by decide +kernel)
theorem fp_X10_10 : omFP RX10 10 6 0 .int := ⟨RX10, TX10, 3, tyX10, rfl, by decide, fx_X10, omTB_in (i := 219) (by decide +kernel) (by decide +kernel), rfl, tyX10_ok, nmX10, rfl, rfl⟩
theorem fi_X10_16 : omFI RX10 16 0 0 := ⟨RX2, TX2, 7, rfl, by decide, fx_X2, omTB_in (i := 60) (by decide +kernel) (by decide +kernel), rfl⟩
theorem fi_X10_21 : omFI RX10 21 0 4 := ⟨RX2, TX2, 7, rfl, by decide, fx_X2, omTB_in (i := 87) (by decide +kernel) (by decide +kernel), rfl⟩
theorem fi_X10_25 : omFI RX10 25 0 2 := ⟨RX2, TX2, 7, rfl, by decide, fx_X2, omTB_in (i := 77) (by decide +kernel) (by decide +kernel), rfl⟩
theorem ml_X10_28 : Cond.methodLink RX10 28 yX10_tryWindow ∈ omTB := omTB_in (i := 716) (by decide +kernel) (by decide +kernel)
theorem ml_X10_32 : Cond.methodLink RX10 32 yX10_lengthsWithin ∈ omTB := omTB_in (i := 720) (by decide +kernel) (by decide +kernel)
theorem ml_X10_36 : Cond.methodLink RX10 36 yX10_isBetter ∈ omTB := omTB_in (i := 723) (by decide +kernel) (by decide +kernel)
theorem fp_X10_40 : omFP RX10 40 6 1 .int := ⟨RX10, TX10, 3, tyX10, rfl, by decide, fx_X10, omTB_in (i := 221) (by decide +kernel) (by decide +kernel), rfl, tyX10_ok, nmX10, rfl, rfl⟩
theorem fp_X10_42 : omFP RX10 42 6 2 .int := ⟨RX10, TX10, 3, tyX10, rfl, by decide, fx_X10, omTB_in (i := 223) (by decide +kernel) (by decide +kernel), rfl, tyX10_ok, nmX10, rfl, rfl⟩
theorem fi_X10_10 : omFI RX10 10 6 0 := ⟨RX10, TX10, 3, rfl, by decide, fx_X10, omTB_in (i := 219) (by decide +kernel) (by decide +kernel), rfl⟩
theorem fi_X10_40 : omFI RX10 40 6 1 := ⟨RX10, TX10, 3, rfl, by decide, fx_X10, omTB_in (i := 221) (by decide +kernel) (by decide +kernel), rfl⟩
theorem fi_X10_42 : omFI RX10 42 6 2 := ⟨RX10, TX10, 3, rfl, by decide, fx_X10, omTB_in (i := 223) (by decide +kernel) (by decide +kernel), rfl⟩
theorem fi_X10_44 : omFI RX10 44 0 1 := ⟨RX2, TX2, 7, rfl, by decide, fx_X2, omTB_in (i := 74) (by decide +kernel) (by decide +kernel), rfl⟩
theorem kc_L_7 : Cond.constant RL 7 (omi (2147483647)) ∈ omTB := omTB_in (i := 309) (by decide +kernel) (by decide +kernel)
theorem kc_L_8 : Cond.constant RL 8 (omi (104729)) ∈ omTB := omTB_in (i := 310) (by decide +kernel) (by decide +kernel)
theorem kc_L_9 : Cond.constant RL 9 (omi (65521)) ∈ omTB := omTB_in (i := 311) (by decide +kernel) (by decide +kernel)
theorem ml_L_10 : Cond.methodLink RL 10 yL_tells ∈ omTB := omTB_in (i := 315) (by decide +kernel) (by decide +kernel)
theorem ml_L_16 : Cond.methodLink RL 16 yX11_addJob ∈ omTB := omTB_in (i := 318) (by decide +kernel) (by decide +kernel)
theorem ml_L_22 : Cond.methodLink RL 22 yX11_jobs ∈ omTB := omTB_in (i := 254) (by decide +kernel) (by decide +kernel)
theorem ml_L_26 : Cond.methodLink RL 26 yX11_hasPlan ∈ omTB := omTB_in (i := 258) (by decide +kernel) (by decide +kernel)
theorem ml_L_30 : Cond.methodLink RL 30 yX11_setSetup ∈ omTB := omTB_in (i := 420) (by decide +kernel) (by decide +kernel)
theorem ml_L_34 : Cond.methodLink RL 34 yX11_pieces ∈ omTB := omTB_in (i := 441) (by decide +kernel) (by decide +kernel)
theorem ml_L_37 : Cond.methodLink RL 37 yX11_fewestLateBySets ∈ omTB := omTB_in (i := 262) (by decide +kernel) (by decide +kernel)
theorem ml_L_40 : Cond.methodLink RL 40 yX11_canBeOnTime ∈ omTB := omTB_in (i := 445) (by decide +kernel) (by decide +kernel)
theorem ml_L_44 : Cond.methodLink RL 44 yX11_changeJob ∈ omTB := omTB_in (i := 455) (by decide +kernel) (by decide +kernel)
theorem ml_L_48 : Cond.methodLink RL 48 yX11_removeJob ∈ omTB := omTB_in (i := 464) (by decide +kernel) (by decide +kernel)
theorem ml_L_52 : Cond.methodLink RL 52 yX11_planByDueDates ∈ omTB := omTB_in (i := 476) (by decide +kernel) (by decide +kernel)
theorem ml_L_55 : Cond.methodLink RL 55 yX11_planFewestLate ∈ omTB := omTB_in (i := 539) (by decide +kernel) (by decide +kernel)
theorem ml_L_58 : Cond.methodLink RL 58 yX11_planByRatios ∈ omTB := omTB_in (i := 560) (by decide +kernel) (by decide +kernel)
theorem ml_L_61 : Cond.methodLink RL 61 yX11_planLeastTardiness ∈ omTB := omTB_in (i := 572) (by decide +kernel) (by decide +kernel)
theorem ml_L_64 : Cond.methodLink RL 64 yX11_planByFamilies ∈ omTB := omTB_in (i := 597) (by decide +kernel) (by decide +kernel)
theorem ml_L_67 : Cond.methodLink RL 67 yX11_planPreemptiveByDates ∈ omTB := omTB_in (i := 635) (by decide +kernel) (by decide +kernel)
theorem ml_L_70 : Cond.methodLink RL 70 yX11_planPreemptiveShortest ∈ omTB := omTB_in (i := 669) (by decide +kernel) (by decide +kernel)
theorem ml_L_73 : Cond.methodLink RL 73 yX11_lateJobs ∈ omTB := omTB_in (i := 677) (by decide +kernel) (by decide +kernel)
theorem ml_L_76 : Cond.methodLink RL 76 yX11_weightedCompletions ∈ omTB := omTB_in (i := 688) (by decide +kernel) (by decide +kernel)
theorem ml_L_79 : Cond.methodLink RL 79 yX11_weightedTardiness ∈ omTB := omTB_in (i := 692) (by decide +kernel) (by decide +kernel)
theorem ml_L_82 : Cond.methodLink RL 82 yX11_completions ∈ omTB := omTB_in (i := 696) (by decide +kernel) (by decide +kernel)
theorem ml_L_85 : Cond.methodLink RL 85 yX11_maxLateness ∈ omTB := omTB_in (i := 700) (by decide +kernel) (by decide +kernel)
theorem ml_L_88 : Cond.methodLink RL 88 yX11_windowBound ∈ omTB := omTB_in (i := 707) (by decide +kernel) (by decide +kernel)
theorem ml_L_92 : Cond.methodLink RL 92 yX11_leastLateness ∈ omTB := omTB_in (i := 727) (by decide +kernel) (by decide +kernel)
theorem ml_L_95 : Cond.methodLink RL 95 yX11_leastCompletions ∈ omTB := omTB_in (i := 767) (by decide +kernel) (by decide +kernel)
theorem ml_L_98 : Cond.methodLink RL 98 yX11_leastTardiness ∈ omTB := omTB_in (i := 771) (by decide +kernel) (by decide +kernel)
theorem ml_L_101 : Cond.methodLink RL 101 yX11_leastWithSetups ∈ omTB := omTB_in (i := 775) (by decide +kernel) (by decide +kernel)
theorem ml_L_104 : Cond.methodLink RL 104 yX11_leastPreemptiveLateness ∈ omTB := omTB_in (i := 781) (by decide +kernel) (by decide +kernel)
theorem ml_L_107 : Cond.methodLink RL 107 yX11_leastPreemptiveCompletions ∈ omTB := omTB_in (i := 787) (by decide +kernel) (by decide +kernel)
theorem ml_L_110 : Cond.methodLink RL 110 yX11_kindOf ∈ omTB := omTB_in (i := 794) (by decide +kernel) (by decide +kernel)
theorem ml_L_113 : Cond.methodLink RL 113 yX11_whoseIs ∈ omTB := omTB_in (i := 803) (by decide +kernel) (by decide +kernel)
theorem ml_L_116 : Cond.methodLink RL 116 yX11_startOf ∈ omTB := omTB_in (i := 807) (by decide +kernel) (by decide +kernel)
theorem ml_L_119 : Cond.methodLink RL 119 yX11_endOf ∈ omTB := omTB_in (i := 811) (by decide +kernel) (by decide +kernel)
theorem ml_L_122 : Cond.methodLink RL 122 yX11_completion ∈ omTB := omTB_in (i := 818) (by decide +kernel) (by decide +kernel)
theorem ml_L_125 : Cond.methodLink RL 125 yX11_lateness ∈ omTB := omTB_in (i := 822) (by decide +kernel) (by decide +kernel)
theorem ml_L_128 : Cond.methodLink RL 128 yX11_windowRelease ∈ omTB := omTB_in (i := 829) (by decide +kernel) (by decide +kernel)
theorem ml_L_131 : Cond.methodLink RL 131 yX11_windowDue ∈ omTB := omTB_in (i := 833) (by decide +kernel) (by decide +kernel)
theorem ml_L_134 : Cond.methodLink RL 134 yX11_init ∈ omTB := omTB_in (i := 48) (by decide +kernel) (by decide +kernel)
theorem ml_L_135 : Cond.methodLink RL 135 yL_draw ∈ omTB := omTB_in (i := 306) (by decide +kernel) (by decide +kernel)
theorem ml_L_139 : Cond.methodLink RL 139 yL_step ∈ omTB := omTB_in (i := 312) (by decide +kernel) (by decide +kernel)
theorem ml_L_143 : Cond.methodLink RL 143 yL_plans ∈ omTB := omTB_in (i := 473) (by decide +kernel) (by decide +kernel)
theorem ml_L_147 : Cond.methodLink RL 147 yL_told ∈ omTB := omTB_in (i := 674) (by decide +kernel) (by decide +kernel)
theorem ml_L_150 : Cond.methodLink RL 150 yL_isBest ∈ omTB := omTB_in (i := 704) (by decide +kernel) (by decide +kernel)
theorem ml_L_154 : Cond.methodLink RL 154 yL_isPlan ∈ omTB := omTB_in (i := 791) (by decide +kernel) (by decide +kernel)
theorem ml_L_158 : Cond.methodLink RL 158 yL_areJobs ∈ omTB := omTB_in (i := 815) (by decide +kernel) (by decide +kernel)
theorem ml_L_162 : Cond.methodLink RL 162 yL_isWindow ∈ omTB := omTB_in (i := 826) (by decide +kernel) (by decide +kernel)
theorem kc_J6_265 : Cond.constant RJ6 265 (omi (1431655765)) ∈ omTB := omTB_in (i := 295) (by decide +kernel) (by decide +kernel)
theorem kc_J6_266 : Cond.constant RJ6 266 (omi (858993459)) ∈ omTB := omTB_in (i := 296) (by decide +kernel) (by decide +kernel)
theorem kc_J6_267 : Cond.constant RJ6 267 (omi (252645135)) ∈ omTB := omTB_in (i := 297) (by decide +kernel) (by decide +kernel)
theorem ini_E1 : Cond.initialized "java/lang/IllegalArgumentException" ∈ omTB := omTB_in (i := 41) (by decide +kernel) (by decide +kernel)
theorem ini_E2 : Cond.initialized "java/lang/IllegalStateException" ∈ omTB := omTB_in (i := 42) (by decide +kernel) (by decide +kernel)
theorem ini_E3 : Cond.initialized "java/lang/IndexOutOfBoundsException" ∈ omTB := omTB_in (i := 43) (by decide +kernel) (by decide +kernel)
theorem cl_X11_96 : Cond.classLink RX11 96 "java/lang/IllegalArgumentException" ∈ omTB := omTB_in (i := 328) (by decide +kernel) (by decide +kernel)
theorem cl_X11_66 : Cond.classLink RX11 66 "java/lang/IllegalStateException" ∈ omTB := omTB_in (i := 396) (by decide +kernel) (by decide +kernel)
theorem cl_X11_91 : Cond.classLink RX11 91 "java/lang/IndexOutOfBoundsException" ∈ omTB := omTB_in (i := 424) (by decide +kernel) (by decide +kernel)
theorem ms_max : Cond.static Lib.Math.max.name ∈ omTB := omTB_in (i := 537) (by decide +kernel) (by decide +kernel)
theorem mc_max : Cond.code Lib.Math.max.name Lib.Math.max.code 2 (some .int) ∈ omTB := omTB_in (i := 538) (by decide +kernel) (by decide +kernel)
theorem ms_min : Cond.static Lib.Math.min.name ∈ omTB := omTB_in (i := 594) (by decide +kernel) (by decide +kernel)
theorem mc_min : Cond.code Lib.Math.min.name Lib.Math.min.code 2 (some .int) ∈ omTB := omTB_in (i := 595) (by decide +kernel) (by decide +kernel)
theorem ini_Math : Cond.initialized "java/lang/Math" ∈ omTB := omTB_in (i := 44) (by decide +kernel) (by decide +kernel)
theorem ini_Sys : Cond.initialized "java/lang/System" ∈ omTB := omTB_in (i := 45) (by decide +kernel) (by decide +kernel)
theorem ac_nat : Cond.native arraycopyName ∈ omTB := omTB_in (i := 647) (by decide +kernel) (by decide +kernel)
theorem ac_stat : Cond.static arraycopyName ∈ omTB := omTB_in (i := 646) (by decide +kernel) (by decide +kernel)
theorem ord_f : Cond.fieldLink "java/lang/Enum" 7 "java/lang/Enum" "ordinal" "I" ∈ omTB := omTB_in (i := 838) (by decide +kernel) (by decide +kernel)
theorem ord_c : Cond.code yJx29ce0_ordinal_8abf5 cJx29ce0_ordinal_8abf5 1 (some .int) ∈ omTB := omTB_in (i := 287) (by decide +kernel) (by decide +kernel)
theorem ord_i : Cond.instanceMethod yJx29ce0_ordinal_8abf5 ∈ omTB := omTB_in (i := 286) (by decide +kernel) (by decide +kernel)
theorem ord_ini : Cond.initialized "java/lang/Enum" ∈ omTB := omTB_in (i := 30) (by decide +kernel) (by decide +kernel)
theorem ord_same_X1 : Cond.sameMethod RX1 "java/lang/Enum" "ordinal" "()I" ∈ omTB := omTB_in (i := 534) (by decide +kernel) (by decide +kernel)
theorem ord_sel_X1 : Cond.selects RX1 ⟨RX1, "ordinal", "()I"⟩ yJx29ce0_ordinal_8abf5 ∈ omTB := omTB_in (i := 535) (by decide +kernel) (by decide +kernel)
theorem ord_same_X3 : Cond.sameMethod RX3 "java/lang/Enum" "ordinal" "()I" ∈ omTB := omTB_in (i := 283) (by decide +kernel) (by decide +kernel)
theorem ord_sel_X3 : Cond.selects RX3 ⟨RX3, "ordinal", "()I"⟩ yJx29ce0_ordinal_8abf5 ∈ omTB := omTB_in (i := 285) (by decide +kernel) (by decide +kernel)
theorem ord_same_X9 : Cond.sameMethod RX9 "java/lang/Enum" "ordinal" "()I" ∈ omTB := omTB_in (i := 758) (by decide +kernel) (by decide +kernel)
theorem ord_sel_X9 : Cond.selects RX9 ⟨RX9, "ordinal", "()I"⟩ yJx29ce0_ordinal_8abf5 ∈ omTB := omTB_in (i := 759) (by decide +kernel) (by decide +kernel)
