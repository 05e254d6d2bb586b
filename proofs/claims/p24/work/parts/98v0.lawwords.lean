/-! words of the law -/
theorem kml_L_84 : Cond.methodLink RL 84 yX6_init ∈ lw_tbl := List.mem_of_getElem? (i := 40) (by decide +kernel)
theorem kco_X6_init : Cond.code yX6_init cX6_init 2 none ∈ lw_tbl := List.mem_of_getElem? (i := 42) (by decide +kernel)
theorem kim_X6_init : Cond.instanceMethod yX6_init ∈ lw_tbl := List.mem_of_getElem? (i := 41) (by decide +kernel)
theorem kml_L_85 : Cond.methodLink RL 85 yL_cell ∈ lw_tbl := List.mem_of_getElem? (i := 433) (by decide +kernel)
theorem kco_L_cell : Cond.code yL_cell cL_cell 2 (some .int) ∈ lw_tbl := List.mem_of_getElem? (i := 435) (by decide +kernel)
theorem kst_L_cell : Cond.static yL_cell ∈ lw_tbl := List.mem_of_getElem? (i := 434) (by decide +kernel)
theorem kml_L_88 : Cond.methodLink RL 88 yL_draws ∈ lw_tbl := List.mem_of_getElem? (i := 438) (by decide +kernel)
theorem kco_L_draws : Cond.code yL_draws cL_draws 9 none ∈ lw_tbl := List.mem_of_getElem? (i := 440) (by decide +kernel)
theorem kst_L_draws : Cond.static yL_draws ∈ lw_tbl := List.mem_of_getElem? (i := 439) (by decide +kernel)
theorem kml_L_92 : Cond.methodLink RL 92 yL_puts ∈ lw_tbl := List.mem_of_getElem? (i := 441) (by decide +kernel)
theorem kco_L_puts : Cond.code yL_puts cL_puts 3 (some .boolean) ∈ lw_tbl := List.mem_of_getElem? (i := 443) (by decide +kernel)
theorem kst_L_puts : Cond.static yL_puts ∈ lw_tbl := List.mem_of_getElem? (i := 442) (by decide +kernel)
theorem kml_L_96 : Cond.methodLink RL 96 yL_joins ∈ lw_tbl := List.mem_of_getElem? (i := 455) (by decide +kernel)
theorem kco_L_joins : Cond.code yL_joins cL_joins 5 (some .boolean) ∈ lw_tbl := List.mem_of_getElem? (i := 457) (by decide +kernel)
theorem kst_L_joins : Cond.static yL_joins ∈ lw_tbl := List.mem_of_getElem? (i := 456) (by decide +kernel)
theorem kml_L_100 : Cond.methodLink RL 100 yL_all ∈ lw_tbl := List.mem_of_getElem? (i := 623) (by decide +kernel)
theorem kco_L_all : Cond.code yL_all cL_all 4 (some .boolean) ∈ lw_tbl := List.mem_of_getElem? (i := 625) (by decide +kernel)
theorem kst_L_all : Cond.static yL_all ∈ lw_tbl := List.mem_of_getElem? (i := 624) (by decide +kernel)
theorem kml_L_104 : Cond.methodLink RL 104 yL_rules ∈ lw_tbl := List.mem_of_getElem? (i := 634) (by decide +kernel)
theorem kco_L_rules : Cond.code yL_rules cL_rules 3 (some .boolean) ∈ lw_tbl := List.mem_of_getElem? (i := 636) (by decide +kernel)
theorem kst_L_rules : Cond.static yL_rules ∈ lw_tbl := List.mem_of_getElem? (i := 635) (by decide +kernel)
theorem kml_L_107 : Cond.methodLink RL 107 yL_undoes ∈ lw_tbl := List.mem_of_getElem? (i := 666) (by decide +kernel)
theorem kco_L_undoes : Cond.code yL_undoes cL_undoes 3 (some .boolean) ∈ lw_tbl := List.mem_of_getElem? (i := 668) (by decide +kernel)
theorem kst_L_undoes : Cond.static yL_undoes ∈ lw_tbl := List.mem_of_getElem? (i := 667) (by decide +kernel)
theorem kcx_L_10 : Cond.classLink RL 10 RX6 ∈ lw_tbl := List.mem_of_getElem? (i := 38) (by decide +kernel)
theorem kci_X6 : Cond.instantiable RX6 11 ∈ lw_tbl := List.mem_of_getElem? (i := 39) (by decide +kernel)
theorem kit_X6 : Cond.initialized RX6 ∈ lw_tbl := List.mem_of_getElem? (i := 29) (by decide +kernel)
theorem kcn_L_7 : Cond.constant RL 7 15486059 ∈ lw_tbl := List.mem_of_getElem? (i := 436) (by decide +kernel)
theorem kcn_L_8 : Cond.constant RL 8 2147483647 ∈ lw_tbl := List.mem_of_getElem? (i := 437) (by decide +kernel)
theorem vX6_init : zYI yX6_init cX6_init 2 0 := ⟨kco_X6_init, kin_X6, ⟨by decide, by decide, by decide +kernel⟩, rfl, kim_X6_init⟩
theorem vL_cell : zYS yL_cell cL_cell 2 (some .int) 2 := ⟨kco_L_cell, kin_L, ⟨by decide, by decide, by decide +kernel⟩, kst_L_cell⟩
theorem vL_draws : zYS yL_draws cL_draws 9 none 4 := ⟨kco_L_draws, kin_L, ⟨by decide, by decide, by decide +kernel⟩, kst_L_draws⟩
theorem vL_puts : zYS yL_puts cL_puts 3 (some .boolean) 3 := ⟨kco_L_puts, kin_L, ⟨by decide, by decide, by decide +kernel⟩, kst_L_puts⟩
theorem vL_joins : zYS yL_joins cL_joins 5 (some .boolean) 2 := ⟨kco_L_joins, kin_L, ⟨by decide, by decide, by decide +kernel⟩, kst_L_joins⟩
theorem vL_all : zYS yL_all cL_all 4 (some .boolean) 1 := ⟨kco_L_all, kin_L, ⟨by decide, by decide, by decide +kernel⟩, kst_L_all⟩
theorem vL_rules : zYS yL_rules cL_rules 3 (some .boolean) 1 := ⟨kco_L_rules, kin_L, ⟨by decide, by decide, by decide +kernel⟩, kst_L_rules⟩
theorem vL_undoes : zYS yL_undoes cL_undoes 3 (some .boolean) 1 := ⟨kco_L_undoes, kin_L, ⟨by decide, by decide, by decide +kernel⟩, kst_L_undoes⟩
