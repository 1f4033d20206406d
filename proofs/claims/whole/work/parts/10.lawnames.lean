theorem tl_0_0 : u_lay RX0 TX0 0 ∈ lw_tbl := List.mem_of_getElem? (i := 241) (by decide +kernel)
theorem tl_0_1 : u_lay RX0 TX0 1 ∈ lw_tbl := List.mem_of_getElem? (i := 243) (by decide +kernel)
theorem tl_0_2 : u_lay RX0 TX0 2 ∈ lw_tbl := List.mem_of_getElem? (i := 245) (by decide +kernel)
theorem tl_0_3 : u_lay RX0 TX0 3 ∈ lw_tbl := List.mem_of_getElem? (i := 247) (by decide +kernel)
theorem tl_0_4 : u_lay RX0 TX0 4 ∈ lw_tbl := List.mem_of_getElem? (i := 249) (by decide +kernel)
theorem tl_0_5 : u_lay RX0 TX0 5 ∈ lw_tbl := List.mem_of_getElem? (i := 251) (by decide +kernel)
theorem inX0 : ∀ w ∈ wsX00, w ∈ lw_tbl := (List.forall_mem_cons.mpr ⟨tl_0_0, (List.forall_mem_cons.mpr ⟨tl_0_1, (List.forall_mem_cons.mpr ⟨tl_0_2, (List.forall_mem_cons.mpr ⟨tl_0_3, (List.forall_mem_cons.mpr ⟨tl_0_4, (List.forall_mem_cons.mpr ⟨tl_0_5, (fun _ h => absurd h List.not_mem_nil)⟩)⟩)⟩)⟩)⟩)⟩)
theorem tl_1_0 : u_lay RX1 TX1 0 ∈ lw_tbl := List.mem_of_getElem? (i := 207) (by decide +kernel)
theorem tl_1_1 : u_lay RX1 TX1 1 ∈ lw_tbl := List.mem_of_getElem? (i := 209) (by decide +kernel)
theorem tl_1_2 : u_lay RX1 TX1 2 ∈ lw_tbl := List.mem_of_getElem? (i := 211) (by decide +kernel)
theorem tl_1_3 : u_lay RX1 TX1 3 ∈ lw_tbl := List.mem_of_getElem? (i := 213) (by decide +kernel)
theorem tl_1_4 : u_lay RX1 TX1 4 ∈ lw_tbl := List.mem_of_getElem? (i := 215) (by decide +kernel)
theorem tl_1_5 : u_lay RX1 TX1 5 ∈ lw_tbl := List.mem_of_getElem? (i := 217) (by decide +kernel)
theorem tl_1_6 : u_lay RX1 TX1 6 ∈ lw_tbl := List.mem_of_getElem? (i := 219) (by decide +kernel)
theorem inX1 : ∀ w ∈ wsX10, w ∈ lw_tbl := (List.forall_mem_cons.mpr ⟨tl_1_0, (List.forall_mem_cons.mpr ⟨tl_1_1, (List.forall_mem_cons.mpr ⟨tl_1_2, (List.forall_mem_cons.mpr ⟨tl_1_3, (List.forall_mem_cons.mpr ⟨tl_1_4, (List.forall_mem_cons.mpr ⟨tl_1_5, (List.forall_mem_cons.mpr ⟨tl_1_6, (fun _ h => absurd h List.not_mem_nil)⟩)⟩)⟩)⟩)⟩)⟩)⟩)
theorem tl_2_0 : u_lay RX2 TX2 0 ∈ lw_tbl := List.mem_of_getElem? (i := 170) (by decide +kernel)
theorem tl_2_1 : u_lay RX2 TX2 1 ∈ lw_tbl := List.mem_of_getElem? (i := 172) (by decide +kernel)
theorem tl_2_2 : u_lay RX2 TX2 2 ∈ lw_tbl := List.mem_of_getElem? (i := 174) (by decide +kernel)
theorem tl_2_3 : u_lay RX2 TX2 3 ∈ lw_tbl := List.mem_of_getElem? (i := 176) (by decide +kernel)
theorem tl_2_4 : u_lay RX2 TX2 4 ∈ lw_tbl := List.mem_of_getElem? (i := 178) (by decide +kernel)
theorem tl_2_5 : u_lay RX2 TX2 5 ∈ lw_tbl := List.mem_of_getElem? (i := 180) (by decide +kernel)
theorem tl_2_6 : u_lay RX2 TX2 6 ∈ lw_tbl := List.mem_of_getElem? (i := 182) (by decide +kernel)
theorem tl_2_7 : u_lay RX2 TX2 7 ∈ lw_tbl := List.mem_of_getElem? (i := 184) (by decide +kernel)
theorem tl_2_8 : u_lay RX2 TX2 8 ∈ lw_tbl := List.mem_of_getElem? (i := 186) (by decide +kernel)
theorem tl_2_9 : u_lay RX2 TX2 9 ∈ lw_tbl := List.mem_of_getElem? (i := 188) (by decide +kernel)
theorem inX2 : ∀ w ∈ wsX20, w ∈ lw_tbl := (List.forall_mem_cons.mpr ⟨tl_2_0, (List.forall_mem_cons.mpr ⟨tl_2_1, (List.forall_mem_cons.mpr ⟨tl_2_2, (List.forall_mem_cons.mpr ⟨tl_2_3, (List.forall_mem_cons.mpr ⟨tl_2_4, (List.forall_mem_cons.mpr ⟨tl_2_5, (List.forall_mem_cons.mpr ⟨tl_2_6, (List.forall_mem_cons.mpr ⟨tl_2_7, (List.forall_mem_cons.mpr ⟨tl_2_8, (List.forall_mem_cons.mpr ⟨tl_2_9, (fun _ h => absurd h List.not_mem_nil)⟩)⟩)⟩)⟩)⟩)⟩)⟩)⟩)⟩)⟩)
theorem tl_3_0 : u_lay RX3 TX3 0 ∈ lw_tbl := List.mem_of_getElem? (i := 278) (by decide +kernel)
theorem tl_3_1 : u_lay RX3 TX3 1 ∈ lw_tbl := List.mem_of_getElem? (i := 280) (by decide +kernel)
theorem tl_3_2 : u_lay RX3 TX3 2 ∈ lw_tbl := List.mem_of_getElem? (i := 282) (by decide +kernel)
theorem tl_3_3 : u_lay RX3 TX3 3 ∈ lw_tbl := List.mem_of_getElem? (i := 284) (by decide +kernel)
theorem tl_3_4 : u_lay RX3 TX3 4 ∈ lw_tbl := List.mem_of_getElem? (i := 286) (by decide +kernel)
theorem tl_3_5 : u_lay RX3 TX3 5 ∈ lw_tbl := List.mem_of_getElem? (i := 288) (by decide +kernel)
theorem tl_3_6 : u_lay RX3 TX3 6 ∈ lw_tbl := List.mem_of_getElem? (i := 290) (by decide +kernel)
theorem tl_3_7 : u_lay RX3 TX3 7 ∈ lw_tbl := List.mem_of_getElem? (i := 292) (by decide +kernel)
theorem tl_3_8 : u_lay RX3 TX3 8 ∈ lw_tbl := List.mem_of_getElem? (i := 294) (by decide +kernel)
theorem inX3 : ∀ w ∈ wsX30, w ∈ lw_tbl := (List.forall_mem_cons.mpr ⟨tl_3_0, (List.forall_mem_cons.mpr ⟨tl_3_1, (List.forall_mem_cons.mpr ⟨tl_3_2, (List.forall_mem_cons.mpr ⟨tl_3_3, (List.forall_mem_cons.mpr ⟨tl_3_4, (List.forall_mem_cons.mpr ⟨tl_3_5, (List.forall_mem_cons.mpr ⟨tl_3_6, (List.forall_mem_cons.mpr ⟨tl_3_7, (List.forall_mem_cons.mpr ⟨tl_3_8, (fun _ h => absurd h List.not_mem_nil)⟩)⟩)⟩)⟩)⟩)⟩)⟩)⟩)⟩)
theorem tl_4_0 : u_lay RX4 TX4 0 ∈ lw_tbl := List.mem_of_getElem? (i := 83) (by decide +kernel)
theorem tl_4_1 : u_lay RX4 TX4 1 ∈ lw_tbl := List.mem_of_getElem? (i := 85) (by decide +kernel)
theorem tl_4_2 : u_lay RX4 TX4 2 ∈ lw_tbl := List.mem_of_getElem? (i := 87) (by decide +kernel)
theorem inX4 : ∀ w ∈ wsX40, w ∈ lw_tbl := (List.forall_mem_cons.mpr ⟨tl_4_0, (List.forall_mem_cons.mpr ⟨tl_4_1, (List.forall_mem_cons.mpr ⟨tl_4_2, (fun _ h => absurd h List.not_mem_nil)⟩)⟩)⟩)
theorem tl_5_0 : u_lay RX5 TX5 0 ∈ lw_tbl := List.mem_of_getElem? (i := 114) (by decide +kernel)
theorem tl_5_1 : u_lay RX5 TX5 1 ∈ lw_tbl := List.mem_of_getElem? (i := 116) (by decide +kernel)
theorem tl_5_2 : u_lay RX5 TX5 2 ∈ lw_tbl := List.mem_of_getElem? (i := 118) (by decide +kernel)
theorem tl_5_3 : u_lay RX5 TX5 3 ∈ lw_tbl := List.mem_of_getElem? (i := 120) (by decide +kernel)
theorem tl_5_4 : u_lay RX5 TX5 4 ∈ lw_tbl := List.mem_of_getElem? (i := 122) (by decide +kernel)
theorem tl_5_5 : u_lay RX5 TX5 5 ∈ lw_tbl := List.mem_of_getElem? (i := 124) (by decide +kernel)
theorem tl_5_6 : u_lay RX5 TX5 6 ∈ lw_tbl := List.mem_of_getElem? (i := 126) (by decide +kernel)
theorem tl_5_7 : u_lay RX5 TX5 7 ∈ lw_tbl := List.mem_of_getElem? (i := 128) (by decide +kernel)
theorem tl_5_8 : u_lay RX5 TX5 8 ∈ lw_tbl := List.mem_of_getElem? (i := 130) (by decide +kernel)
theorem tl_5_9 : u_lay RX5 TX5 9 ∈ lw_tbl := List.mem_of_getElem? (i := 132) (by decide +kernel)
theorem tl_5_10 : u_lay RX5 TX5 10 ∈ lw_tbl := List.mem_of_getElem? (i := 134) (by decide +kernel)
theorem inX5 : ∀ w ∈ wsX50, w ∈ lw_tbl := (List.forall_mem_cons.mpr ⟨tl_5_0, (List.forall_mem_cons.mpr ⟨tl_5_1, (List.forall_mem_cons.mpr ⟨tl_5_2, (List.forall_mem_cons.mpr ⟨tl_5_3, (List.forall_mem_cons.mpr ⟨tl_5_4, (List.forall_mem_cons.mpr ⟨tl_5_5, (List.forall_mem_cons.mpr ⟨tl_5_6, (List.forall_mem_cons.mpr ⟨tl_5_7, (List.forall_mem_cons.mpr ⟨tl_5_8, (List.forall_mem_cons.mpr ⟨tl_5_9, (List.forall_mem_cons.mpr ⟨tl_5_10, (fun _ h => absurd h List.not_mem_nil)⟩)⟩)⟩)⟩)⟩)⟩)⟩)⟩)⟩)⟩)⟩)
theorem tl_6_0 : u_lay RX6 TX6 0 ∈ lw_tbl := List.mem_of_getElem? (i := 306) (by decide +kernel)
theorem tl_6_1 : u_lay RX6 TX6 1 ∈ lw_tbl := List.mem_of_getElem? (i := 308) (by decide +kernel)
theorem tl_6_2 : u_lay RX6 TX6 2 ∈ lw_tbl := List.mem_of_getElem? (i := 310) (by decide +kernel)
theorem tl_6_3 : u_lay RX6 TX6 3 ∈ lw_tbl := List.mem_of_getElem? (i := 312) (by decide +kernel)
theorem tl_6_4 : u_lay RX6 TX6 4 ∈ lw_tbl := List.mem_of_getElem? (i := 314) (by decide +kernel)
theorem tl_6_5 : u_lay RX6 TX6 5 ∈ lw_tbl := List.mem_of_getElem? (i := 316) (by decide +kernel)
theorem tl_6_6 : u_lay RX6 TX6 6 ∈ lw_tbl := List.mem_of_getElem? (i := 318) (by decide +kernel)
theorem tl_6_7 : u_lay RX6 TX6 7 ∈ lw_tbl := List.mem_of_getElem? (i := 320) (by decide +kernel)
theorem tl_6_8 : u_lay RX6 TX6 8 ∈ lw_tbl := List.mem_of_getElem? (i := 322) (by decide +kernel)
theorem inX6 : ∀ w ∈ wsX60, w ∈ lw_tbl := (List.forall_mem_cons.mpr ⟨tl_6_0, (List.forall_mem_cons.mpr ⟨tl_6_1, (List.forall_mem_cons.mpr ⟨tl_6_2, (List.forall_mem_cons.mpr ⟨tl_6_3, (List.forall_mem_cons.mpr ⟨tl_6_4, (List.forall_mem_cons.mpr ⟨tl_6_5, (List.forall_mem_cons.mpr ⟨tl_6_6, (List.forall_mem_cons.mpr ⟨tl_6_7, (List.forall_mem_cons.mpr ⟨tl_6_8, (fun _ h => absurd h List.not_mem_nil)⟩)⟩)⟩)⟩)⟩)⟩)⟩)⟩)⟩)
theorem tl_7_0 : u_lay RX7 TX7 0 ∈ lw_tbl := List.mem_of_getElem? (i := 830) (by decide +kernel)
theorem tl_7_1 : u_lay RX7 TX7 1 ∈ lw_tbl := List.mem_of_getElem? (i := 832) (by decide +kernel)
theorem tl_7_2 : u_lay RX7 TX7 2 ∈ lw_tbl := List.mem_of_getElem? (i := 834) (by decide +kernel)
theorem tl_7_3 : u_lay RX7 TX7 3 ∈ lw_tbl := List.mem_of_getElem? (i := 836) (by decide +kernel)
theorem tl_7_4 : u_lay RX7 TX7 4 ∈ lw_tbl := List.mem_of_getElem? (i := 838) (by decide +kernel)
theorem tl_7_5 : u_lay RX7 TX7 5 ∈ lw_tbl := List.mem_of_getElem? (i := 840) (by decide +kernel)
theorem tl_7_6 : u_lay RX7 TX7 6 ∈ lw_tbl := List.mem_of_getElem? (i := 842) (by decide +kernel)
theorem tl_7_7 : u_lay RX7 TX7 7 ∈ lw_tbl := List.mem_of_getElem? (i := 844) (by decide +kernel)
theorem tl_7_8 : u_lay RX7 TX7 8 ∈ lw_tbl := List.mem_of_getElem? (i := 846) (by decide +kernel)
theorem tl_7_9 : u_lay RX7 TX7 9 ∈ lw_tbl := List.mem_of_getElem? (i := 848) (by decide +kernel)
theorem tl_7_10 : u_lay RX7 TX7 10 ∈ lw_tbl := List.mem_of_getElem? (i := 850) (by decide +kernel)
theorem tl_7_11 : u_lay RX7 TX7 11 ∈ lw_tbl := List.mem_of_getElem? (i := 852) (by decide +kernel)
theorem tl_7_12 : u_lay RX7 TX7 12 ∈ lw_tbl := List.mem_of_getElem? (i := 854) (by decide +kernel)
theorem tl_7_13 : u_lay RX7 TX7 13 ∈ lw_tbl := List.mem_of_getElem? (i := 856) (by decide +kernel)
theorem tl_7_14 : u_lay RX7 TX7 14 ∈ lw_tbl := List.mem_of_getElem? (i := 858) (by decide +kernel)
theorem tl_7_15 : u_lay RX7 TX7 15 ∈ lw_tbl := List.mem_of_getElem? (i := 860) (by decide +kernel)
theorem tl_7_16 : u_lay RX7 TX7 16 ∈ lw_tbl := List.mem_of_getElem? (i := 862) (by decide +kernel)
theorem tl_7_17 : u_lay RX7 TX7 17 ∈ lw_tbl := List.mem_of_getElem? (i := 864) (by decide +kernel)
theorem tl_7_18 : u_lay RX7 TX7 18 ∈ lw_tbl := List.mem_of_getElem? (i := 866) (by decide +kernel)
theorem tl_7_19 : u_lay RX7 TX7 19 ∈ lw_tbl := List.mem_of_getElem? (i := 868) (by decide +kernel)
theorem tl_7_20 : u_lay RX7 TX7 20 ∈ lw_tbl := List.mem_of_getElem? (i := 870) (by decide +kernel)
theorem tl_7_21 : u_lay RX7 TX7 21 ∈ lw_tbl := List.mem_of_getElem? (i := 872) (by decide +kernel)
theorem tl_7_22 : u_lay RX7 TX7 22 ∈ lw_tbl := List.mem_of_getElem? (i := 874) (by decide +kernel)
theorem tl_7_23 : u_lay RX7 TX7 23 ∈ lw_tbl := List.mem_of_getElem? (i := 876) (by decide +kernel)
theorem tl_7_24 : u_lay RX7 TX7 24 ∈ lw_tbl := List.mem_of_getElem? (i := 878) (by decide +kernel)
theorem tl_7_25 : u_lay RX7 TX7 25 ∈ lw_tbl := List.mem_of_getElem? (i := 880) (by decide +kernel)
theorem tl_7_26 : u_lay RX7 TX7 26 ∈ lw_tbl := List.mem_of_getElem? (i := 882) (by decide +kernel)
theorem tl_7_27 : u_lay RX7 TX7 27 ∈ lw_tbl := List.mem_of_getElem? (i := 884) (by decide +kernel)
theorem tl_7_28 : u_lay RX7 TX7 28 ∈ lw_tbl := List.mem_of_getElem? (i := 886) (by decide +kernel)
theorem tl_7_29 : u_lay RX7 TX7 29 ∈ lw_tbl := List.mem_of_getElem? (i := 888) (by decide +kernel)
theorem tl_7_30 : u_lay RX7 TX7 30 ∈ lw_tbl := List.mem_of_getElem? (i := 890) (by decide +kernel)
theorem tl_7_31 : u_lay RX7 TX7 31 ∈ lw_tbl := List.mem_of_getElem? (i := 892) (by decide +kernel)
theorem tl_7_32 : u_lay RX7 TX7 32 ∈ lw_tbl := List.mem_of_getElem? (i := 894) (by decide +kernel)
theorem tl_7_33 : u_lay RX7 TX7 33 ∈ lw_tbl := List.mem_of_getElem? (i := 896) (by decide +kernel)
theorem tl_7_34 : u_lay RX7 TX7 34 ∈ lw_tbl := List.mem_of_getElem? (i := 898) (by decide +kernel)
theorem tl_7_35 : u_lay RX7 TX7 35 ∈ lw_tbl := List.mem_of_getElem? (i := 900) (by decide +kernel)
theorem tl_7_36 : u_lay RX7 TX7 36 ∈ lw_tbl := List.mem_of_getElem? (i := 902) (by decide +kernel)
theorem tl_7_37 : u_lay RX7 TX7 37 ∈ lw_tbl := List.mem_of_getElem? (i := 904) (by decide +kernel)
theorem tl_7_38 : u_lay RX7 TX7 38 ∈ lw_tbl := List.mem_of_getElem? (i := 906) (by decide +kernel)
theorem tl_7_39 : u_lay RX7 TX7 39 ∈ lw_tbl := List.mem_of_getElem? (i := 908) (by decide +kernel)
theorem inX7 : ∀ w ∈ wsX70, w ∈ lw_tbl := (List.forall_mem_cons.mpr ⟨tl_7_0, (List.forall_mem_cons.mpr ⟨tl_7_1, (List.forall_mem_cons.mpr ⟨tl_7_2, (List.forall_mem_cons.mpr ⟨tl_7_3, (List.forall_mem_cons.mpr ⟨tl_7_4, (List.forall_mem_cons.mpr ⟨tl_7_5, (List.forall_mem_cons.mpr ⟨tl_7_6, (List.forall_mem_cons.mpr ⟨tl_7_7, (List.forall_mem_cons.mpr ⟨tl_7_8, (List.forall_mem_cons.mpr ⟨tl_7_9, (List.forall_mem_cons.mpr ⟨tl_7_10, (List.forall_mem_cons.mpr ⟨tl_7_11, (List.forall_mem_cons.mpr ⟨tl_7_12, (List.forall_mem_cons.mpr ⟨tl_7_13, (List.forall_mem_cons.mpr ⟨tl_7_14, (List.forall_mem_cons.mpr ⟨tl_7_15, (List.forall_mem_cons.mpr ⟨tl_7_16, (List.forall_mem_cons.mpr ⟨tl_7_17, (List.forall_mem_cons.mpr ⟨tl_7_18, (List.forall_mem_cons.mpr ⟨tl_7_19, (List.forall_mem_cons.mpr ⟨tl_7_20, (List.forall_mem_cons.mpr ⟨tl_7_21, (List.forall_mem_cons.mpr ⟨tl_7_22, (List.forall_mem_cons.mpr ⟨tl_7_23, (List.forall_mem_cons.mpr ⟨tl_7_24, (List.forall_mem_cons.mpr ⟨tl_7_25, (List.forall_mem_cons.mpr ⟨tl_7_26, (List.forall_mem_cons.mpr ⟨tl_7_27, (List.forall_mem_cons.mpr ⟨tl_7_28, (List.forall_mem_cons.mpr ⟨tl_7_29, (List.forall_mem_cons.mpr ⟨tl_7_30, (List.forall_mem_cons.mpr ⟨tl_7_31, (List.forall_mem_cons.mpr ⟨tl_7_32, (List.forall_mem_cons.mpr ⟨tl_7_33, (List.forall_mem_cons.mpr ⟨tl_7_34, (List.forall_mem_cons.mpr ⟨tl_7_35, (List.forall_mem_cons.mpr ⟨tl_7_36, (List.forall_mem_cons.mpr ⟨tl_7_37, (List.forall_mem_cons.mpr ⟨tl_7_38, (List.forall_mem_cons.mpr ⟨tl_7_39, (fun _ h => absurd h List.not_mem_nil)⟩)⟩)⟩)⟩)⟩)⟩)⟩)⟩)⟩)⟩)⟩)⟩)⟩)⟩)⟩)⟩)⟩)⟩)⟩)⟩)⟩)⟩)⟩)⟩)⟩)⟩)⟩)⟩)⟩)⟩)⟩)⟩)⟩)⟩)⟩)⟩)⟩)⟩)⟩)⟩)
theorem tb_0 : Cond.code yX6_init cX6_init 1 none ∈ lw_tbl := List.mem_of_getElem? (i := 66) (by decide +kernel)
theorem tb_1 : Cond.classLink RX6 48 RX3 ∈ lw_tbl := List.mem_of_getElem? (i := 254) (by decide +kernel)
theorem tb_2 : Cond.fieldLink RX6 44 "RopeLine" "gains" "LRopeLine$Gains;" ∈ lw_tbl := List.mem_of_getElem? (i := 301) (by decide +kernel)
theorem tb_3 : Cond.initialized RX0 ∈ lw_tbl := List.mem_of_getElem? (i := 58) (by decide +kernel)
theorem tb_4 : Cond.instantiable RX0 6 ∈ lw_tbl := List.mem_of_getElem? (i := 224) (by decide +kernel)
theorem tb_5 : Cond.classLink RX6 41 RX0 ∈ lw_tbl := List.mem_of_getElem? (i := 223) (by decide +kernel)
theorem tb_6 : Cond.fieldLink RX6 37 "RopeLine" "lengths" "LRopeLine$Lengths;" ∈ lw_tbl := List.mem_of_getElem? (i := 300) (by decide +kernel)
theorem tb_7 : Cond.initialized RX1 ∈ lw_tbl := List.mem_of_getElem? (i := 57) (by decide +kernel)
theorem tb_8 : Cond.instantiable RX1 7 ∈ lw_tbl := List.mem_of_getElem? (i := 192) (by decide +kernel)
theorem tb_9 : Cond.classLink RX6 34 RX1 ∈ lw_tbl := List.mem_of_getElem? (i := 191) (by decide +kernel)
theorem tb_10 : Cond.fieldLink RX6 30 "RopeLine" "here" "LRopeLine$Place;" ∈ lw_tbl := List.mem_of_getElem? (i := 299) (by decide +kernel)
theorem tb_11 : Cond.initialized RX2 ∈ lw_tbl := List.mem_of_getElem? (i := 56) (by decide +kernel)
theorem tb_12 : Cond.instantiable RX2 10 ∈ lw_tbl := List.mem_of_getElem? (i := 138) (by decide +kernel)
theorem tb_13 : Cond.classLink RX6 27 RX2 ∈ lw_tbl := List.mem_of_getElem? (i := 137) (by decide +kernel)
theorem tb_14 : Cond.fieldLink RX6 23 "RopeLine" "text" "LRopeLine$Text;" ∈ lw_tbl := List.mem_of_getElem? (i := 298) (by decide +kernel)
theorem tb_15 : Cond.initialized RX5 ∈ lw_tbl := List.mem_of_getElem? (i := 55) (by decide +kernel)
theorem tb_16 : Cond.instantiable RX5 11 ∈ lw_tbl := List.mem_of_getElem? (i := 92) (by decide +kernel)
theorem tb_17 : Cond.classLink RX6 18 RX5 ∈ lw_tbl := List.mem_of_getElem? (i := 91) (by decide +kernel)
theorem tb_18 : Cond.fieldLink RX6 12 "RopeLine" "sheets" "LRopeLine$Sheets;" ∈ lw_tbl := List.mem_of_getElem? (i := 297) (by decide +kernel)
theorem tb_19 : Cond.initialized RX4 ∈ lw_tbl := List.mem_of_getElem? (i := 54) (by decide +kernel)
theorem tb_20 : Cond.instantiable RX4 3 ∈ lw_tbl := List.mem_of_getElem? (i := 71) (by decide +kernel)
theorem tb_21 : Cond.classLink RX6 9 RX4 ∈ lw_tbl := List.mem_of_getElem? (i := 70) (by decide +kernel)
theorem tb_22 : Cond.code objectInit ⟨#[0xb1]⟩ 1 none ∈ lw_tbl := List.mem_of_getElem? (i := 69) (by decide +kernel)
theorem tb_23 : Cond.instanceMethod objectInit ∈ lw_tbl := List.mem_of_getElem? (i := 68) (by decide +kernel)
theorem tb_24 : Cond.methodLink RX6 3 objectInit ∈ lw_tbl := List.mem_of_getElem? (i := 67) (by decide +kernel)
theorem in_wsX6_init_r1 : ∀ w ∈ wsX6_init_r1, w ∈ lw_tbl := (List.forall_mem_cons.mpr ⟨tb_24, (List.forall_mem_cons.mpr ⟨tb_23, (List.forall_mem_cons.mpr ⟨tb_22, (List.forall_mem_cons.mpr ⟨tb_21, (List.forall_mem_cons.mpr ⟨tb_20, (List.forall_mem_cons.mpr ⟨tb_19, (List.forall_mem_cons.mpr ⟨tb_18, (List.forall_mem_cons.mpr ⟨tb_17, (List.forall_mem_cons.mpr ⟨tb_16, (List.forall_mem_cons.mpr ⟨tb_15, (List.forall_mem_cons.mpr ⟨tb_14, (List.forall_mem_cons.mpr ⟨tb_13, (List.forall_mem_cons.mpr ⟨tb_12, (List.forall_mem_cons.mpr ⟨tb_11, (List.forall_mem_cons.mpr ⟨tb_10, (List.forall_mem_cons.mpr ⟨tb_9, (List.forall_mem_cons.mpr ⟨tb_8, (List.forall_mem_cons.mpr ⟨tb_7, (List.forall_mem_cons.mpr ⟨tb_6, (List.forall_mem_cons.mpr ⟨tb_5, (List.forall_mem_cons.mpr ⟨tb_4, (List.forall_mem_cons.mpr ⟨tb_3, (List.forall_mem_cons.mpr ⟨tb_2, (List.forall_mem_cons.mpr ⟨tb_1, (fun _ h => absurd h List.not_mem_nil)⟩)⟩)⟩)⟩)⟩)⟩)⟩)⟩)⟩)⟩)⟩)⟩)⟩)⟩)⟩)⟩)⟩)⟩)⟩)⟩)⟩)⟩)⟩)⟩)
theorem tb_25 : Cond.methodLink RX2 3 objectInit ∈ lw_tbl := List.mem_of_getElem? (i := 142) (by decide +kernel)
theorem tb_26 : Cond.code yX2_init cX2_init 1 none ∈ lw_tbl := List.mem_of_getElem? (i := 141) (by decide +kernel)
theorem tb_27 : Cond.instanceMethod yX2_init ∈ lw_tbl := List.mem_of_getElem? (i := 140) (by decide +kernel)
theorem tb_28 : Cond.fieldLink RX5 18 "RopeLine$Text" "sheets" "LRopeLine$Sheets;" ∈ lw_tbl := List.mem_of_getElem? (i := 101) (by decide +kernel)
theorem tb_29 : Cond.fieldLink RX5 15 "RopeLine$Text" "worths" "[I" ∈ lw_tbl := List.mem_of_getElem? (i := 99) (by decide +kernel)
theorem tb_30 : Cond.fieldLink RX5 9 "RopeLine$Text" "twelfths" "[I" ∈ lw_tbl := List.mem_of_getElem? (i := 97) (by decide +kernel)
theorem tb_31 : Cond.methodLink RX5 3 objectInit ∈ lw_tbl := List.mem_of_getElem? (i := 96) (by decide +kernel)
theorem tb_32 : Cond.code yX5_init cX5_init 2 none ∈ lw_tbl := List.mem_of_getElem? (i := 95) (by decide +kernel)
theorem tb_33 : Cond.instanceMethod yX5_init ∈ lw_tbl := List.mem_of_getElem? (i := 94) (by decide +kernel)
theorem tb_34 : Cond.methodLink RX6 20 yX5_init ∈ lw_tbl := List.mem_of_getElem? (i := 93) (by decide +kernel)
theorem tb_35 : Cond.code yX6_set cX6_set 3 none ∈ lw_tbl := List.mem_of_getElem? (i := 78) (by decide +kernel)
theorem tb_36 : Cond.initialized RX6 ∈ lw_tbl := List.mem_of_getElem? (i := 53) (by decide +kernel)
theorem tb_37 : Cond.static yX6_set ∈ lw_tbl := List.mem_of_getElem? (i := 77) (by decide +kernel)
theorem tb_38 : Cond.fieldLink RX4 18 "RopeLine$Sheets" "cells" "[I" ∈ lw_tbl := List.mem_of_getElem? (i := 81) (by decide +kernel)
theorem tb_39 : Cond.fieldLink RX4 15 "RopeLine$Sheets" "sizes" "[I" ∈ lw_tbl := List.mem_of_getElem? (i := 80) (by decide +kernel)
theorem tb_40 : Cond.fieldLink RX4 9 "RopeLine$Sheets" "lanes" "[I" ∈ lw_tbl := List.mem_of_getElem? (i := 79) (by decide +kernel)
theorem tb_41 : Cond.arrayClass .int ∈ lw_tbl := List.mem_of_getElem? (i := 90) (by decide +kernel)
theorem tb_42 : Cond.methodLink RX4 3 objectInit ∈ lw_tbl := List.mem_of_getElem? (i := 75) (by decide +kernel)
theorem tb_43 : Cond.code yX4_init cX4_init 2 none ∈ lw_tbl := List.mem_of_getElem? (i := 74) (by decide +kernel)
theorem tb_44 : Cond.instanceMethod yX4_init ∈ lw_tbl := List.mem_of_getElem? (i := 73) (by decide +kernel)
theorem tb_45 : Cond.methodLink RX6 11 yX4_init ∈ lw_tbl := List.mem_of_getElem? (i := 72) (by decide +kernel)
theorem tb_46 : Cond.fieldLink RX6 51 "RopeLine" "queue" "LRopeLine$Queue;" ∈ lw_tbl := List.mem_of_getElem? (i := 302) (by decide +kernel)
theorem tb_47 : Cond.initialized RX3 ∈ lw_tbl := List.mem_of_getElem? (i := 59) (by decide +kernel)
theorem tb_48 : Cond.instantiable RX3 9 ∈ lw_tbl := List.mem_of_getElem? (i := 255) (by decide +kernel)
theorem in_wsX6_init_r2 : ∀ w ∈ wsX6_init_r2, w ∈ lw_tbl := (List.forall_mem_cons.mpr ⟨tb_48, (List.forall_mem_cons.mpr ⟨tb_47, (List.forall_mem_cons.mpr ⟨tb_46, (List.forall_mem_cons.mpr ⟨tb_45, (List.forall_mem_cons.mpr ⟨tb_44, (List.forall_mem_cons.mpr ⟨tb_43, (List.forall_mem_cons.mpr ⟨tb_42, (List.forall_mem_cons.mpr ⟨tb_41, (List.forall_mem_cons.mpr ⟨tb_40, (List.forall_mem_cons.mpr ⟨tb_39, (List.forall_mem_cons.mpr ⟨tb_38, (List.forall_mem_cons.mpr ⟨tb_37, (List.forall_mem_cons.mpr ⟨tb_36, (List.forall_mem_cons.mpr ⟨tb_35, (List.forall_mem_cons.mpr ⟨tb_34, (List.forall_mem_cons.mpr ⟨tb_33, (List.forall_mem_cons.mpr ⟨tb_32, (List.forall_mem_cons.mpr ⟨tb_31, (List.forall_mem_cons.mpr ⟨tb_30, (List.forall_mem_cons.mpr ⟨tb_29, (List.forall_mem_cons.mpr ⟨tb_28, (List.forall_mem_cons.mpr ⟨tb_27, (List.forall_mem_cons.mpr ⟨tb_26, (List.forall_mem_cons.mpr ⟨tb_25, (fun _ h => absurd h List.not_mem_nil)⟩)⟩)⟩)⟩)⟩)⟩)⟩)⟩)⟩)⟩)⟩)⟩)⟩)⟩)⟩)⟩)⟩)⟩)⟩)⟩)⟩)⟩)⟩)⟩)
theorem tb_49 : Cond.fieldLink RX3 18 "RopeLine$Queue" "waited" "[I" ∈ lw_tbl := List.mem_of_getElem? (i := 264) (by decide +kernel)
theorem tb_50 : Cond.fieldLink RX3 15 "RopeLine$Queue" "sorts" "[I" ∈ lw_tbl := List.mem_of_getElem? (i := 262) (by decide +kernel)
theorem tb_51 : Cond.fieldLink RX3 9 "RopeLine$Queue" "kinds" "[I" ∈ lw_tbl := List.mem_of_getElem? (i := 260) (by decide +kernel)
theorem tb_52 : Cond.methodLink RX3 3 objectInit ∈ lw_tbl := List.mem_of_getElem? (i := 259) (by decide +kernel)
theorem tb_53 : Cond.code yX3_init cX3_init 1 none ∈ lw_tbl := List.mem_of_getElem? (i := 258) (by decide +kernel)
theorem tb_54 : Cond.instanceMethod yX3_init ∈ lw_tbl := List.mem_of_getElem? (i := 257) (by decide +kernel)
theorem tb_55 : Cond.fieldLink RX0 22 "RopeLine$Gains" "bestRow" "[I" ∈ lw_tbl := List.mem_of_getElem? (i := 234) (by decide +kernel)
theorem tb_56 : Cond.fieldLink RX0 18 "RopeLine$Gains" "row" "[I" ∈ lw_tbl := List.mem_of_getElem? (i := 232) (by decide +kernel)
theorem tb_57 : Cond.fieldLink RX0 12 "RopeLine$Gains" "lengths" "LRopeLine$Lengths;" ∈ lw_tbl := List.mem_of_getElem? (i := 231) (by decide +kernel)
theorem tb_58 : Cond.classLink RX0 9 RX1 ∈ lw_tbl := List.mem_of_getElem? (i := 229) (by decide +kernel)
theorem tb_59 : Cond.methodLink RX0 3 objectInit ∈ lw_tbl := List.mem_of_getElem? (i := 228) (by decide +kernel)
theorem tb_60 : Cond.code yX0_init cX0_init 1 none ∈ lw_tbl := List.mem_of_getElem? (i := 227) (by decide +kernel)
theorem tb_61 : Cond.instanceMethod yX0_init ∈ lw_tbl := List.mem_of_getElem? (i := 226) (by decide +kernel)
theorem tb_62 : Cond.fieldLink RX1 22 "RopeLine$Lengths" "then" "[J" ∈ lw_tbl := List.mem_of_getElem? (i := 201) (by decide +kernel)
theorem tb_63 : Cond.fieldLink RX1 19 "RopeLine$Lengths" "now" "[J" ∈ lw_tbl := List.mem_of_getElem? (i := 200) (by decide +kernel)
theorem tb_64 : Cond.fieldLink RX1 15 "RopeLine$Lengths" "weights" "[J" ∈ lw_tbl := List.mem_of_getElem? (i := 198) (by decide +kernel)
theorem tb_65 : Cond.arrayClass .long ∈ lw_tbl := List.mem_of_getElem? (i := 222) (by decide +kernel)
theorem tb_66 : Cond.fieldLink RX1 9 "RopeLine$Lengths" "joining" "[I" ∈ lw_tbl := List.mem_of_getElem? (i := 197) (by decide +kernel)
theorem tb_67 : Cond.methodLink RX1 3 objectInit ∈ lw_tbl := List.mem_of_getElem? (i := 196) (by decide +kernel)
theorem tb_68 : Cond.code yX1_init cX1_init 1 none ∈ lw_tbl := List.mem_of_getElem? (i := 195) (by decide +kernel)
theorem tb_69 : Cond.instanceMethod yX1_init ∈ lw_tbl := List.mem_of_getElem? (i := 194) (by decide +kernel)
theorem tb_70 : Cond.fieldLink RX2 18 "RopeLine$Place" "bars" "[I" ∈ lw_tbl := List.mem_of_getElem? (i := 151) (by decide +kernel)
theorem tb_71 : Cond.fieldLink RX2 15 "RopeLine$Place" "worths" "[I" ∈ lw_tbl := List.mem_of_getElem? (i := 147) (by decide +kernel)
theorem tb_72 : Cond.fieldLink RX2 9 "RopeLine$Place" "twelfths" "[I" ∈ lw_tbl := List.mem_of_getElem? (i := 143) (by decide +kernel)
theorem in_wsX6_init_r3 : ∀ w ∈ wsX6_init_r3, w ∈ lw_tbl := (List.forall_mem_cons.mpr ⟨tb_72, (List.forall_mem_cons.mpr ⟨tb_71, (List.forall_mem_cons.mpr ⟨tb_70, (List.forall_mem_cons.mpr ⟨tb_69, (List.forall_mem_cons.mpr ⟨tb_68, (List.forall_mem_cons.mpr ⟨tb_67, (List.forall_mem_cons.mpr ⟨tb_66, (List.forall_mem_cons.mpr ⟨tb_65, (List.forall_mem_cons.mpr ⟨tb_64, (List.forall_mem_cons.mpr ⟨tb_63, (List.forall_mem_cons.mpr ⟨tb_62, (List.forall_mem_cons.mpr ⟨tb_61, (List.forall_mem_cons.mpr ⟨tb_60, (List.forall_mem_cons.mpr ⟨tb_59, (List.forall_mem_cons.mpr ⟨tb_58, (List.forall_mem_cons.mpr ⟨tb_57, (List.forall_mem_cons.mpr ⟨tb_56, (List.forall_mem_cons.mpr ⟨tb_55, (List.forall_mem_cons.mpr ⟨tb_54, (List.forall_mem_cons.mpr ⟨tb_53, (List.forall_mem_cons.mpr ⟨tb_52, (List.forall_mem_cons.mpr ⟨tb_51, (List.forall_mem_cons.mpr ⟨tb_50, (List.forall_mem_cons.mpr ⟨tb_49, (fun _ h => absurd h List.not_mem_nil)⟩)⟩)⟩)⟩)⟩)⟩)⟩)⟩)⟩)⟩)⟩)⟩)⟩)⟩)⟩)⟩)⟩)⟩)⟩)⟩)⟩)⟩)⟩)⟩)
theorem tb_73 : Cond.fieldLink RX3 27 "RopeLine$Queue" "row" "[I" ∈ lw_tbl := List.mem_of_getElem? (i := 270) (by decide +kernel)
theorem tb_74 : Cond.fieldLink RX3 24 "RopeLine$Queue" "servedIn" "[I" ∈ lw_tbl := List.mem_of_getElem? (i := 268) (by decide +kernel)
theorem tb_75 : Cond.fieldLink RX3 21 "RopeLine$Queue" "cameIn" "[I" ∈ lw_tbl := List.mem_of_getElem? (i := 266) (by decide +kernel)
theorem in_wsX6_init_r4 : ∀ w ∈ wsX6_init_r4, w ∈ lw_tbl := (List.forall_mem_cons.mpr ⟨tb_75, (List.forall_mem_cons.mpr ⟨tb_74, (List.forall_mem_cons.mpr ⟨tb_73, (fun _ h => absurd h List.not_mem_nil)⟩)⟩)⟩)
theorem in_wsX6_init : ∀ w ∈ wsX6_init, w ∈ lw_tbl := (List.forall_mem_cons.mpr ⟨tb_0, (List.forall_mem_append.mpr ⟨(List.forall_mem_append.mpr ⟨(List.forall_mem_append.mpr ⟨(List.forall_mem_append.mpr ⟨(List.forall_mem_append.mpr ⟨(List.forall_mem_append.mpr ⟨(List.forall_mem_append.mpr ⟨(List.forall_mem_append.mpr ⟨in_wsX6_init_r1, (List.forall_mem_append.mpr ⟨in_wsX6_init_r2, (List.forall_mem_append.mpr ⟨in_wsX6_init_r3, in_wsX6_init_r4⟩)⟩)⟩), inX4⟩), inX6⟩), inX5⟩), inX2⟩), inX1⟩), inX0⟩), inX3⟩)⟩)
set_option maxRecDepth 20000 in
theorem gL_law_X6_init : GoodIn lw_tbl (wsX6_init) := goodIn_sub in_wsX6_init (by decide +kernel)
theorem tb_76 : Cond.code yX7_init cX7_init 1 none ∈ lw_tbl := List.mem_of_getElem? (i := 788) (by decide +kernel)
theorem tb_77 : Cond.fieldLink RX7 65 "RopeLineModel" "waited" "[I" ∈ lw_tbl := List.mem_of_getElem? (i := 827) (by decide +kernel)
theorem tb_78 : Cond.fieldLink RX7 62 "RopeLineModel" "comerKind" "[I" ∈ lw_tbl := List.mem_of_getElem? (i := 826) (by decide +kernel)
theorem tb_79 : Cond.fieldLink RX7 59 "RopeLineModel" "comerSort" "[I" ∈ lw_tbl := List.mem_of_getElem? (i := 825) (by decide +kernel)
theorem tb_80 : Cond.fieldLink RX7 56 "RopeLineModel" "bestRow" "[I" ∈ lw_tbl := List.mem_of_getElem? (i := 821) (by decide +kernel)
theorem tb_81 : Cond.fieldLink RX7 53 "RopeLineModel" "row" "[I" ∈ lw_tbl := List.mem_of_getElem? (i := 820) (by decide +kernel)
theorem tb_82 : Cond.fieldLink RX7 50 "RopeLineModel" "next" "[J" ∈ lw_tbl := List.mem_of_getElem? (i := 819) (by decide +kernel)
theorem tb_83 : Cond.fieldLink RX7 47 "RopeLineModel" "now" "[J" ∈ lw_tbl := List.mem_of_getElem? (i := 818) (by decide +kernel)
theorem tb_84 : Cond.fieldLink RX7 44 "RopeLineModel" "weights" "[J" ∈ lw_tbl := List.mem_of_getElem? (i := 817) (by decide +kernel)
theorem tb_85 : Cond.fieldLink RX7 41 "RopeLineModel" "downs" "[J" ∈ lw_tbl := List.mem_of_getElem? (i := 816) (by decide +kernel)
theorem tb_86 : Cond.fieldLink RX7 37 "RopeLineModel" "ups" "[J" ∈ lw_tbl := List.mem_of_getElem? (i := 815) (by decide +kernel)
theorem tb_87 : Cond.fieldLink RX7 34 "RopeLineModel" "joins" "[I" ∈ lw_tbl := List.mem_of_getElem? (i := 814) (by decide +kernel)
theorem tb_88 : Cond.fieldLink RX7 31 "RopeLineModel" "readWorths" "[I" ∈ lw_tbl := List.mem_of_getElem? (i := 813) (by decide +kernel)
theorem tb_89 : Cond.fieldLink RX7 28 "RopeLineModel" "readTwelfths" "[I" ∈ lw_tbl := List.mem_of_getElem? (i := 812) (by decide +kernel)
theorem tb_90 : Cond.fieldLink RX7 25 "RopeLineModel" "bars" "[I" ∈ lw_tbl := List.mem_of_getElem? (i := 803) (by decide +kernel)
theorem tb_91 : Cond.fieldLink RX7 22 "RopeLineModel" "worths" "[I" ∈ lw_tbl := List.mem_of_getElem? (i := 802) (by decide +kernel)
theorem tb_92 : Cond.fieldLink RX7 19 "RopeLineModel" "twelfths" "[I" ∈ lw_tbl := List.mem_of_getElem? (i := 801) (by decide +kernel)
theorem tb_93 : Cond.fieldLink RX7 16 "RopeLineModel" "cells" "[I" ∈ lw_tbl := List.mem_of_getElem? (i := 796) (by decide +kernel)
theorem tb_94 : Cond.fieldLink RX7 13 "RopeLineModel" "sheetLong" "[I" ∈ lw_tbl := List.mem_of_getElem? (i := 795) (by decide +kernel)
theorem tb_95 : Cond.fieldLink RX7 9 "RopeLineModel" "lanes" "[I" ∈ lw_tbl := List.mem_of_getElem? (i := 794) (by decide +kernel)
theorem tb_96 : Cond.methodLink RX7 1 objectInit ∈ lw_tbl := List.mem_of_getElem? (i := 789) (by decide +kernel)
theorem in_wsX7_init_r1 : ∀ w ∈ wsX7_init_r1, w ∈ lw_tbl := (List.forall_mem_cons.mpr ⟨tb_96, (List.forall_mem_cons.mpr ⟨tb_23, (List.forall_mem_cons.mpr ⟨tb_22, (List.forall_mem_cons.mpr ⟨tb_41, (List.forall_mem_cons.mpr ⟨tb_95, (List.forall_mem_cons.mpr ⟨tb_94, (List.forall_mem_cons.mpr ⟨tb_93, (List.forall_mem_cons.mpr ⟨tb_92, (List.forall_mem_cons.mpr ⟨tb_91, (List.forall_mem_cons.mpr ⟨tb_90, (List.forall_mem_cons.mpr ⟨tb_89, (List.forall_mem_cons.mpr ⟨tb_88, (List.forall_mem_cons.mpr ⟨tb_87, (List.forall_mem_cons.mpr ⟨tb_65, (List.forall_mem_cons.mpr ⟨tb_86, (List.forall_mem_cons.mpr ⟨tb_85, (List.forall_mem_cons.mpr ⟨tb_84, (List.forall_mem_cons.mpr ⟨tb_83, (List.forall_mem_cons.mpr ⟨tb_82, (List.forall_mem_cons.mpr ⟨tb_81, (List.forall_mem_cons.mpr ⟨tb_80, (List.forall_mem_cons.mpr ⟨tb_79, (List.forall_mem_cons.mpr ⟨tb_78, (List.forall_mem_cons.mpr ⟨tb_77, (fun _ h => absurd h List.not_mem_nil)⟩)⟩)⟩)⟩)⟩)⟩)⟩)⟩)⟩)⟩)⟩)⟩)⟩)⟩)⟩)⟩)⟩)⟩)⟩)⟩)⟩)⟩)⟩)⟩)
theorem tb_97 : Cond.fieldLink RX7 71 "RopeLineModel" "gone" "[I" ∈ lw_tbl := List.mem_of_getElem? (i := 829) (by decide +kernel)
theorem tb_98 : Cond.fieldLink RX7 68 "RopeLineModel" "came" "[I" ∈ lw_tbl := List.mem_of_getElem? (i := 828) (by decide +kernel)
theorem in_wsX7_init_r2 : ∀ w ∈ wsX7_init_r2, w ∈ lw_tbl := (List.forall_mem_cons.mpr ⟨tb_98, (List.forall_mem_cons.mpr ⟨tb_97, (fun _ h => absurd h List.not_mem_nil)⟩)⟩)
theorem in_wsX7_init : ∀ w ∈ wsX7_init, w ∈ lw_tbl := (List.forall_mem_cons.mpr ⟨tb_76, (List.forall_mem_append.mpr ⟨(List.forall_mem_append.mpr ⟨in_wsX7_init_r1, in_wsX7_init_r2⟩), inX7⟩)⟩)
set_option maxRecDepth 20000 in
theorem gL_law_X7_init : GoodIn lw_tbl (wsX7_init) := goodIn_sub in_wsX7_init (by decide +kernel)
theorem tb_99 : Cond.code yX6_place cX6_place 6 (some .int) ∈ lw_tbl := List.mem_of_getElem? (i := 328) (by decide +kernel)
theorem tb_100 : Cond.code yX4_hasNothing cX4_hasNothing 2 (some .boolean) ∈ lw_tbl := List.mem_of_getElem? (i := 344) (by decide +kernel)
theorem tb_101 : Cond.selects RX4 yX4_hasNothing yX4_hasNothing ∈ lw_tbl := List.mem_of_getElem? (i := 343) (by decide +kernel)
theorem tb_102 : Cond.instanceMethod yX4_hasNothing ∈ lw_tbl := List.mem_of_getElem? (i := 342) (by decide +kernel)
theorem tb_103 : Cond.methodLink RX4 33 yX4_hasNothing ∈ lw_tbl := List.mem_of_getElem? (i := 341) (by decide +kernel)
theorem tb_104 : Cond.code yX4_isOfAnotherLane cX4_isOfAnotherLane 3 (some .boolean) ∈ lw_tbl := List.mem_of_getElem? (i := 340) (by decide +kernel)
theorem tb_105 : Cond.selects RX4 yX4_isOfAnotherLane yX4_isOfAnotherLane ∈ lw_tbl := List.mem_of_getElem? (i := 339) (by decide +kernel)
theorem tb_106 : Cond.instanceMethod yX4_isOfAnotherLane ∈ lw_tbl := List.mem_of_getElem? (i := 338) (by decide +kernel)
theorem tb_107 : Cond.methodLink RX6 67 yX4_isOfAnotherLane ∈ lw_tbl := List.mem_of_getElem? (i := 337) (by decide +kernel)
theorem tb_108 : Cond.methodLink RX6 63 yX6_isWithin ∈ lw_tbl := List.mem_of_getElem? (i := 336) (by decide +kernel)
theorem tb_109 : Cond.code yX6_isWithin cX6_isWithin 3 (some .boolean) ∈ lw_tbl := List.mem_of_getElem? (i := 335) (by decide +kernel)
theorem tb_110 : Cond.static yX6_isWithin ∈ lw_tbl := List.mem_of_getElem? (i := 334) (by decide +kernel)
theorem tb_111 : Cond.code yX4_has cX4_has 2 (some .boolean) ∈ lw_tbl := List.mem_of_getElem? (i := 332) (by decide +kernel)
theorem tb_112 : Cond.selects RX4 yX4_has yX4_has ∈ lw_tbl := List.mem_of_getElem? (i := 331) (by decide +kernel)
theorem tb_113 : Cond.instanceMethod yX4_has ∈ lw_tbl := List.mem_of_getElem? (i := 330) (by decide +kernel)
theorem tb_114 : Cond.methodLink RX6 59 yX4_has ∈ lw_tbl := List.mem_of_getElem? (i := 329) (by decide +kernel)
theorem tb_115 : Cond.fieldLink RX6 55 "RopeLine" "faultNow" "I" ∈ lw_tbl := List.mem_of_getElem? (i := 305) (by decide +kernel)
theorem in_wsX6_place_r1 : ∀ w ∈ wsX6_place_r1, w ∈ lw_tbl := (List.forall_mem_cons.mpr ⟨tb_115, (List.forall_mem_cons.mpr ⟨tb_18, (List.forall_mem_cons.mpr ⟨tb_14, (List.forall_mem_cons.mpr ⟨tb_10, (List.forall_mem_cons.mpr ⟨tb_46, (List.forall_mem_cons.mpr ⟨tb_2, (List.forall_mem_cons.mpr ⟨tb_114, (List.forall_mem_cons.mpr ⟨tb_113, (List.forall_mem_cons.mpr ⟨tb_112, (List.forall_mem_cons.mpr ⟨tb_19, (List.forall_mem_cons.mpr ⟨tb_111, (List.forall_mem_cons.mpr ⟨tb_110, (List.forall_mem_cons.mpr ⟨tb_36, (List.forall_mem_cons.mpr ⟨tb_109, (List.forall_mem_cons.mpr ⟨tb_108, (List.forall_mem_cons.mpr ⟨tb_107, (List.forall_mem_cons.mpr ⟨tb_106, (List.forall_mem_cons.mpr ⟨tb_105, (List.forall_mem_cons.mpr ⟨tb_104, (List.forall_mem_cons.mpr ⟨tb_40, (List.forall_mem_cons.mpr ⟨tb_103, (List.forall_mem_cons.mpr ⟨tb_102, (List.forall_mem_cons.mpr ⟨tb_101, (List.forall_mem_cons.mpr ⟨tb_100, (fun _ h => absurd h List.not_mem_nil)⟩)⟩)⟩)⟩)⟩)⟩)⟩)⟩)⟩)⟩)⟩)⟩)⟩)⟩)⟩)⟩)⟩)⟩)⟩)⟩)⟩)⟩)⟩)⟩)
theorem tb_116 : Cond.fieldLink RX5 52 "RopeLine$Text" "number" "I" ∈ lw_tbl := List.mem_of_getElem? (i := 106) (by decide +kernel)
theorem tb_117 : Cond.fieldLink RX5 41 "RopeLine$Text" "left" "I" ∈ lw_tbl := List.mem_of_getElem? (i := 113) (by decide +kernel)
theorem tb_118 : Cond.fieldLink RX5 38 "RopeLine$Text" "sorts" "I" ∈ lw_tbl := List.mem_of_getElem? (i := 112) (by decide +kernel)
theorem tb_119 : Cond.fieldLink RX5 35 "RopeLine$Text" "next" "I" ∈ lw_tbl := List.mem_of_getElem? (i := 104) (by decide +kernel)
theorem tb_120 : Cond.fieldLink RX5 32 "RopeLine$Text" "codes" "I" ∈ lw_tbl := List.mem_of_getElem? (i := 103) (by decide +kernel)
theorem tb_121 : Cond.fieldLink RX5 28 "RopeLine$Text" "start" "I" ∈ lw_tbl := List.mem_of_getElem? (i := 102) (by decide +kernel)
theorem tb_122 : Cond.code yX5_isTaken cX5_isTaken 5 (some .boolean) ∈ lw_tbl := List.mem_of_getElem? (i := 360) (by decide +kernel)
theorem tb_123 : Cond.selects RX5 yX5_isTaken yX5_isTaken ∈ lw_tbl := List.mem_of_getElem? (i := 359) (by decide +kernel)
theorem tb_124 : Cond.instanceMethod yX5_isTaken ∈ lw_tbl := List.mem_of_getElem? (i := 358) (by decide +kernel)
theorem tb_125 : Cond.methodLink RX6 81 yX5_isTaken ∈ lw_tbl := List.mem_of_getElem? (i := 357) (by decide +kernel)
theorem tb_126 : Cond.code yX4_sizeOf cX4_sizeOf 2 (some .int) ∈ lw_tbl := List.mem_of_getElem? (i := 356) (by decide +kernel)
theorem tb_127 : Cond.selects RX4 yX4_sizeOf yX4_sizeOf ∈ lw_tbl := List.mem_of_getElem? (i := 355) (by decide +kernel)
theorem tb_128 : Cond.instanceMethod yX4_sizeOf ∈ lw_tbl := List.mem_of_getElem? (i := 354) (by decide +kernel)
theorem tb_129 : Cond.methodLink RX6 78 yX4_sizeOf ∈ lw_tbl := List.mem_of_getElem? (i := 353) (by decide +kernel)
theorem tb_130 : Cond.methodLink RX6 75 yX4_hasNothing ∈ lw_tbl := List.mem_of_getElem? (i := 352) (by decide +kernel)
theorem tb_131 : Cond.code yX6_faulted cX6_faulted 2 (some .int) ∈ lw_tbl := List.mem_of_getElem? (i := 351) (by decide +kernel)
theorem tb_132 : Cond.selects RX6 yX6_faulted yX6_faulted ∈ lw_tbl := List.mem_of_getElem? (i := 0) (by decide +kernel)
theorem tb_133 : Cond.instanceMethod yX6_faulted ∈ lw_tbl := List.mem_of_getElem? (i := 350) (by decide +kernel)
theorem tb_134 : Cond.methodLink RX6 71 yX6_faulted ∈ lw_tbl := List.mem_of_getElem? (i := 348) (by decide +kernel)
theorem tb_135 : Cond.code yX6_at cX6_at 2 (some .int) ∈ lw_tbl := List.mem_of_getElem? (i := 347) (by decide +kernel)
theorem tb_136 : Cond.static yX6_at ∈ lw_tbl := List.mem_of_getElem? (i := 346) (by decide +kernel)
theorem in_wsX6_place_r2 : ∀ w ∈ wsX6_place_r2, w ∈ lw_tbl := (List.forall_mem_cons.mpr ⟨tb_136, (List.forall_mem_cons.mpr ⟨tb_135, (List.forall_mem_cons.mpr ⟨tb_134, (List.forall_mem_cons.mpr ⟨tb_133, (List.forall_mem_cons.mpr ⟨tb_132, (List.forall_mem_cons.mpr ⟨tb_131, (List.forall_mem_cons.mpr ⟨tb_130, (List.forall_mem_cons.mpr ⟨tb_129, (List.forall_mem_cons.mpr ⟨tb_128, (List.forall_mem_cons.mpr ⟨tb_127, (List.forall_mem_cons.mpr ⟨tb_126, (List.forall_mem_cons.mpr ⟨tb_39, (List.forall_mem_cons.mpr ⟨tb_125, (List.forall_mem_cons.mpr ⟨tb_124, (List.forall_mem_cons.mpr ⟨tb_123, (List.forall_mem_cons.mpr ⟨tb_15, (List.forall_mem_cons.mpr ⟨tb_122, (List.forall_mem_cons.mpr ⟨tb_28, (List.forall_mem_cons.mpr ⟨tb_121, (List.forall_mem_cons.mpr ⟨tb_120, (List.forall_mem_cons.mpr ⟨tb_119, (List.forall_mem_cons.mpr ⟨tb_118, (List.forall_mem_cons.mpr ⟨tb_117, (List.forall_mem_cons.mpr ⟨tb_116, (fun _ h => absurd h List.not_mem_nil)⟩)⟩)⟩)⟩)⟩)⟩)⟩)⟩)⟩)⟩)⟩)⟩)⟩)⟩)⟩)⟩)⟩)⟩)⟩)⟩)⟩)⟩)⟩)⟩)
theorem tb_137 : Cond.instanceMethod yX5_takesSort ∈ lw_tbl := List.mem_of_getElem? (i := 385) (by decide +kernel)
theorem tb_138 : Cond.methodLink RX5 61 yX5_takesSort ∈ lw_tbl := List.mem_of_getElem? (i := 383) (by decide +kernel)
theorem tb_139 : Cond.code yX5_isDigitNext cX5_isDigitNext 1 (some .boolean) ∈ lw_tbl := List.mem_of_getElem? (i := 381) (by decide +kernel)
theorem tb_140 : Cond.selects RX5 yX5_isDigitNext yX5_isDigitNext ∈ lw_tbl := List.mem_of_getElem? (i := 4) (by decide +kernel)
theorem tb_141 : Cond.instanceMethod yX5_isDigitNext ∈ lw_tbl := List.mem_of_getElem? (i := 380) (by decide +kernel)
theorem tb_142 : Cond.methodLink RX5 72 yX5_isDigitNext ∈ lw_tbl := List.mem_of_getElem? (i := 378) (by decide +kernel)
theorem tb_143 : Cond.code yX5_takesNumber cX5_takesNumber 5 (some .boolean) ∈ lw_tbl := List.mem_of_getElem? (i := 377) (by decide +kernel)
theorem tb_144 : Cond.selects RX5 yX5_takesNumber yX5_takesNumber ∈ lw_tbl := List.mem_of_getElem? (i := 3) (by decide +kernel)
theorem tb_145 : Cond.instanceMethod yX5_takesNumber ∈ lw_tbl := List.mem_of_getElem? (i := 376) (by decide +kernel)
theorem tb_146 : Cond.methodLink RX5 48 yX5_takesNumber ∈ lw_tbl := List.mem_of_getElem? (i := 374) (by decide +kernel)
theorem tb_147 : Cond.code yX5_codeAtNext cX5_codeAtNext 1 (some .int) ∈ lw_tbl := List.mem_of_getElem? (i := 372) (by decide +kernel)
theorem tb_148 : Cond.selects RX5 yX5_codeAtNext yX5_codeAtNext ∈ lw_tbl := List.mem_of_getElem? (i := 2) (by decide +kernel)
theorem tb_149 : Cond.instanceMethod yX5_codeAtNext ∈ lw_tbl := List.mem_of_getElem? (i := 371) (by decide +kernel)
theorem tb_150 : Cond.methodLink RX5 68 yX5_codeAtNext ∈ lw_tbl := List.mem_of_getElem? (i := 369) (by decide +kernel)
theorem tb_151 : Cond.code yX5_takes cX5_takes 2 (some .boolean) ∈ lw_tbl := List.mem_of_getElem? (i := 368) (by decide +kernel)
theorem tb_152 : Cond.selects RX5 yX5_takes yX5_takes ∈ lw_tbl := List.mem_of_getElem? (i := 1) (by decide +kernel)
theorem tb_153 : Cond.instanceMethod yX5_takes ∈ lw_tbl := List.mem_of_getElem? (i := 367) (by decide +kernel)
theorem tb_154 : Cond.methodLink RX5 44 yX5_takes ∈ lw_tbl := List.mem_of_getElem? (i := 365) (by decide +kernel)
theorem tb_155 : Cond.code yX4_indexOf cX4_indexOf 3 (some .int) ∈ lw_tbl := List.mem_of_getElem? (i := 364) (by decide +kernel)
theorem tb_156 : Cond.selects RX4 yX4_indexOf yX4_indexOf ∈ lw_tbl := List.mem_of_getElem? (i := 363) (by decide +kernel)
theorem tb_157 : Cond.instanceMethod yX4_indexOf ∈ lw_tbl := List.mem_of_getElem? (i := 362) (by decide +kernel)
theorem tb_158 : Cond.methodLink RX5 22 yX4_indexOf ∈ lw_tbl := List.mem_of_getElem? (i := 361) (by decide +kernel)
theorem tb_159 : Cond.fieldLink RX5 58 "RopeLine$Text" "cost" "I" ∈ lw_tbl := List.mem_of_getElem? (i := 110) (by decide +kernel)
theorem tb_160 : Cond.fieldLink RX5 55 "RopeLine$Text" "served" "I" ∈ lw_tbl := List.mem_of_getElem? (i := 108) (by decide +kernel)
theorem in_wsX6_place_r3 : ∀ w ∈ wsX6_place_r3, w ∈ lw_tbl := (List.forall_mem_cons.mpr ⟨tb_160, (List.forall_mem_cons.mpr ⟨tb_159, (List.forall_mem_cons.mpr ⟨tb_158, (List.forall_mem_cons.mpr ⟨tb_157, (List.forall_mem_cons.mpr ⟨tb_156, (List.forall_mem_cons.mpr ⟨tb_155, (List.forall_mem_cons.mpr ⟨tb_154, (List.forall_mem_cons.mpr ⟨tb_153, (List.forall_mem_cons.mpr ⟨tb_152, (List.forall_mem_cons.mpr ⟨tb_151, (List.forall_mem_cons.mpr ⟨tb_150, (List.forall_mem_cons.mpr ⟨tb_149, (List.forall_mem_cons.mpr ⟨tb_148, (List.forall_mem_cons.mpr ⟨tb_147, (List.forall_mem_cons.mpr ⟨tb_146, (List.forall_mem_cons.mpr ⟨tb_145, (List.forall_mem_cons.mpr ⟨tb_144, (List.forall_mem_cons.mpr ⟨tb_143, (List.forall_mem_cons.mpr ⟨tb_142, (List.forall_mem_cons.mpr ⟨tb_141, (List.forall_mem_cons.mpr ⟨tb_140, (List.forall_mem_cons.mpr ⟨tb_139, (List.forall_mem_cons.mpr ⟨tb_138, (List.forall_mem_cons.mpr ⟨tb_137, (fun _ h => absurd h List.not_mem_nil)⟩)⟩)⟩)⟩)⟩)⟩)⟩)⟩)⟩)⟩)⟩)⟩)⟩)⟩)⟩)⟩)⟩)⟩)⟩)⟩)⟩)⟩)⟩)⟩)
theorem tb_161 : Cond.selects RX3 yX3_empties yX3_empties ∈ lw_tbl := List.mem_of_getElem? (i := 396) (by decide +kernel)
theorem tb_162 : Cond.instanceMethod yX3_empties ∈ lw_tbl := List.mem_of_getElem? (i := 395) (by decide +kernel)
theorem tb_163 : Cond.methodLink RX6 91 yX3_empties ∈ lw_tbl := List.mem_of_getElem? (i := 394) (by decide +kernel)
theorem tb_164 : Cond.fieldLink RX2 56 "RopeLine$Place" "lie" "I" ∈ lw_tbl := List.mem_of_getElem? (i := 168) (by decide +kernel)
theorem tb_165 : Cond.fieldLink RX2 53 "RopeLine$Place" "step" "I" ∈ lw_tbl := List.mem_of_getElem? (i := 166) (by decide +kernel)
theorem tb_166 : Cond.fieldLink RX2 50 "RopeLine$Place" "toll" "I" ∈ lw_tbl := List.mem_of_getElem? (i := 164) (by decide +kernel)
theorem tb_167 : Cond.fieldLink RX2 39 "RopeLine$Place" "sorts" "I" ∈ lw_tbl := List.mem_of_getElem? (i := 161) (by decide +kernel)
theorem tb_168 : Cond.fieldLink RX2 35 "RopeLine$Place" "cost" "I" ∈ lw_tbl := List.mem_of_getElem? (i := 158) (by decide +kernel)
theorem tb_169 : Cond.fieldLink RX2 31 "RopeLine$Place" "served" "I" ∈ lw_tbl := List.mem_of_getElem? (i := 156) (by decide +kernel)
theorem tb_170 : Cond.fieldLink RX2 21 "RopeLine$Place" "isTold" "Z" ∈ lw_tbl := List.mem_of_getElem? (i := 153) (by decide +kernel)
theorem tb_171 : Cond.code yX2_becomes cX2_becomes 3 none ∈ lw_tbl := List.mem_of_getElem? (i := 391) (by decide +kernel)
theorem tb_172 : Cond.selects RX2 yX2_becomes yX2_becomes ∈ lw_tbl := List.mem_of_getElem? (i := 390) (by decide +kernel)
theorem tb_173 : Cond.instanceMethod yX2_becomes ∈ lw_tbl := List.mem_of_getElem? (i := 389) (by decide +kernel)
theorem tb_174 : Cond.methodLink RX6 87 yX2_becomes ∈ lw_tbl := List.mem_of_getElem? (i := 388) (by decide +kernel)
theorem tb_175 : Cond.code yX5_takesSort cX5_takesSort 2 (some .boolean) ∈ lw_tbl := List.mem_of_getElem? (i := 386) (by decide +kernel)
theorem tb_176 : Cond.selects RX5 yX5_takesSort yX5_takesSort ∈ lw_tbl := List.mem_of_getElem? (i := 5) (by decide +kernel)
theorem in_wsX6_place_r4 : ∀ w ∈ wsX6_place_r4, w ∈ lw_tbl := (List.forall_mem_cons.mpr ⟨tb_176, (List.forall_mem_cons.mpr ⟨tb_175, (List.forall_mem_cons.mpr ⟨tb_30, (List.forall_mem_cons.mpr ⟨tb_29, (List.forall_mem_cons.mpr ⟨tb_37, (List.forall_mem_cons.mpr ⟨tb_35, (List.forall_mem_cons.mpr ⟨tb_174, (List.forall_mem_cons.mpr ⟨tb_173, (List.forall_mem_cons.mpr ⟨tb_172, (List.forall_mem_cons.mpr ⟨tb_11, (List.forall_mem_cons.mpr ⟨tb_171, (List.forall_mem_cons.mpr ⟨tb_170, (List.forall_mem_cons.mpr ⟨tb_169, (List.forall_mem_cons.mpr ⟨tb_168, (List.forall_mem_cons.mpr ⟨tb_167, (List.forall_mem_cons.mpr ⟨tb_72, (List.forall_mem_cons.mpr ⟨tb_71, (List.forall_mem_cons.mpr ⟨tb_70, (List.forall_mem_cons.mpr ⟨tb_166, (List.forall_mem_cons.mpr ⟨tb_165, (List.forall_mem_cons.mpr ⟨tb_164, (List.forall_mem_cons.mpr ⟨tb_163, (List.forall_mem_cons.mpr ⟨tb_162, (List.forall_mem_cons.mpr ⟨tb_161, (fun _ h => absurd h List.not_mem_nil)⟩)⟩)⟩)⟩)⟩)⟩)⟩)⟩)⟩)⟩)⟩)⟩)⟩)⟩)⟩)⟩)⟩)⟩)⟩)⟩)⟩)⟩)⟩)⟩)
theorem tb_177 : Cond.fieldLink RX0 25 "RopeLine$Gains" "knowsBest" "Z" ∈ lw_tbl := List.mem_of_getElem? (i := 236) (by decide +kernel)
theorem tb_178 : Cond.code yX0_forgets cX0_forgets 1 none ∈ lw_tbl := List.mem_of_getElem? (i := 401) (by decide +kernel)
theorem tb_179 : Cond.selects RX0 yX0_forgets yX0_forgets ∈ lw_tbl := List.mem_of_getElem? (i := 400) (by decide +kernel)
theorem tb_180 : Cond.instanceMethod yX0_forgets ∈ lw_tbl := List.mem_of_getElem? (i := 399) (by decide +kernel)
theorem tb_181 : Cond.methodLink RX6 94 yX0_forgets ∈ lw_tbl := List.mem_of_getElem? (i := 398) (by decide +kernel)
theorem tb_182 : Cond.fieldLink RX3 37 "RopeLine$Queue" "minutes" "I" ∈ lw_tbl := List.mem_of_getElem? (i := 276) (by decide +kernel)
theorem tb_183 : Cond.fieldLink RX3 34 "RopeLine$Queue" "standing" "I" ∈ lw_tbl := List.mem_of_getElem? (i := 274) (by decide +kernel)
theorem tb_184 : Cond.fieldLink RX3 30 "RopeLine$Queue" "comers" "I" ∈ lw_tbl := List.mem_of_getElem? (i := 272) (by decide +kernel)
theorem tb_185 : Cond.code yX3_empties cX3_empties 1 none ∈ lw_tbl := List.mem_of_getElem? (i := 397) (by decide +kernel)
theorem in_wsX6_place_r5 : ∀ w ∈ wsX6_place_r5, w ∈ lw_tbl := (List.forall_mem_cons.mpr ⟨tb_47, (List.forall_mem_cons.mpr ⟨tb_185, (List.forall_mem_cons.mpr ⟨tb_184, (List.forall_mem_cons.mpr ⟨tb_183, (List.forall_mem_cons.mpr ⟨tb_182, (List.forall_mem_cons.mpr ⟨tb_181, (List.forall_mem_cons.mpr ⟨tb_180, (List.forall_mem_cons.mpr ⟨tb_179, (List.forall_mem_cons.mpr ⟨tb_3, (List.forall_mem_cons.mpr ⟨tb_178, (List.forall_mem_cons.mpr ⟨tb_177, (fun _ h => absurd h List.not_mem_nil)⟩)⟩)⟩)⟩)⟩)⟩)⟩)⟩)⟩)⟩)⟩)
theorem in_wsX6_place : ∀ w ∈ wsX6_place, w ∈ lw_tbl := (List.forall_mem_cons.mpr ⟨tb_99, (List.forall_mem_append.mpr ⟨(List.forall_mem_append.mpr ⟨(List.forall_mem_append.mpr ⟨(List.forall_mem_append.mpr ⟨(List.forall_mem_append.mpr ⟨(List.forall_mem_append.mpr ⟨(List.forall_mem_append.mpr ⟨in_wsX6_place_r1, (List.forall_mem_append.mpr ⟨in_wsX6_place_r2, (List.forall_mem_append.mpr ⟨in_wsX6_place_r3, (List.forall_mem_append.mpr ⟨in_wsX6_place_r4, in_wsX6_place_r5⟩)⟩)⟩)⟩), inX6⟩), inX5⟩), inX2⟩), inX4⟩), inX3⟩), inX0⟩)⟩)
theorem tb_186 : Cond.methodLink RL 13 yX6_place ∈ lw_tbl := List.mem_of_getElem? (i := 325) (by decide +kernel)
theorem tb_187 : Cond.instanceMethod yX6_place ∈ lw_tbl := List.mem_of_getElem? (i := 326) (by decide +kernel)
theorem tb_188 : Cond.selects RX6 yX6_place yX6_place ∈ lw_tbl := List.mem_of_getElem? (i := 327) (by decide +kernel)
theorem gg_gL_law_X6_place : ∀ w ∈ wsV RL 13 RX6 yX6_place wsX6_place, w ∈ lw_tbl := List.forall_mem_append.mpr ⟨(List.forall_mem_cons.mpr ⟨tb_186, (List.forall_mem_cons.mpr ⟨tb_187, (List.forall_mem_cons.mpr ⟨tb_188, (List.forall_mem_cons.mpr ⟨tb_36, (fun _ h => absurd h List.not_mem_nil)⟩)⟩)⟩)⟩), in_wsX6_place⟩
set_option maxRecDepth 20000 in
theorem gL_law_X6_place : GoodIn lw_tbl (wsV RL 13 RX6 yX6_place wsX6_place) := goodIn_sub gg_gL_law_X6_place (by decide +kernel)
theorem tb_189 : Cond.code yX7_place cX7_place 7 (some .int) ∈ lw_tbl := List.mem_of_getElem? (i := 914) (by decide +kernel)
theorem tb_190 : Cond.static yX7_isSheet ∈ lw_tbl := List.mem_of_getElem? (i := 916) (by decide +kernel)
theorem tb_191 : Cond.methodLink RX7 129 yX7_isSheet ∈ lw_tbl := List.mem_of_getElem? (i := 915) (by decide +kernel)
theorem tb_192 : Cond.fieldLink RX7 167 "RopeLineModel" "minutes" "I" ∈ lw_tbl := List.mem_of_getElem? (i := 823) (by decide +kernel)
theorem tb_193 : Cond.fieldLink RX7 164 "RopeLineModel" "comers" "I" ∈ lw_tbl := List.mem_of_getElem? (i := 822) (by decide +kernel)
theorem tb_194 : Cond.fieldLink RX7 161 "RopeLineModel" "lie" "I" ∈ lw_tbl := List.mem_of_getElem? (i := 806) (by decide +kernel)
theorem tb_195 : Cond.fieldLink RX7 158 "RopeLineModel" "step" "I" ∈ lw_tbl := List.mem_of_getElem? (i := 805) (by decide +kernel)
theorem tb_196 : Cond.fieldLink RX7 155 "RopeLineModel" "toll" "I" ∈ lw_tbl := List.mem_of_getElem? (i := 804) (by decide +kernel)
theorem tb_197 : Cond.fieldLink RX7 152 "RopeLineModel" "sorts" "I" ∈ lw_tbl := List.mem_of_getElem? (i := 800) (by decide +kernel)
theorem tb_198 : Cond.fieldLink RX7 112 "RopeLineModel" "readSorts" "I" ∈ lw_tbl := List.mem_of_getElem? (i := 811) (by decide +kernel)
theorem tb_199 : Cond.fieldLink RX7 149 "RopeLineModel" "cost" "I" ∈ lw_tbl := List.mem_of_getElem? (i := 799) (by decide +kernel)
theorem tb_200 : Cond.fieldLink RX7 122 "RopeLineModel" "readCost" "I" ∈ lw_tbl := List.mem_of_getElem? (i := 810) (by decide +kernel)
theorem tb_201 : Cond.fieldLink RX7 146 "RopeLineModel" "served" "I" ∈ lw_tbl := List.mem_of_getElem? (i := 798) (by decide +kernel)
theorem tb_202 : Cond.fieldLink RX7 119 "RopeLineModel" "readServed" "I" ∈ lw_tbl := List.mem_of_getElem? (i := 809) (by decide +kernel)
theorem tb_203 : Cond.fieldLink RX7 142 "RopeLineModel" "isPlace" "Z" ∈ lw_tbl := List.mem_of_getElem? (i := 797) (by decide +kernel)
theorem tb_204 : Cond.fieldLink RX7 101 "RopeLineModel" "end" "I" ∈ lw_tbl := List.mem_of_getElem? (i := 808) (by decide +kernel)
theorem tb_205 : Cond.fieldLink RX7 98 "RopeLineModel" "at" "I" ∈ lw_tbl := List.mem_of_getElem? (i := 807) (by decide +kernel)
theorem tb_206 : Cond.fieldLink RX7 74 "RopeLineModel" "fault" "I" ∈ lw_tbl := List.mem_of_getElem? (i := 790) (by decide +kernel)
theorem in_wsX7_place_r1 : ∀ w ∈ wsX7_place_r1, w ∈ lw_tbl := (List.forall_mem_cons.mpr ⟨tb_206, (List.forall_mem_cons.mpr ⟨tb_95, (List.forall_mem_cons.mpr ⟨tb_94, (List.forall_mem_cons.mpr ⟨tb_205, (List.forall_mem_cons.mpr ⟨tb_204, (List.forall_mem_cons.mpr ⟨tb_203, (List.forall_mem_cons.mpr ⟨tb_202, (List.forall_mem_cons.mpr ⟨tb_201, (List.forall_mem_cons.mpr ⟨tb_200, (List.forall_mem_cons.mpr ⟨tb_199, (List.forall_mem_cons.mpr ⟨tb_198, (List.forall_mem_cons.mpr ⟨tb_197, (List.forall_mem_cons.mpr ⟨tb_92, (List.forall_mem_cons.mpr ⟨tb_89, (List.forall_mem_cons.mpr ⟨tb_91, (List.forall_mem_cons.mpr ⟨tb_88, (List.forall_mem_cons.mpr ⟨tb_90, (List.forall_mem_cons.mpr ⟨tb_196, (List.forall_mem_cons.mpr ⟨tb_195, (List.forall_mem_cons.mpr ⟨tb_194, (List.forall_mem_cons.mpr ⟨tb_193, (List.forall_mem_cons.mpr ⟨tb_192, (List.forall_mem_cons.mpr ⟨tb_191, (List.forall_mem_cons.mpr ⟨tb_190, (fun _ h => absurd h List.not_mem_nil)⟩)⟩)⟩)⟩)⟩)⟩)⟩)⟩)⟩)⟩)⟩)⟩)⟩)⟩)⟩)⟩)⟩)⟩)⟩)⟩)⟩)⟩)⟩)⟩)
theorem tb_207 : Cond.code yX7_codeAt cX7_codeAt 1 (some .int) ∈ lw_tbl := List.mem_of_getElem? (i := 939) (by decide +kernel)
theorem tb_208 : Cond.selects RX7 yX7_codeAt yX7_codeAt ∈ lw_tbl := List.mem_of_getElem? (i := 26) (by decide +kernel)
theorem tb_209 : Cond.instanceMethod yX7_codeAt ∈ lw_tbl := List.mem_of_getElem? (i := 938) (by decide +kernel)
theorem tb_210 : Cond.methodLink RX7 104 yX7_codeAt ∈ lw_tbl := List.mem_of_getElem? (i := 936) (by decide +kernel)
theorem tb_211 : Cond.code yX7_readsLetter cX7_readsLetter 2 (some .boolean) ∈ lw_tbl := List.mem_of_getElem? (i := 935) (by decide +kernel)
theorem tb_212 : Cond.selects RX7 yX7_readsLetter yX7_readsLetter ∈ lw_tbl := List.mem_of_getElem? (i := 25) (by decide +kernel)
theorem tb_213 : Cond.instanceMethod yX7_readsLetter ∈ lw_tbl := List.mem_of_getElem? (i := 934) (by decide +kernel)
theorem tb_214 : Cond.methodLink RX7 108 yX7_readsLetter ∈ lw_tbl := List.mem_of_getElem? (i := 932) (by decide +kernel)
theorem tb_215 : Cond.code yX7_readsAll cX7_readsAll 1 (some .boolean) ∈ lw_tbl := List.mem_of_getElem? (i := 931) (by decide +kernel)
theorem tb_216 : Cond.selects RX7 yX7_readsAll yX7_readsAll ∈ lw_tbl := List.mem_of_getElem? (i := 24) (by decide +kernel)
theorem tb_217 : Cond.instanceMethod yX7_readsAll ∈ lw_tbl := List.mem_of_getElem? (i := 930) (by decide +kernel)
theorem tb_218 : Cond.methodLink RX7 139 yX7_readsAll ∈ lw_tbl := List.mem_of_getElem? (i := 928) (by decide +kernel)
theorem tb_219 : Cond.code yX7_fails cX7_fails 2 (some .int) ∈ lw_tbl := List.mem_of_getElem? (i := 927) (by decide +kernel)
theorem tb_220 : Cond.selects RX7 yX7_fails yX7_fails ∈ lw_tbl := List.mem_of_getElem? (i := 23) (by decide +kernel)
theorem tb_221 : Cond.instanceMethod yX7_fails ∈ lw_tbl := List.mem_of_getElem? (i := 926) (by decide +kernel)
theorem tb_222 : Cond.methodLink RX7 135 yX7_fails ∈ lw_tbl := List.mem_of_getElem? (i := 924) (by decide +kernel)
theorem tb_223 : Cond.code yX7_isLane cX7_isLane 1 (some .boolean) ∈ lw_tbl := List.mem_of_getElem? (i := 923) (by decide +kernel)
theorem tb_224 : Cond.static yX7_isLane ∈ lw_tbl := List.mem_of_getElem? (i := 922) (by decide +kernel)
theorem tb_225 : Cond.methodLink RX7 132 yX7_isLane ∈ lw_tbl := List.mem_of_getElem? (i := 921) (by decide +kernel)
theorem tb_226 : Cond.code yX7_within cX7_within 3 (some .boolean) ∈ lw_tbl := List.mem_of_getElem? (i := 920) (by decide +kernel)
theorem tb_227 : Cond.static yX7_within ∈ lw_tbl := List.mem_of_getElem? (i := 919) (by decide +kernel)
theorem tb_228 : Cond.methodLink RX7 94 yX7_within ∈ lw_tbl := List.mem_of_getElem? (i := 918) (by decide +kernel)
theorem tb_229 : Cond.code yX7_isSheet cX7_isSheet 1 (some .boolean) ∈ lw_tbl := List.mem_of_getElem? (i := 917) (by decide +kernel)
theorem tb_230 : Cond.initialized RX7 ∈ lw_tbl := List.mem_of_getElem? (i := 60) (by decide +kernel)
theorem in_wsX7_place_r2 : ∀ w ∈ wsX7_place_r2, w ∈ lw_tbl := (List.forall_mem_cons.mpr ⟨tb_230, (List.forall_mem_cons.mpr ⟨tb_229, (List.forall_mem_cons.mpr ⟨tb_228, (List.forall_mem_cons.mpr ⟨tb_227, (List.forall_mem_cons.mpr ⟨tb_226, (List.forall_mem_cons.mpr ⟨tb_225, (List.forall_mem_cons.mpr ⟨tb_224, (List.forall_mem_cons.mpr ⟨tb_223, (List.forall_mem_cons.mpr ⟨tb_222, (List.forall_mem_cons.mpr ⟨tb_221, (List.forall_mem_cons.mpr ⟨tb_220, (List.forall_mem_cons.mpr ⟨tb_219, (List.forall_mem_cons.mpr ⟨tb_218, (List.forall_mem_cons.mpr ⟨tb_217, (List.forall_mem_cons.mpr ⟨tb_216, (List.forall_mem_cons.mpr ⟨tb_215, (List.forall_mem_cons.mpr ⟨tb_214, (List.forall_mem_cons.mpr ⟨tb_213, (List.forall_mem_cons.mpr ⟨tb_212, (List.forall_mem_cons.mpr ⟨tb_211, (List.forall_mem_cons.mpr ⟨tb_210, (List.forall_mem_cons.mpr ⟨tb_209, (List.forall_mem_cons.mpr ⟨tb_208, (List.forall_mem_cons.mpr ⟨tb_207, (fun _ h => absurd h List.not_mem_nil)⟩)⟩)⟩)⟩)⟩)⟩)⟩)⟩)⟩)⟩)⟩)⟩)⟩)⟩)⟩)⟩)⟩)⟩)⟩)⟩)⟩)⟩)⟩)⟩)
theorem tb_231 : Cond.code yX7_readsSort cX7_readsSort 4 (some .boolean) ∈ lw_tbl := List.mem_of_getElem? (i := 947) (by decide +kernel)
theorem tb_232 : Cond.selects RX7 yX7_readsSort yX7_readsSort ∈ lw_tbl := List.mem_of_getElem? (i := 28) (by decide +kernel)
theorem tb_233 : Cond.instanceMethod yX7_readsSort ∈ lw_tbl := List.mem_of_getElem? (i := 946) (by decide +kernel)
theorem tb_234 : Cond.methodLink RX7 125 yX7_readsSort ∈ lw_tbl := List.mem_of_getElem? (i := 944) (by decide +kernel)
theorem tb_235 : Cond.code yX7_readsNumber cX7_readsNumber 5 (some .int) ∈ lw_tbl := List.mem_of_getElem? (i := 943) (by decide +kernel)
theorem tb_236 : Cond.selects RX7 yX7_readsNumber yX7_readsNumber ∈ lw_tbl := List.mem_of_getElem? (i := 27) (by decide +kernel)
theorem tb_237 : Cond.instanceMethod yX7_readsNumber ∈ lw_tbl := List.mem_of_getElem? (i := 942) (by decide +kernel)
theorem tb_238 : Cond.methodLink RX7 115 yX7_readsNumber ∈ lw_tbl := List.mem_of_getElem? (i := 940) (by decide +kernel)
theorem in_wsX7_place_r3 : ∀ w ∈ wsX7_place_r3, w ∈ lw_tbl := (List.forall_mem_cons.mpr ⟨tb_93, (List.forall_mem_cons.mpr ⟨tb_238, (List.forall_mem_cons.mpr ⟨tb_237, (List.forall_mem_cons.mpr ⟨tb_236, (List.forall_mem_cons.mpr ⟨tb_235, (List.forall_mem_cons.mpr ⟨tb_234, (List.forall_mem_cons.mpr ⟨tb_233, (List.forall_mem_cons.mpr ⟨tb_232, (List.forall_mem_cons.mpr ⟨tb_231, (fun _ h => absurd h List.not_mem_nil)⟩)⟩)⟩)⟩)⟩)⟩)⟩)⟩)⟩)
theorem in_wsX7_place : ∀ w ∈ wsX7_place, w ∈ lw_tbl := (List.forall_mem_cons.mpr ⟨tb_189, (List.forall_mem_append.mpr ⟨(List.forall_mem_append.mpr ⟨in_wsX7_place_r1, (List.forall_mem_append.mpr ⟨in_wsX7_place_r2, in_wsX7_place_r3⟩)⟩), inX7⟩)⟩)
theorem tb_239 : Cond.methodLink RL 17 yX7_place ∈ lw_tbl := List.mem_of_getElem? (i := 911) (by decide +kernel)
theorem tb_240 : Cond.instanceMethod yX7_place ∈ lw_tbl := List.mem_of_getElem? (i := 912) (by decide +kernel)
theorem tb_241 : Cond.selects RX7 yX7_place yX7_place ∈ lw_tbl := List.mem_of_getElem? (i := 913) (by decide +kernel)
theorem gg_gL_law_X7_place : ∀ w ∈ wsV RL 17 RX7 yX7_place wsX7_place, w ∈ lw_tbl := List.forall_mem_append.mpr ⟨(List.forall_mem_cons.mpr ⟨tb_239, (List.forall_mem_cons.mpr ⟨tb_240, (List.forall_mem_cons.mpr ⟨tb_241, (List.forall_mem_cons.mpr ⟨tb_230, (fun _ h => absurd h List.not_mem_nil)⟩)⟩)⟩)⟩), in_wsX7_place⟩
set_option maxRecDepth 20000 in
theorem gL_law_X7_place : GoodIn lw_tbl (wsV RL 17 RX7 yX7_place wsX7_place) := goodIn_sub gg_gL_law_X7_place (by decide +kernel)
theorem tb_242 : Cond.code yX6_about cX6_about 2 (some .int) ∈ lw_tbl := List.mem_of_getElem? (i := 405) (by decide +kernel)
theorem tb_243 : Cond.code yX2_twelfthsTogether cX2_twelfthsTogether 3 (some .int) ∈ lw_tbl := List.mem_of_getElem? (i := 409) (by decide +kernel)
theorem tb_244 : Cond.selects RX2 yX2_twelfthsTogether yX2_twelfthsTogether ∈ lw_tbl := List.mem_of_getElem? (i := 408) (by decide +kernel)
theorem tb_245 : Cond.instanceMethod yX2_twelfthsTogether ∈ lw_tbl := List.mem_of_getElem? (i := 407) (by decide +kernel)
theorem tb_246 : Cond.methodLink RX6 110 yX2_twelfthsTogether ∈ lw_tbl := List.mem_of_getElem? (i := 406) (by decide +kernel)
theorem in_wsX6_about : ∀ w ∈ wsX6_about, w ∈ lw_tbl := (List.forall_mem_cons.mpr ⟨tb_242, (List.forall_mem_append.mpr ⟨(List.forall_mem_append.mpr ⟨(List.forall_mem_cons.mpr ⟨tb_10, (List.forall_mem_cons.mpr ⟨tb_108, (List.forall_mem_cons.mpr ⟨tb_110, (List.forall_mem_cons.mpr ⟨tb_36, (List.forall_mem_cons.mpr ⟨tb_109, (List.forall_mem_cons.mpr ⟨tb_246, (List.forall_mem_cons.mpr ⟨tb_245, (List.forall_mem_cons.mpr ⟨tb_244, (List.forall_mem_cons.mpr ⟨tb_11, (List.forall_mem_cons.mpr ⟨tb_243, (List.forall_mem_cons.mpr ⟨tb_167, (List.forall_mem_cons.mpr ⟨tb_72, (List.forall_mem_cons.mpr ⟨tb_136, (List.forall_mem_cons.mpr ⟨tb_135, (fun _ h => absurd h List.not_mem_nil)⟩)⟩)⟩)⟩)⟩)⟩)⟩)⟩)⟩)⟩)⟩)⟩)⟩)⟩), inX6⟩), inX2⟩)⟩)
theorem tb_247 : Cond.methodLink RL 18 yX6_about ∈ lw_tbl := List.mem_of_getElem? (i := 402) (by decide +kernel)
theorem tb_248 : Cond.instanceMethod yX6_about ∈ lw_tbl := List.mem_of_getElem? (i := 403) (by decide +kernel)
theorem tb_249 : Cond.selects RX6 yX6_about yX6_about ∈ lw_tbl := List.mem_of_getElem? (i := 404) (by decide +kernel)
theorem gg_gL_law_X6_about : ∀ w ∈ wsV RL 18 RX6 yX6_about wsX6_about, w ∈ lw_tbl := List.forall_mem_append.mpr ⟨(List.forall_mem_cons.mpr ⟨tb_247, (List.forall_mem_cons.mpr ⟨tb_248, (List.forall_mem_cons.mpr ⟨tb_249, (List.forall_mem_cons.mpr ⟨tb_36, (fun _ h => absurd h List.not_mem_nil)⟩)⟩)⟩)⟩), in_wsX6_about⟩
set_option maxRecDepth 20000 in
theorem gL_law_X6_about : GoodIn lw_tbl (wsV RL 18 RX6 yX6_about wsX6_about) := goodIn_sub gg_gL_law_X6_about (by decide +kernel)
theorem tb_250 : Cond.code yX7_about cX7_about 2 (some .int) ∈ lw_tbl := List.mem_of_getElem? (i := 951) (by decide +kernel)
theorem tb_251 : Cond.code yX7_allTwelfths cX7_allTwelfths 3 (some .int) ∈ lw_tbl := List.mem_of_getElem? (i := 955) (by decide +kernel)
theorem tb_252 : Cond.selects RX7 yX7_allTwelfths yX7_allTwelfths ∈ lw_tbl := List.mem_of_getElem? (i := 29) (by decide +kernel)
theorem tb_253 : Cond.instanceMethod yX7_allTwelfths ∈ lw_tbl := List.mem_of_getElem? (i := 954) (by decide +kernel)
theorem tb_254 : Cond.methodLink RX7 170 yX7_allTwelfths ∈ lw_tbl := List.mem_of_getElem? (i := 952) (by decide +kernel)
theorem in_wsX7_about : ∀ w ∈ wsX7_about, w ∈ lw_tbl := (List.forall_mem_cons.mpr ⟨tb_250, (List.forall_mem_append.mpr ⟨(List.forall_mem_cons.mpr ⟨tb_203, (List.forall_mem_cons.mpr ⟨tb_201, (List.forall_mem_cons.mpr ⟨tb_199, (List.forall_mem_cons.mpr ⟨tb_196, (List.forall_mem_cons.mpr ⟨tb_195, (List.forall_mem_cons.mpr ⟨tb_194, (List.forall_mem_cons.mpr ⟨tb_228, (List.forall_mem_cons.mpr ⟨tb_227, (List.forall_mem_cons.mpr ⟨tb_230, (List.forall_mem_cons.mpr ⟨tb_226, (List.forall_mem_cons.mpr ⟨tb_254, (List.forall_mem_cons.mpr ⟨tb_253, (List.forall_mem_cons.mpr ⟨tb_252, (List.forall_mem_cons.mpr ⟨tb_251, (List.forall_mem_cons.mpr ⟨tb_197, (List.forall_mem_cons.mpr ⟨tb_92, (fun _ h => absurd h List.not_mem_nil)⟩)⟩)⟩)⟩)⟩)⟩)⟩)⟩)⟩)⟩)⟩)⟩)⟩)⟩)⟩)⟩), inX7⟩)⟩)
theorem tb_255 : Cond.methodLink RL 22 yX7_about ∈ lw_tbl := List.mem_of_getElem? (i := 948) (by decide +kernel)
theorem tb_256 : Cond.instanceMethod yX7_about ∈ lw_tbl := List.mem_of_getElem? (i := 949) (by decide +kernel)
theorem tb_257 : Cond.selects RX7 yX7_about yX7_about ∈ lw_tbl := List.mem_of_getElem? (i := 950) (by decide +kernel)
theorem gg_gL_law_X7_about : ∀ w ∈ wsV RL 22 RX7 yX7_about wsX7_about, w ∈ lw_tbl := List.forall_mem_append.mpr ⟨(List.forall_mem_cons.mpr ⟨tb_255, (List.forall_mem_cons.mpr ⟨tb_256, (List.forall_mem_cons.mpr ⟨tb_257, (List.forall_mem_cons.mpr ⟨tb_230, (fun _ h => absurd h List.not_mem_nil)⟩)⟩)⟩)⟩), in_wsX7_about⟩
set_option maxRecDepth 20000 in
theorem gL_law_X7_about : GoodIn lw_tbl (wsV RL 22 RX7 yX7_about wsX7_about) := goodIn_sub gg_gL_law_X7_about (by decide +kernel)
theorem tb_258 : Cond.code yX6_ofSort cX6_ofSort 3 (some .int) ∈ lw_tbl := List.mem_of_getElem? (i := 413) (by decide +kernel)
theorem tb_259 : Cond.selects RX2 yX2_hisBarUnseen yX2_hisBarUnseen ∈ lw_tbl := List.mem_of_getElem? (i := 426) (by decide +kernel)
theorem tb_260 : Cond.instanceMethod yX2_hisBarUnseen ∈ lw_tbl := List.mem_of_getElem? (i := 425) (by decide +kernel)
theorem tb_261 : Cond.methodLink RX2 69 yX2_hisBarUnseen ∈ lw_tbl := List.mem_of_getElem? (i := 424) (by decide +kernel)
theorem tb_262 : Cond.code yX2_hisBar cX2_hisBar 3 (some .int) ∈ lw_tbl := List.mem_of_getElem? (i := 423) (by decide +kernel)
theorem tb_263 : Cond.selects RX2 yX2_hisBar yX2_hisBar ∈ lw_tbl := List.mem_of_getElem? (i := 422) (by decide +kernel)
theorem tb_264 : Cond.instanceMethod yX2_hisBar ∈ lw_tbl := List.mem_of_getElem? (i := 421) (by decide +kernel)
theorem tb_265 : Cond.methodLink RX6 138 yX2_hisBar ∈ lw_tbl := List.mem_of_getElem? (i := 420) (by decide +kernel)
theorem tb_266 : Cond.methodLink RX6 128 yX6_at ∈ lw_tbl := List.mem_of_getElem? (i := 419) (by decide +kernel)
theorem tb_267 : Cond.code yX2_has cX2_has 2 (some .boolean) ∈ lw_tbl := List.mem_of_getElem? (i := 417) (by decide +kernel)
theorem tb_268 : Cond.selects RX2 yX2_has yX2_has ∈ lw_tbl := List.mem_of_getElem? (i := 416) (by decide +kernel)
theorem tb_269 : Cond.instanceMethod yX2_has ∈ lw_tbl := List.mem_of_getElem? (i := 415) (by decide +kernel)
theorem tb_270 : Cond.methodLink RX6 123 yX2_has ∈ lw_tbl := List.mem_of_getElem? (i := 414) (by decide +kernel)
theorem in_wsX6_ofSort_r1 : ∀ w ∈ wsX6_ofSort_r1, w ∈ lw_tbl := (List.forall_mem_cons.mpr ⟨tb_10, (List.forall_mem_cons.mpr ⟨tb_270, (List.forall_mem_cons.mpr ⟨tb_269, (List.forall_mem_cons.mpr ⟨tb_268, (List.forall_mem_cons.mpr ⟨tb_11, (List.forall_mem_cons.mpr ⟨tb_267, (List.forall_mem_cons.mpr ⟨tb_167, (List.forall_mem_cons.mpr ⟨tb_110, (List.forall_mem_cons.mpr ⟨tb_36, (List.forall_mem_cons.mpr ⟨tb_109, (List.forall_mem_cons.mpr ⟨tb_266, (List.forall_mem_cons.mpr ⟨tb_136, (List.forall_mem_cons.mpr ⟨tb_135, (List.forall_mem_cons.mpr ⟨tb_265, (List.forall_mem_cons.mpr ⟨tb_264, (List.forall_mem_cons.mpr ⟨tb_263, (List.forall_mem_cons.mpr ⟨tb_262, (List.forall_mem_cons.mpr ⟨tb_165, (List.forall_mem_cons.mpr ⟨tb_166, (List.forall_mem_cons.mpr ⟨tb_71, (List.forall_mem_cons.mpr ⟨tb_168, (List.forall_mem_cons.mpr ⟨tb_261, (List.forall_mem_cons.mpr ⟨tb_260, (List.forall_mem_cons.mpr ⟨tb_259, (fun _ h => absurd h List.not_mem_nil)⟩)⟩)⟩)⟩)⟩)⟩)⟩)⟩)⟩)⟩)⟩)⟩)⟩)⟩)⟩)⟩)⟩)⟩)⟩)⟩)⟩)⟩)⟩)⟩)
theorem tb_271 : Cond.code Lib.Math.max.name Lib.Math.max.code 2 (some .int) ∈ lw_tbl := List.mem_of_getElem? (i := 434) (by decide +kernel)
theorem tb_272 : Cond.initialized "java/lang/Math" ∈ lw_tbl := List.mem_of_getElem? (i := 61) (by decide +kernel)
theorem tb_273 : Cond.static Lib.Math.max.name ∈ lw_tbl := List.mem_of_getElem? (i := 433) (by decide +kernel)
theorem tb_274 : Cond.methodLink RX2 63 Lib.Math.max.name ∈ lw_tbl := List.mem_of_getElem? (i := 432) (by decide +kernel)
theorem tb_275 : Cond.code yX2_minutesAsTold cX2_minutesAsTold 4 (some .int) ∈ lw_tbl := List.mem_of_getElem? (i := 431) (by decide +kernel)
theorem tb_276 : Cond.selects RX2 yX2_minutesAsTold yX2_minutesAsTold ∈ lw_tbl := List.mem_of_getElem? (i := 430) (by decide +kernel)
theorem tb_277 : Cond.instanceMethod yX2_minutesAsTold ∈ lw_tbl := List.mem_of_getElem? (i := 429) (by decide +kernel)
theorem tb_278 : Cond.methodLink RX2 72 yX2_minutesAsTold ∈ lw_tbl := List.mem_of_getElem? (i := 428) (by decide +kernel)
theorem tb_279 : Cond.code yX2_hisBarUnseen cX2_hisBarUnseen 4 (some .int) ∈ lw_tbl := List.mem_of_getElem? (i := 427) (by decide +kernel)
theorem in_wsX6_ofSort_r2 : ∀ w ∈ wsX6_ofSort_r2, w ∈ lw_tbl := (List.forall_mem_cons.mpr ⟨tb_279, (List.forall_mem_cons.mpr ⟨tb_169, (List.forall_mem_cons.mpr ⟨tb_278, (List.forall_mem_cons.mpr ⟨tb_277, (List.forall_mem_cons.mpr ⟨tb_276, (List.forall_mem_cons.mpr ⟨tb_275, (List.forall_mem_cons.mpr ⟨tb_164, (List.forall_mem_cons.mpr ⟨tb_274, (List.forall_mem_cons.mpr ⟨tb_273, (List.forall_mem_cons.mpr ⟨tb_272, (List.forall_mem_cons.mpr ⟨tb_271, (fun _ h => absurd h List.not_mem_nil)⟩)⟩)⟩)⟩)⟩)⟩)⟩)⟩)⟩)⟩)⟩)
theorem in_wsX6_ofSort : ∀ w ∈ wsX6_ofSort, w ∈ lw_tbl := (List.forall_mem_cons.mpr ⟨tb_258, (List.forall_mem_append.mpr ⟨(List.forall_mem_append.mpr ⟨(List.forall_mem_append.mpr ⟨in_wsX6_ofSort_r1, in_wsX6_ofSort_r2⟩), inX6⟩), inX2⟩)⟩)
theorem tb_280 : Cond.methodLink RL 23 yX6_ofSort ∈ lw_tbl := List.mem_of_getElem? (i := 410) (by decide +kernel)
theorem tb_281 : Cond.instanceMethod yX6_ofSort ∈ lw_tbl := List.mem_of_getElem? (i := 411) (by decide +kernel)
theorem tb_282 : Cond.selects RX6 yX6_ofSort yX6_ofSort ∈ lw_tbl := List.mem_of_getElem? (i := 412) (by decide +kernel)
theorem gg_gL_law_X6_ofSort : ∀ w ∈ wsV RL 23 RX6 yX6_ofSort wsX6_ofSort, w ∈ lw_tbl := List.forall_mem_append.mpr ⟨(List.forall_mem_cons.mpr ⟨tb_280, (List.forall_mem_cons.mpr ⟨tb_281, (List.forall_mem_cons.mpr ⟨tb_282, (List.forall_mem_cons.mpr ⟨tb_36, (fun _ h => absurd h List.not_mem_nil)⟩)⟩)⟩)⟩), in_wsX6_ofSort⟩
set_option maxRecDepth 20000 in
theorem gL_law_X6_ofSort : GoodIn lw_tbl (wsV RL 23 RX6 yX6_ofSort wsX6_ofSort) := goodIn_sub gg_gL_law_X6_ofSort (by decide +kernel)
theorem tb_283 : Cond.code yX7_ofSort cX7_ofSort 3 (some .int) ∈ lw_tbl := List.mem_of_getElem? (i := 959) (by decide +kernel)
theorem tb_284 : Cond.code yX7_toldMinutes cX7_toldMinutes 6 (some .int) ∈ lw_tbl := List.mem_of_getElem? (i := 971) (by decide +kernel)
theorem tb_285 : Cond.selects RX7 yX7_toldMinutes yX7_toldMinutes ∈ lw_tbl := List.mem_of_getElem? (i := 32) (by decide +kernel)
theorem tb_286 : Cond.instanceMethod yX7_toldMinutes ∈ lw_tbl := List.mem_of_getElem? (i := 970) (by decide +kernel)
theorem tb_287 : Cond.methodLink RX7 173 yX7_toldMinutes ∈ lw_tbl := List.mem_of_getElem? (i := 968) (by decide +kernel)
theorem tb_288 : Cond.code yX7_hisBar cX7_hisBar 9 (some .int) ∈ lw_tbl := List.mem_of_getElem? (i := 967) (by decide +kernel)
theorem tb_289 : Cond.selects RX7 yX7_hisBar yX7_hisBar ∈ lw_tbl := List.mem_of_getElem? (i := 31) (by decide +kernel)
theorem tb_290 : Cond.instanceMethod yX7_hisBar ∈ lw_tbl := List.mem_of_getElem? (i := 966) (by decide +kernel)
theorem tb_291 : Cond.methodLink RX7 180 yX7_hisBar ∈ lw_tbl := List.mem_of_getElem? (i := 964) (by decide +kernel)
theorem tb_292 : Cond.code yX7_isSort cX7_isSort 2 (some .boolean) ∈ lw_tbl := List.mem_of_getElem? (i := 963) (by decide +kernel)
theorem tb_293 : Cond.selects RX7 yX7_isSort yX7_isSort ∈ lw_tbl := List.mem_of_getElem? (i := 30) (by decide +kernel)
theorem tb_294 : Cond.instanceMethod yX7_isSort ∈ lw_tbl := List.mem_of_getElem? (i := 962) (by decide +kernel)
theorem tb_295 : Cond.methodLink RX7 177 yX7_isSort ∈ lw_tbl := List.mem_of_getElem? (i := 960) (by decide +kernel)
theorem in_wsX7_ofSort : ∀ w ∈ wsX7_ofSort, w ∈ lw_tbl := (List.forall_mem_cons.mpr ⟨tb_283, (List.forall_mem_append.mpr ⟨(List.forall_mem_cons.mpr ⟨tb_92, (List.forall_mem_cons.mpr ⟨tb_91, (List.forall_mem_cons.mpr ⟨tb_90, (List.forall_mem_cons.mpr ⟨tb_196, (List.forall_mem_cons.mpr ⟨tb_195, (List.forall_mem_cons.mpr ⟨tb_194, (List.forall_mem_cons.mpr ⟨tb_295, (List.forall_mem_cons.mpr ⟨tb_294, (List.forall_mem_cons.mpr ⟨tb_293, (List.forall_mem_cons.mpr ⟨tb_230, (List.forall_mem_cons.mpr ⟨tb_292, (List.forall_mem_cons.mpr ⟨tb_197, (List.forall_mem_cons.mpr ⟨tb_291, (List.forall_mem_cons.mpr ⟨tb_290, (List.forall_mem_cons.mpr ⟨tb_289, (List.forall_mem_cons.mpr ⟨tb_288, (List.forall_mem_cons.mpr ⟨tb_199, (List.forall_mem_cons.mpr ⟨tb_201, (List.forall_mem_cons.mpr ⟨tb_287, (List.forall_mem_cons.mpr ⟨tb_286, (List.forall_mem_cons.mpr ⟨tb_285, (List.forall_mem_cons.mpr ⟨tb_284, (fun _ h => absurd h List.not_mem_nil)⟩)⟩)⟩)⟩)⟩)⟩)⟩)⟩)⟩)⟩)⟩)⟩)⟩)⟩)⟩)⟩)⟩)⟩)⟩)⟩)⟩)⟩), inX7⟩)⟩)
theorem tb_296 : Cond.methodLink RL 27 yX7_ofSort ∈ lw_tbl := List.mem_of_getElem? (i := 956) (by decide +kernel)
theorem tb_297 : Cond.instanceMethod yX7_ofSort ∈ lw_tbl := List.mem_of_getElem? (i := 957) (by decide +kernel)
theorem tb_298 : Cond.selects RX7 yX7_ofSort yX7_ofSort ∈ lw_tbl := List.mem_of_getElem? (i := 958) (by decide +kernel)
theorem gg_gL_law_X7_ofSort : ∀ w ∈ wsV RL 27 RX7 yX7_ofSort wsX7_ofSort, w ∈ lw_tbl := List.forall_mem_append.mpr ⟨(List.forall_mem_cons.mpr ⟨tb_296, (List.forall_mem_cons.mpr ⟨tb_297, (List.forall_mem_cons.mpr ⟨tb_298, (List.forall_mem_cons.mpr ⟨tb_230, (fun _ h => absurd h List.not_mem_nil)⟩)⟩)⟩)⟩), in_wsX7_ofSort⟩
set_option maxRecDepth 20000 in
theorem gL_law_X7_ofSort : GoodIn lw_tbl (wsV RL 27 RX7 yX7_ofSort wsX7_ofSort) := goodIn_sub gg_gL_law_X7_ofSort (by decide +kernel)
theorem tb_299 : Cond.code yX6_bar cX6_bar 4 (some .int) ∈ lw_tbl := List.mem_of_getElem? (i := 438) (by decide +kernel)
theorem tb_300 : Cond.methodLink RX6 141 yX6_set ∈ lw_tbl := List.mem_of_getElem? (i := 439) (by decide +kernel)
theorem in_wsX6_bar : ∀ w ∈ wsX6_bar, w ∈ lw_tbl := (List.forall_mem_cons.mpr ⟨tb_299, (List.forall_mem_append.mpr ⟨(List.forall_mem_append.mpr ⟨(List.forall_mem_cons.mpr ⟨tb_10, (List.forall_mem_cons.mpr ⟨tb_270, (List.forall_mem_cons.mpr ⟨tb_269, (List.forall_mem_cons.mpr ⟨tb_268, (List.forall_mem_cons.mpr ⟨tb_11, (List.forall_mem_cons.mpr ⟨tb_267, (List.forall_mem_cons.mpr ⟨tb_167, (List.forall_mem_cons.mpr ⟨tb_110, (List.forall_mem_cons.mpr ⟨tb_36, (List.forall_mem_cons.mpr ⟨tb_109, (List.forall_mem_cons.mpr ⟨tb_108, (List.forall_mem_cons.mpr ⟨tb_266, (List.forall_mem_cons.mpr ⟨tb_136, (List.forall_mem_cons.mpr ⟨tb_135, (List.forall_mem_cons.mpr ⟨tb_300, (List.forall_mem_cons.mpr ⟨tb_37, (List.forall_mem_cons.mpr ⟨tb_35, (fun _ h => absurd h List.not_mem_nil)⟩)⟩)⟩)⟩)⟩)⟩)⟩)⟩)⟩)⟩)⟩)⟩)⟩)⟩)⟩)⟩)⟩), inX6⟩), inX2⟩)⟩)
theorem tb_301 : Cond.methodLink RL 28 yX6_bar ∈ lw_tbl := List.mem_of_getElem? (i := 435) (by decide +kernel)
theorem tb_302 : Cond.instanceMethod yX6_bar ∈ lw_tbl := List.mem_of_getElem? (i := 436) (by decide +kernel)
theorem tb_303 : Cond.selects RX6 yX6_bar yX6_bar ∈ lw_tbl := List.mem_of_getElem? (i := 437) (by decide +kernel)
theorem gg_gL_law_X6_bar : ∀ w ∈ wsV RL 28 RX6 yX6_bar wsX6_bar, w ∈ lw_tbl := List.forall_mem_append.mpr ⟨(List.forall_mem_cons.mpr ⟨tb_301, (List.forall_mem_cons.mpr ⟨tb_302, (List.forall_mem_cons.mpr ⟨tb_303, (List.forall_mem_cons.mpr ⟨tb_36, (fun _ h => absurd h List.not_mem_nil)⟩)⟩)⟩)⟩), in_wsX6_bar⟩
set_option maxRecDepth 20000 in
theorem gL_law_X6_bar : GoodIn lw_tbl (wsV RL 28 RX6 yX6_bar wsX6_bar) := goodIn_sub gg_gL_law_X6_bar (by decide +kernel)
theorem tb_304 : Cond.code yX7_bar cX7_bar 4 (some .int) ∈ lw_tbl := List.mem_of_getElem? (i := 975) (by decide +kernel)
theorem in_wsX7_bar : ∀ w ∈ wsX7_bar, w ∈ lw_tbl := (List.forall_mem_cons.mpr ⟨tb_304, (List.forall_mem_append.mpr ⟨(List.forall_mem_cons.mpr ⟨tb_90, (List.forall_mem_cons.mpr ⟨tb_295, (List.forall_mem_cons.mpr ⟨tb_294, (List.forall_mem_cons.mpr ⟨tb_293, (List.forall_mem_cons.mpr ⟨tb_230, (List.forall_mem_cons.mpr ⟨tb_292, (List.forall_mem_cons.mpr ⟨tb_197, (List.forall_mem_cons.mpr ⟨tb_228, (List.forall_mem_cons.mpr ⟨tb_227, (List.forall_mem_cons.mpr ⟨tb_226, (fun _ h => absurd h List.not_mem_nil)⟩)⟩)⟩)⟩)⟩)⟩)⟩)⟩)⟩)⟩), inX7⟩)⟩)
theorem tb_305 : Cond.methodLink RL 31 yX7_bar ∈ lw_tbl := List.mem_of_getElem? (i := 972) (by decide +kernel)
theorem tb_306 : Cond.instanceMethod yX7_bar ∈ lw_tbl := List.mem_of_getElem? (i := 973) (by decide +kernel)
theorem tb_307 : Cond.selects RX7 yX7_bar yX7_bar ∈ lw_tbl := List.mem_of_getElem? (i := 974) (by decide +kernel)
theorem gg_gL_law_X7_bar : ∀ w ∈ wsV RL 31 RX7 yX7_bar wsX7_bar, w ∈ lw_tbl := List.forall_mem_append.mpr ⟨(List.forall_mem_cons.mpr ⟨tb_305, (List.forall_mem_cons.mpr ⟨tb_306, (List.forall_mem_cons.mpr ⟨tb_307, (List.forall_mem_cons.mpr ⟨tb_230, (fun _ h => absurd h List.not_mem_nil)⟩)⟩)⟩)⟩), in_wsX7_bar⟩
set_option maxRecDepth 20000 in
theorem gL_law_X7_bar : GoodIn lw_tbl (wsV RL 31 RX7 yX7_bar wsX7_bar) := goodIn_sub gg_gL_law_X7_bar (by decide +kernel)
theorem tb_308 : Cond.code yX6_toll cX6_toll 3 (some .int) ∈ lw_tbl := List.mem_of_getElem? (i := 443) (by decide +kernel)
theorem in_wsX6_toll : ∀ w ∈ wsX6_toll, w ∈ lw_tbl := (List.forall_mem_cons.mpr ⟨tb_308, (List.forall_mem_append.mpr ⟨(List.forall_mem_append.mpr ⟨(List.forall_mem_cons.mpr ⟨tb_10, (List.forall_mem_cons.mpr ⟨tb_108, (List.forall_mem_cons.mpr ⟨tb_110, (List.forall_mem_cons.mpr ⟨tb_36, (List.forall_mem_cons.mpr ⟨tb_109, (fun _ h => absurd h List.not_mem_nil)⟩)⟩)⟩)⟩)⟩), inX6⟩), inX2⟩)⟩)
theorem tb_309 : Cond.methodLink RL 32 yX6_toll ∈ lw_tbl := List.mem_of_getElem? (i := 440) (by decide +kernel)
theorem tb_310 : Cond.instanceMethod yX6_toll ∈ lw_tbl := List.mem_of_getElem? (i := 441) (by decide +kernel)
theorem tb_311 : Cond.selects RX6 yX6_toll yX6_toll ∈ lw_tbl := List.mem_of_getElem? (i := 442) (by decide +kernel)
theorem gg_gL_law_X6_toll : ∀ w ∈ wsV RL 32 RX6 yX6_toll wsX6_toll, w ∈ lw_tbl := List.forall_mem_append.mpr ⟨(List.forall_mem_cons.mpr ⟨tb_309, (List.forall_mem_cons.mpr ⟨tb_310, (List.forall_mem_cons.mpr ⟨tb_311, (List.forall_mem_cons.mpr ⟨tb_36, (fun _ h => absurd h List.not_mem_nil)⟩)⟩)⟩)⟩), in_wsX6_toll⟩
set_option maxRecDepth 20000 in
theorem gL_law_X6_toll : GoodIn lw_tbl (wsV RL 32 RX6 yX6_toll wsX6_toll) := goodIn_sub gg_gL_law_X6_toll (by decide +kernel)
theorem tb_312 : Cond.code yX7_toll cX7_toll 3 (some .int) ∈ lw_tbl := List.mem_of_getElem? (i := 979) (by decide +kernel)
theorem in_wsX7_toll : ∀ w ∈ wsX7_toll, w ∈ lw_tbl := (List.forall_mem_cons.mpr ⟨tb_312, (List.forall_mem_append.mpr ⟨(List.forall_mem_cons.mpr ⟨tb_203, (List.forall_mem_cons.mpr ⟨tb_196, (List.forall_mem_cons.mpr ⟨tb_228, (List.forall_mem_cons.mpr ⟨tb_227, (List.forall_mem_cons.mpr ⟨tb_230, (List.forall_mem_cons.mpr ⟨tb_226, (fun _ h => absurd h List.not_mem_nil)⟩)⟩)⟩)⟩)⟩)⟩), inX7⟩)⟩)
theorem tb_313 : Cond.methodLink RL 35 yX7_toll ∈ lw_tbl := List.mem_of_getElem? (i := 976) (by decide +kernel)
theorem tb_314 : Cond.instanceMethod yX7_toll ∈ lw_tbl := List.mem_of_getElem? (i := 977) (by decide +kernel)
theorem tb_315 : Cond.selects RX7 yX7_toll yX7_toll ∈ lw_tbl := List.mem_of_getElem? (i := 978) (by decide +kernel)
theorem gg_gL_law_X7_toll : ∀ w ∈ wsV RL 35 RX7 yX7_toll wsX7_toll, w ∈ lw_tbl := List.forall_mem_append.mpr ⟨(List.forall_mem_cons.mpr ⟨tb_313, (List.forall_mem_cons.mpr ⟨tb_314, (List.forall_mem_cons.mpr ⟨tb_315, (List.forall_mem_cons.mpr ⟨tb_230, (fun _ h => absurd h List.not_mem_nil)⟩)⟩)⟩)⟩), in_wsX7_toll⟩
set_option maxRecDepth 20000 in
theorem gL_law_X7_toll : GoodIn lw_tbl (wsV RL 35 RX7 yX7_toll wsX7_toll) := goodIn_sub gg_gL_law_X7_toll (by decide +kernel)
theorem tb_316 : Cond.code yX6_board cX6_board 4 (some .int) ∈ lw_tbl := List.mem_of_getElem? (i := 447) (by decide +kernel)
theorem in_wsX6_board : ∀ w ∈ wsX6_board, w ∈ lw_tbl := (List.forall_mem_cons.mpr ⟨tb_316, (List.forall_mem_append.mpr ⟨(List.forall_mem_append.mpr ⟨(List.forall_mem_cons.mpr ⟨tb_10, (List.forall_mem_cons.mpr ⟨tb_108, (List.forall_mem_cons.mpr ⟨tb_110, (List.forall_mem_cons.mpr ⟨tb_36, (List.forall_mem_cons.mpr ⟨tb_109, (fun _ h => absurd h List.not_mem_nil)⟩)⟩)⟩)⟩)⟩), inX6⟩), inX2⟩)⟩)
theorem tb_317 : Cond.methodLink RL 36 yX6_board ∈ lw_tbl := List.mem_of_getElem? (i := 444) (by decide +kernel)
theorem tb_318 : Cond.instanceMethod yX6_board ∈ lw_tbl := List.mem_of_getElem? (i := 445) (by decide +kernel)
theorem tb_319 : Cond.selects RX6 yX6_board yX6_board ∈ lw_tbl := List.mem_of_getElem? (i := 446) (by decide +kernel)
theorem gg_gL_law_X6_board : ∀ w ∈ wsV RL 36 RX6 yX6_board wsX6_board, w ∈ lw_tbl := List.forall_mem_append.mpr ⟨(List.forall_mem_cons.mpr ⟨tb_317, (List.forall_mem_cons.mpr ⟨tb_318, (List.forall_mem_cons.mpr ⟨tb_319, (List.forall_mem_cons.mpr ⟨tb_36, (fun _ h => absurd h List.not_mem_nil)⟩)⟩)⟩)⟩), in_wsX6_board⟩
set_option maxRecDepth 20000 in
theorem gL_law_X6_board : GoodIn lw_tbl (wsV RL 36 RX6 yX6_board wsX6_board) := goodIn_sub gg_gL_law_X6_board (by decide +kernel)
theorem tb_320 : Cond.code yX7_board cX7_board 5 (some .int) ∈ lw_tbl := List.mem_of_getElem? (i := 983) (by decide +kernel)
theorem in_wsX7_board : ∀ w ∈ wsX7_board, w ∈ lw_tbl := (List.forall_mem_cons.mpr ⟨tb_320, (List.forall_mem_append.mpr ⟨(List.forall_mem_cons.mpr ⟨tb_203, (List.forall_mem_cons.mpr ⟨tb_195, (List.forall_mem_cons.mpr ⟨tb_194, (List.forall_mem_cons.mpr ⟨tb_228, (List.forall_mem_cons.mpr ⟨tb_227, (List.forall_mem_cons.mpr ⟨tb_230, (List.forall_mem_cons.mpr ⟨tb_226, (fun _ h => absurd h List.not_mem_nil)⟩)⟩)⟩)⟩)⟩)⟩)⟩), inX7⟩)⟩)
theorem tb_321 : Cond.methodLink RL 39 yX7_board ∈ lw_tbl := List.mem_of_getElem? (i := 980) (by decide +kernel)
theorem tb_322 : Cond.instanceMethod yX7_board ∈ lw_tbl := List.mem_of_getElem? (i := 981) (by decide +kernel)
theorem tb_323 : Cond.selects RX7 yX7_board yX7_board ∈ lw_tbl := List.mem_of_getElem? (i := 982) (by decide +kernel)
theorem gg_gL_law_X7_board : ∀ w ∈ wsV RL 39 RX7 yX7_board wsX7_board, w ∈ lw_tbl := List.forall_mem_append.mpr ⟨(List.forall_mem_cons.mpr ⟨tb_321, (List.forall_mem_cons.mpr ⟨tb_322, (List.forall_mem_cons.mpr ⟨tb_323, (List.forall_mem_cons.mpr ⟨tb_230, (fun _ h => absurd h List.not_mem_nil)⟩)⟩)⟩)⟩), in_wsX7_board⟩
set_option maxRecDepth 20000 in
theorem gL_law_X7_board : GoodIn lw_tbl (wsV RL 39 RX7 yX7_board wsX7_board) := goodIn_sub gg_gL_law_X7_board (by decide +kernel)
theorem tb_324 : Cond.code yX6_bars cX6_bars 5 (some .int) ∈ lw_tbl := List.mem_of_getElem? (i := 451) (by decide +kernel)
theorem tb_325 : Cond.code yX0_rowBecomes cX0_rowBecomes 5 none ∈ lw_tbl := List.mem_of_getElem? (i := 462) (by decide +kernel)
theorem tb_326 : Cond.selects RX0 yX0_rowBecomes yX0_rowBecomes ∈ lw_tbl := List.mem_of_getElem? (i := 461) (by decide +kernel)
theorem tb_327 : Cond.instanceMethod yX0_rowBecomes ∈ lw_tbl := List.mem_of_getElem? (i := 460) (by decide +kernel)
theorem tb_328 : Cond.methodLink RX0 80 yX0_rowBecomes ∈ lw_tbl := List.mem_of_getElem? (i := 459) (by decide +kernel)
theorem tb_329 : Cond.code yX6_rowsOf cX6_rowsOf 3 (some .int) ∈ lw_tbl := List.mem_of_getElem? (i := 458) (by decide +kernel)
theorem tb_330 : Cond.static yX6_rowsOf ∈ lw_tbl := List.mem_of_getElem? (i := 457) (by decide +kernel)
theorem tb_331 : Cond.fieldLink RX0 69 "RopeLine$Gains" "lower" "J" ∈ lw_tbl := List.mem_of_getElem? (i := 239) (by decide +kernel)
theorem tb_332 : Cond.fieldLink RX0 60 "RopeLine$Gains" "upper" "J" ∈ lw_tbl := List.mem_of_getElem? (i := 237) (by decide +kernel)
theorem tb_333 : Cond.code yX0_knowBest cX0_knowBest 9 none ∈ lw_tbl := List.mem_of_getElem? (i := 455) (by decide +kernel)
theorem tb_334 : Cond.selects RX0 yX0_knowBest yX0_knowBest ∈ lw_tbl := List.mem_of_getElem? (i := 454) (by decide +kernel)
theorem tb_335 : Cond.instanceMethod yX0_knowBest ∈ lw_tbl := List.mem_of_getElem? (i := 453) (by decide +kernel)
theorem tb_336 : Cond.methodLink RX6 145 yX0_knowBest ∈ lw_tbl := List.mem_of_getElem? (i := 452) (by decide +kernel)
theorem in_wsX6_bars_r1 : ∀ w ∈ wsX6_bars_r1, w ∈ lw_tbl := (List.forall_mem_cons.mpr ⟨tb_10, (List.forall_mem_cons.mpr ⟨tb_2, (List.forall_mem_cons.mpr ⟨tb_108, (List.forall_mem_cons.mpr ⟨tb_110, (List.forall_mem_cons.mpr ⟨tb_36, (List.forall_mem_cons.mpr ⟨tb_109, (List.forall_mem_cons.mpr ⟨tb_336, (List.forall_mem_cons.mpr ⟨tb_335, (List.forall_mem_cons.mpr ⟨tb_334, (List.forall_mem_cons.mpr ⟨tb_3, (List.forall_mem_cons.mpr ⟨tb_333, (List.forall_mem_cons.mpr ⟨tb_177, (List.forall_mem_cons.mpr ⟨tb_56, (List.forall_mem_cons.mpr ⟨tb_332, (List.forall_mem_cons.mpr ⟨tb_331, (List.forall_mem_cons.mpr ⟨tb_55, (List.forall_mem_cons.mpr ⟨tb_330, (List.forall_mem_cons.mpr ⟨tb_329, (List.forall_mem_cons.mpr ⟨tb_328, (List.forall_mem_cons.mpr ⟨tb_327, (List.forall_mem_cons.mpr ⟨tb_326, (List.forall_mem_cons.mpr ⟨tb_325, (List.forall_mem_cons.mpr ⟨tb_37, (List.forall_mem_cons.mpr ⟨tb_35, (fun _ h => absurd h List.not_mem_nil)⟩)⟩)⟩)⟩)⟩)⟩)⟩)⟩)⟩)⟩)⟩)⟩)⟩)⟩)⟩)⟩)⟩)⟩)⟩)⟩)⟩)⟩)⟩)⟩)
theorem tb_337 : Cond.methodLink RX1 42 yX1_weigh ∈ lw_tbl := List.mem_of_getElem? (i := 477) (by decide +kernel)
theorem tb_338 : Cond.code yX2_joining cX2_joining 5 (some .int) ∈ lw_tbl := List.mem_of_getElem? (i := 475) (by decide +kernel)
theorem tb_339 : Cond.selects RX2 yX2_joining yX2_joining ∈ lw_tbl := List.mem_of_getElem? (i := 474) (by decide +kernel)
theorem tb_340 : Cond.instanceMethod yX2_joining ∈ lw_tbl := List.mem_of_getElem? (i := 473) (by decide +kernel)
theorem tb_341 : Cond.methodLink RX1 35 yX2_joining ∈ lw_tbl := List.mem_of_getElem? (i := 472) (by decide +kernel)
theorem tb_342 : Cond.fieldLink RX1 32 "RopeLine$Lengths" "whole" "I" ∈ lw_tbl := List.mem_of_getElem? (i := 203) (by decide +kernel)
theorem tb_343 : Cond.fieldLink RX1 31 "RopeLine$Lengths" "served" "I" ∈ lw_tbl := List.mem_of_getElem? (i := 202) (by decide +kernel)
theorem tb_344 : Cond.code yX1_comeByBars cX1_comeByBars 4 none ∈ lw_tbl := List.mem_of_getElem? (i := 471) (by decide +kernel)
theorem tb_345 : Cond.selects RX1 yX1_comeByBars yX1_comeByBars ∈ lw_tbl := List.mem_of_getElem? (i := 470) (by decide +kernel)
theorem tb_346 : Cond.instanceMethod yX1_comeByBars ∈ lw_tbl := List.mem_of_getElem? (i := 469) (by decide +kernel)
theorem tb_347 : Cond.methodLink RX0 29 yX1_comeByBars ∈ lw_tbl := List.mem_of_getElem? (i := 468) (by decide +kernel)
theorem tb_348 : Cond.constantLong RX0 64 (144) ∈ lw_tbl := List.mem_of_getElem? (i := 509) (by decide +kernel)
theorem tb_349 : Cond.code yX0_reckon cX0_reckon 6 none ∈ lw_tbl := List.mem_of_getElem? (i := 467) (by decide +kernel)
theorem tb_350 : Cond.selects RX0 yX0_reckon yX0_reckon ∈ lw_tbl := List.mem_of_getElem? (i := 466) (by decide +kernel)
theorem tb_351 : Cond.instanceMethod yX0_reckon ∈ lw_tbl := List.mem_of_getElem? (i := 465) (by decide +kernel)
theorem tb_352 : Cond.methodLink RX0 84 yX0_reckon ∈ lw_tbl := List.mem_of_getElem? (i := 464) (by decide +kernel)
theorem in_wsX6_bars_r2 : ∀ w ∈ wsX6_bars_r2, w ∈ lw_tbl := (List.forall_mem_cons.mpr ⟨tb_352, (List.forall_mem_cons.mpr ⟨tb_351, (List.forall_mem_cons.mpr ⟨tb_350, (List.forall_mem_cons.mpr ⟨tb_349, (List.forall_mem_cons.mpr ⟨tb_57, (List.forall_mem_cons.mpr ⟨tb_348, (List.forall_mem_cons.mpr ⟨tb_347, (List.forall_mem_cons.mpr ⟨tb_346, (List.forall_mem_cons.mpr ⟨tb_345, (List.forall_mem_cons.mpr ⟨tb_7, (List.forall_mem_cons.mpr ⟨tb_344, (List.forall_mem_cons.mpr ⟨tb_343, (List.forall_mem_cons.mpr ⟨tb_342, (List.forall_mem_cons.mpr ⟨tb_66, (List.forall_mem_cons.mpr ⟨tb_341, (List.forall_mem_cons.mpr ⟨tb_340, (List.forall_mem_cons.mpr ⟨tb_339, (List.forall_mem_cons.mpr ⟨tb_11, (List.forall_mem_cons.mpr ⟨tb_338, (List.forall_mem_cons.mpr ⟨tb_167, (List.forall_mem_cons.mpr ⟨tb_72, (List.forall_mem_cons.mpr ⟨tb_136, (List.forall_mem_cons.mpr ⟨tb_135, (List.forall_mem_cons.mpr ⟨tb_337, (fun _ h => absurd h List.not_mem_nil)⟩)⟩)⟩)⟩)⟩)⟩)⟩)⟩)⟩)⟩)⟩)⟩)⟩)⟩)⟩)⟩)⟩)⟩)⟩)⟩)⟩)⟩)⟩)⟩)
theorem tb_353 : Cond.selects RX1 yX1_found yX1_found ∈ lw_tbl := List.mem_of_getElem? (i := 503) (by decide +kernel)
theorem tb_354 : Cond.instanceMethod yX1_found ∈ lw_tbl := List.mem_of_getElem? (i := 502) (by decide +kernel)
theorem tb_355 : Cond.methodLink RX1 68 yX1_found ∈ lw_tbl := List.mem_of_getElem? (i := 501) (by decide +kernel)
theorem tb_356 : Cond.code yX1_foundBelow cX1_foundBelow 5 (some .long) ∈ lw_tbl := List.mem_of_getElem? (i := 500) (by decide +kernel)
theorem tb_357 : Cond.selects RX1 yX1_foundBelow yX1_foundBelow ∈ lw_tbl := List.mem_of_getElem? (i := 499) (by decide +kernel)
theorem tb_358 : Cond.instanceMethod yX1_foundBelow ∈ lw_tbl := List.mem_of_getElem? (i := 498) (by decide +kernel)
theorem tb_359 : Cond.methodLink RX0 49 yX1_foundBelow ∈ lw_tbl := List.mem_of_getElem? (i := 497) (by decide +kernel)
theorem tb_360 : Cond.code yX1_shrinks cX1_shrinks 2 (some .long) ∈ lw_tbl := List.mem_of_getElem? (i := 495) (by decide +kernel)
theorem tb_361 : Cond.selects RX1 yX1_shrinks yX1_shrinks ∈ lw_tbl := List.mem_of_getElem? (i := 8) (by decide +kernel)
theorem tb_362 : Cond.instanceMethod yX1_shrinks ∈ lw_tbl := List.mem_of_getElem? (i := 494) (by decide +kernel)
theorem tb_363 : Cond.methodLink RX1 61 yX1_shrinks ∈ lw_tbl := List.mem_of_getElem? (i := 492) (by decide +kernel)
theorem tb_364 : Cond.code yX6_at_ cX6_at_ 2 (some .long) ∈ lw_tbl := List.mem_of_getElem? (i := 491) (by decide +kernel)
theorem tb_365 : Cond.static yX6_at_ ∈ lw_tbl := List.mem_of_getElem? (i := 490) (by decide +kernel)
theorem tb_366 : Cond.code yX1_grows cX1_grows 2 (some .long) ∈ lw_tbl := List.mem_of_getElem? (i := 487) (by decide +kernel)
theorem tb_367 : Cond.selects RX1 yX1_grows yX1_grows ∈ lw_tbl := List.mem_of_getElem? (i := 7) (by decide +kernel)
theorem tb_368 : Cond.instanceMethod yX1_grows ∈ lw_tbl := List.mem_of_getElem? (i := 486) (by decide +kernel)
theorem tb_369 : Cond.methodLink RX1 54 yX1_grows ∈ lw_tbl := List.mem_of_getElem? (i := 484) (by decide +kernel)
theorem tb_370 : Cond.code yX6_set_ cX6_set_ 4 none ∈ lw_tbl := List.mem_of_getElem? (i := 483) (by decide +kernel)
theorem tb_371 : Cond.static yX6_set_ ∈ lw_tbl := List.mem_of_getElem? (i := 482) (by decide +kernel)
theorem tb_372 : Cond.fieldLink RX1 64 "RopeLine$Lengths" "total" "J" ∈ lw_tbl := List.mem_of_getElem? (i := 205) (by decide +kernel)
theorem tb_373 : Cond.code yX1_weigh cX1_weigh 3 none ∈ lw_tbl := List.mem_of_getElem? (i := 480) (by decide +kernel)
theorem tb_374 : Cond.selects RX1 yX1_weigh yX1_weigh ∈ lw_tbl := List.mem_of_getElem? (i := 6) (by decide +kernel)
theorem tb_375 : Cond.instanceMethod yX1_weigh ∈ lw_tbl := List.mem_of_getElem? (i := 479) (by decide +kernel)
theorem in_wsX6_bars_r3 : ∀ w ∈ wsX6_bars_r3, w ∈ lw_tbl := (List.forall_mem_cons.mpr ⟨tb_375, (List.forall_mem_cons.mpr ⟨tb_374, (List.forall_mem_cons.mpr ⟨tb_373, (List.forall_mem_cons.mpr ⟨tb_64, (List.forall_mem_cons.mpr ⟨tb_372, (List.forall_mem_cons.mpr ⟨tb_371, (List.forall_mem_cons.mpr ⟨tb_370, (List.forall_mem_cons.mpr ⟨tb_369, (List.forall_mem_cons.mpr ⟨tb_368, (List.forall_mem_cons.mpr ⟨tb_367, (List.forall_mem_cons.mpr ⟨tb_366, (List.forall_mem_cons.mpr ⟨tb_365, (List.forall_mem_cons.mpr ⟨tb_364, (List.forall_mem_cons.mpr ⟨tb_363, (List.forall_mem_cons.mpr ⟨tb_362, (List.forall_mem_cons.mpr ⟨tb_361, (List.forall_mem_cons.mpr ⟨tb_360, (List.forall_mem_cons.mpr ⟨tb_359, (List.forall_mem_cons.mpr ⟨tb_358, (List.forall_mem_cons.mpr ⟨tb_357, (List.forall_mem_cons.mpr ⟨tb_356, (List.forall_mem_cons.mpr ⟨tb_355, (List.forall_mem_cons.mpr ⟨tb_354, (List.forall_mem_cons.mpr ⟨tb_353, (fun _ h => absurd h List.not_mem_nil)⟩)⟩)⟩)⟩)⟩)⟩)⟩)⟩)⟩)⟩)⟩)⟩)⟩)⟩)⟩)⟩)⟩)⟩)⟩)⟩)⟩)⟩)⟩)⟩)
theorem tb_376 : Cond.code yX6_barFor cX6_barFor 3 (some .int) ∈ lw_tbl := List.mem_of_getElem? (i := 519) (by decide +kernel)
theorem tb_377 : Cond.selects RX6 yX6_barFor yX6_barFor ∈ lw_tbl := List.mem_of_getElem? (i := 9) (by decide +kernel)
theorem tb_378 : Cond.instanceMethod yX6_barFor ∈ lw_tbl := List.mem_of_getElem? (i := 518) (by decide +kernel)
theorem tb_379 : Cond.methodLink RX6 149 yX6_barFor ∈ lw_tbl := List.mem_of_getElem? (i := 516) (by decide +kernel)
theorem tb_380 : Cond.code yJ9_floorDiv_f86c9 cJ9_floorDiv_f86c9 6 (some .long) ∈ lw_tbl := List.mem_of_getElem? (i := 515) (by decide +kernel)
theorem tb_381 : Cond.initialized RJ9 ∈ lw_tbl := List.mem_of_getElem? (i := 61) (by decide +kernel)
theorem tb_382 : Cond.static yJ9_floorDiv_f86c9 ∈ lw_tbl := List.mem_of_getElem? (i := 514) (by decide +kernel)
theorem tb_383 : Cond.methodLink RX6 347 yJ9_floorDiv_f86c9 ∈ lw_tbl := List.mem_of_getElem? (i := 513) (by decide +kernel)
theorem tb_384 : Cond.code yX6_compareShares cX6_compareShares 25 (some .int) ∈ lw_tbl := List.mem_of_getElem? (i := 512) (by decide +kernel)
theorem tb_385 : Cond.static yX6_compareShares ∈ lw_tbl := List.mem_of_getElem? (i := 511) (by decide +kernel)
theorem tb_386 : Cond.code yX1_lengthsByWeight cX1_lengthsByWeight 4 (some .long) ∈ lw_tbl := List.mem_of_getElem? (i := 508) (by decide +kernel)
theorem tb_387 : Cond.selects RX1 yX1_lengthsByWeight yX1_lengthsByWeight ∈ lw_tbl := List.mem_of_getElem? (i := 507) (by decide +kernel)
theorem tb_388 : Cond.instanceMethod yX1_lengthsByWeight ∈ lw_tbl := List.mem_of_getElem? (i := 506) (by decide +kernel)
theorem tb_389 : Cond.methodLink RX0 56 yX1_lengthsByWeight ∈ lw_tbl := List.mem_of_getElem? (i := 505) (by decide +kernel)
theorem tb_390 : Cond.code yX1_found cX1_found 2 (some .long) ∈ lw_tbl := List.mem_of_getElem? (i := 504) (by decide +kernel)
theorem in_wsX6_bars_r4 : ∀ w ∈ wsX6_bars_r4, w ∈ lw_tbl := (List.forall_mem_cons.mpr ⟨tb_390, (List.forall_mem_cons.mpr ⟨tb_389, (List.forall_mem_cons.mpr ⟨tb_388, (List.forall_mem_cons.mpr ⟨tb_387, (List.forall_mem_cons.mpr ⟨tb_386, (List.forall_mem_cons.mpr ⟨tb_385, (List.forall_mem_cons.mpr ⟨tb_384, (List.forall_mem_cons.mpr ⟨tb_383, (List.forall_mem_cons.mpr ⟨tb_382, (List.forall_mem_cons.mpr ⟨tb_381, (List.forall_mem_cons.mpr ⟨tb_380, (List.forall_mem_cons.mpr ⟨tb_379, (List.forall_mem_cons.mpr ⟨tb_378, (List.forall_mem_cons.mpr ⟨tb_377, (List.forall_mem_cons.mpr ⟨tb_376, (List.forall_mem_cons.mpr ⟨tb_265, (List.forall_mem_cons.mpr ⟨tb_264, (List.forall_mem_cons.mpr ⟨tb_263, (List.forall_mem_cons.mpr ⟨tb_262, (List.forall_mem_cons.mpr ⟨tb_165, (List.forall_mem_cons.mpr ⟨tb_166, (List.forall_mem_cons.mpr ⟨tb_71, (List.forall_mem_cons.mpr ⟨tb_168, (List.forall_mem_cons.mpr ⟨tb_261, (fun _ h => absurd h List.not_mem_nil)⟩)⟩)⟩)⟩)⟩)⟩)⟩)⟩)⟩)⟩)⟩)⟩)⟩)⟩)⟩)⟩)⟩)⟩)⟩)⟩)⟩)⟩)⟩)⟩)
theorem in_wsX6_bars_r5 : ∀ w ∈ wsX6_bars_r5, w ∈ lw_tbl := (List.forall_mem_cons.mpr ⟨tb_260, (List.forall_mem_cons.mpr ⟨tb_259, (List.forall_mem_cons.mpr ⟨tb_279, (List.forall_mem_cons.mpr ⟨tb_169, (List.forall_mem_cons.mpr ⟨tb_278, (List.forall_mem_cons.mpr ⟨tb_277, (List.forall_mem_cons.mpr ⟨tb_276, (List.forall_mem_cons.mpr ⟨tb_275, (List.forall_mem_cons.mpr ⟨tb_164, (List.forall_mem_cons.mpr ⟨tb_274, (List.forall_mem_cons.mpr ⟨tb_273, (List.forall_mem_cons.mpr ⟨tb_272, (List.forall_mem_cons.mpr ⟨tb_271, (List.forall_mem_cons.mpr ⟨tb_266, (List.forall_mem_cons.mpr ⟨tb_300, (fun _ h => absurd h List.not_mem_nil)⟩)⟩)⟩)⟩)⟩)⟩)⟩)⟩)⟩)⟩)⟩)⟩)⟩)⟩)⟩)
theorem in_wsX6_bars : ∀ w ∈ wsX6_bars, w ∈ lw_tbl := (List.forall_mem_cons.mpr ⟨tb_324, (List.forall_mem_append.mpr ⟨(List.forall_mem_append.mpr ⟨(List.forall_mem_append.mpr ⟨(List.forall_mem_append.mpr ⟨(List.forall_mem_append.mpr ⟨in_wsX6_bars_r1, (List.forall_mem_append.mpr ⟨in_wsX6_bars_r2, (List.forall_mem_append.mpr ⟨in_wsX6_bars_r3, (List.forall_mem_append.mpr ⟨in_wsX6_bars_r4, in_wsX6_bars_r5⟩)⟩)⟩)⟩), inX6⟩), inX2⟩), inX0⟩), inX1⟩)⟩)
theorem tb_391 : Cond.methodLink RL 40 yX6_bars ∈ lw_tbl := List.mem_of_getElem? (i := 448) (by decide +kernel)
theorem tb_392 : Cond.instanceMethod yX6_bars ∈ lw_tbl := List.mem_of_getElem? (i := 449) (by decide +kernel)
theorem tb_393 : Cond.selects RX6 yX6_bars yX6_bars ∈ lw_tbl := List.mem_of_getElem? (i := 450) (by decide +kernel)
theorem gg_gL_law_X6_bars : ∀ w ∈ wsV RL 40 RX6 yX6_bars wsX6_bars, w ∈ lw_tbl := List.forall_mem_append.mpr ⟨(List.forall_mem_cons.mpr ⟨tb_391, (List.forall_mem_cons.mpr ⟨tb_392, (List.forall_mem_cons.mpr ⟨tb_393, (List.forall_mem_cons.mpr ⟨tb_36, (fun _ h => absurd h List.not_mem_nil)⟩)⟩)⟩)⟩), in_wsX6_bars⟩
set_option maxRecDepth 20000 in
theorem gL_law_X6_bars : GoodIn lw_tbl (wsV RL 40 RX6 yX6_bars wsX6_bars) := goodIn_sub gg_gL_law_X6_bars (by decide +kernel)
theorem tb_394 : Cond.code yX7_bars cX7_bars 5 (some .int) ∈ lw_tbl := List.mem_of_getElem? (i := 1082) (by decide +kernel)
theorem tb_395 : Cond.instanceMethod yX7_layRow ∈ lw_tbl := List.mem_of_getElem? (i := 1071) (by decide +kernel)
theorem tb_396 : Cond.methodLink RX7 226 yX7_layRow ∈ lw_tbl := List.mem_of_getElem? (i := 1069) (by decide +kernel)
theorem tb_397 : Cond.code yX7_allRows cX7_allRows 1 (some .int) ∈ lw_tbl := List.mem_of_getElem? (i := 1068) (by decide +kernel)
theorem tb_398 : Cond.selects RX7 yX7_allRows yX7_allRows ∈ lw_tbl := List.mem_of_getElem? (i := 43) (by decide +kernel)
theorem tb_399 : Cond.instanceMethod yX7_allRows ∈ lw_tbl := List.mem_of_getElem? (i := 1067) (by decide +kernel)
theorem tb_400 : Cond.methodLink RX7 223 yX7_allRows ∈ lw_tbl := List.mem_of_getElem? (i := 1065) (by decide +kernel)
theorem tb_401 : Cond.fieldLink RX7 88 "RopeLineModel" "down" "J" ∈ lw_tbl := List.mem_of_getElem? (i := 793) (by decide +kernel)
theorem tb_402 : Cond.fieldLink RX7 84 "RopeLineModel" "up" "J" ∈ lw_tbl := List.mem_of_getElem? (i := 792) (by decide +kernel)
theorem tb_403 : Cond.code yX7_findBest cX7_findBest 7 none ∈ lw_tbl := List.mem_of_getElem? (i := 1064) (by decide +kernel)
theorem tb_404 : Cond.selects RX7 yX7_findBest yX7_findBest ∈ lw_tbl := List.mem_of_getElem? (i := 42) (by decide +kernel)
theorem tb_405 : Cond.instanceMethod yX7_findBest ∈ lw_tbl := List.mem_of_getElem? (i := 1063) (by decide +kernel)
theorem tb_406 : Cond.methodLink RX7 233 yX7_findBest ∈ lw_tbl := List.mem_of_getElem? (i := 1061) (by decide +kernel)
theorem in_wsX7_bars_r1 : ∀ w ∈ wsX7_bars_r1, w ∈ lw_tbl := (List.forall_mem_cons.mpr ⟨tb_203, (List.forall_mem_cons.mpr ⟨tb_197, (List.forall_mem_cons.mpr ⟨tb_196, (List.forall_mem_cons.mpr ⟨tb_195, (List.forall_mem_cons.mpr ⟨tb_194, (List.forall_mem_cons.mpr ⟨tb_80, (List.forall_mem_cons.mpr ⟨tb_90, (List.forall_mem_cons.mpr ⟨tb_228, (List.forall_mem_cons.mpr ⟨tb_227, (List.forall_mem_cons.mpr ⟨tb_230, (List.forall_mem_cons.mpr ⟨tb_226, (List.forall_mem_cons.mpr ⟨tb_406, (List.forall_mem_cons.mpr ⟨tb_405, (List.forall_mem_cons.mpr ⟨tb_404, (List.forall_mem_cons.mpr ⟨tb_403, (List.forall_mem_cons.mpr ⟨tb_81, (List.forall_mem_cons.mpr ⟨tb_402, (List.forall_mem_cons.mpr ⟨tb_401, (List.forall_mem_cons.mpr ⟨tb_400, (List.forall_mem_cons.mpr ⟨tb_399, (List.forall_mem_cons.mpr ⟨tb_398, (List.forall_mem_cons.mpr ⟨tb_397, (List.forall_mem_cons.mpr ⟨tb_396, (List.forall_mem_cons.mpr ⟨tb_395, (fun _ h => absurd h List.not_mem_nil)⟩)⟩)⟩)⟩)⟩)⟩)⟩)⟩)⟩)⟩)⟩)⟩)⟩)⟩)⟩)⟩)⟩)⟩)⟩)⟩)⟩)⟩)⟩)⟩)
theorem tb_407 : Cond.methodLink RX7 190 yX7_layWeights ∈ lw_tbl := List.mem_of_getElem? (i := 1001) (by decide +kernel)
theorem tb_408 : Cond.code yX7_layJoins cX7_layJoins 4 none ∈ lw_tbl := List.mem_of_getElem? (i := 999) (by decide +kernel)
theorem tb_409 : Cond.selects RX7 yX7_layJoins yX7_layJoins ∈ lw_tbl := List.mem_of_getElem? (i := 34) (by decide +kernel)
theorem tb_410 : Cond.instanceMethod yX7_layJoins ∈ lw_tbl := List.mem_of_getElem? (i := 998) (by decide +kernel)
theorem tb_411 : Cond.methodLink RX7 184 yX7_layJoins ∈ lw_tbl := List.mem_of_getElem? (i := 996) (by decide +kernel)
theorem tb_412 : Cond.constantLong RX7 188 (12) ∈ lw_tbl := List.mem_of_getElem? (i := 1000) (by decide +kernel)
theorem tb_413 : Cond.code yX7_layRun cX7_layRun 3 none ∈ lw_tbl := List.mem_of_getElem? (i := 995) (by decide +kernel)
theorem tb_414 : Cond.selects RX7 yX7_layRun yX7_layRun ∈ lw_tbl := List.mem_of_getElem? (i := 33) (by decide +kernel)
theorem tb_415 : Cond.instanceMethod yX7_layRun ∈ lw_tbl := List.mem_of_getElem? (i := 994) (by decide +kernel)
theorem tb_416 : Cond.methodLink RX7 197 yX7_layRun ∈ lw_tbl := List.mem_of_getElem? (i := 992) (by decide +kernel)
theorem tb_417 : Cond.constantLong RX7 218 (144) ∈ lw_tbl := List.mem_of_getElem? (i := 1040) (by decide +kernel)
theorem tb_418 : Cond.code yX7_layGain cX7_layGain 8 none ∈ lw_tbl := List.mem_of_getElem? (i := 1056) (by decide +kernel)
theorem tb_419 : Cond.selects RX7 yX7_layGain yX7_layGain ∈ lw_tbl := List.mem_of_getElem? (i := 41) (by decide +kernel)
theorem tb_420 : Cond.instanceMethod yX7_layGain ∈ lw_tbl := List.mem_of_getElem? (i := 1055) (by decide +kernel)
theorem tb_421 : Cond.methodLink RX7 220 yX7_layGain ∈ lw_tbl := List.mem_of_getElem? (i := 1053) (by decide +kernel)
theorem tb_422 : Cond.code yX7_layRow cX7_layRow 4 none ∈ lw_tbl := List.mem_of_getElem? (i := 1072) (by decide +kernel)
theorem tb_423 : Cond.selects RX7 yX7_layRow yX7_layRow ∈ lw_tbl := List.mem_of_getElem? (i := 44) (by decide +kernel)
theorem in_wsX7_bars_r2 : ∀ w ∈ wsX7_bars_r2, w ∈ lw_tbl := (List.forall_mem_cons.mpr ⟨tb_423, (List.forall_mem_cons.mpr ⟨tb_422, (List.forall_mem_cons.mpr ⟨tb_421, (List.forall_mem_cons.mpr ⟨tb_420, (List.forall_mem_cons.mpr ⟨tb_419, (List.forall_mem_cons.mpr ⟨tb_418, (List.forall_mem_cons.mpr ⟨tb_92, (List.forall_mem_cons.mpr ⟨tb_91, (List.forall_mem_cons.mpr ⟨tb_417, (List.forall_mem_cons.mpr ⟨tb_199, (List.forall_mem_cons.mpr ⟨tb_416, (List.forall_mem_cons.mpr ⟨tb_415, (List.forall_mem_cons.mpr ⟨tb_414, (List.forall_mem_cons.mpr ⟨tb_413, (List.forall_mem_cons.mpr ⟨tb_86, (List.forall_mem_cons.mpr ⟨tb_412, (List.forall_mem_cons.mpr ⟨tb_201, (List.forall_mem_cons.mpr ⟨tb_87, (List.forall_mem_cons.mpr ⟨tb_85, (List.forall_mem_cons.mpr ⟨tb_411, (List.forall_mem_cons.mpr ⟨tb_410, (List.forall_mem_cons.mpr ⟨tb_409, (List.forall_mem_cons.mpr ⟨tb_408, (List.forall_mem_cons.mpr ⟨tb_407, (fun _ h => absurd h List.not_mem_nil)⟩)⟩)⟩)⟩)⟩)⟩)⟩)⟩)⟩)⟩)⟩)⟩)⟩)⟩)⟩)⟩)⟩)⟩)⟩)⟩)⟩)⟩)⟩)⟩)
theorem tb_424 : Cond.methodLink RX7 229 yX7_compare ∈ lw_tbl := List.mem_of_getElem? (i := 1073) (by decide +kernel)
theorem tb_425 : Cond.code yX7_common cX7_common 10 (some .long) ∈ lw_tbl := List.mem_of_getElem? (i := 1015) (by decide +kernel)
theorem tb_426 : Cond.static yX7_common ∈ lw_tbl := List.mem_of_getElem? (i := 1014) (by decide +kernel)
theorem tb_427 : Cond.methodLink RX7 80 yX7_common ∈ lw_tbl := List.mem_of_getElem? (i := 1013) (by decide +kernel)
theorem tb_428 : Cond.code yX7_share cX7_share 7 none ∈ lw_tbl := List.mem_of_getElem? (i := 1012) (by decide +kernel)
theorem tb_429 : Cond.selects RX7 yX7_share yX7_share ∈ lw_tbl := List.mem_of_getElem? (i := 37) (by decide +kernel)
theorem tb_430 : Cond.instanceMethod yX7_share ∈ lw_tbl := List.mem_of_getElem? (i := 1011) (by decide +kernel)
theorem tb_431 : Cond.methodLink RX7 204 yX7_share ∈ lw_tbl := List.mem_of_getElem? (i := 1009) (by decide +kernel)
theorem tb_432 : Cond.code yX7_allWeights cX7_allWeights 4 (some .long) ∈ lw_tbl := List.mem_of_getElem? (i := 1008) (by decide +kernel)
theorem tb_433 : Cond.selects RX7 yX7_allWeights yX7_allWeights ∈ lw_tbl := List.mem_of_getElem? (i := 36) (by decide +kernel)
theorem tb_434 : Cond.instanceMethod yX7_allWeights ∈ lw_tbl := List.mem_of_getElem? (i := 1007) (by decide +kernel)
theorem tb_435 : Cond.methodLink RX7 200 yX7_allWeights ∈ lw_tbl := List.mem_of_getElem? (i := 1005) (by decide +kernel)
theorem tb_436 : Cond.code yX7_meanWeights cX7_meanWeights 4 (some .long) ∈ lw_tbl := List.mem_of_getElem? (i := 1027) (by decide +kernel)
theorem tb_437 : Cond.selects RX7 yX7_meanWeights yX7_meanWeights ∈ lw_tbl := List.mem_of_getElem? (i := 39) (by decide +kernel)
theorem tb_438 : Cond.instanceMethod yX7_meanWeights ∈ lw_tbl := List.mem_of_getElem? (i := 1026) (by decide +kernel)
theorem tb_439 : Cond.methodLink RX7 212 yX7_meanWeights ∈ lw_tbl := List.mem_of_getElem? (i := 1024) (by decide +kernel)
theorem tb_440 : Cond.code yX7_metAt cX7_metAt 2 (some .long) ∈ lw_tbl := List.mem_of_getElem? (i := 1035) (by decide +kernel)
theorem tb_441 : Cond.selects RX7 yX7_metAt yX7_metAt ∈ lw_tbl := List.mem_of_getElem? (i := 40) (by decide +kernel)
theorem tb_442 : Cond.instanceMethod yX7_metAt ∈ lw_tbl := List.mem_of_getElem? (i := 1034) (by decide +kernel)
theorem tb_443 : Cond.methodLink RX7 215 yX7_metAt ∈ lw_tbl := List.mem_of_getElem? (i := 1032) (by decide +kernel)
theorem tb_444 : Cond.code yX7_layWeights cX7_layWeights 4 none ∈ lw_tbl := List.mem_of_getElem? (i := 1004) (by decide +kernel)
theorem tb_445 : Cond.selects RX7 yX7_layWeights yX7_layWeights ∈ lw_tbl := List.mem_of_getElem? (i := 35) (by decide +kernel)
theorem tb_446 : Cond.instanceMethod yX7_layWeights ∈ lw_tbl := List.mem_of_getElem? (i := 1003) (by decide +kernel)
theorem in_wsX7_bars_r3 : ∀ w ∈ wsX7_bars_r3, w ∈ lw_tbl := (List.forall_mem_cons.mpr ⟨tb_446, (List.forall_mem_cons.mpr ⟨tb_445, (List.forall_mem_cons.mpr ⟨tb_444, (List.forall_mem_cons.mpr ⟨tb_84, (List.forall_mem_cons.mpr ⟨tb_443, (List.forall_mem_cons.mpr ⟨tb_442, (List.forall_mem_cons.mpr ⟨tb_441, (List.forall_mem_cons.mpr ⟨tb_440, (List.forall_mem_cons.mpr ⟨tb_439, (List.forall_mem_cons.mpr ⟨tb_438, (List.forall_mem_cons.mpr ⟨tb_437, (List.forall_mem_cons.mpr ⟨tb_436, (List.forall_mem_cons.mpr ⟨tb_435, (List.forall_mem_cons.mpr ⟨tb_434, (List.forall_mem_cons.mpr ⟨tb_433, (List.forall_mem_cons.mpr ⟨tb_432, (List.forall_mem_cons.mpr ⟨tb_431, (List.forall_mem_cons.mpr ⟨tb_430, (List.forall_mem_cons.mpr ⟨tb_429, (List.forall_mem_cons.mpr ⟨tb_428, (List.forall_mem_cons.mpr ⟨tb_427, (List.forall_mem_cons.mpr ⟨tb_426, (List.forall_mem_cons.mpr ⟨tb_425, (List.forall_mem_cons.mpr ⟨tb_424, (fun _ h => absurd h List.not_mem_nil)⟩)⟩)⟩)⟩)⟩)⟩)⟩)⟩)⟩)⟩)⟩)⟩)⟩)⟩)⟩)⟩)⟩)⟩)⟩)⟩)⟩)⟩)⟩)⟩)
theorem tb_447 : Cond.code yX7_whole cX7_whole 6 (some .long) ∈ lw_tbl := List.mem_of_getElem? (i := 1078) (by decide +kernel)
theorem tb_448 : Cond.static yX7_whole ∈ lw_tbl := List.mem_of_getElem? (i := 1077) (by decide +kernel)
theorem tb_449 : Cond.methodLink RX7 91 yX7_whole ∈ lw_tbl := List.mem_of_getElem? (i := 1076) (by decide +kernel)
theorem tb_450 : Cond.code yX7_compare cX7_compare 23 (some .int) ∈ lw_tbl := List.mem_of_getElem? (i := 1075) (by decide +kernel)
theorem tb_451 : Cond.static yX7_compare ∈ lw_tbl := List.mem_of_getElem? (i := 1074) (by decide +kernel)
theorem in_wsX7_bars_r4 : ∀ w ∈ wsX7_bars_r4, w ∈ lw_tbl := (List.forall_mem_cons.mpr ⟨tb_451, (List.forall_mem_cons.mpr ⟨tb_450, (List.forall_mem_cons.mpr ⟨tb_449, (List.forall_mem_cons.mpr ⟨tb_448, (List.forall_mem_cons.mpr ⟨tb_447, (List.forall_mem_cons.mpr ⟨tb_291, (List.forall_mem_cons.mpr ⟨tb_290, (List.forall_mem_cons.mpr ⟨tb_289, (List.forall_mem_cons.mpr ⟨tb_288, (List.forall_mem_cons.mpr ⟨tb_287, (List.forall_mem_cons.mpr ⟨tb_286, (List.forall_mem_cons.mpr ⟨tb_285, (List.forall_mem_cons.mpr ⟨tb_284, (fun _ h => absurd h List.not_mem_nil)⟩)⟩)⟩)⟩)⟩)⟩)⟩)⟩)⟩)⟩)⟩)⟩)⟩)
theorem in_wsX7_bars : ∀ w ∈ wsX7_bars, w ∈ lw_tbl := (List.forall_mem_cons.mpr ⟨tb_394, (List.forall_mem_append.mpr ⟨(List.forall_mem_append.mpr ⟨in_wsX7_bars_r1, (List.forall_mem_append.mpr ⟨in_wsX7_bars_r2, (List.forall_mem_append.mpr ⟨in_wsX7_bars_r3, in_wsX7_bars_r4⟩)⟩)⟩), inX7⟩)⟩)
theorem tb_452 : Cond.methodLink RL 43 yX7_bars ∈ lw_tbl := List.mem_of_getElem? (i := 1079) (by decide +kernel)
theorem tb_453 : Cond.instanceMethod yX7_bars ∈ lw_tbl := List.mem_of_getElem? (i := 1080) (by decide +kernel)
theorem tb_454 : Cond.selects RX7 yX7_bars yX7_bars ∈ lw_tbl := List.mem_of_getElem? (i := 1081) (by decide +kernel)
theorem gg_gL_law_X7_bars : ∀ w ∈ wsV RL 43 RX7 yX7_bars wsX7_bars, w ∈ lw_tbl := List.forall_mem_append.mpr ⟨(List.forall_mem_cons.mpr ⟨tb_452, (List.forall_mem_cons.mpr ⟨tb_453, (List.forall_mem_cons.mpr ⟨tb_454, (List.forall_mem_cons.mpr ⟨tb_230, (fun _ h => absurd h List.not_mem_nil)⟩)⟩)⟩)⟩), in_wsX7_bars⟩
set_option maxRecDepth 20000 in
theorem gL_law_X7_bars : GoodIn lw_tbl (wsV RL 43 RX7 yX7_bars wsX7_bars) := goodIn_sub gg_gL_law_X7_bars (by decide +kernel)
theorem tb_455 : Cond.code yX6_often cX6_often 3 (some .long) ∈ lw_tbl := List.mem_of_getElem? (i := 523) (by decide +kernel)
theorem tb_456 : Cond.methodLink RX6 158 yX1_comeByBars ∈ lw_tbl := List.mem_of_getElem? (i := 525) (by decide +kernel)
theorem tb_457 : Cond.constantLong RX6 156 (-9223372036854775808) ∈ lw_tbl := List.mem_of_getElem? (i := 524) (by decide +kernel)
theorem in_wsX6_often_r1 : ∀ w ∈ wsX6_often_r1, w ∈ lw_tbl := (List.forall_mem_cons.mpr ⟨tb_10, (List.forall_mem_cons.mpr ⟨tb_457, (List.forall_mem_cons.mpr ⟨tb_6, (List.forall_mem_cons.mpr ⟨tb_108, (List.forall_mem_cons.mpr ⟨tb_110, (List.forall_mem_cons.mpr ⟨tb_36, (List.forall_mem_cons.mpr ⟨tb_109, (List.forall_mem_cons.mpr ⟨tb_456, (List.forall_mem_cons.mpr ⟨tb_346, (List.forall_mem_cons.mpr ⟨tb_345, (List.forall_mem_cons.mpr ⟨tb_7, (List.forall_mem_cons.mpr ⟨tb_344, (List.forall_mem_cons.mpr ⟨tb_343, (List.forall_mem_cons.mpr ⟨tb_342, (List.forall_mem_cons.mpr ⟨tb_66, (List.forall_mem_cons.mpr ⟨tb_341, (List.forall_mem_cons.mpr ⟨tb_340, (List.forall_mem_cons.mpr ⟨tb_339, (List.forall_mem_cons.mpr ⟨tb_11, (List.forall_mem_cons.mpr ⟨tb_338, (List.forall_mem_cons.mpr ⟨tb_167, (List.forall_mem_cons.mpr ⟨tb_72, (List.forall_mem_cons.mpr ⟨tb_136, (List.forall_mem_cons.mpr ⟨tb_135, (fun _ h => absurd h List.not_mem_nil)⟩)⟩)⟩)⟩)⟩)⟩)⟩)⟩)⟩)⟩)⟩)⟩)⟩)⟩)⟩)⟩)⟩)⟩)⟩)⟩)⟩)⟩)⟩)⟩)
theorem tb_458 : Cond.code yX6_share cX6_share 7 (some .long) ∈ lw_tbl := List.mem_of_getElem? (i := 529) (by decide +kernel)
theorem tb_459 : Cond.static yX6_share ∈ lw_tbl := List.mem_of_getElem? (i := 528) (by decide +kernel)
theorem tb_460 : Cond.methodLink RX6 173 yX6_share ∈ lw_tbl := List.mem_of_getElem? (i := 527) (by decide +kernel)
theorem tb_461 : Cond.methodLink RX6 166 yX6_at_ ∈ lw_tbl := List.mem_of_getElem? (i := 526) (by decide +kernel)
theorem in_wsX6_often_r2 : ∀ w ∈ wsX6_often_r2, w ∈ lw_tbl := (List.forall_mem_cons.mpr ⟨tb_37, (List.forall_mem_cons.mpr ⟨tb_35, (List.forall_mem_cons.mpr ⟨tb_337, (List.forall_mem_cons.mpr ⟨tb_375, (List.forall_mem_cons.mpr ⟨tb_374, (List.forall_mem_cons.mpr ⟨tb_373, (List.forall_mem_cons.mpr ⟨tb_64, (List.forall_mem_cons.mpr ⟨tb_372, (List.forall_mem_cons.mpr ⟨tb_371, (List.forall_mem_cons.mpr ⟨tb_370, (List.forall_mem_cons.mpr ⟨tb_369, (List.forall_mem_cons.mpr ⟨tb_368, (List.forall_mem_cons.mpr ⟨tb_367, (List.forall_mem_cons.mpr ⟨tb_366, (List.forall_mem_cons.mpr ⟨tb_365, (List.forall_mem_cons.mpr ⟨tb_364, (List.forall_mem_cons.mpr ⟨tb_363, (List.forall_mem_cons.mpr ⟨tb_362, (List.forall_mem_cons.mpr ⟨tb_361, (List.forall_mem_cons.mpr ⟨tb_360, (List.forall_mem_cons.mpr ⟨tb_461, (List.forall_mem_cons.mpr ⟨tb_460, (List.forall_mem_cons.mpr ⟨tb_459, (List.forall_mem_cons.mpr ⟨tb_458, (fun _ h => absurd h List.not_mem_nil)⟩)⟩)⟩)⟩)⟩)⟩)⟩)⟩)⟩)⟩)⟩)⟩)⟩)⟩)⟩)⟩)⟩)⟩)⟩)⟩)⟩)⟩)⟩)⟩)
theorem tb_462 : Cond.code yX6_commonDivisor cX6_commonDivisor 11 (some .long) ∈ lw_tbl := List.mem_of_getElem? (i := 535) (by decide +kernel)
theorem tb_463 : Cond.static yX6_commonDivisor ∈ lw_tbl := List.mem_of_getElem? (i := 534) (by decide +kernel)
theorem tb_464 : Cond.methodLink RX6 343 yX6_commonDivisor ∈ lw_tbl := List.mem_of_getElem? (i := 533) (by decide +kernel)
theorem tb_465 : Cond.code Lib.MathLoose.abs_long.x Lib.MathLoose.abs_long.code 2 (some .long) ∈ lw_tbl := List.mem_of_getElem? (i := 532) (by decide +kernel)
theorem tb_466 : Cond.static Lib.MathLoose.abs_long.x ∈ lw_tbl := List.mem_of_getElem? (i := 531) (by decide +kernel)
theorem tb_467 : Cond.methodLink RX6 337 Lib.MathLoose.abs_long.x ∈ lw_tbl := List.mem_of_getElem? (i := 530) (by decide +kernel)
theorem in_wsX6_often_r3 : ∀ w ∈ wsX6_often_r3, w ∈ lw_tbl := (List.forall_mem_cons.mpr ⟨tb_467, (List.forall_mem_cons.mpr ⟨tb_466, (List.forall_mem_cons.mpr ⟨tb_272, (List.forall_mem_cons.mpr ⟨tb_465, (List.forall_mem_cons.mpr ⟨tb_464, (List.forall_mem_cons.mpr ⟨tb_463, (List.forall_mem_cons.mpr ⟨tb_462, (fun _ h => absurd h List.not_mem_nil)⟩)⟩)⟩)⟩)⟩)⟩)⟩)
theorem in_wsX6_often : ∀ w ∈ wsX6_often, w ∈ lw_tbl := (List.forall_mem_cons.mpr ⟨tb_455, (List.forall_mem_append.mpr ⟨(List.forall_mem_append.mpr ⟨(List.forall_mem_append.mpr ⟨(List.forall_mem_append.mpr ⟨in_wsX6_often_r1, (List.forall_mem_append.mpr ⟨in_wsX6_often_r2, in_wsX6_often_r3⟩)⟩), inX6⟩), inX2⟩), inX1⟩)⟩)
theorem tb_468 : Cond.methodLink RL 44 yX6_often ∈ lw_tbl := List.mem_of_getElem? (i := 520) (by decide +kernel)
theorem tb_469 : Cond.instanceMethod yX6_often ∈ lw_tbl := List.mem_of_getElem? (i := 521) (by decide +kernel)
theorem tb_470 : Cond.selects RX6 yX6_often yX6_often ∈ lw_tbl := List.mem_of_getElem? (i := 522) (by decide +kernel)
theorem gg_gL_law_X6_often : ∀ w ∈ wsV RL 44 RX6 yX6_often wsX6_often, w ∈ lw_tbl := List.forall_mem_append.mpr ⟨(List.forall_mem_cons.mpr ⟨tb_468, (List.forall_mem_cons.mpr ⟨tb_469, (List.forall_mem_cons.mpr ⟨tb_470, (List.forall_mem_cons.mpr ⟨tb_36, (fun _ h => absurd h List.not_mem_nil)⟩)⟩)⟩)⟩), in_wsX6_often⟩
set_option maxRecDepth 20000 in
theorem gL_law_X6_often : GoodIn lw_tbl (wsV RL 44 RX6 yX6_often wsX6_often) := goodIn_sub gg_gL_law_X6_often (by decide +kernel)
theorem tb_471 : Cond.code yX7_often cX7_often 3 (some .long) ∈ lw_tbl := List.mem_of_getElem? (i := 987) (by decide +kernel)
theorem tb_472 : Cond.code yX7_isWhich cX7_isWhich 1 (some .boolean) ∈ lw_tbl := List.mem_of_getElem? (i := 990) (by decide +kernel)
theorem tb_473 : Cond.static yX7_isWhich ∈ lw_tbl := List.mem_of_getElem? (i := 989) (by decide +kernel)
theorem tb_474 : Cond.methodLink RX7 194 yX7_isWhich ∈ lw_tbl := List.mem_of_getElem? (i := 988) (by decide +kernel)
theorem tb_475 : Cond.constantLong RX7 78 (-9223372036854775808) ∈ lw_tbl := List.mem_of_getElem? (i := 991) (by decide +kernel)
theorem in_wsX7_often_r1 : ∀ w ∈ wsX7_often_r1, w ∈ lw_tbl := (List.forall_mem_cons.mpr ⟨tb_203, (List.forall_mem_cons.mpr ⟨tb_475, (List.forall_mem_cons.mpr ⟨tb_90, (List.forall_mem_cons.mpr ⟨tb_84, (List.forall_mem_cons.mpr ⟨tb_228, (List.forall_mem_cons.mpr ⟨tb_227, (List.forall_mem_cons.mpr ⟨tb_230, (List.forall_mem_cons.mpr ⟨tb_226, (List.forall_mem_cons.mpr ⟨tb_474, (List.forall_mem_cons.mpr ⟨tb_473, (List.forall_mem_cons.mpr ⟨tb_472, (List.forall_mem_cons.mpr ⟨tb_416, (List.forall_mem_cons.mpr ⟨tb_415, (List.forall_mem_cons.mpr ⟨tb_414, (List.forall_mem_cons.mpr ⟨tb_413, (List.forall_mem_cons.mpr ⟨tb_86, (List.forall_mem_cons.mpr ⟨tb_412, (List.forall_mem_cons.mpr ⟨tb_201, (List.forall_mem_cons.mpr ⟨tb_87, (List.forall_mem_cons.mpr ⟨tb_85, (List.forall_mem_cons.mpr ⟨tb_411, (List.forall_mem_cons.mpr ⟨tb_410, (List.forall_mem_cons.mpr ⟨tb_409, (List.forall_mem_cons.mpr ⟨tb_408, (fun _ h => absurd h List.not_mem_nil)⟩)⟩)⟩)⟩)⟩)⟩)⟩)⟩)⟩)⟩)⟩)⟩)⟩)⟩)⟩)⟩)⟩)⟩)⟩)⟩)⟩)⟩)⟩)⟩)
theorem tb_476 : Cond.code yX7_told cX7_told 2 (some .long) ∈ lw_tbl := List.mem_of_getElem? (i := 1019) (by decide +kernel)
theorem tb_477 : Cond.selects RX7 yX7_told yX7_told ∈ lw_tbl := List.mem_of_getElem? (i := 38) (by decide +kernel)
theorem tb_478 : Cond.instanceMethod yX7_told ∈ lw_tbl := List.mem_of_getElem? (i := 1018) (by decide +kernel)
theorem tb_479 : Cond.methodLink RX7 208 yX7_told ∈ lw_tbl := List.mem_of_getElem? (i := 1016) (by decide +kernel)
theorem in_wsX7_often_r2 : ∀ w ∈ wsX7_often_r2, w ∈ lw_tbl := (List.forall_mem_cons.mpr ⟨tb_197, (List.forall_mem_cons.mpr ⟨tb_92, (List.forall_mem_cons.mpr ⟨tb_407, (List.forall_mem_cons.mpr ⟨tb_446, (List.forall_mem_cons.mpr ⟨tb_445, (List.forall_mem_cons.mpr ⟨tb_444, (List.forall_mem_cons.mpr ⟨tb_435, (List.forall_mem_cons.mpr ⟨tb_434, (List.forall_mem_cons.mpr ⟨tb_433, (List.forall_mem_cons.mpr ⟨tb_432, (List.forall_mem_cons.mpr ⟨tb_431, (List.forall_mem_cons.mpr ⟨tb_430, (List.forall_mem_cons.mpr ⟨tb_429, (List.forall_mem_cons.mpr ⟨tb_428, (List.forall_mem_cons.mpr ⟨tb_402, (List.forall_mem_cons.mpr ⟨tb_401, (List.forall_mem_cons.mpr ⟨tb_427, (List.forall_mem_cons.mpr ⟨tb_426, (List.forall_mem_cons.mpr ⟨tb_425, (List.forall_mem_cons.mpr ⟨tb_479, (List.forall_mem_cons.mpr ⟨tb_478, (List.forall_mem_cons.mpr ⟨tb_477, (List.forall_mem_cons.mpr ⟨tb_476, (fun _ h => absurd h List.not_mem_nil)⟩)⟩)⟩)⟩)⟩)⟩)⟩)⟩)⟩)⟩)⟩)⟩)⟩)⟩)⟩)⟩)⟩)⟩)⟩)⟩)⟩)⟩)⟩)
theorem in_wsX7_often : ∀ w ∈ wsX7_often, w ∈ lw_tbl := (List.forall_mem_cons.mpr ⟨tb_471, (List.forall_mem_append.mpr ⟨(List.forall_mem_append.mpr ⟨in_wsX7_often_r1, in_wsX7_often_r2⟩), inX7⟩)⟩)
theorem tb_480 : Cond.methodLink RL 48 yX7_often ∈ lw_tbl := List.mem_of_getElem? (i := 984) (by decide +kernel)
theorem tb_481 : Cond.instanceMethod yX7_often ∈ lw_tbl := List.mem_of_getElem? (i := 985) (by decide +kernel)
theorem tb_482 : Cond.selects RX7 yX7_often yX7_often ∈ lw_tbl := List.mem_of_getElem? (i := 986) (by decide +kernel)
theorem gg_gL_law_X7_often : ∀ w ∈ wsV RL 48 RX7 yX7_often wsX7_often, w ∈ lw_tbl := List.forall_mem_append.mpr ⟨(List.forall_mem_cons.mpr ⟨tb_480, (List.forall_mem_cons.mpr ⟨tb_481, (List.forall_mem_cons.mpr ⟨tb_482, (List.forall_mem_cons.mpr ⟨tb_230, (fun _ h => absurd h List.not_mem_nil)⟩)⟩)⟩)⟩), in_wsX7_often⟩
set_option maxRecDepth 20000 in
theorem gL_law_X7_often : GoodIn lw_tbl (wsV RL 48 RX7 yX7_often wsX7_often) := goodIn_sub gg_gL_law_X7_often (by decide +kernel)
theorem tb_483 : Cond.code yX6_mean cX6_mean 2 (some .long) ∈ lw_tbl := List.mem_of_getElem? (i := 539) (by decide +kernel)
theorem in_wsX6_mean_r1 : ∀ w ∈ wsX6_mean_r1, w ∈ lw_tbl := (List.forall_mem_cons.mpr ⟨tb_10, (List.forall_mem_cons.mpr ⟨tb_457, (List.forall_mem_cons.mpr ⟨tb_6, (List.forall_mem_cons.mpr ⟨tb_108, (List.forall_mem_cons.mpr ⟨tb_110, (List.forall_mem_cons.mpr ⟨tb_36, (List.forall_mem_cons.mpr ⟨tb_109, (List.forall_mem_cons.mpr ⟨tb_456, (List.forall_mem_cons.mpr ⟨tb_346, (List.forall_mem_cons.mpr ⟨tb_345, (List.forall_mem_cons.mpr ⟨tb_7, (List.forall_mem_cons.mpr ⟨tb_344, (List.forall_mem_cons.mpr ⟨tb_343, (List.forall_mem_cons.mpr ⟨tb_342, (List.forall_mem_cons.mpr ⟨tb_66, (List.forall_mem_cons.mpr ⟨tb_341, (List.forall_mem_cons.mpr ⟨tb_340, (List.forall_mem_cons.mpr ⟨tb_339, (List.forall_mem_cons.mpr ⟨tb_11, (List.forall_mem_cons.mpr ⟨tb_338, (List.forall_mem_cons.mpr ⟨tb_167, (List.forall_mem_cons.mpr ⟨tb_72, (List.forall_mem_cons.mpr ⟨tb_136, (List.forall_mem_cons.mpr ⟨tb_135, (fun _ h => absurd h List.not_mem_nil)⟩)⟩)⟩)⟩)⟩)⟩)⟩)⟩)⟩)⟩)⟩)⟩)⟩)⟩)⟩)⟩)⟩)⟩)⟩)⟩)⟩)⟩)⟩)⟩)
theorem tb_484 : Cond.methodLink RX6 177 yX1_lengthsByWeight ∈ lw_tbl := List.mem_of_getElem? (i := 540) (by decide +kernel)
theorem in_wsX6_mean_r2 : ∀ w ∈ wsX6_mean_r2, w ∈ lw_tbl := (List.forall_mem_cons.mpr ⟨tb_37, (List.forall_mem_cons.mpr ⟨tb_35, (List.forall_mem_cons.mpr ⟨tb_337, (List.forall_mem_cons.mpr ⟨tb_375, (List.forall_mem_cons.mpr ⟨tb_374, (List.forall_mem_cons.mpr ⟨tb_373, (List.forall_mem_cons.mpr ⟨tb_64, (List.forall_mem_cons.mpr ⟨tb_372, (List.forall_mem_cons.mpr ⟨tb_371, (List.forall_mem_cons.mpr ⟨tb_370, (List.forall_mem_cons.mpr ⟨tb_369, (List.forall_mem_cons.mpr ⟨tb_368, (List.forall_mem_cons.mpr ⟨tb_367, (List.forall_mem_cons.mpr ⟨tb_366, (List.forall_mem_cons.mpr ⟨tb_365, (List.forall_mem_cons.mpr ⟨tb_364, (List.forall_mem_cons.mpr ⟨tb_363, (List.forall_mem_cons.mpr ⟨tb_362, (List.forall_mem_cons.mpr ⟨tb_361, (List.forall_mem_cons.mpr ⟨tb_360, (List.forall_mem_cons.mpr ⟨tb_484, (List.forall_mem_cons.mpr ⟨tb_388, (List.forall_mem_cons.mpr ⟨tb_387, (List.forall_mem_cons.mpr ⟨tb_386, (fun _ h => absurd h List.not_mem_nil)⟩)⟩)⟩)⟩)⟩)⟩)⟩)⟩)⟩)⟩)⟩)⟩)⟩)⟩)⟩)⟩)⟩)⟩)⟩)⟩)⟩)⟩)⟩)⟩)
theorem in_wsX6_mean_r3 : ∀ w ∈ wsX6_mean_r3, w ∈ lw_tbl := (List.forall_mem_cons.mpr ⟨tb_460, (List.forall_mem_cons.mpr ⟨tb_459, (List.forall_mem_cons.mpr ⟨tb_458, (List.forall_mem_cons.mpr ⟨tb_467, (List.forall_mem_cons.mpr ⟨tb_466, (List.forall_mem_cons.mpr ⟨tb_272, (List.forall_mem_cons.mpr ⟨tb_465, (List.forall_mem_cons.mpr ⟨tb_464, (List.forall_mem_cons.mpr ⟨tb_463, (List.forall_mem_cons.mpr ⟨tb_462, (fun _ h => absurd h List.not_mem_nil)⟩)⟩)⟩)⟩)⟩)⟩)⟩)⟩)⟩)⟩)
theorem in_wsX6_mean : ∀ w ∈ wsX6_mean, w ∈ lw_tbl := (List.forall_mem_cons.mpr ⟨tb_483, (List.forall_mem_append.mpr ⟨(List.forall_mem_append.mpr ⟨(List.forall_mem_append.mpr ⟨(List.forall_mem_append.mpr ⟨in_wsX6_mean_r1, (List.forall_mem_append.mpr ⟨in_wsX6_mean_r2, in_wsX6_mean_r3⟩)⟩), inX6⟩), inX2⟩), inX1⟩)⟩)
theorem tb_485 : Cond.methodLink RL 49 yX6_mean ∈ lw_tbl := List.mem_of_getElem? (i := 536) (by decide +kernel)
theorem tb_486 : Cond.instanceMethod yX6_mean ∈ lw_tbl := List.mem_of_getElem? (i := 537) (by decide +kernel)
theorem tb_487 : Cond.selects RX6 yX6_mean yX6_mean ∈ lw_tbl := List.mem_of_getElem? (i := 538) (by decide +kernel)
theorem gg_gL_law_X6_mean : ∀ w ∈ wsV RL 49 RX6 yX6_mean wsX6_mean, w ∈ lw_tbl := List.forall_mem_append.mpr ⟨(List.forall_mem_cons.mpr ⟨tb_485, (List.forall_mem_cons.mpr ⟨tb_486, (List.forall_mem_cons.mpr ⟨tb_487, (List.forall_mem_cons.mpr ⟨tb_36, (fun _ h => absurd h List.not_mem_nil)⟩)⟩)⟩)⟩), in_wsX6_mean⟩
set_option maxRecDepth 20000 in
theorem gL_law_X6_mean : GoodIn lw_tbl (wsV RL 49 RX6 yX6_mean wsX6_mean) := goodIn_sub gg_gL_law_X6_mean (by decide +kernel)
theorem tb_488 : Cond.code yX7_mean cX7_mean 2 (some .long) ∈ lw_tbl := List.mem_of_getElem? (i := 1023) (by decide +kernel)
theorem in_wsX7_mean_r1 : ∀ w ∈ wsX7_mean_r1, w ∈ lw_tbl := (List.forall_mem_cons.mpr ⟨tb_203, (List.forall_mem_cons.mpr ⟨tb_475, (List.forall_mem_cons.mpr ⟨tb_90, (List.forall_mem_cons.mpr ⟨tb_474, (List.forall_mem_cons.mpr ⟨tb_473, (List.forall_mem_cons.mpr ⟨tb_230, (List.forall_mem_cons.mpr ⟨tb_472, (List.forall_mem_cons.mpr ⟨tb_416, (List.forall_mem_cons.mpr ⟨tb_415, (List.forall_mem_cons.mpr ⟨tb_414, (List.forall_mem_cons.mpr ⟨tb_413, (List.forall_mem_cons.mpr ⟨tb_86, (List.forall_mem_cons.mpr ⟨tb_412, (List.forall_mem_cons.mpr ⟨tb_201, (List.forall_mem_cons.mpr ⟨tb_87, (List.forall_mem_cons.mpr ⟨tb_85, (List.forall_mem_cons.mpr ⟨tb_411, (List.forall_mem_cons.mpr ⟨tb_410, (List.forall_mem_cons.mpr ⟨tb_409, (List.forall_mem_cons.mpr ⟨tb_408, (List.forall_mem_cons.mpr ⟨tb_197, (List.forall_mem_cons.mpr ⟨tb_92, (List.forall_mem_cons.mpr ⟨tb_407, (List.forall_mem_cons.mpr ⟨tb_446, (fun _ h => absurd h List.not_mem_nil)⟩)⟩)⟩)⟩)⟩)⟩)⟩)⟩)⟩)⟩)⟩)⟩)⟩)⟩)⟩)⟩)⟩)⟩)⟩)⟩)⟩)⟩)⟩)⟩)
theorem in_wsX7_mean_r2 : ∀ w ∈ wsX7_mean_r2, w ∈ lw_tbl := (List.forall_mem_cons.mpr ⟨tb_445, (List.forall_mem_cons.mpr ⟨tb_444, (List.forall_mem_cons.mpr ⟨tb_84, (List.forall_mem_cons.mpr ⟨tb_439, (List.forall_mem_cons.mpr ⟨tb_438, (List.forall_mem_cons.mpr ⟨tb_437, (List.forall_mem_cons.mpr ⟨tb_436, (List.forall_mem_cons.mpr ⟨tb_435, (List.forall_mem_cons.mpr ⟨tb_434, (List.forall_mem_cons.mpr ⟨tb_433, (List.forall_mem_cons.mpr ⟨tb_432, (List.forall_mem_cons.mpr ⟨tb_431, (List.forall_mem_cons.mpr ⟨tb_430, (List.forall_mem_cons.mpr ⟨tb_429, (List.forall_mem_cons.mpr ⟨tb_428, (List.forall_mem_cons.mpr ⟨tb_402, (List.forall_mem_cons.mpr ⟨tb_401, (List.forall_mem_cons.mpr ⟨tb_427, (List.forall_mem_cons.mpr ⟨tb_426, (List.forall_mem_cons.mpr ⟨tb_425, (List.forall_mem_cons.mpr ⟨tb_479, (List.forall_mem_cons.mpr ⟨tb_478, (List.forall_mem_cons.mpr ⟨tb_477, (List.forall_mem_cons.mpr ⟨tb_476, (fun _ h => absurd h List.not_mem_nil)⟩)⟩)⟩)⟩)⟩)⟩)⟩)⟩)⟩)⟩)⟩)⟩)⟩)⟩)⟩)⟩)⟩)⟩)⟩)⟩)⟩)⟩)⟩)⟩)
theorem in_wsX7_mean : ∀ w ∈ wsX7_mean, w ∈ lw_tbl := (List.forall_mem_cons.mpr ⟨tb_488, (List.forall_mem_append.mpr ⟨(List.forall_mem_append.mpr ⟨in_wsX7_mean_r1, in_wsX7_mean_r2⟩), inX7⟩)⟩)
theorem tb_489 : Cond.methodLink RL 53 yX7_mean ∈ lw_tbl := List.mem_of_getElem? (i := 1020) (by decide +kernel)
theorem tb_490 : Cond.instanceMethod yX7_mean ∈ lw_tbl := List.mem_of_getElem? (i := 1021) (by decide +kernel)
theorem tb_491 : Cond.selects RX7 yX7_mean yX7_mean ∈ lw_tbl := List.mem_of_getElem? (i := 1022) (by decide +kernel)
theorem gg_gL_law_X7_mean : ∀ w ∈ wsV RL 53 RX7 yX7_mean wsX7_mean, w ∈ lw_tbl := List.forall_mem_append.mpr ⟨(List.forall_mem_cons.mpr ⟨tb_489, (List.forall_mem_cons.mpr ⟨tb_490, (List.forall_mem_cons.mpr ⟨tb_491, (List.forall_mem_cons.mpr ⟨tb_230, (fun _ h => absurd h List.not_mem_nil)⟩)⟩)⟩)⟩), in_wsX7_mean⟩
set_option maxRecDepth 20000 in
theorem gL_law_X7_mean : GoodIn lw_tbl (wsV RL 53 RX7 yX7_mean wsX7_mean) := goodIn_sub gg_gL_law_X7_mean (by decide +kernel)
theorem tb_492 : Cond.code yX6_on cX6_on 5 (some .long) ∈ lw_tbl := List.mem_of_getElem? (i := 544) (by decide +kernel)
theorem tb_493 : Cond.constantLong RX6 181 (12) ∈ lw_tbl := List.mem_of_getElem? (i := 545) (by decide +kernel)
theorem in_wsX6_on_r1 : ∀ w ∈ wsX6_on_r1, w ∈ lw_tbl := (List.forall_mem_cons.mpr ⟨tb_10, (List.forall_mem_cons.mpr ⟨tb_457, (List.forall_mem_cons.mpr ⟨tb_6, (List.forall_mem_cons.mpr ⟨tb_493, (List.forall_mem_cons.mpr ⟨tb_270, (List.forall_mem_cons.mpr ⟨tb_269, (List.forall_mem_cons.mpr ⟨tb_268, (List.forall_mem_cons.mpr ⟨tb_11, (List.forall_mem_cons.mpr ⟨tb_267, (List.forall_mem_cons.mpr ⟨tb_167, (List.forall_mem_cons.mpr ⟨tb_110, (List.forall_mem_cons.mpr ⟨tb_36, (List.forall_mem_cons.mpr ⟨tb_109, (List.forall_mem_cons.mpr ⟨tb_108, (List.forall_mem_cons.mpr ⟨tb_456, (List.forall_mem_cons.mpr ⟨tb_346, (List.forall_mem_cons.mpr ⟨tb_345, (List.forall_mem_cons.mpr ⟨tb_7, (List.forall_mem_cons.mpr ⟨tb_344, (List.forall_mem_cons.mpr ⟨tb_343, (List.forall_mem_cons.mpr ⟨tb_342, (List.forall_mem_cons.mpr ⟨tb_66, (List.forall_mem_cons.mpr ⟨tb_341, (List.forall_mem_cons.mpr ⟨tb_340, (fun _ h => absurd h List.not_mem_nil)⟩)⟩)⟩)⟩)⟩)⟩)⟩)⟩)⟩)⟩)⟩)⟩)⟩)⟩)⟩)⟩)⟩)⟩)⟩)⟩)⟩)⟩)⟩)⟩)
theorem in_wsX6_on_r2 : ∀ w ∈ wsX6_on_r2, w ∈ lw_tbl := (List.forall_mem_cons.mpr ⟨tb_339, (List.forall_mem_cons.mpr ⟨tb_338, (List.forall_mem_cons.mpr ⟨tb_72, (List.forall_mem_cons.mpr ⟨tb_136, (List.forall_mem_cons.mpr ⟨tb_135, (List.forall_mem_cons.mpr ⟨tb_37, (List.forall_mem_cons.mpr ⟨tb_35, (List.forall_mem_cons.mpr ⟨tb_337, (List.forall_mem_cons.mpr ⟨tb_375, (List.forall_mem_cons.mpr ⟨tb_374, (List.forall_mem_cons.mpr ⟨tb_373, (List.forall_mem_cons.mpr ⟨tb_64, (List.forall_mem_cons.mpr ⟨tb_372, (List.forall_mem_cons.mpr ⟨tb_371, (List.forall_mem_cons.mpr ⟨tb_370, (List.forall_mem_cons.mpr ⟨tb_369, (List.forall_mem_cons.mpr ⟨tb_368, (List.forall_mem_cons.mpr ⟨tb_367, (List.forall_mem_cons.mpr ⟨tb_366, (List.forall_mem_cons.mpr ⟨tb_365, (List.forall_mem_cons.mpr ⟨tb_364, (List.forall_mem_cons.mpr ⟨tb_363, (List.forall_mem_cons.mpr ⟨tb_362, (List.forall_mem_cons.mpr ⟨tb_361, (fun _ h => absurd h List.not_mem_nil)⟩)⟩)⟩)⟩)⟩)⟩)⟩)⟩)⟩)⟩)⟩)⟩)⟩)⟩)⟩)⟩)⟩)⟩)⟩)⟩)⟩)⟩)⟩)⟩)
theorem tb_494 : Cond.methodLink RX6 183 yX1_foundBelow ∈ lw_tbl := List.mem_of_getElem? (i := 546) (by decide +kernel)
theorem in_wsX6_on_r3 : ∀ w ∈ wsX6_on_r3, w ∈ lw_tbl := (List.forall_mem_cons.mpr ⟨tb_360, (List.forall_mem_cons.mpr ⟨tb_266, (List.forall_mem_cons.mpr ⟨tb_494, (List.forall_mem_cons.mpr ⟨tb_358, (List.forall_mem_cons.mpr ⟨tb_357, (List.forall_mem_cons.mpr ⟨tb_356, (List.forall_mem_cons.mpr ⟨tb_355, (List.forall_mem_cons.mpr ⟨tb_354, (List.forall_mem_cons.mpr ⟨tb_353, (List.forall_mem_cons.mpr ⟨tb_390, (List.forall_mem_cons.mpr ⟨tb_460, (List.forall_mem_cons.mpr ⟨tb_459, (List.forall_mem_cons.mpr ⟨tb_458, (List.forall_mem_cons.mpr ⟨tb_467, (List.forall_mem_cons.mpr ⟨tb_466, (List.forall_mem_cons.mpr ⟨tb_272, (List.forall_mem_cons.mpr ⟨tb_465, (List.forall_mem_cons.mpr ⟨tb_464, (List.forall_mem_cons.mpr ⟨tb_463, (List.forall_mem_cons.mpr ⟨tb_462, (fun _ h => absurd h List.not_mem_nil)⟩)⟩)⟩)⟩)⟩)⟩)⟩)⟩)⟩)⟩)⟩)⟩)⟩)⟩)⟩)⟩)⟩)⟩)⟩)⟩)
theorem in_wsX6_on : ∀ w ∈ wsX6_on, w ∈ lw_tbl := (List.forall_mem_cons.mpr ⟨tb_492, (List.forall_mem_append.mpr ⟨(List.forall_mem_append.mpr ⟨(List.forall_mem_append.mpr ⟨(List.forall_mem_append.mpr ⟨in_wsX6_on_r1, (List.forall_mem_append.mpr ⟨in_wsX6_on_r2, in_wsX6_on_r3⟩)⟩), inX6⟩), inX2⟩), inX1⟩)⟩)
theorem tb_495 : Cond.methodLink RL 54 yX6_on ∈ lw_tbl := List.mem_of_getElem? (i := 541) (by decide +kernel)
theorem tb_496 : Cond.instanceMethod yX6_on ∈ lw_tbl := List.mem_of_getElem? (i := 542) (by decide +kernel)
theorem tb_497 : Cond.selects RX6 yX6_on yX6_on ∈ lw_tbl := List.mem_of_getElem? (i := 543) (by decide +kernel)
theorem gg_gL_law_X6_on : ∀ w ∈ wsV RL 54 RX6 yX6_on wsX6_on, w ∈ lw_tbl := List.forall_mem_append.mpr ⟨(List.forall_mem_cons.mpr ⟨tb_495, (List.forall_mem_cons.mpr ⟨tb_496, (List.forall_mem_cons.mpr ⟨tb_497, (List.forall_mem_cons.mpr ⟨tb_36, (fun _ h => absurd h List.not_mem_nil)⟩)⟩)⟩)⟩), in_wsX6_on⟩
set_option maxRecDepth 20000 in
theorem gL_law_X6_on : GoodIn lw_tbl (wsV RL 54 RX6 yX6_on wsX6_on) := goodIn_sub gg_gL_law_X6_on (by decide +kernel)
theorem tb_498 : Cond.code yX7_on cX7_on 6 (some .long) ∈ lw_tbl := List.mem_of_getElem? (i := 1031) (by decide +kernel)
theorem in_wsX7_on_r1 : ∀ w ∈ wsX7_on_r1, w ∈ lw_tbl := (List.forall_mem_cons.mpr ⟨tb_475, (List.forall_mem_cons.mpr ⟨tb_90, (List.forall_mem_cons.mpr ⟨tb_412, (List.forall_mem_cons.mpr ⟨tb_295, (List.forall_mem_cons.mpr ⟨tb_294, (List.forall_mem_cons.mpr ⟨tb_293, (List.forall_mem_cons.mpr ⟨tb_230, (List.forall_mem_cons.mpr ⟨tb_292, (List.forall_mem_cons.mpr ⟨tb_197, (List.forall_mem_cons.mpr ⟨tb_474, (List.forall_mem_cons.mpr ⟨tb_473, (List.forall_mem_cons.mpr ⟨tb_472, (List.forall_mem_cons.mpr ⟨tb_416, (List.forall_mem_cons.mpr ⟨tb_415, (List.forall_mem_cons.mpr ⟨tb_414, (List.forall_mem_cons.mpr ⟨tb_413, (List.forall_mem_cons.mpr ⟨tb_86, (List.forall_mem_cons.mpr ⟨tb_201, (List.forall_mem_cons.mpr ⟨tb_87, (List.forall_mem_cons.mpr ⟨tb_85, (List.forall_mem_cons.mpr ⟨tb_411, (List.forall_mem_cons.mpr ⟨tb_410, (List.forall_mem_cons.mpr ⟨tb_409, (List.forall_mem_cons.mpr ⟨tb_408, (fun _ h => absurd h List.not_mem_nil)⟩)⟩)⟩)⟩)⟩)⟩)⟩)⟩)⟩)⟩)⟩)⟩)⟩)⟩)⟩)⟩)⟩)⟩)⟩)⟩)⟩)⟩)⟩)⟩)
theorem in_wsX7_on_r2 : ∀ w ∈ wsX7_on_r2, w ∈ lw_tbl := (List.forall_mem_cons.mpr ⟨tb_92, (List.forall_mem_cons.mpr ⟨tb_407, (List.forall_mem_cons.mpr ⟨tb_446, (List.forall_mem_cons.mpr ⟨tb_445, (List.forall_mem_cons.mpr ⟨tb_444, (List.forall_mem_cons.mpr ⟨tb_84, (List.forall_mem_cons.mpr ⟨tb_443, (List.forall_mem_cons.mpr ⟨tb_442, (List.forall_mem_cons.mpr ⟨tb_441, (List.forall_mem_cons.mpr ⟨tb_440, (List.forall_mem_cons.mpr ⟨tb_435, (List.forall_mem_cons.mpr ⟨tb_434, (List.forall_mem_cons.mpr ⟨tb_433, (List.forall_mem_cons.mpr ⟨tb_432, (List.forall_mem_cons.mpr ⟨tb_431, (List.forall_mem_cons.mpr ⟨tb_430, (List.forall_mem_cons.mpr ⟨tb_429, (List.forall_mem_cons.mpr ⟨tb_428, (List.forall_mem_cons.mpr ⟨tb_402, (List.forall_mem_cons.mpr ⟨tb_401, (List.forall_mem_cons.mpr ⟨tb_427, (List.forall_mem_cons.mpr ⟨tb_426, (List.forall_mem_cons.mpr ⟨tb_425, (List.forall_mem_cons.mpr ⟨tb_479, (fun _ h => absurd h List.not_mem_nil)⟩)⟩)⟩)⟩)⟩)⟩)⟩)⟩)⟩)⟩)⟩)⟩)⟩)⟩)⟩)⟩)⟩)⟩)⟩)⟩)⟩)⟩)⟩)⟩)
theorem in_wsX7_on_r3 : ∀ w ∈ wsX7_on_r3, w ∈ lw_tbl := (List.forall_mem_cons.mpr ⟨tb_478, (List.forall_mem_cons.mpr ⟨tb_477, (List.forall_mem_cons.mpr ⟨tb_476, (fun _ h => absurd h List.not_mem_nil)⟩)⟩)⟩)
theorem in_wsX7_on : ∀ w ∈ wsX7_on, w ∈ lw_tbl := (List.forall_mem_cons.mpr ⟨tb_498, (List.forall_mem_append.mpr ⟨(List.forall_mem_append.mpr ⟨in_wsX7_on_r1, (List.forall_mem_append.mpr ⟨in_wsX7_on_r2, in_wsX7_on_r3⟩)⟩), inX7⟩)⟩)
theorem tb_499 : Cond.methodLink RL 57 yX7_on ∈ lw_tbl := List.mem_of_getElem? (i := 1028) (by decide +kernel)
theorem tb_500 : Cond.instanceMethod yX7_on ∈ lw_tbl := List.mem_of_getElem? (i := 1029) (by decide +kernel)
theorem tb_501 : Cond.selects RX7 yX7_on yX7_on ∈ lw_tbl := List.mem_of_getElem? (i := 1030) (by decide +kernel)
theorem gg_gL_law_X7_on : ∀ w ∈ wsV RL 57 RX7 yX7_on wsX7_on, w ∈ lw_tbl := List.forall_mem_append.mpr ⟨(List.forall_mem_cons.mpr ⟨tb_499, (List.forall_mem_cons.mpr ⟨tb_500, (List.forall_mem_cons.mpr ⟨tb_501, (List.forall_mem_cons.mpr ⟨tb_230, (fun _ h => absurd h List.not_mem_nil)⟩)⟩)⟩)⟩), in_wsX7_on⟩
set_option maxRecDepth 20000 in
theorem gL_law_X7_on : GoodIn lw_tbl (wsV RL 57 RX7 yX7_on wsX7_on) := goodIn_sub gg_gL_law_X7_on (by decide +kernel)
theorem tb_502 : Cond.code yX6_less cX6_less 3 (some .long) ∈ lw_tbl := List.mem_of_getElem? (i := 550) (by decide +kernel)
theorem in_wsX6_less_r1 : ∀ w ∈ wsX6_less_r1, w ∈ lw_tbl := (List.forall_mem_cons.mpr ⟨tb_10, (List.forall_mem_cons.mpr ⟨tb_457, (List.forall_mem_cons.mpr ⟨tb_6, (List.forall_mem_cons.mpr ⟨tb_108, (List.forall_mem_cons.mpr ⟨tb_110, (List.forall_mem_cons.mpr ⟨tb_36, (List.forall_mem_cons.mpr ⟨tb_109, (List.forall_mem_cons.mpr ⟨tb_456, (List.forall_mem_cons.mpr ⟨tb_346, (List.forall_mem_cons.mpr ⟨tb_345, (List.forall_mem_cons.mpr ⟨tb_7, (List.forall_mem_cons.mpr ⟨tb_344, (List.forall_mem_cons.mpr ⟨tb_343, (List.forall_mem_cons.mpr ⟨tb_342, (List.forall_mem_cons.mpr ⟨tb_66, (List.forall_mem_cons.mpr ⟨tb_341, (List.forall_mem_cons.mpr ⟨tb_340, (List.forall_mem_cons.mpr ⟨tb_339, (List.forall_mem_cons.mpr ⟨tb_11, (List.forall_mem_cons.mpr ⟨tb_338, (List.forall_mem_cons.mpr ⟨tb_167, (List.forall_mem_cons.mpr ⟨tb_72, (List.forall_mem_cons.mpr ⟨tb_136, (List.forall_mem_cons.mpr ⟨tb_135, (fun _ h => absurd h List.not_mem_nil)⟩)⟩)⟩)⟩)⟩)⟩)⟩)⟩)⟩)⟩)⟩)⟩)⟩)⟩)⟩)⟩)⟩)⟩)⟩)⟩)⟩)⟩)⟩)⟩)
theorem tb_503 : Cond.selects RX1 yX1_tillLess yX1_tillLess ∈ lw_tbl := List.mem_of_getElem? (i := 553) (by decide +kernel)
theorem tb_504 : Cond.instanceMethod yX1_tillLess ∈ lw_tbl := List.mem_of_getElem? (i := 552) (by decide +kernel)
theorem tb_505 : Cond.methodLink RX6 187 yX1_tillLess ∈ lw_tbl := List.mem_of_getElem? (i := 551) (by decide +kernel)
theorem in_wsX6_less_r2 : ∀ w ∈ wsX6_less_r2, w ∈ lw_tbl := (List.forall_mem_cons.mpr ⟨tb_37, (List.forall_mem_cons.mpr ⟨tb_35, (List.forall_mem_cons.mpr ⟨tb_337, (List.forall_mem_cons.mpr ⟨tb_375, (List.forall_mem_cons.mpr ⟨tb_374, (List.forall_mem_cons.mpr ⟨tb_373, (List.forall_mem_cons.mpr ⟨tb_64, (List.forall_mem_cons.mpr ⟨tb_372, (List.forall_mem_cons.mpr ⟨tb_371, (List.forall_mem_cons.mpr ⟨tb_370, (List.forall_mem_cons.mpr ⟨tb_369, (List.forall_mem_cons.mpr ⟨tb_368, (List.forall_mem_cons.mpr ⟨tb_367, (List.forall_mem_cons.mpr ⟨tb_366, (List.forall_mem_cons.mpr ⟨tb_365, (List.forall_mem_cons.mpr ⟨tb_364, (List.forall_mem_cons.mpr ⟨tb_363, (List.forall_mem_cons.mpr ⟨tb_362, (List.forall_mem_cons.mpr ⟨tb_361, (List.forall_mem_cons.mpr ⟨tb_360, (List.forall_mem_cons.mpr ⟨tb_461, (List.forall_mem_cons.mpr ⟨tb_505, (List.forall_mem_cons.mpr ⟨tb_504, (List.forall_mem_cons.mpr ⟨tb_503, (fun _ h => absurd h List.not_mem_nil)⟩)⟩)⟩)⟩)⟩)⟩)⟩)⟩)⟩)⟩)⟩)⟩)⟩)⟩)⟩)⟩)⟩)⟩)⟩)⟩)⟩)⟩)⟩)⟩)
theorem tb_506 : Cond.code yX1_tillLess cX1_tillLess 8 (some .long) ∈ lw_tbl := List.mem_of_getElem? (i := 554) (by decide +kernel)
theorem in_wsX6_less_r3 : ∀ w ∈ wsX6_less_r3, w ∈ lw_tbl := (List.forall_mem_cons.mpr ⟨tb_506, (List.forall_mem_cons.mpr ⟨tb_459, (List.forall_mem_cons.mpr ⟨tb_458, (List.forall_mem_cons.mpr ⟨tb_467, (List.forall_mem_cons.mpr ⟨tb_466, (List.forall_mem_cons.mpr ⟨tb_272, (List.forall_mem_cons.mpr ⟨tb_465, (List.forall_mem_cons.mpr ⟨tb_464, (List.forall_mem_cons.mpr ⟨tb_463, (List.forall_mem_cons.mpr ⟨tb_462, (fun _ h => absurd h List.not_mem_nil)⟩)⟩)⟩)⟩)⟩)⟩)⟩)⟩)⟩)⟩)
theorem in_wsX6_less : ∀ w ∈ wsX6_less, w ∈ lw_tbl := (List.forall_mem_cons.mpr ⟨tb_502, (List.forall_mem_append.mpr ⟨(List.forall_mem_append.mpr ⟨(List.forall_mem_append.mpr ⟨(List.forall_mem_append.mpr ⟨in_wsX6_less_r1, (List.forall_mem_append.mpr ⟨in_wsX6_less_r2, in_wsX6_less_r3⟩)⟩), inX6⟩), inX2⟩), inX1⟩)⟩)
theorem tb_507 : Cond.methodLink RL 58 yX6_less ∈ lw_tbl := List.mem_of_getElem? (i := 547) (by decide +kernel)
theorem tb_508 : Cond.instanceMethod yX6_less ∈ lw_tbl := List.mem_of_getElem? (i := 548) (by decide +kernel)
theorem tb_509 : Cond.selects RX6 yX6_less yX6_less ∈ lw_tbl := List.mem_of_getElem? (i := 549) (by decide +kernel)
theorem gg_gL_law_X6_less : ∀ w ∈ wsV RL 58 RX6 yX6_less wsX6_less, w ∈ lw_tbl := List.forall_mem_append.mpr ⟨(List.forall_mem_cons.mpr ⟨tb_507, (List.forall_mem_cons.mpr ⟨tb_508, (List.forall_mem_cons.mpr ⟨tb_509, (List.forall_mem_cons.mpr ⟨tb_36, (fun _ h => absurd h List.not_mem_nil)⟩)⟩)⟩)⟩), in_wsX6_less⟩
set_option maxRecDepth 20000 in
theorem gL_law_X6_less : GoodIn lw_tbl (wsV RL 58 RX6 yX6_less wsX6_less) := goodIn_sub gg_gL_law_X6_less (by decide +kernel)
theorem tb_510 : Cond.code yX7_less cX7_less 4 (some .long) ∈ lw_tbl := List.mem_of_getElem? (i := 1039) (by decide +kernel)
theorem in_wsX7_less_r1 : ∀ w ∈ wsX7_less_r1, w ∈ lw_tbl := (List.forall_mem_cons.mpr ⟨tb_203, (List.forall_mem_cons.mpr ⟨tb_475, (List.forall_mem_cons.mpr ⟨tb_90, (List.forall_mem_cons.mpr ⟨tb_84, (List.forall_mem_cons.mpr ⟨tb_417, (List.forall_mem_cons.mpr ⟨tb_401, (List.forall_mem_cons.mpr ⟨tb_86, (List.forall_mem_cons.mpr ⟨tb_402, (List.forall_mem_cons.mpr ⟨tb_85, (List.forall_mem_cons.mpr ⟨tb_228, (List.forall_mem_cons.mpr ⟨tb_227, (List.forall_mem_cons.mpr ⟨tb_230, (List.forall_mem_cons.mpr ⟨tb_226, (List.forall_mem_cons.mpr ⟨tb_474, (List.forall_mem_cons.mpr ⟨tb_473, (List.forall_mem_cons.mpr ⟨tb_472, (List.forall_mem_cons.mpr ⟨tb_416, (List.forall_mem_cons.mpr ⟨tb_415, (List.forall_mem_cons.mpr ⟨tb_414, (List.forall_mem_cons.mpr ⟨tb_413, (List.forall_mem_cons.mpr ⟨tb_412, (List.forall_mem_cons.mpr ⟨tb_201, (List.forall_mem_cons.mpr ⟨tb_87, (List.forall_mem_cons.mpr ⟨tb_411, (fun _ h => absurd h List.not_mem_nil)⟩)⟩)⟩)⟩)⟩)⟩)⟩)⟩)⟩)⟩)⟩)⟩)⟩)⟩)⟩)⟩)⟩)⟩)⟩)⟩)⟩)⟩)⟩)⟩)
theorem in_wsX7_less_r2 : ∀ w ∈ wsX7_less_r2, w ∈ lw_tbl := (List.forall_mem_cons.mpr ⟨tb_410, (List.forall_mem_cons.mpr ⟨tb_409, (List.forall_mem_cons.mpr ⟨tb_408, (List.forall_mem_cons.mpr ⟨tb_197, (List.forall_mem_cons.mpr ⟨tb_92, (List.forall_mem_cons.mpr ⟨tb_407, (List.forall_mem_cons.mpr ⟨tb_446, (List.forall_mem_cons.mpr ⟨tb_445, (List.forall_mem_cons.mpr ⟨tb_444, (List.forall_mem_cons.mpr ⟨tb_431, (List.forall_mem_cons.mpr ⟨tb_430, (List.forall_mem_cons.mpr ⟨tb_429, (List.forall_mem_cons.mpr ⟨tb_428, (List.forall_mem_cons.mpr ⟨tb_427, (List.forall_mem_cons.mpr ⟨tb_426, (List.forall_mem_cons.mpr ⟨tb_425, (List.forall_mem_cons.mpr ⟨tb_479, (List.forall_mem_cons.mpr ⟨tb_478, (List.forall_mem_cons.mpr ⟨tb_477, (List.forall_mem_cons.mpr ⟨tb_476, (fun _ h => absurd h List.not_mem_nil)⟩)⟩)⟩)⟩)⟩)⟩)⟩)⟩)⟩)⟩)⟩)⟩)⟩)⟩)⟩)⟩)⟩)⟩)⟩)⟩)
theorem in_wsX7_less : ∀ w ∈ wsX7_less, w ∈ lw_tbl := (List.forall_mem_cons.mpr ⟨tb_510, (List.forall_mem_append.mpr ⟨(List.forall_mem_append.mpr ⟨in_wsX7_less_r1, in_wsX7_less_r2⟩), inX7⟩)⟩)
theorem tb_511 : Cond.methodLink RL 61 yX7_less ∈ lw_tbl := List.mem_of_getElem? (i := 1036) (by decide +kernel)
theorem tb_512 : Cond.instanceMethod yX7_less ∈ lw_tbl := List.mem_of_getElem? (i := 1037) (by decide +kernel)
theorem tb_513 : Cond.selects RX7 yX7_less yX7_less ∈ lw_tbl := List.mem_of_getElem? (i := 1038) (by decide +kernel)
theorem gg_gL_law_X7_less : ∀ w ∈ wsV RL 61 RX7 yX7_less wsX7_less, w ∈ lw_tbl := List.forall_mem_append.mpr ⟨(List.forall_mem_cons.mpr ⟨tb_511, (List.forall_mem_cons.mpr ⟨tb_512, (List.forall_mem_cons.mpr ⟨tb_513, (List.forall_mem_cons.mpr ⟨tb_230, (fun _ h => absurd h List.not_mem_nil)⟩)⟩)⟩)⟩), in_wsX7_less⟩
set_option maxRecDepth 20000 in
theorem gL_law_X7_less : GoodIn lw_tbl (wsV RL 61 RX7 yX7_less wsX7_less) := goodIn_sub gg_gL_law_X7_less (by decide +kernel)
theorem tb_514 : Cond.code yX6_after cX6_after 5 (some .long) ∈ lw_tbl := List.mem_of_getElem? (i := 559) (by decide +kernel)
theorem in_wsX6_after_r1 : ∀ w ∈ wsX6_after_r1, w ∈ lw_tbl := (List.forall_mem_cons.mpr ⟨tb_457, (List.forall_mem_cons.mpr ⟨tb_10, (List.forall_mem_cons.mpr ⟨tb_6, (List.forall_mem_cons.mpr ⟨tb_108, (List.forall_mem_cons.mpr ⟨tb_110, (List.forall_mem_cons.mpr ⟨tb_36, (List.forall_mem_cons.mpr ⟨tb_109, (List.forall_mem_cons.mpr ⟨tb_456, (List.forall_mem_cons.mpr ⟨tb_346, (List.forall_mem_cons.mpr ⟨tb_345, (List.forall_mem_cons.mpr ⟨tb_7, (List.forall_mem_cons.mpr ⟨tb_344, (List.forall_mem_cons.mpr ⟨tb_343, (List.forall_mem_cons.mpr ⟨tb_342, (List.forall_mem_cons.mpr ⟨tb_66, (List.forall_mem_cons.mpr ⟨tb_341, (List.forall_mem_cons.mpr ⟨tb_340, (List.forall_mem_cons.mpr ⟨tb_339, (List.forall_mem_cons.mpr ⟨tb_11, (List.forall_mem_cons.mpr ⟨tb_338, (List.forall_mem_cons.mpr ⟨tb_167, (List.forall_mem_cons.mpr ⟨tb_72, (List.forall_mem_cons.mpr ⟨tb_136, (List.forall_mem_cons.mpr ⟨tb_135, (fun _ h => absurd h List.not_mem_nil)⟩)⟩)⟩)⟩)⟩)⟩)⟩)⟩)⟩)⟩)⟩)⟩)⟩)⟩)⟩)⟩)⟩)⟩)⟩)⟩)⟩)⟩)⟩)⟩)
theorem tb_515 : Cond.code yX1_afterMinutes cX1_afterMinutes 8 (some .long) ∈ lw_tbl := List.mem_of_getElem? (i := 563) (by decide +kernel)
theorem tb_516 : Cond.selects RX1 yX1_afterMinutes yX1_afterMinutes ∈ lw_tbl := List.mem_of_getElem? (i := 562) (by decide +kernel)
theorem tb_517 : Cond.instanceMethod yX1_afterMinutes ∈ lw_tbl := List.mem_of_getElem? (i := 561) (by decide +kernel)
theorem tb_518 : Cond.methodLink RX6 191 yX1_afterMinutes ∈ lw_tbl := List.mem_of_getElem? (i := 560) (by decide +kernel)
theorem in_wsX6_after_r2 : ∀ w ∈ wsX6_after_r2, w ∈ lw_tbl := (List.forall_mem_cons.mpr ⟨tb_37, (List.forall_mem_cons.mpr ⟨tb_35, (List.forall_mem_cons.mpr ⟨tb_337, (List.forall_mem_cons.mpr ⟨tb_375, (List.forall_mem_cons.mpr ⟨tb_374, (List.forall_mem_cons.mpr ⟨tb_373, (List.forall_mem_cons.mpr ⟨tb_64, (List.forall_mem_cons.mpr ⟨tb_372, (List.forall_mem_cons.mpr ⟨tb_371, (List.forall_mem_cons.mpr ⟨tb_370, (List.forall_mem_cons.mpr ⟨tb_369, (List.forall_mem_cons.mpr ⟨tb_368, (List.forall_mem_cons.mpr ⟨tb_367, (List.forall_mem_cons.mpr ⟨tb_366, (List.forall_mem_cons.mpr ⟨tb_365, (List.forall_mem_cons.mpr ⟨tb_364, (List.forall_mem_cons.mpr ⟨tb_363, (List.forall_mem_cons.mpr ⟨tb_362, (List.forall_mem_cons.mpr ⟨tb_361, (List.forall_mem_cons.mpr ⟨tb_360, (List.forall_mem_cons.mpr ⟨tb_518, (List.forall_mem_cons.mpr ⟨tb_517, (List.forall_mem_cons.mpr ⟨tb_516, (List.forall_mem_cons.mpr ⟨tb_515, (fun _ h => absurd h List.not_mem_nil)⟩)⟩)⟩)⟩)⟩)⟩)⟩)⟩)⟩)⟩)⟩)⟩)⟩)⟩)⟩)⟩)⟩)⟩)⟩)⟩)⟩)⟩)⟩)⟩)
theorem tb_519 : Cond.code yX1_goOn cX1_goOn 6 none ∈ lw_tbl := List.mem_of_getElem? (i := 567) (by decide +kernel)
theorem tb_520 : Cond.selects RX1 yX1_goOn yX1_goOn ∈ lw_tbl := List.mem_of_getElem? (i := 10) (by decide +kernel)
theorem tb_521 : Cond.instanceMethod yX1_goOn ∈ lw_tbl := List.mem_of_getElem? (i := 566) (by decide +kernel)
theorem tb_522 : Cond.methodLink RX1 75 yX1_goOn ∈ lw_tbl := List.mem_of_getElem? (i := 564) (by decide +kernel)
theorem in_wsX6_after_r3 : ∀ w ∈ wsX6_after_r3, w ∈ lw_tbl := (List.forall_mem_cons.mpr ⟨tb_63, (List.forall_mem_cons.mpr ⟨tb_522, (List.forall_mem_cons.mpr ⟨tb_521, (List.forall_mem_cons.mpr ⟨tb_520, (List.forall_mem_cons.mpr ⟨tb_519, (List.forall_mem_cons.mpr ⟨tb_62, (List.forall_mem_cons.mpr ⟨tb_459, (List.forall_mem_cons.mpr ⟨tb_458, (List.forall_mem_cons.mpr ⟨tb_467, (List.forall_mem_cons.mpr ⟨tb_466, (List.forall_mem_cons.mpr ⟨tb_272, (List.forall_mem_cons.mpr ⟨tb_465, (List.forall_mem_cons.mpr ⟨tb_464, (List.forall_mem_cons.mpr ⟨tb_463, (List.forall_mem_cons.mpr ⟨tb_462, (fun _ h => absurd h List.not_mem_nil)⟩)⟩)⟩)⟩)⟩)⟩)⟩)⟩)⟩)⟩)⟩)⟩)⟩)⟩)⟩)
theorem in_wsX6_after : ∀ w ∈ wsX6_after, w ∈ lw_tbl := (List.forall_mem_cons.mpr ⟨tb_514, (List.forall_mem_append.mpr ⟨(List.forall_mem_append.mpr ⟨(List.forall_mem_append.mpr ⟨(List.forall_mem_append.mpr ⟨in_wsX6_after_r1, (List.forall_mem_append.mpr ⟨in_wsX6_after_r2, in_wsX6_after_r3⟩)⟩), inX6⟩), inX2⟩), inX1⟩)⟩)
theorem tb_523 : Cond.methodLink RL 62 yX6_after ∈ lw_tbl := List.mem_of_getElem? (i := 556) (by decide +kernel)
theorem tb_524 : Cond.instanceMethod yX6_after ∈ lw_tbl := List.mem_of_getElem? (i := 557) (by decide +kernel)
theorem tb_525 : Cond.selects RX6 yX6_after yX6_after ∈ lw_tbl := List.mem_of_getElem? (i := 558) (by decide +kernel)
theorem gg_gL_law_X6_after : ∀ w ∈ wsV RL 62 RX6 yX6_after wsX6_after, w ∈ lw_tbl := List.forall_mem_append.mpr ⟨(List.forall_mem_cons.mpr ⟨tb_523, (List.forall_mem_cons.mpr ⟨tb_524, (List.forall_mem_cons.mpr ⟨tb_525, (List.forall_mem_cons.mpr ⟨tb_36, (fun _ h => absurd h List.not_mem_nil)⟩)⟩)⟩)⟩), in_wsX6_after⟩
set_option maxRecDepth 20000 in
theorem gL_law_X6_after : GoodIn lw_tbl (wsV RL 62 RX6 yX6_after wsX6_after) := goodIn_sub gg_gL_law_X6_after (by decide +kernel)
theorem tb_526 : Cond.code yX7_after cX7_after 9 (some .long) ∈ lw_tbl := List.mem_of_getElem? (i := 1044) (by decide +kernel)
theorem in_wsX7_after_r1 : ∀ w ∈ wsX7_after_r1, w ∈ lw_tbl := (List.forall_mem_cons.mpr ⟨tb_203, (List.forall_mem_cons.mpr ⟨tb_475, (List.forall_mem_cons.mpr ⟨tb_90, (List.forall_mem_cons.mpr ⟨tb_83, (List.forall_mem_cons.mpr ⟨tb_82, (List.forall_mem_cons.mpr ⟨tb_417, (List.forall_mem_cons.mpr ⟨tb_86, (List.forall_mem_cons.mpr ⟨tb_85, (List.forall_mem_cons.mpr ⟨tb_228, (List.forall_mem_cons.mpr ⟨tb_227, (List.forall_mem_cons.mpr ⟨tb_230, (List.forall_mem_cons.mpr ⟨tb_226, (List.forall_mem_cons.mpr ⟨tb_474, (List.forall_mem_cons.mpr ⟨tb_473, (List.forall_mem_cons.mpr ⟨tb_472, (List.forall_mem_cons.mpr ⟨tb_416, (List.forall_mem_cons.mpr ⟨tb_415, (List.forall_mem_cons.mpr ⟨tb_414, (List.forall_mem_cons.mpr ⟨tb_413, (List.forall_mem_cons.mpr ⟨tb_412, (List.forall_mem_cons.mpr ⟨tb_201, (List.forall_mem_cons.mpr ⟨tb_87, (List.forall_mem_cons.mpr ⟨tb_411, (List.forall_mem_cons.mpr ⟨tb_410, (fun _ h => absurd h List.not_mem_nil)⟩)⟩)⟩)⟩)⟩)⟩)⟩)⟩)⟩)⟩)⟩)⟩)⟩)⟩)⟩)⟩)⟩)⟩)⟩)⟩)⟩)⟩)⟩)⟩)
theorem in_wsX7_after_r2 : ∀ w ∈ wsX7_after_r2, w ∈ lw_tbl := (List.forall_mem_cons.mpr ⟨tb_409, (List.forall_mem_cons.mpr ⟨tb_408, (List.forall_mem_cons.mpr ⟨tb_197, (List.forall_mem_cons.mpr ⟨tb_92, (List.forall_mem_cons.mpr ⟨tb_407, (List.forall_mem_cons.mpr ⟨tb_446, (List.forall_mem_cons.mpr ⟨tb_445, (List.forall_mem_cons.mpr ⟨tb_444, (List.forall_mem_cons.mpr ⟨tb_84, (List.forall_mem_cons.mpr ⟨tb_431, (List.forall_mem_cons.mpr ⟨tb_430, (List.forall_mem_cons.mpr ⟨tb_429, (List.forall_mem_cons.mpr ⟨tb_428, (List.forall_mem_cons.mpr ⟨tb_402, (List.forall_mem_cons.mpr ⟨tb_401, (List.forall_mem_cons.mpr ⟨tb_427, (List.forall_mem_cons.mpr ⟨tb_426, (List.forall_mem_cons.mpr ⟨tb_425, (List.forall_mem_cons.mpr ⟨tb_479, (List.forall_mem_cons.mpr ⟨tb_478, (List.forall_mem_cons.mpr ⟨tb_477, (List.forall_mem_cons.mpr ⟨tb_476, (fun _ h => absurd h List.not_mem_nil)⟩)⟩)⟩)⟩)⟩)⟩)⟩)⟩)⟩)⟩)⟩)⟩)⟩)⟩)⟩)⟩)⟩)⟩)⟩)⟩)⟩)⟩)
theorem in_wsX7_after : ∀ w ∈ wsX7_after, w ∈ lw_tbl := (List.forall_mem_cons.mpr ⟨tb_526, (List.forall_mem_append.mpr ⟨(List.forall_mem_append.mpr ⟨in_wsX7_after_r1, in_wsX7_after_r2⟩), inX7⟩)⟩)
theorem tb_527 : Cond.methodLink RL 66 yX7_after ∈ lw_tbl := List.mem_of_getElem? (i := 1041) (by decide +kernel)
theorem tb_528 : Cond.instanceMethod yX7_after ∈ lw_tbl := List.mem_of_getElem? (i := 1042) (by decide +kernel)
theorem tb_529 : Cond.selects RX7 yX7_after yX7_after ∈ lw_tbl := List.mem_of_getElem? (i := 1043) (by decide +kernel)
theorem gg_gL_law_X7_after : ∀ w ∈ wsV RL 66 RX7 yX7_after wsX7_after, w ∈ lw_tbl := List.forall_mem_append.mpr ⟨(List.forall_mem_cons.mpr ⟨tb_527, (List.forall_mem_cons.mpr ⟨tb_528, (List.forall_mem_cons.mpr ⟨tb_529, (List.forall_mem_cons.mpr ⟨tb_230, (fun _ h => absurd h List.not_mem_nil)⟩)⟩)⟩)⟩), in_wsX7_after⟩
set_option maxRecDepth 20000 in
theorem gL_law_X7_after : GoodIn lw_tbl (wsV RL 66 RX7 yX7_after wsX7_after) := goodIn_sub gg_gL_law_X7_after (by decide +kernel)
theorem tb_530 : Cond.code yX6_minutes cX6_minutes 3 (some .long) ∈ lw_tbl := List.mem_of_getElem? (i := 571) (by decide +kernel)
theorem tb_531 : Cond.methodLink RX6 195 yX2_minutesAsTold ∈ lw_tbl := List.mem_of_getElem? (i := 572) (by decide +kernel)
theorem in_wsX6_minutes_r1 : ∀ w ∈ wsX6_minutes_r1, w ∈ lw_tbl := (List.forall_mem_cons.mpr ⟨tb_10, (List.forall_mem_cons.mpr ⟨tb_457, (List.forall_mem_cons.mpr ⟨tb_108, (List.forall_mem_cons.mpr ⟨tb_110, (List.forall_mem_cons.mpr ⟨tb_36, (List.forall_mem_cons.mpr ⟨tb_109, (List.forall_mem_cons.mpr ⟨tb_531, (List.forall_mem_cons.mpr ⟨tb_277, (List.forall_mem_cons.mpr ⟨tb_276, (List.forall_mem_cons.mpr ⟨tb_11, (List.forall_mem_cons.mpr ⟨tb_275, (List.forall_mem_cons.mpr ⟨tb_169, (List.forall_mem_cons.mpr ⟨tb_165, (List.forall_mem_cons.mpr ⟨tb_164, (List.forall_mem_cons.mpr ⟨tb_274, (List.forall_mem_cons.mpr ⟨tb_273, (List.forall_mem_cons.mpr ⟨tb_272, (List.forall_mem_cons.mpr ⟨tb_271, (List.forall_mem_cons.mpr ⟨tb_460, (List.forall_mem_cons.mpr ⟨tb_459, (List.forall_mem_cons.mpr ⟨tb_458, (List.forall_mem_cons.mpr ⟨tb_467, (List.forall_mem_cons.mpr ⟨tb_466, (List.forall_mem_cons.mpr ⟨tb_465, (fun _ h => absurd h List.not_mem_nil)⟩)⟩)⟩)⟩)⟩)⟩)⟩)⟩)⟩)⟩)⟩)⟩)⟩)⟩)⟩)⟩)⟩)⟩)⟩)⟩)⟩)⟩)⟩)⟩)
theorem in_wsX6_minutes_r2 : ∀ w ∈ wsX6_minutes_r2, w ∈ lw_tbl := (List.forall_mem_cons.mpr ⟨tb_464, (List.forall_mem_cons.mpr ⟨tb_463, (List.forall_mem_cons.mpr ⟨tb_462, (fun _ h => absurd h List.not_mem_nil)⟩)⟩)⟩)
theorem in_wsX6_minutes : ∀ w ∈ wsX6_minutes, w ∈ lw_tbl := (List.forall_mem_cons.mpr ⟨tb_530, (List.forall_mem_append.mpr ⟨(List.forall_mem_append.mpr ⟨(List.forall_mem_append.mpr ⟨in_wsX6_minutes_r1, in_wsX6_minutes_r2⟩), inX6⟩), inX2⟩)⟩)
theorem tb_532 : Cond.methodLink RL 67 yX6_minutes ∈ lw_tbl := List.mem_of_getElem? (i := 568) (by decide +kernel)
theorem tb_533 : Cond.instanceMethod yX6_minutes ∈ lw_tbl := List.mem_of_getElem? (i := 569) (by decide +kernel)
theorem tb_534 : Cond.selects RX6 yX6_minutes yX6_minutes ∈ lw_tbl := List.mem_of_getElem? (i := 570) (by decide +kernel)
theorem gg_gL_law_X6_minutes : ∀ w ∈ wsV RL 67 RX6 yX6_minutes wsX6_minutes, w ∈ lw_tbl := List.forall_mem_append.mpr ⟨(List.forall_mem_cons.mpr ⟨tb_532, (List.forall_mem_cons.mpr ⟨tb_533, (List.forall_mem_cons.mpr ⟨tb_534, (List.forall_mem_cons.mpr ⟨tb_36, (fun _ h => absurd h List.not_mem_nil)⟩)⟩)⟩)⟩), in_wsX6_minutes⟩
set_option maxRecDepth 20000 in
theorem gL_law_X6_minutes : GoodIn lw_tbl (wsV RL 67 RX6 yX6_minutes wsX6_minutes) := goodIn_sub gg_gL_law_X6_minutes (by decide +kernel)
theorem tb_535 : Cond.code yX7_minutes cX7_minutes 3 (some .long) ∈ lw_tbl := List.mem_of_getElem? (i := 1048) (by decide +kernel)
theorem in_wsX7_minutes_r1 : ∀ w ∈ wsX7_minutes_r1, w ∈ lw_tbl := (List.forall_mem_cons.mpr ⟨tb_203, (List.forall_mem_cons.mpr ⟨tb_475, (List.forall_mem_cons.mpr ⟨tb_195, (List.forall_mem_cons.mpr ⟨tb_194, (List.forall_mem_cons.mpr ⟨tb_201, (List.forall_mem_cons.mpr ⟨tb_412, (List.forall_mem_cons.mpr ⟨tb_228, (List.forall_mem_cons.mpr ⟨tb_227, (List.forall_mem_cons.mpr ⟨tb_230, (List.forall_mem_cons.mpr ⟨tb_226, (List.forall_mem_cons.mpr ⟨tb_287, (List.forall_mem_cons.mpr ⟨tb_286, (List.forall_mem_cons.mpr ⟨tb_285, (List.forall_mem_cons.mpr ⟨tb_284, (List.forall_mem_cons.mpr ⟨tb_431, (List.forall_mem_cons.mpr ⟨tb_430, (List.forall_mem_cons.mpr ⟨tb_429, (List.forall_mem_cons.mpr ⟨tb_428, (List.forall_mem_cons.mpr ⟨tb_402, (List.forall_mem_cons.mpr ⟨tb_401, (List.forall_mem_cons.mpr ⟨tb_427, (List.forall_mem_cons.mpr ⟨tb_426, (List.forall_mem_cons.mpr ⟨tb_425, (List.forall_mem_cons.mpr ⟨tb_479, (fun _ h => absurd h List.not_mem_nil)⟩)⟩)⟩)⟩)⟩)⟩)⟩)⟩)⟩)⟩)⟩)⟩)⟩)⟩)⟩)⟩)⟩)⟩)⟩)⟩)⟩)⟩)⟩)⟩)
theorem in_wsX7_minutes_r2 : ∀ w ∈ wsX7_minutes_r2, w ∈ lw_tbl := (List.forall_mem_cons.mpr ⟨tb_478, (List.forall_mem_cons.mpr ⟨tb_477, (List.forall_mem_cons.mpr ⟨tb_476, (fun _ h => absurd h List.not_mem_nil)⟩)⟩)⟩)
theorem in_wsX7_minutes : ∀ w ∈ wsX7_minutes, w ∈ lw_tbl := (List.forall_mem_cons.mpr ⟨tb_535, (List.forall_mem_append.mpr ⟨(List.forall_mem_append.mpr ⟨in_wsX7_minutes_r1, in_wsX7_minutes_r2⟩), inX7⟩)⟩)
theorem tb_536 : Cond.methodLink RL 70 yX7_minutes ∈ lw_tbl := List.mem_of_getElem? (i := 1045) (by decide +kernel)
theorem tb_537 : Cond.instanceMethod yX7_minutes ∈ lw_tbl := List.mem_of_getElem? (i := 1046) (by decide +kernel)
theorem tb_538 : Cond.selects RX7 yX7_minutes yX7_minutes ∈ lw_tbl := List.mem_of_getElem? (i := 1047) (by decide +kernel)
theorem gg_gL_law_X7_minutes : ∀ w ∈ wsV RL 70 RX7 yX7_minutes wsX7_minutes, w ∈ lw_tbl := List.forall_mem_append.mpr ⟨(List.forall_mem_cons.mpr ⟨tb_536, (List.forall_mem_cons.mpr ⟨tb_537, (List.forall_mem_cons.mpr ⟨tb_538, (List.forall_mem_cons.mpr ⟨tb_230, (fun _ h => absurd h List.not_mem_nil)⟩)⟩)⟩)⟩), in_wsX7_minutes⟩
set_option maxRecDepth 20000 in
theorem gL_law_X7_minutes : GoodIn lw_tbl (wsV RL 70 RX7 yX7_minutes wsX7_minutes) := goodIn_sub gg_gL_law_X7_minutes (by decide +kernel)
theorem tb_539 : Cond.code yX6_gain cX6_gain 2 (some .long) ∈ lw_tbl := List.mem_of_getElem? (i := 576) (by decide +kernel)
theorem tb_540 : Cond.methodLink RX6 198 yX0_reckon ∈ lw_tbl := List.mem_of_getElem? (i := 577) (by decide +kernel)
theorem in_wsX6_gain_r1 : ∀ w ∈ wsX6_gain_r1, w ∈ lw_tbl := (List.forall_mem_cons.mpr ⟨tb_10, (List.forall_mem_cons.mpr ⟨tb_457, (List.forall_mem_cons.mpr ⟨tb_2, (List.forall_mem_cons.mpr ⟨tb_108, (List.forall_mem_cons.mpr ⟨tb_110, (List.forall_mem_cons.mpr ⟨tb_36, (List.forall_mem_cons.mpr ⟨tb_109, (List.forall_mem_cons.mpr ⟨tb_540, (List.forall_mem_cons.mpr ⟨tb_351, (List.forall_mem_cons.mpr ⟨tb_350, (List.forall_mem_cons.mpr ⟨tb_3, (List.forall_mem_cons.mpr ⟨tb_349, (List.forall_mem_cons.mpr ⟨tb_57, (List.forall_mem_cons.mpr ⟨tb_332, (List.forall_mem_cons.mpr ⟨tb_348, (List.forall_mem_cons.mpr ⟨tb_331, (List.forall_mem_cons.mpr ⟨tb_347, (List.forall_mem_cons.mpr ⟨tb_346, (List.forall_mem_cons.mpr ⟨tb_345, (List.forall_mem_cons.mpr ⟨tb_7, (List.forall_mem_cons.mpr ⟨tb_344, (List.forall_mem_cons.mpr ⟨tb_343, (List.forall_mem_cons.mpr ⟨tb_342, (List.forall_mem_cons.mpr ⟨tb_66, (fun _ h => absurd h List.not_mem_nil)⟩)⟩)⟩)⟩)⟩)⟩)⟩)⟩)⟩)⟩)⟩)⟩)⟩)⟩)⟩)⟩)⟩)⟩)⟩)⟩)⟩)⟩)⟩)⟩)
theorem in_wsX6_gain_r2 : ∀ w ∈ wsX6_gain_r2, w ∈ lw_tbl := (List.forall_mem_cons.mpr ⟨tb_341, (List.forall_mem_cons.mpr ⟨tb_340, (List.forall_mem_cons.mpr ⟨tb_339, (List.forall_mem_cons.mpr ⟨tb_11, (List.forall_mem_cons.mpr ⟨tb_338, (List.forall_mem_cons.mpr ⟨tb_167, (List.forall_mem_cons.mpr ⟨tb_72, (List.forall_mem_cons.mpr ⟨tb_136, (List.forall_mem_cons.mpr ⟨tb_135, (List.forall_mem_cons.mpr ⟨tb_37, (List.forall_mem_cons.mpr ⟨tb_35, (List.forall_mem_cons.mpr ⟨tb_337, (List.forall_mem_cons.mpr ⟨tb_375, (List.forall_mem_cons.mpr ⟨tb_374, (List.forall_mem_cons.mpr ⟨tb_373, (List.forall_mem_cons.mpr ⟨tb_64, (List.forall_mem_cons.mpr ⟨tb_372, (List.forall_mem_cons.mpr ⟨tb_371, (List.forall_mem_cons.mpr ⟨tb_370, (List.forall_mem_cons.mpr ⟨tb_369, (List.forall_mem_cons.mpr ⟨tb_368, (List.forall_mem_cons.mpr ⟨tb_367, (List.forall_mem_cons.mpr ⟨tb_366, (List.forall_mem_cons.mpr ⟨tb_365, (fun _ h => absurd h List.not_mem_nil)⟩)⟩)⟩)⟩)⟩)⟩)⟩)⟩)⟩)⟩)⟩)⟩)⟩)⟩)⟩)⟩)⟩)⟩)⟩)⟩)⟩)⟩)⟩)⟩)
theorem in_wsX6_gain_r3 : ∀ w ∈ wsX6_gain_r3, w ∈ lw_tbl := (List.forall_mem_cons.mpr ⟨tb_364, (List.forall_mem_cons.mpr ⟨tb_363, (List.forall_mem_cons.mpr ⟨tb_362, (List.forall_mem_cons.mpr ⟨tb_361, (List.forall_mem_cons.mpr ⟨tb_360, (List.forall_mem_cons.mpr ⟨tb_359, (List.forall_mem_cons.mpr ⟨tb_358, (List.forall_mem_cons.mpr ⟨tb_357, (List.forall_mem_cons.mpr ⟨tb_356, (List.forall_mem_cons.mpr ⟨tb_355, (List.forall_mem_cons.mpr ⟨tb_354, (List.forall_mem_cons.mpr ⟨tb_353, (List.forall_mem_cons.mpr ⟨tb_390, (List.forall_mem_cons.mpr ⟨tb_389, (List.forall_mem_cons.mpr ⟨tb_388, (List.forall_mem_cons.mpr ⟨tb_387, (List.forall_mem_cons.mpr ⟨tb_386, (List.forall_mem_cons.mpr ⟨tb_460, (List.forall_mem_cons.mpr ⟨tb_459, (List.forall_mem_cons.mpr ⟨tb_458, (List.forall_mem_cons.mpr ⟨tb_467, (List.forall_mem_cons.mpr ⟨tb_466, (List.forall_mem_cons.mpr ⟨tb_272, (List.forall_mem_cons.mpr ⟨tb_465, (fun _ h => absurd h List.not_mem_nil)⟩)⟩)⟩)⟩)⟩)⟩)⟩)⟩)⟩)⟩)⟩)⟩)⟩)⟩)⟩)⟩)⟩)⟩)⟩)⟩)⟩)⟩)⟩)⟩)
theorem in_wsX6_gain_r4 : ∀ w ∈ wsX6_gain_r4, w ∈ lw_tbl := (List.forall_mem_cons.mpr ⟨tb_464, (List.forall_mem_cons.mpr ⟨tb_463, (List.forall_mem_cons.mpr ⟨tb_462, (fun _ h => absurd h List.not_mem_nil)⟩)⟩)⟩)
theorem in_wsX6_gain : ∀ w ∈ wsX6_gain, w ∈ lw_tbl := (List.forall_mem_cons.mpr ⟨tb_539, (List.forall_mem_append.mpr ⟨(List.forall_mem_append.mpr ⟨(List.forall_mem_append.mpr ⟨(List.forall_mem_append.mpr ⟨(List.forall_mem_append.mpr ⟨in_wsX6_gain_r1, (List.forall_mem_append.mpr ⟨in_wsX6_gain_r2, (List.forall_mem_append.mpr ⟨in_wsX6_gain_r3, in_wsX6_gain_r4⟩)⟩)⟩), inX6⟩), inX2⟩), inX0⟩), inX1⟩)⟩)
theorem tb_541 : Cond.methodLink RL 71 yX6_gain ∈ lw_tbl := List.mem_of_getElem? (i := 573) (by decide +kernel)
theorem tb_542 : Cond.instanceMethod yX6_gain ∈ lw_tbl := List.mem_of_getElem? (i := 574) (by decide +kernel)
theorem tb_543 : Cond.selects RX6 yX6_gain yX6_gain ∈ lw_tbl := List.mem_of_getElem? (i := 575) (by decide +kernel)
theorem gg_gL_law_X6_gain : ∀ w ∈ wsV RL 71 RX6 yX6_gain wsX6_gain, w ∈ lw_tbl := List.forall_mem_append.mpr ⟨(List.forall_mem_cons.mpr ⟨tb_541, (List.forall_mem_cons.mpr ⟨tb_542, (List.forall_mem_cons.mpr ⟨tb_543, (List.forall_mem_cons.mpr ⟨tb_36, (fun _ h => absurd h List.not_mem_nil)⟩)⟩)⟩)⟩), in_wsX6_gain⟩
set_option maxRecDepth 20000 in
theorem gL_law_X6_gain : GoodIn lw_tbl (wsV RL 71 RX6 yX6_gain wsX6_gain) := goodIn_sub gg_gL_law_X6_gain (by decide +kernel)
theorem tb_544 : Cond.code yX7_gain cX7_gain 2 (some .long) ∈ lw_tbl := List.mem_of_getElem? (i := 1052) (by decide +kernel)
theorem in_wsX7_gain_r1 : ∀ w ∈ wsX7_gain_r1, w ∈ lw_tbl := (List.forall_mem_cons.mpr ⟨tb_203, (List.forall_mem_cons.mpr ⟨tb_475, (List.forall_mem_cons.mpr ⟨tb_90, (List.forall_mem_cons.mpr ⟨tb_474, (List.forall_mem_cons.mpr ⟨tb_473, (List.forall_mem_cons.mpr ⟨tb_230, (List.forall_mem_cons.mpr ⟨tb_472, (List.forall_mem_cons.mpr ⟨tb_421, (List.forall_mem_cons.mpr ⟨tb_420, (List.forall_mem_cons.mpr ⟨tb_419, (List.forall_mem_cons.mpr ⟨tb_418, (List.forall_mem_cons.mpr ⟨tb_197, (List.forall_mem_cons.mpr ⟨tb_92, (List.forall_mem_cons.mpr ⟨tb_91, (List.forall_mem_cons.mpr ⟨tb_417, (List.forall_mem_cons.mpr ⟨tb_199, (List.forall_mem_cons.mpr ⟨tb_416, (List.forall_mem_cons.mpr ⟨tb_415, (List.forall_mem_cons.mpr ⟨tb_414, (List.forall_mem_cons.mpr ⟨tb_413, (List.forall_mem_cons.mpr ⟨tb_86, (List.forall_mem_cons.mpr ⟨tb_412, (List.forall_mem_cons.mpr ⟨tb_201, (List.forall_mem_cons.mpr ⟨tb_87, (fun _ h => absurd h List.not_mem_nil)⟩)⟩)⟩)⟩)⟩)⟩)⟩)⟩)⟩)⟩)⟩)⟩)⟩)⟩)⟩)⟩)⟩)⟩)⟩)⟩)⟩)⟩)⟩)⟩)
theorem in_wsX7_gain_r2 : ∀ w ∈ wsX7_gain_r2, w ∈ lw_tbl := (List.forall_mem_cons.mpr ⟨tb_85, (List.forall_mem_cons.mpr ⟨tb_411, (List.forall_mem_cons.mpr ⟨tb_410, (List.forall_mem_cons.mpr ⟨tb_409, (List.forall_mem_cons.mpr ⟨tb_408, (List.forall_mem_cons.mpr ⟨tb_407, (List.forall_mem_cons.mpr ⟨tb_446, (List.forall_mem_cons.mpr ⟨tb_445, (List.forall_mem_cons.mpr ⟨tb_444, (List.forall_mem_cons.mpr ⟨tb_84, (List.forall_mem_cons.mpr ⟨tb_443, (List.forall_mem_cons.mpr ⟨tb_442, (List.forall_mem_cons.mpr ⟨tb_441, (List.forall_mem_cons.mpr ⟨tb_440, (List.forall_mem_cons.mpr ⟨tb_439, (List.forall_mem_cons.mpr ⟨tb_438, (List.forall_mem_cons.mpr ⟨tb_437, (List.forall_mem_cons.mpr ⟨tb_436, (List.forall_mem_cons.mpr ⟨tb_435, (List.forall_mem_cons.mpr ⟨tb_434, (List.forall_mem_cons.mpr ⟨tb_433, (List.forall_mem_cons.mpr ⟨tb_432, (List.forall_mem_cons.mpr ⟨tb_431, (List.forall_mem_cons.mpr ⟨tb_430, (fun _ h => absurd h List.not_mem_nil)⟩)⟩)⟩)⟩)⟩)⟩)⟩)⟩)⟩)⟩)⟩)⟩)⟩)⟩)⟩)⟩)⟩)⟩)⟩)⟩)⟩)⟩)⟩)⟩)
theorem in_wsX7_gain_r3 : ∀ w ∈ wsX7_gain_r3, w ∈ lw_tbl := (List.forall_mem_cons.mpr ⟨tb_429, (List.forall_mem_cons.mpr ⟨tb_428, (List.forall_mem_cons.mpr ⟨tb_402, (List.forall_mem_cons.mpr ⟨tb_401, (List.forall_mem_cons.mpr ⟨tb_427, (List.forall_mem_cons.mpr ⟨tb_426, (List.forall_mem_cons.mpr ⟨tb_425, (List.forall_mem_cons.mpr ⟨tb_479, (List.forall_mem_cons.mpr ⟨tb_478, (List.forall_mem_cons.mpr ⟨tb_477, (List.forall_mem_cons.mpr ⟨tb_476, (fun _ h => absurd h List.not_mem_nil)⟩)⟩)⟩)⟩)⟩)⟩)⟩)⟩)⟩)⟩)⟩)
theorem in_wsX7_gain : ∀ w ∈ wsX7_gain, w ∈ lw_tbl := (List.forall_mem_cons.mpr ⟨tb_544, (List.forall_mem_append.mpr ⟨(List.forall_mem_append.mpr ⟨in_wsX7_gain_r1, (List.forall_mem_append.mpr ⟨in_wsX7_gain_r2, in_wsX7_gain_r3⟩)⟩), inX7⟩)⟩)
theorem tb_545 : Cond.methodLink RL 74 yX7_gain ∈ lw_tbl := List.mem_of_getElem? (i := 1049) (by decide +kernel)
theorem tb_546 : Cond.instanceMethod yX7_gain ∈ lw_tbl := List.mem_of_getElem? (i := 1050) (by decide +kernel)
theorem tb_547 : Cond.selects RX7 yX7_gain yX7_gain ∈ lw_tbl := List.mem_of_getElem? (i := 1051) (by decide +kernel)
theorem gg_gL_law_X7_gain : ∀ w ∈ wsV RL 74 RX7 yX7_gain wsX7_gain, w ∈ lw_tbl := List.forall_mem_append.mpr ⟨(List.forall_mem_cons.mpr ⟨tb_545, (List.forall_mem_cons.mpr ⟨tb_546, (List.forall_mem_cons.mpr ⟨tb_547, (List.forall_mem_cons.mpr ⟨tb_230, (fun _ h => absurd h List.not_mem_nil)⟩)⟩)⟩)⟩), in_wsX7_gain⟩
set_option maxRecDepth 20000 in
theorem gL_law_X7_gain : GoodIn lw_tbl (wsV RL 74 RX7 yX7_gain wsX7_gain) := goodIn_sub gg_gL_law_X7_gain (by decide +kernel)
theorem tb_548 : Cond.code yX6_best cX6_best 2 (some .int) ∈ lw_tbl := List.mem_of_getElem? (i := 581) (by decide +kernel)
theorem in_wsX6_best_r1 : ∀ w ∈ wsX6_best_r1, w ∈ lw_tbl := (List.forall_mem_cons.mpr ⟨tb_10, (List.forall_mem_cons.mpr ⟨tb_2, (List.forall_mem_cons.mpr ⟨tb_270, (List.forall_mem_cons.mpr ⟨tb_269, (List.forall_mem_cons.mpr ⟨tb_268, (List.forall_mem_cons.mpr ⟨tb_11, (List.forall_mem_cons.mpr ⟨tb_267, (List.forall_mem_cons.mpr ⟨tb_167, (List.forall_mem_cons.mpr ⟨tb_110, (List.forall_mem_cons.mpr ⟨tb_36, (List.forall_mem_cons.mpr ⟨tb_109, (List.forall_mem_cons.mpr ⟨tb_336, (List.forall_mem_cons.mpr ⟨tb_335, (List.forall_mem_cons.mpr ⟨tb_334, (List.forall_mem_cons.mpr ⟨tb_3, (List.forall_mem_cons.mpr ⟨tb_333, (List.forall_mem_cons.mpr ⟨tb_177, (List.forall_mem_cons.mpr ⟨tb_56, (List.forall_mem_cons.mpr ⟨tb_332, (List.forall_mem_cons.mpr ⟨tb_331, (List.forall_mem_cons.mpr ⟨tb_55, (List.forall_mem_cons.mpr ⟨tb_330, (List.forall_mem_cons.mpr ⟨tb_329, (List.forall_mem_cons.mpr ⟨tb_328, (fun _ h => absurd h List.not_mem_nil)⟩)⟩)⟩)⟩)⟩)⟩)⟩)⟩)⟩)⟩)⟩)⟩)⟩)⟩)⟩)⟩)⟩)⟩)⟩)⟩)⟩)⟩)⟩)⟩)
theorem in_wsX6_best_r2 : ∀ w ∈ wsX6_best_r2, w ∈ lw_tbl := (List.forall_mem_cons.mpr ⟨tb_327, (List.forall_mem_cons.mpr ⟨tb_326, (List.forall_mem_cons.mpr ⟨tb_325, (List.forall_mem_cons.mpr ⟨tb_37, (List.forall_mem_cons.mpr ⟨tb_35, (List.forall_mem_cons.mpr ⟨tb_352, (List.forall_mem_cons.mpr ⟨tb_351, (List.forall_mem_cons.mpr ⟨tb_350, (List.forall_mem_cons.mpr ⟨tb_349, (List.forall_mem_cons.mpr ⟨tb_57, (List.forall_mem_cons.mpr ⟨tb_348, (List.forall_mem_cons.mpr ⟨tb_347, (List.forall_mem_cons.mpr ⟨tb_346, (List.forall_mem_cons.mpr ⟨tb_345, (List.forall_mem_cons.mpr ⟨tb_7, (List.forall_mem_cons.mpr ⟨tb_344, (List.forall_mem_cons.mpr ⟨tb_343, (List.forall_mem_cons.mpr ⟨tb_342, (List.forall_mem_cons.mpr ⟨tb_66, (List.forall_mem_cons.mpr ⟨tb_341, (List.forall_mem_cons.mpr ⟨tb_340, (List.forall_mem_cons.mpr ⟨tb_339, (List.forall_mem_cons.mpr ⟨tb_338, (List.forall_mem_cons.mpr ⟨tb_72, (fun _ h => absurd h List.not_mem_nil)⟩)⟩)⟩)⟩)⟩)⟩)⟩)⟩)⟩)⟩)⟩)⟩)⟩)⟩)⟩)⟩)⟩)⟩)⟩)⟩)⟩)⟩)⟩)⟩)
theorem in_wsX6_best_r3 : ∀ w ∈ wsX6_best_r3, w ∈ lw_tbl := (List.forall_mem_cons.mpr ⟨tb_136, (List.forall_mem_cons.mpr ⟨tb_135, (List.forall_mem_cons.mpr ⟨tb_337, (List.forall_mem_cons.mpr ⟨tb_375, (List.forall_mem_cons.mpr ⟨tb_374, (List.forall_mem_cons.mpr ⟨tb_373, (List.forall_mem_cons.mpr ⟨tb_64, (List.forall_mem_cons.mpr ⟨tb_372, (List.forall_mem_cons.mpr ⟨tb_371, (List.forall_mem_cons.mpr ⟨tb_370, (List.forall_mem_cons.mpr ⟨tb_369, (List.forall_mem_cons.mpr ⟨tb_368, (List.forall_mem_cons.mpr ⟨tb_367, (List.forall_mem_cons.mpr ⟨tb_366, (List.forall_mem_cons.mpr ⟨tb_365, (List.forall_mem_cons.mpr ⟨tb_364, (List.forall_mem_cons.mpr ⟨tb_363, (List.forall_mem_cons.mpr ⟨tb_362, (List.forall_mem_cons.mpr ⟨tb_361, (List.forall_mem_cons.mpr ⟨tb_360, (List.forall_mem_cons.mpr ⟨tb_359, (List.forall_mem_cons.mpr ⟨tb_358, (List.forall_mem_cons.mpr ⟨tb_357, (List.forall_mem_cons.mpr ⟨tb_356, (fun _ h => absurd h List.not_mem_nil)⟩)⟩)⟩)⟩)⟩)⟩)⟩)⟩)⟩)⟩)⟩)⟩)⟩)⟩)⟩)⟩)⟩)⟩)⟩)⟩)⟩)⟩)⟩)⟩)
theorem in_wsX6_best_r4 : ∀ w ∈ wsX6_best_r4, w ∈ lw_tbl := (List.forall_mem_cons.mpr ⟨tb_355, (List.forall_mem_cons.mpr ⟨tb_354, (List.forall_mem_cons.mpr ⟨tb_353, (List.forall_mem_cons.mpr ⟨tb_390, (List.forall_mem_cons.mpr ⟨tb_389, (List.forall_mem_cons.mpr ⟨tb_388, (List.forall_mem_cons.mpr ⟨tb_387, (List.forall_mem_cons.mpr ⟨tb_386, (List.forall_mem_cons.mpr ⟨tb_385, (List.forall_mem_cons.mpr ⟨tb_384, (List.forall_mem_cons.mpr ⟨tb_383, (List.forall_mem_cons.mpr ⟨tb_382, (List.forall_mem_cons.mpr ⟨tb_381, (List.forall_mem_cons.mpr ⟨tb_380, (List.forall_mem_cons.mpr ⟨tb_266, (fun _ h => absurd h List.not_mem_nil)⟩)⟩)⟩)⟩)⟩)⟩)⟩)⟩)⟩)⟩)⟩)⟩)⟩)⟩)⟩)
theorem in_wsX6_best : ∀ w ∈ wsX6_best, w ∈ lw_tbl := (List.forall_mem_cons.mpr ⟨tb_548, (List.forall_mem_append.mpr ⟨(List.forall_mem_append.mpr ⟨(List.forall_mem_append.mpr ⟨(List.forall_mem_append.mpr ⟨(List.forall_mem_append.mpr ⟨in_wsX6_best_r1, (List.forall_mem_append.mpr ⟨in_wsX6_best_r2, (List.forall_mem_append.mpr ⟨in_wsX6_best_r3, in_wsX6_best_r4⟩)⟩)⟩), inX6⟩), inX0⟩), inX2⟩), inX1⟩)⟩)
theorem tb_549 : Cond.methodLink RL 75 yX6_best ∈ lw_tbl := List.mem_of_getElem? (i := 578) (by decide +kernel)
theorem tb_550 : Cond.instanceMethod yX6_best ∈ lw_tbl := List.mem_of_getElem? (i := 579) (by decide +kernel)
theorem tb_551 : Cond.selects RX6 yX6_best yX6_best ∈ lw_tbl := List.mem_of_getElem? (i := 580) (by decide +kernel)
theorem gg_gL_law_X6_best : ∀ w ∈ wsV RL 75 RX6 yX6_best wsX6_best, w ∈ lw_tbl := List.forall_mem_append.mpr ⟨(List.forall_mem_cons.mpr ⟨tb_549, (List.forall_mem_cons.mpr ⟨tb_550, (List.forall_mem_cons.mpr ⟨tb_551, (List.forall_mem_cons.mpr ⟨tb_36, (fun _ h => absurd h List.not_mem_nil)⟩)⟩)⟩)⟩), in_wsX6_best⟩
set_option maxRecDepth 20000 in
theorem gL_law_X6_best : GoodIn lw_tbl (wsV RL 75 RX6 yX6_best wsX6_best) := goodIn_sub gg_gL_law_X6_best (by decide +kernel)
theorem tb_552 : Cond.code yX7_best cX7_best 2 (some .int) ∈ lw_tbl := List.mem_of_getElem? (i := 1060) (by decide +kernel)
theorem in_wsX7_best_r1 : ∀ w ∈ wsX7_best_r1, w ∈ lw_tbl := (List.forall_mem_cons.mpr ⟨tb_80, (List.forall_mem_cons.mpr ⟨tb_295, (List.forall_mem_cons.mpr ⟨tb_294, (List.forall_mem_cons.mpr ⟨tb_293, (List.forall_mem_cons.mpr ⟨tb_230, (List.forall_mem_cons.mpr ⟨tb_292, (List.forall_mem_cons.mpr ⟨tb_197, (List.forall_mem_cons.mpr ⟨tb_406, (List.forall_mem_cons.mpr ⟨tb_405, (List.forall_mem_cons.mpr ⟨tb_404, (List.forall_mem_cons.mpr ⟨tb_403, (List.forall_mem_cons.mpr ⟨tb_81, (List.forall_mem_cons.mpr ⟨tb_402, (List.forall_mem_cons.mpr ⟨tb_401, (List.forall_mem_cons.mpr ⟨tb_400, (List.forall_mem_cons.mpr ⟨tb_399, (List.forall_mem_cons.mpr ⟨tb_398, (List.forall_mem_cons.mpr ⟨tb_397, (List.forall_mem_cons.mpr ⟨tb_396, (List.forall_mem_cons.mpr ⟨tb_395, (List.forall_mem_cons.mpr ⟨tb_423, (List.forall_mem_cons.mpr ⟨tb_422, (List.forall_mem_cons.mpr ⟨tb_421, (List.forall_mem_cons.mpr ⟨tb_420, (fun _ h => absurd h List.not_mem_nil)⟩)⟩)⟩)⟩)⟩)⟩)⟩)⟩)⟩)⟩)⟩)⟩)⟩)⟩)⟩)⟩)⟩)⟩)⟩)⟩)⟩)⟩)⟩)⟩)
theorem in_wsX7_best_r2 : ∀ w ∈ wsX7_best_r2, w ∈ lw_tbl := (List.forall_mem_cons.mpr ⟨tb_419, (List.forall_mem_cons.mpr ⟨tb_418, (List.forall_mem_cons.mpr ⟨tb_92, (List.forall_mem_cons.mpr ⟨tb_91, (List.forall_mem_cons.mpr ⟨tb_417, (List.forall_mem_cons.mpr ⟨tb_199, (List.forall_mem_cons.mpr ⟨tb_416, (List.forall_mem_cons.mpr ⟨tb_415, (List.forall_mem_cons.mpr ⟨tb_414, (List.forall_mem_cons.mpr ⟨tb_413, (List.forall_mem_cons.mpr ⟨tb_86, (List.forall_mem_cons.mpr ⟨tb_412, (List.forall_mem_cons.mpr ⟨tb_201, (List.forall_mem_cons.mpr ⟨tb_87, (List.forall_mem_cons.mpr ⟨tb_85, (List.forall_mem_cons.mpr ⟨tb_411, (List.forall_mem_cons.mpr ⟨tb_410, (List.forall_mem_cons.mpr ⟨tb_409, (List.forall_mem_cons.mpr ⟨tb_408, (List.forall_mem_cons.mpr ⟨tb_407, (List.forall_mem_cons.mpr ⟨tb_446, (List.forall_mem_cons.mpr ⟨tb_445, (List.forall_mem_cons.mpr ⟨tb_444, (List.forall_mem_cons.mpr ⟨tb_84, (fun _ h => absurd h List.not_mem_nil)⟩)⟩)⟩)⟩)⟩)⟩)⟩)⟩)⟩)⟩)⟩)⟩)⟩)⟩)⟩)⟩)⟩)⟩)⟩)⟩)⟩)⟩)⟩)⟩)
theorem in_wsX7_best_r3 : ∀ w ∈ wsX7_best_r3, w ∈ lw_tbl := (List.forall_mem_cons.mpr ⟨tb_443, (List.forall_mem_cons.mpr ⟨tb_442, (List.forall_mem_cons.mpr ⟨tb_441, (List.forall_mem_cons.mpr ⟨tb_440, (List.forall_mem_cons.mpr ⟨tb_439, (List.forall_mem_cons.mpr ⟨tb_438, (List.forall_mem_cons.mpr ⟨tb_437, (List.forall_mem_cons.mpr ⟨tb_436, (List.forall_mem_cons.mpr ⟨tb_435, (List.forall_mem_cons.mpr ⟨tb_434, (List.forall_mem_cons.mpr ⟨tb_433, (List.forall_mem_cons.mpr ⟨tb_432, (List.forall_mem_cons.mpr ⟨tb_431, (List.forall_mem_cons.mpr ⟨tb_430, (List.forall_mem_cons.mpr ⟨tb_429, (List.forall_mem_cons.mpr ⟨tb_428, (List.forall_mem_cons.mpr ⟨tb_427, (List.forall_mem_cons.mpr ⟨tb_426, (List.forall_mem_cons.mpr ⟨tb_425, (List.forall_mem_cons.mpr ⟨tb_424, (List.forall_mem_cons.mpr ⟨tb_451, (List.forall_mem_cons.mpr ⟨tb_450, (List.forall_mem_cons.mpr ⟨tb_449, (List.forall_mem_cons.mpr ⟨tb_448, (fun _ h => absurd h List.not_mem_nil)⟩)⟩)⟩)⟩)⟩)⟩)⟩)⟩)⟩)⟩)⟩)⟩)⟩)⟩)⟩)⟩)⟩)⟩)⟩)⟩)⟩)⟩)⟩)⟩)
theorem in_wsX7_best_r4 : ∀ w ∈ wsX7_best_r4, w ∈ lw_tbl := (List.forall_mem_cons.mpr ⟨tb_447, (fun _ h => absurd h List.not_mem_nil)⟩)
theorem in_wsX7_best : ∀ w ∈ wsX7_best, w ∈ lw_tbl := (List.forall_mem_cons.mpr ⟨tb_552, (List.forall_mem_append.mpr ⟨(List.forall_mem_append.mpr ⟨in_wsX7_best_r1, (List.forall_mem_append.mpr ⟨in_wsX7_best_r2, (List.forall_mem_append.mpr ⟨in_wsX7_best_r3, in_wsX7_best_r4⟩)⟩)⟩), inX7⟩)⟩)
theorem tb_553 : Cond.methodLink RL 78 yX7_best ∈ lw_tbl := List.mem_of_getElem? (i := 1057) (by decide +kernel)
theorem tb_554 : Cond.instanceMethod yX7_best ∈ lw_tbl := List.mem_of_getElem? (i := 1058) (by decide +kernel)
theorem tb_555 : Cond.selects RX7 yX7_best yX7_best ∈ lw_tbl := List.mem_of_getElem? (i := 1059) (by decide +kernel)
theorem gg_gL_law_X7_best : ∀ w ∈ wsV RL 78 RX7 yX7_best wsX7_best, w ∈ lw_tbl := List.forall_mem_append.mpr ⟨(List.forall_mem_cons.mpr ⟨tb_553, (List.forall_mem_cons.mpr ⟨tb_554, (List.forall_mem_cons.mpr ⟨tb_555, (List.forall_mem_cons.mpr ⟨tb_230, (fun _ h => absurd h List.not_mem_nil)⟩)⟩)⟩)⟩), in_wsX7_best⟩
set_option maxRecDepth 20000 in
theorem gL_law_X7_best : GoodIn lw_tbl (wsV RL 78 RX7 yX7_best wsX7_best) := goodIn_sub gg_gL_law_X7_best (by decide +kernel)
theorem tb_556 : Cond.code yX6_against cX6_against 8 (some .int) ∈ lw_tbl := List.mem_of_getElem? (i := 585) (by decide +kernel)
theorem tb_557 : Cond.methodLink RX6 210 yX0_rowBecomes ∈ lw_tbl := List.mem_of_getElem? (i := 587) (by decide +kernel)
theorem tb_558 : Cond.methodLink RX6 207 yX6_rowsOf ∈ lw_tbl := List.mem_of_getElem? (i := 586) (by decide +kernel)
theorem in_wsX6_against_r1 : ∀ w ∈ wsX6_against_r1, w ∈ lw_tbl := (List.forall_mem_cons.mpr ⟨tb_10, (List.forall_mem_cons.mpr ⟨tb_2, (List.forall_mem_cons.mpr ⟨tb_558, (List.forall_mem_cons.mpr ⟨tb_330, (List.forall_mem_cons.mpr ⟨tb_36, (List.forall_mem_cons.mpr ⟨tb_329, (List.forall_mem_cons.mpr ⟨tb_108, (List.forall_mem_cons.mpr ⟨tb_110, (List.forall_mem_cons.mpr ⟨tb_109, (List.forall_mem_cons.mpr ⟨tb_557, (List.forall_mem_cons.mpr ⟨tb_327, (List.forall_mem_cons.mpr ⟨tb_326, (List.forall_mem_cons.mpr ⟨tb_3, (List.forall_mem_cons.mpr ⟨tb_325, (List.forall_mem_cons.mpr ⟨tb_56, (List.forall_mem_cons.mpr ⟨tb_37, (List.forall_mem_cons.mpr ⟨tb_35, (List.forall_mem_cons.mpr ⟨tb_540, (List.forall_mem_cons.mpr ⟨tb_351, (List.forall_mem_cons.mpr ⟨tb_350, (List.forall_mem_cons.mpr ⟨tb_349, (List.forall_mem_cons.mpr ⟨tb_57, (List.forall_mem_cons.mpr ⟨tb_332, (List.forall_mem_cons.mpr ⟨tb_348, (fun _ h => absurd h List.not_mem_nil)⟩)⟩)⟩)⟩)⟩)⟩)⟩)⟩)⟩)⟩)⟩)⟩)⟩)⟩)⟩)⟩)⟩)⟩)⟩)⟩)⟩)⟩)⟩)⟩)
theorem in_wsX6_against_r2 : ∀ w ∈ wsX6_against_r2, w ∈ lw_tbl := (List.forall_mem_cons.mpr ⟨tb_331, (List.forall_mem_cons.mpr ⟨tb_347, (List.forall_mem_cons.mpr ⟨tb_346, (List.forall_mem_cons.mpr ⟨tb_345, (List.forall_mem_cons.mpr ⟨tb_7, (List.forall_mem_cons.mpr ⟨tb_344, (List.forall_mem_cons.mpr ⟨tb_343, (List.forall_mem_cons.mpr ⟨tb_342, (List.forall_mem_cons.mpr ⟨tb_66, (List.forall_mem_cons.mpr ⟨tb_341, (List.forall_mem_cons.mpr ⟨tb_340, (List.forall_mem_cons.mpr ⟨tb_339, (List.forall_mem_cons.mpr ⟨tb_11, (List.forall_mem_cons.mpr ⟨tb_338, (List.forall_mem_cons.mpr ⟨tb_167, (List.forall_mem_cons.mpr ⟨tb_72, (List.forall_mem_cons.mpr ⟨tb_136, (List.forall_mem_cons.mpr ⟨tb_135, (List.forall_mem_cons.mpr ⟨tb_337, (List.forall_mem_cons.mpr ⟨tb_375, (List.forall_mem_cons.mpr ⟨tb_374, (List.forall_mem_cons.mpr ⟨tb_373, (List.forall_mem_cons.mpr ⟨tb_64, (List.forall_mem_cons.mpr ⟨tb_372, (fun _ h => absurd h List.not_mem_nil)⟩)⟩)⟩)⟩)⟩)⟩)⟩)⟩)⟩)⟩)⟩)⟩)⟩)⟩)⟩)⟩)⟩)⟩)⟩)⟩)⟩)⟩)⟩)⟩)
theorem in_wsX6_against_r3 : ∀ w ∈ wsX6_against_r3, w ∈ lw_tbl := (List.forall_mem_cons.mpr ⟨tb_371, (List.forall_mem_cons.mpr ⟨tb_370, (List.forall_mem_cons.mpr ⟨tb_369, (List.forall_mem_cons.mpr ⟨tb_368, (List.forall_mem_cons.mpr ⟨tb_367, (List.forall_mem_cons.mpr ⟨tb_366, (List.forall_mem_cons.mpr ⟨tb_365, (List.forall_mem_cons.mpr ⟨tb_364, (List.forall_mem_cons.mpr ⟨tb_363, (List.forall_mem_cons.mpr ⟨tb_362, (List.forall_mem_cons.mpr ⟨tb_361, (List.forall_mem_cons.mpr ⟨tb_360, (List.forall_mem_cons.mpr ⟨tb_359, (List.forall_mem_cons.mpr ⟨tb_358, (List.forall_mem_cons.mpr ⟨tb_357, (List.forall_mem_cons.mpr ⟨tb_356, (List.forall_mem_cons.mpr ⟨tb_355, (List.forall_mem_cons.mpr ⟨tb_354, (List.forall_mem_cons.mpr ⟨tb_353, (List.forall_mem_cons.mpr ⟨tb_390, (List.forall_mem_cons.mpr ⟨tb_389, (List.forall_mem_cons.mpr ⟨tb_388, (List.forall_mem_cons.mpr ⟨tb_387, (List.forall_mem_cons.mpr ⟨tb_386, (fun _ h => absurd h List.not_mem_nil)⟩)⟩)⟩)⟩)⟩)⟩)⟩)⟩)⟩)⟩)⟩)⟩)⟩)⟩)⟩)⟩)⟩)⟩)⟩)⟩)⟩)⟩)⟩)⟩)
theorem tb_559 : Cond.methodLink RX6 217 yX6_compareShares ∈ lw_tbl := List.mem_of_getElem? (i := 588) (by decide +kernel)
theorem in_wsX6_against_r4 : ∀ w ∈ wsX6_against_r4, w ∈ lw_tbl := (List.forall_mem_cons.mpr ⟨tb_559, (List.forall_mem_cons.mpr ⟨tb_385, (List.forall_mem_cons.mpr ⟨tb_384, (List.forall_mem_cons.mpr ⟨tb_383, (List.forall_mem_cons.mpr ⟨tb_382, (List.forall_mem_cons.mpr ⟨tb_381, (List.forall_mem_cons.mpr ⟨tb_380, (fun _ h => absurd h List.not_mem_nil)⟩)⟩)⟩)⟩)⟩)⟩)⟩)
theorem in_wsX6_against : ∀ w ∈ wsX6_against, w ∈ lw_tbl := (List.forall_mem_cons.mpr ⟨tb_556, (List.forall_mem_append.mpr ⟨(List.forall_mem_append.mpr ⟨(List.forall_mem_append.mpr ⟨(List.forall_mem_append.mpr ⟨(List.forall_mem_append.mpr ⟨in_wsX6_against_r1, (List.forall_mem_append.mpr ⟨in_wsX6_against_r2, (List.forall_mem_append.mpr ⟨in_wsX6_against_r3, in_wsX6_against_r4⟩)⟩)⟩), inX6⟩), inX2⟩), inX0⟩), inX1⟩)⟩)
theorem tb_560 : Cond.methodLink RL 79 yX6_against ∈ lw_tbl := List.mem_of_getElem? (i := 582) (by decide +kernel)
theorem tb_561 : Cond.instanceMethod yX6_against ∈ lw_tbl := List.mem_of_getElem? (i := 583) (by decide +kernel)
theorem tb_562 : Cond.selects RX6 yX6_against yX6_against ∈ lw_tbl := List.mem_of_getElem? (i := 584) (by decide +kernel)
theorem gg_gL_law_X6_against : ∀ w ∈ wsV RL 79 RX6 yX6_against wsX6_against, w ∈ lw_tbl := List.forall_mem_append.mpr ⟨(List.forall_mem_cons.mpr ⟨tb_560, (List.forall_mem_cons.mpr ⟨tb_561, (List.forall_mem_cons.mpr ⟨tb_562, (List.forall_mem_cons.mpr ⟨tb_36, (fun _ h => absurd h List.not_mem_nil)⟩)⟩)⟩)⟩), in_wsX6_against⟩
set_option maxRecDepth 20000 in
theorem gL_law_X6_against : GoodIn lw_tbl (wsV RL 79 RX6 yX6_against wsX6_against) := goodIn_sub gg_gL_law_X6_against (by decide +kernel)
theorem tb_563 : Cond.code yX7_against cX7_against 7 (some .int) ∈ lw_tbl := List.mem_of_getElem? (i := 1086) (by decide +kernel)
theorem in_wsX7_against_r1 : ∀ w ∈ wsX7_against_r1, w ∈ lw_tbl := (List.forall_mem_cons.mpr ⟨tb_203, (List.forall_mem_cons.mpr ⟨tb_81, (List.forall_mem_cons.mpr ⟨tb_402, (List.forall_mem_cons.mpr ⟨tb_401, (List.forall_mem_cons.mpr ⟨tb_400, (List.forall_mem_cons.mpr ⟨tb_399, (List.forall_mem_cons.mpr ⟨tb_398, (List.forall_mem_cons.mpr ⟨tb_230, (List.forall_mem_cons.mpr ⟨tb_397, (List.forall_mem_cons.mpr ⟨tb_197, (List.forall_mem_cons.mpr ⟨tb_228, (List.forall_mem_cons.mpr ⟨tb_227, (List.forall_mem_cons.mpr ⟨tb_226, (List.forall_mem_cons.mpr ⟨tb_396, (List.forall_mem_cons.mpr ⟨tb_395, (List.forall_mem_cons.mpr ⟨tb_423, (List.forall_mem_cons.mpr ⟨tb_422, (List.forall_mem_cons.mpr ⟨tb_421, (List.forall_mem_cons.mpr ⟨tb_420, (List.forall_mem_cons.mpr ⟨tb_419, (List.forall_mem_cons.mpr ⟨tb_418, (List.forall_mem_cons.mpr ⟨tb_92, (List.forall_mem_cons.mpr ⟨tb_91, (List.forall_mem_cons.mpr ⟨tb_417, (fun _ h => absurd h List.not_mem_nil)⟩)⟩)⟩)⟩)⟩)⟩)⟩)⟩)⟩)⟩)⟩)⟩)⟩)⟩)⟩)⟩)⟩)⟩)⟩)⟩)⟩)⟩)⟩)⟩)
theorem in_wsX7_against_r2 : ∀ w ∈ wsX7_against_r2, w ∈ lw_tbl := (List.forall_mem_cons.mpr ⟨tb_199, (List.forall_mem_cons.mpr ⟨tb_416, (List.forall_mem_cons.mpr ⟨tb_415, (List.forall_mem_cons.mpr ⟨tb_414, (List.forall_mem_cons.mpr ⟨tb_413, (List.forall_mem_cons.mpr ⟨tb_86, (List.forall_mem_cons.mpr ⟨tb_412, (List.forall_mem_cons.mpr ⟨tb_201, (List.forall_mem_cons.mpr ⟨tb_87, (List.forall_mem_cons.mpr ⟨tb_85, (List.forall_mem_cons.mpr ⟨tb_411, (List.forall_mem_cons.mpr ⟨tb_410, (List.forall_mem_cons.mpr ⟨tb_409, (List.forall_mem_cons.mpr ⟨tb_408, (List.forall_mem_cons.mpr ⟨tb_407, (List.forall_mem_cons.mpr ⟨tb_446, (List.forall_mem_cons.mpr ⟨tb_445, (List.forall_mem_cons.mpr ⟨tb_444, (List.forall_mem_cons.mpr ⟨tb_84, (List.forall_mem_cons.mpr ⟨tb_443, (List.forall_mem_cons.mpr ⟨tb_442, (List.forall_mem_cons.mpr ⟨tb_441, (List.forall_mem_cons.mpr ⟨tb_440, (List.forall_mem_cons.mpr ⟨tb_439, (fun _ h => absurd h List.not_mem_nil)⟩)⟩)⟩)⟩)⟩)⟩)⟩)⟩)⟩)⟩)⟩)⟩)⟩)⟩)⟩)⟩)⟩)⟩)⟩)⟩)⟩)⟩)⟩)⟩)
theorem in_wsX7_against_r3 : ∀ w ∈ wsX7_against_r3, w ∈ lw_tbl := (List.forall_mem_cons.mpr ⟨tb_438, (List.forall_mem_cons.mpr ⟨tb_437, (List.forall_mem_cons.mpr ⟨tb_436, (List.forall_mem_cons.mpr ⟨tb_435, (List.forall_mem_cons.mpr ⟨tb_434, (List.forall_mem_cons.mpr ⟨tb_433, (List.forall_mem_cons.mpr ⟨tb_432, (List.forall_mem_cons.mpr ⟨tb_431, (List.forall_mem_cons.mpr ⟨tb_430, (List.forall_mem_cons.mpr ⟨tb_429, (List.forall_mem_cons.mpr ⟨tb_428, (List.forall_mem_cons.mpr ⟨tb_427, (List.forall_mem_cons.mpr ⟨tb_426, (List.forall_mem_cons.mpr ⟨tb_425, (List.forall_mem_cons.mpr ⟨tb_424, (List.forall_mem_cons.mpr ⟨tb_451, (List.forall_mem_cons.mpr ⟨tb_450, (List.forall_mem_cons.mpr ⟨tb_449, (List.forall_mem_cons.mpr ⟨tb_448, (List.forall_mem_cons.mpr ⟨tb_447, (fun _ h => absurd h List.not_mem_nil)⟩)⟩)⟩)⟩)⟩)⟩)⟩)⟩)⟩)⟩)⟩)⟩)⟩)⟩)⟩)⟩)⟩)⟩)⟩)⟩)
theorem in_wsX7_against : ∀ w ∈ wsX7_against, w ∈ lw_tbl := (List.forall_mem_cons.mpr ⟨tb_563, (List.forall_mem_append.mpr ⟨(List.forall_mem_append.mpr ⟨in_wsX7_against_r1, (List.forall_mem_append.mpr ⟨in_wsX7_against_r2, in_wsX7_against_r3⟩)⟩), inX7⟩)⟩)
theorem tb_564 : Cond.methodLink RL 82 yX7_against ∈ lw_tbl := List.mem_of_getElem? (i := 1083) (by decide +kernel)
theorem tb_565 : Cond.instanceMethod yX7_against ∈ lw_tbl := List.mem_of_getElem? (i := 1084) (by decide +kernel)
theorem tb_566 : Cond.selects RX7 yX7_against yX7_against ∈ lw_tbl := List.mem_of_getElem? (i := 1085) (by decide +kernel)
theorem gg_gL_law_X7_against : ∀ w ∈ wsV RL 82 RX7 yX7_against wsX7_against, w ∈ lw_tbl := List.forall_mem_append.mpr ⟨(List.forall_mem_cons.mpr ⟨tb_564, (List.forall_mem_cons.mpr ⟨tb_565, (List.forall_mem_cons.mpr ⟨tb_566, (List.forall_mem_cons.mpr ⟨tb_230, (fun _ h => absurd h List.not_mem_nil)⟩)⟩)⟩)⟩), in_wsX7_against⟩
set_option maxRecDepth 20000 in
theorem gL_law_X7_against : GoodIn lw_tbl (wsV RL 82 RX7 yX7_against wsX7_against) := goodIn_sub gg_gL_law_X7_against (by decide +kernel)
theorem tb_567 : Cond.code yX6_mends cX6_mends 6 (some .int) ∈ lw_tbl := List.mem_of_getElem? (i := 592) (by decide +kernel)
theorem in_wsX6_mends_r1 : ∀ w ∈ wsX6_mends_r1, w ∈ lw_tbl := (List.forall_mem_cons.mpr ⟨tb_10, (List.forall_mem_cons.mpr ⟨tb_2, (List.forall_mem_cons.mpr ⟨tb_108, (List.forall_mem_cons.mpr ⟨tb_110, (List.forall_mem_cons.mpr ⟨tb_36, (List.forall_mem_cons.mpr ⟨tb_109, (List.forall_mem_cons.mpr ⟨tb_336, (List.forall_mem_cons.mpr ⟨tb_335, (List.forall_mem_cons.mpr ⟨tb_334, (List.forall_mem_cons.mpr ⟨tb_3, (List.forall_mem_cons.mpr ⟨tb_333, (List.forall_mem_cons.mpr ⟨tb_177, (List.forall_mem_cons.mpr ⟨tb_56, (List.forall_mem_cons.mpr ⟨tb_332, (List.forall_mem_cons.mpr ⟨tb_331, (List.forall_mem_cons.mpr ⟨tb_55, (List.forall_mem_cons.mpr ⟨tb_330, (List.forall_mem_cons.mpr ⟨tb_329, (List.forall_mem_cons.mpr ⟨tb_328, (List.forall_mem_cons.mpr ⟨tb_327, (List.forall_mem_cons.mpr ⟨tb_326, (List.forall_mem_cons.mpr ⟨tb_325, (List.forall_mem_cons.mpr ⟨tb_37, (List.forall_mem_cons.mpr ⟨tb_35, (fun _ h => absurd h List.not_mem_nil)⟩)⟩)⟩)⟩)⟩)⟩)⟩)⟩)⟩)⟩)⟩)⟩)⟩)⟩)⟩)⟩)⟩)⟩)⟩)⟩)⟩)⟩)⟩)⟩)
theorem in_wsX6_mends_r2 : ∀ w ∈ wsX6_mends_r2, w ∈ lw_tbl := (List.forall_mem_cons.mpr ⟨tb_352, (List.forall_mem_cons.mpr ⟨tb_351, (List.forall_mem_cons.mpr ⟨tb_350, (List.forall_mem_cons.mpr ⟨tb_349, (List.forall_mem_cons.mpr ⟨tb_57, (List.forall_mem_cons.mpr ⟨tb_348, (List.forall_mem_cons.mpr ⟨tb_347, (List.forall_mem_cons.mpr ⟨tb_346, (List.forall_mem_cons.mpr ⟨tb_345, (List.forall_mem_cons.mpr ⟨tb_7, (List.forall_mem_cons.mpr ⟨tb_344, (List.forall_mem_cons.mpr ⟨tb_343, (List.forall_mem_cons.mpr ⟨tb_342, (List.forall_mem_cons.mpr ⟨tb_66, (List.forall_mem_cons.mpr ⟨tb_341, (List.forall_mem_cons.mpr ⟨tb_340, (List.forall_mem_cons.mpr ⟨tb_339, (List.forall_mem_cons.mpr ⟨tb_11, (List.forall_mem_cons.mpr ⟨tb_338, (List.forall_mem_cons.mpr ⟨tb_167, (List.forall_mem_cons.mpr ⟨tb_72, (List.forall_mem_cons.mpr ⟨tb_136, (List.forall_mem_cons.mpr ⟨tb_135, (List.forall_mem_cons.mpr ⟨tb_337, (fun _ h => absurd h List.not_mem_nil)⟩)⟩)⟩)⟩)⟩)⟩)⟩)⟩)⟩)⟩)⟩)⟩)⟩)⟩)⟩)⟩)⟩)⟩)⟩)⟩)⟩)⟩)⟩)⟩)
theorem in_wsX6_mends_r3 : ∀ w ∈ wsX6_mends_r3, w ∈ lw_tbl := (List.forall_mem_cons.mpr ⟨tb_375, (List.forall_mem_cons.mpr ⟨tb_374, (List.forall_mem_cons.mpr ⟨tb_373, (List.forall_mem_cons.mpr ⟨tb_64, (List.forall_mem_cons.mpr ⟨tb_372, (List.forall_mem_cons.mpr ⟨tb_371, (List.forall_mem_cons.mpr ⟨tb_370, (List.forall_mem_cons.mpr ⟨tb_369, (List.forall_mem_cons.mpr ⟨tb_368, (List.forall_mem_cons.mpr ⟨tb_367, (List.forall_mem_cons.mpr ⟨tb_366, (List.forall_mem_cons.mpr ⟨tb_365, (List.forall_mem_cons.mpr ⟨tb_364, (List.forall_mem_cons.mpr ⟨tb_363, (List.forall_mem_cons.mpr ⟨tb_362, (List.forall_mem_cons.mpr ⟨tb_361, (List.forall_mem_cons.mpr ⟨tb_360, (List.forall_mem_cons.mpr ⟨tb_359, (List.forall_mem_cons.mpr ⟨tb_358, (List.forall_mem_cons.mpr ⟨tb_357, (List.forall_mem_cons.mpr ⟨tb_356, (List.forall_mem_cons.mpr ⟨tb_355, (List.forall_mem_cons.mpr ⟨tb_354, (List.forall_mem_cons.mpr ⟨tb_353, (fun _ h => absurd h List.not_mem_nil)⟩)⟩)⟩)⟩)⟩)⟩)⟩)⟩)⟩)⟩)⟩)⟩)⟩)⟩)⟩)⟩)⟩)⟩)⟩)⟩)⟩)⟩)⟩)⟩)
theorem tb_568 : Cond.methodLink RX6 224 yX2_hisBarUnseen ∈ lw_tbl := List.mem_of_getElem? (i := 597) (by decide +kernel)
theorem tb_569 : Cond.code yX6_mendsAll cX6_mendsAll 3 (some .boolean) ∈ lw_tbl := List.mem_of_getElem? (i := 596) (by decide +kernel)
theorem tb_570 : Cond.selects RX6 yX6_mendsAll yX6_mendsAll ∈ lw_tbl := List.mem_of_getElem? (i := 11) (by decide +kernel)
theorem tb_571 : Cond.instanceMethod yX6_mendsAll ∈ lw_tbl := List.mem_of_getElem? (i := 595) (by decide +kernel)
theorem tb_572 : Cond.methodLink RX6 221 yX6_mendsAll ∈ lw_tbl := List.mem_of_getElem? (i := 593) (by decide +kernel)
theorem in_wsX6_mends_r4 : ∀ w ∈ wsX6_mends_r4, w ∈ lw_tbl := (List.forall_mem_cons.mpr ⟨tb_390, (List.forall_mem_cons.mpr ⟨tb_389, (List.forall_mem_cons.mpr ⟨tb_388, (List.forall_mem_cons.mpr ⟨tb_387, (List.forall_mem_cons.mpr ⟨tb_386, (List.forall_mem_cons.mpr ⟨tb_385, (List.forall_mem_cons.mpr ⟨tb_384, (List.forall_mem_cons.mpr ⟨tb_383, (List.forall_mem_cons.mpr ⟨tb_382, (List.forall_mem_cons.mpr ⟨tb_381, (List.forall_mem_cons.mpr ⟨tb_380, (List.forall_mem_cons.mpr ⟨tb_572, (List.forall_mem_cons.mpr ⟨tb_571, (List.forall_mem_cons.mpr ⟨tb_570, (List.forall_mem_cons.mpr ⟨tb_569, (List.forall_mem_cons.mpr ⟨tb_568, (List.forall_mem_cons.mpr ⟨tb_260, (List.forall_mem_cons.mpr ⟨tb_259, (List.forall_mem_cons.mpr ⟨tb_279, (List.forall_mem_cons.mpr ⟨tb_71, (List.forall_mem_cons.mpr ⟨tb_169, (List.forall_mem_cons.mpr ⟨tb_168, (List.forall_mem_cons.mpr ⟨tb_266, (fun _ h => absurd h List.not_mem_nil)⟩)⟩)⟩)⟩)⟩)⟩)⟩)⟩)⟩)⟩)⟩)⟩)⟩)⟩)⟩)⟩)⟩)⟩)⟩)⟩)⟩)⟩)⟩)
theorem in_wsX6_mends : ∀ w ∈ wsX6_mends, w ∈ lw_tbl := (List.forall_mem_cons.mpr ⟨tb_567, (List.forall_mem_append.mpr ⟨(List.forall_mem_append.mpr ⟨(List.forall_mem_append.mpr ⟨(List.forall_mem_append.mpr ⟨(List.forall_mem_append.mpr ⟨in_wsX6_mends_r1, (List.forall_mem_append.mpr ⟨in_wsX6_mends_r2, (List.forall_mem_append.mpr ⟨in_wsX6_mends_r3, in_wsX6_mends_r4⟩)⟩)⟩), inX6⟩), inX2⟩), inX0⟩), inX1⟩)⟩)
theorem tb_573 : Cond.methodLink RL 83 yX6_mends ∈ lw_tbl := List.mem_of_getElem? (i := 589) (by decide +kernel)
theorem tb_574 : Cond.instanceMethod yX6_mends ∈ lw_tbl := List.mem_of_getElem? (i := 590) (by decide +kernel)
theorem tb_575 : Cond.selects RX6 yX6_mends yX6_mends ∈ lw_tbl := List.mem_of_getElem? (i := 591) (by decide +kernel)
theorem gg_gL_law_X6_mends : ∀ w ∈ wsV RL 83 RX6 yX6_mends wsX6_mends, w ∈ lw_tbl := List.forall_mem_append.mpr ⟨(List.forall_mem_cons.mpr ⟨tb_573, (List.forall_mem_cons.mpr ⟨tb_574, (List.forall_mem_cons.mpr ⟨tb_575, (List.forall_mem_cons.mpr ⟨tb_36, (fun _ h => absurd h List.not_mem_nil)⟩)⟩)⟩)⟩), in_wsX6_mends⟩
set_option maxRecDepth 20000 in
theorem gL_law_X6_mends : GoodIn lw_tbl (wsV RL 83 RX6 yX6_mends wsX6_mends) := goodIn_sub gg_gL_law_X6_mends (by decide +kernel)
theorem tb_576 : Cond.code yX7_mends cX7_mends 8 (some .int) ∈ lw_tbl := List.mem_of_getElem? (i := 1090) (by decide +kernel)
theorem in_wsX7_mends_r1 : ∀ w ∈ wsX7_mends_r1, w ∈ lw_tbl := (List.forall_mem_cons.mpr ⟨tb_203, (List.forall_mem_cons.mpr ⟨tb_197, (List.forall_mem_cons.mpr ⟨tb_80, (List.forall_mem_cons.mpr ⟨tb_228, (List.forall_mem_cons.mpr ⟨tb_227, (List.forall_mem_cons.mpr ⟨tb_230, (List.forall_mem_cons.mpr ⟨tb_226, (List.forall_mem_cons.mpr ⟨tb_406, (List.forall_mem_cons.mpr ⟨tb_405, (List.forall_mem_cons.mpr ⟨tb_404, (List.forall_mem_cons.mpr ⟨tb_403, (List.forall_mem_cons.mpr ⟨tb_81, (List.forall_mem_cons.mpr ⟨tb_402, (List.forall_mem_cons.mpr ⟨tb_401, (List.forall_mem_cons.mpr ⟨tb_400, (List.forall_mem_cons.mpr ⟨tb_399, (List.forall_mem_cons.mpr ⟨tb_398, (List.forall_mem_cons.mpr ⟨tb_397, (List.forall_mem_cons.mpr ⟨tb_396, (List.forall_mem_cons.mpr ⟨tb_395, (List.forall_mem_cons.mpr ⟨tb_423, (List.forall_mem_cons.mpr ⟨tb_422, (List.forall_mem_cons.mpr ⟨tb_421, (List.forall_mem_cons.mpr ⟨tb_420, (fun _ h => absurd h List.not_mem_nil)⟩)⟩)⟩)⟩)⟩)⟩)⟩)⟩)⟩)⟩)⟩)⟩)⟩)⟩)⟩)⟩)⟩)⟩)⟩)⟩)⟩)⟩)⟩)⟩)
theorem in_wsX7_mends_r2 : ∀ w ∈ wsX7_mends_r2, w ∈ lw_tbl := (List.forall_mem_cons.mpr ⟨tb_419, (List.forall_mem_cons.mpr ⟨tb_418, (List.forall_mem_cons.mpr ⟨tb_92, (List.forall_mem_cons.mpr ⟨tb_91, (List.forall_mem_cons.mpr ⟨tb_417, (List.forall_mem_cons.mpr ⟨tb_199, (List.forall_mem_cons.mpr ⟨tb_416, (List.forall_mem_cons.mpr ⟨tb_415, (List.forall_mem_cons.mpr ⟨tb_414, (List.forall_mem_cons.mpr ⟨tb_413, (List.forall_mem_cons.mpr ⟨tb_86, (List.forall_mem_cons.mpr ⟨tb_412, (List.forall_mem_cons.mpr ⟨tb_201, (List.forall_mem_cons.mpr ⟨tb_87, (List.forall_mem_cons.mpr ⟨tb_85, (List.forall_mem_cons.mpr ⟨tb_411, (List.forall_mem_cons.mpr ⟨tb_410, (List.forall_mem_cons.mpr ⟨tb_409, (List.forall_mem_cons.mpr ⟨tb_408, (List.forall_mem_cons.mpr ⟨tb_407, (List.forall_mem_cons.mpr ⟨tb_446, (List.forall_mem_cons.mpr ⟨tb_445, (List.forall_mem_cons.mpr ⟨tb_444, (List.forall_mem_cons.mpr ⟨tb_84, (fun _ h => absurd h List.not_mem_nil)⟩)⟩)⟩)⟩)⟩)⟩)⟩)⟩)⟩)⟩)⟩)⟩)⟩)⟩)⟩)⟩)⟩)⟩)⟩)⟩)⟩)⟩)⟩)⟩)
theorem in_wsX7_mends_r3 : ∀ w ∈ wsX7_mends_r3, w ∈ lw_tbl := (List.forall_mem_cons.mpr ⟨tb_443, (List.forall_mem_cons.mpr ⟨tb_442, (List.forall_mem_cons.mpr ⟨tb_441, (List.forall_mem_cons.mpr ⟨tb_440, (List.forall_mem_cons.mpr ⟨tb_439, (List.forall_mem_cons.mpr ⟨tb_438, (List.forall_mem_cons.mpr ⟨tb_437, (List.forall_mem_cons.mpr ⟨tb_436, (List.forall_mem_cons.mpr ⟨tb_435, (List.forall_mem_cons.mpr ⟨tb_434, (List.forall_mem_cons.mpr ⟨tb_433, (List.forall_mem_cons.mpr ⟨tb_432, (List.forall_mem_cons.mpr ⟨tb_431, (List.forall_mem_cons.mpr ⟨tb_430, (List.forall_mem_cons.mpr ⟨tb_429, (List.forall_mem_cons.mpr ⟨tb_428, (List.forall_mem_cons.mpr ⟨tb_427, (List.forall_mem_cons.mpr ⟨tb_426, (List.forall_mem_cons.mpr ⟨tb_425, (List.forall_mem_cons.mpr ⟨tb_424, (List.forall_mem_cons.mpr ⟨tb_451, (List.forall_mem_cons.mpr ⟨tb_450, (List.forall_mem_cons.mpr ⟨tb_449, (List.forall_mem_cons.mpr ⟨tb_448, (fun _ h => absurd h List.not_mem_nil)⟩)⟩)⟩)⟩)⟩)⟩)⟩)⟩)⟩)⟩)⟩)⟩)⟩)⟩)⟩)⟩)⟩)⟩)⟩)⟩)⟩)⟩)⟩)⟩)
theorem in_wsX7_mends_r4 : ∀ w ∈ wsX7_mends_r4, w ∈ lw_tbl := (List.forall_mem_cons.mpr ⟨tb_447, (List.forall_mem_cons.mpr ⟨tb_291, (List.forall_mem_cons.mpr ⟨tb_290, (List.forall_mem_cons.mpr ⟨tb_289, (List.forall_mem_cons.mpr ⟨tb_288, (List.forall_mem_cons.mpr ⟨tb_287, (List.forall_mem_cons.mpr ⟨tb_286, (List.forall_mem_cons.mpr ⟨tb_285, (List.forall_mem_cons.mpr ⟨tb_284, (fun _ h => absurd h List.not_mem_nil)⟩)⟩)⟩)⟩)⟩)⟩)⟩)⟩)⟩)
theorem in_wsX7_mends : ∀ w ∈ wsX7_mends, w ∈ lw_tbl := (List.forall_mem_cons.mpr ⟨tb_576, (List.forall_mem_append.mpr ⟨(List.forall_mem_append.mpr ⟨in_wsX7_mends_r1, (List.forall_mem_append.mpr ⟨in_wsX7_mends_r2, (List.forall_mem_append.mpr ⟨in_wsX7_mends_r3, in_wsX7_mends_r4⟩)⟩)⟩), inX7⟩)⟩)
theorem tb_577 : Cond.methodLink RL 86 yX7_mends ∈ lw_tbl := List.mem_of_getElem? (i := 1087) (by decide +kernel)
theorem tb_578 : Cond.instanceMethod yX7_mends ∈ lw_tbl := List.mem_of_getElem? (i := 1088) (by decide +kernel)
theorem tb_579 : Cond.selects RX7 yX7_mends yX7_mends ∈ lw_tbl := List.mem_of_getElem? (i := 1089) (by decide +kernel)
theorem gg_gL_law_X7_mends : ∀ w ∈ wsV RL 86 RX7 yX7_mends wsX7_mends, w ∈ lw_tbl := List.forall_mem_append.mpr ⟨(List.forall_mem_cons.mpr ⟨tb_577, (List.forall_mem_cons.mpr ⟨tb_578, (List.forall_mem_cons.mpr ⟨tb_579, (List.forall_mem_cons.mpr ⟨tb_230, (fun _ h => absurd h List.not_mem_nil)⟩)⟩)⟩)⟩), in_wsX7_mends⟩
set_option maxRecDepth 20000 in
theorem gL_law_X7_mends : GoodIn lw_tbl (wsV RL 86 RX7 yX7_mends wsX7_mends) := goodIn_sub gg_gL_law_X7_mends (by decide +kernel)
theorem tb_580 : Cond.code yX6_blind cX6_blind 4 (some .long) ∈ lw_tbl := List.mem_of_getElem? (i := 601) (by decide +kernel)
theorem tb_581 : Cond.code yX1_comeBlind cX1_comeBlind 4 none ∈ lw_tbl := List.mem_of_getElem? (i := 605) (by decide +kernel)
theorem tb_582 : Cond.selects RX1 yX1_comeBlind yX1_comeBlind ∈ lw_tbl := List.mem_of_getElem? (i := 604) (by decide +kernel)
theorem tb_583 : Cond.instanceMethod yX1_comeBlind ∈ lw_tbl := List.mem_of_getElem? (i := 603) (by decide +kernel)
theorem tb_584 : Cond.methodLink RX6 227 yX1_comeBlind ∈ lw_tbl := List.mem_of_getElem? (i := 602) (by decide +kernel)
theorem in_wsX6_blind_r1 : ∀ w ∈ wsX6_blind_r1, w ∈ lw_tbl := (List.forall_mem_cons.mpr ⟨tb_457, (List.forall_mem_cons.mpr ⟨tb_10, (List.forall_mem_cons.mpr ⟨tb_6, (List.forall_mem_cons.mpr ⟨tb_108, (List.forall_mem_cons.mpr ⟨tb_110, (List.forall_mem_cons.mpr ⟨tb_36, (List.forall_mem_cons.mpr ⟨tb_109, (List.forall_mem_cons.mpr ⟨tb_584, (List.forall_mem_cons.mpr ⟨tb_583, (List.forall_mem_cons.mpr ⟨tb_582, (List.forall_mem_cons.mpr ⟨tb_7, (List.forall_mem_cons.mpr ⟨tb_581, (List.forall_mem_cons.mpr ⟨tb_343, (List.forall_mem_cons.mpr ⟨tb_342, (List.forall_mem_cons.mpr ⟨tb_66, (List.forall_mem_cons.mpr ⟨tb_136, (List.forall_mem_cons.mpr ⟨tb_135, (List.forall_mem_cons.mpr ⟨tb_37, (List.forall_mem_cons.mpr ⟨tb_35, (List.forall_mem_cons.mpr ⟨tb_337, (List.forall_mem_cons.mpr ⟨tb_375, (List.forall_mem_cons.mpr ⟨tb_374, (List.forall_mem_cons.mpr ⟨tb_373, (List.forall_mem_cons.mpr ⟨tb_64, (fun _ h => absurd h List.not_mem_nil)⟩)⟩)⟩)⟩)⟩)⟩)⟩)⟩)⟩)⟩)⟩)⟩)⟩)⟩)⟩)⟩)⟩)⟩)⟩)⟩)⟩)⟩)⟩)⟩)
theorem in_wsX6_blind_r2 : ∀ w ∈ wsX6_blind_r2, w ∈ lw_tbl := (List.forall_mem_cons.mpr ⟨tb_372, (List.forall_mem_cons.mpr ⟨tb_371, (List.forall_mem_cons.mpr ⟨tb_370, (List.forall_mem_cons.mpr ⟨tb_369, (List.forall_mem_cons.mpr ⟨tb_368, (List.forall_mem_cons.mpr ⟨tb_367, (List.forall_mem_cons.mpr ⟨tb_366, (List.forall_mem_cons.mpr ⟨tb_365, (List.forall_mem_cons.mpr ⟨tb_364, (List.forall_mem_cons.mpr ⟨tb_363, (List.forall_mem_cons.mpr ⟨tb_362, (List.forall_mem_cons.mpr ⟨tb_361, (List.forall_mem_cons.mpr ⟨tb_360, (List.forall_mem_cons.mpr ⟨tb_461, (List.forall_mem_cons.mpr ⟨tb_460, (List.forall_mem_cons.mpr ⟨tb_459, (List.forall_mem_cons.mpr ⟨tb_458, (List.forall_mem_cons.mpr ⟨tb_467, (List.forall_mem_cons.mpr ⟨tb_466, (List.forall_mem_cons.mpr ⟨tb_272, (List.forall_mem_cons.mpr ⟨tb_465, (List.forall_mem_cons.mpr ⟨tb_464, (List.forall_mem_cons.mpr ⟨tb_463, (List.forall_mem_cons.mpr ⟨tb_462, (fun _ h => absurd h List.not_mem_nil)⟩)⟩)⟩)⟩)⟩)⟩)⟩)⟩)⟩)⟩)⟩)⟩)⟩)⟩)⟩)⟩)⟩)⟩)⟩)⟩)⟩)⟩)⟩)⟩)
theorem in_wsX6_blind : ∀ w ∈ wsX6_blind, w ∈ lw_tbl := (List.forall_mem_cons.mpr ⟨tb_580, (List.forall_mem_append.mpr ⟨(List.forall_mem_append.mpr ⟨(List.forall_mem_append.mpr ⟨(List.forall_mem_append.mpr ⟨in_wsX6_blind_r1, in_wsX6_blind_r2⟩), inX6⟩), inX2⟩), inX1⟩)⟩)
theorem tb_585 : Cond.methodLink RL 87 yX6_blind ∈ lw_tbl := List.mem_of_getElem? (i := 598) (by decide +kernel)
theorem tb_586 : Cond.instanceMethod yX6_blind ∈ lw_tbl := List.mem_of_getElem? (i := 599) (by decide +kernel)
theorem tb_587 : Cond.selects RX6 yX6_blind yX6_blind ∈ lw_tbl := List.mem_of_getElem? (i := 600) (by decide +kernel)
theorem gg_gL_law_X6_blind : ∀ w ∈ wsV RL 87 RX6 yX6_blind wsX6_blind, w ∈ lw_tbl := List.forall_mem_append.mpr ⟨(List.forall_mem_cons.mpr ⟨tb_585, (List.forall_mem_cons.mpr ⟨tb_586, (List.forall_mem_cons.mpr ⟨tb_587, (List.forall_mem_cons.mpr ⟨tb_36, (fun _ h => absurd h List.not_mem_nil)⟩)⟩)⟩)⟩), in_wsX6_blind⟩
set_option maxRecDepth 20000 in
theorem gL_law_X6_blind : GoodIn lw_tbl (wsV RL 87 RX6 yX6_blind wsX6_blind) := goodIn_sub gg_gL_law_X6_blind (by decide +kernel)
theorem tb_588 : Cond.code yX7_blind cX7_blind 4 (some .long) ∈ lw_tbl := List.mem_of_getElem? (i := 1094) (by decide +kernel)
theorem tb_589 : Cond.code yX7_layBlind cX7_layBlind 5 none ∈ lw_tbl := List.mem_of_getElem? (i := 1098) (by decide +kernel)
theorem tb_590 : Cond.selects RX7 yX7_layBlind yX7_layBlind ∈ lw_tbl := List.mem_of_getElem? (i := 45) (by decide +kernel)
theorem tb_591 : Cond.instanceMethod yX7_layBlind ∈ lw_tbl := List.mem_of_getElem? (i := 1097) (by decide +kernel)
theorem tb_592 : Cond.methodLink RX7 236 yX7_layBlind ∈ lw_tbl := List.mem_of_getElem? (i := 1095) (by decide +kernel)
theorem in_wsX7_blind_r1 : ∀ w ∈ wsX7_blind_r1, w ∈ lw_tbl := (List.forall_mem_cons.mpr ⟨tb_203, (List.forall_mem_cons.mpr ⟨tb_197, (List.forall_mem_cons.mpr ⟨tb_475, (List.forall_mem_cons.mpr ⟨tb_84, (List.forall_mem_cons.mpr ⟨tb_228, (List.forall_mem_cons.mpr ⟨tb_227, (List.forall_mem_cons.mpr ⟨tb_230, (List.forall_mem_cons.mpr ⟨tb_226, (List.forall_mem_cons.mpr ⟨tb_474, (List.forall_mem_cons.mpr ⟨tb_473, (List.forall_mem_cons.mpr ⟨tb_472, (List.forall_mem_cons.mpr ⟨tb_592, (List.forall_mem_cons.mpr ⟨tb_591, (List.forall_mem_cons.mpr ⟨tb_590, (List.forall_mem_cons.mpr ⟨tb_589, (List.forall_mem_cons.mpr ⟨tb_92, (List.forall_mem_cons.mpr ⟨tb_86, (List.forall_mem_cons.mpr ⟨tb_412, (List.forall_mem_cons.mpr ⟨tb_201, (List.forall_mem_cons.mpr ⟨tb_85, (List.forall_mem_cons.mpr ⟨tb_417, (List.forall_mem_cons.mpr ⟨tb_407, (List.forall_mem_cons.mpr ⟨tb_446, (List.forall_mem_cons.mpr ⟨tb_445, (fun _ h => absurd h List.not_mem_nil)⟩)⟩)⟩)⟩)⟩)⟩)⟩)⟩)⟩)⟩)⟩)⟩)⟩)⟩)⟩)⟩)⟩)⟩)⟩)⟩)⟩)⟩)⟩)⟩)
theorem in_wsX7_blind_r2 : ∀ w ∈ wsX7_blind_r2, w ∈ lw_tbl := (List.forall_mem_cons.mpr ⟨tb_444, (List.forall_mem_cons.mpr ⟨tb_435, (List.forall_mem_cons.mpr ⟨tb_434, (List.forall_mem_cons.mpr ⟨tb_433, (List.forall_mem_cons.mpr ⟨tb_432, (List.forall_mem_cons.mpr ⟨tb_431, (List.forall_mem_cons.mpr ⟨tb_430, (List.forall_mem_cons.mpr ⟨tb_429, (List.forall_mem_cons.mpr ⟨tb_428, (List.forall_mem_cons.mpr ⟨tb_402, (List.forall_mem_cons.mpr ⟨tb_401, (List.forall_mem_cons.mpr ⟨tb_427, (List.forall_mem_cons.mpr ⟨tb_426, (List.forall_mem_cons.mpr ⟨tb_425, (List.forall_mem_cons.mpr ⟨tb_479, (List.forall_mem_cons.mpr ⟨tb_478, (List.forall_mem_cons.mpr ⟨tb_477, (List.forall_mem_cons.mpr ⟨tb_476, (fun _ h => absurd h List.not_mem_nil)⟩)⟩)⟩)⟩)⟩)⟩)⟩)⟩)⟩)⟩)⟩)⟩)⟩)⟩)⟩)⟩)⟩)⟩)
theorem in_wsX7_blind : ∀ w ∈ wsX7_blind, w ∈ lw_tbl := (List.forall_mem_cons.mpr ⟨tb_588, (List.forall_mem_append.mpr ⟨(List.forall_mem_append.mpr ⟨in_wsX7_blind_r1, in_wsX7_blind_r2⟩), inX7⟩)⟩)
theorem tb_593 : Cond.methodLink RL 91 yX7_blind ∈ lw_tbl := List.mem_of_getElem? (i := 1091) (by decide +kernel)
theorem tb_594 : Cond.instanceMethod yX7_blind ∈ lw_tbl := List.mem_of_getElem? (i := 1092) (by decide +kernel)
theorem tb_595 : Cond.selects RX7 yX7_blind yX7_blind ∈ lw_tbl := List.mem_of_getElem? (i := 1093) (by decide +kernel)
theorem gg_gL_law_X7_blind : ∀ w ∈ wsV RL 91 RX7 yX7_blind wsX7_blind, w ∈ lw_tbl := List.forall_mem_append.mpr ⟨(List.forall_mem_cons.mpr ⟨tb_593, (List.forall_mem_cons.mpr ⟨tb_594, (List.forall_mem_cons.mpr ⟨tb_595, (List.forall_mem_cons.mpr ⟨tb_230, (fun _ h => absurd h List.not_mem_nil)⟩)⟩)⟩)⟩), in_wsX7_blind⟩
set_option maxRecDepth 20000 in
theorem gL_law_X7_blind : GoodIn lw_tbl (wsV RL 91 RX7 yX7_blind wsX7_blind) := goodIn_sub gg_gL_law_X7_blind (by decide +kernel)
theorem tb_596 : Cond.code yX6_rest cX6_rest 2 (some .int) ∈ lw_tbl := List.mem_of_getElem? (i := 609) (by decide +kernel)
theorem tb_597 : Cond.code yX6_paysBlind cX6_paysBlind 7 (some .boolean) ∈ lw_tbl := List.mem_of_getElem? (i := 613) (by decide +kernel)
theorem tb_598 : Cond.selects RX6 yX6_paysBlind yX6_paysBlind ∈ lw_tbl := List.mem_of_getElem? (i := 12) (by decide +kernel)
theorem tb_599 : Cond.instanceMethod yX6_paysBlind ∈ lw_tbl := List.mem_of_getElem? (i := 612) (by decide +kernel)
theorem tb_600 : Cond.methodLink RX6 230 yX6_paysBlind ∈ lw_tbl := List.mem_of_getElem? (i := 610) (by decide +kernel)
theorem in_wsX6_rest_r1 : ∀ w ∈ wsX6_rest_r1, w ∈ lw_tbl := (List.forall_mem_cons.mpr ⟨tb_10, (List.forall_mem_cons.mpr ⟨tb_600, (List.forall_mem_cons.mpr ⟨tb_599, (List.forall_mem_cons.mpr ⟨tb_598, (List.forall_mem_cons.mpr ⟨tb_36, (List.forall_mem_cons.mpr ⟨tb_597, (List.forall_mem_cons.mpr ⟨tb_6, (List.forall_mem_cons.mpr ⟨tb_584, (List.forall_mem_cons.mpr ⟨tb_583, (List.forall_mem_cons.mpr ⟨tb_582, (List.forall_mem_cons.mpr ⟨tb_7, (List.forall_mem_cons.mpr ⟨tb_581, (List.forall_mem_cons.mpr ⟨tb_343, (List.forall_mem_cons.mpr ⟨tb_342, (List.forall_mem_cons.mpr ⟨tb_66, (List.forall_mem_cons.mpr ⟨tb_136, (List.forall_mem_cons.mpr ⟨tb_135, (List.forall_mem_cons.mpr ⟨tb_37, (List.forall_mem_cons.mpr ⟨tb_35, (List.forall_mem_cons.mpr ⟨tb_337, (List.forall_mem_cons.mpr ⟨tb_375, (List.forall_mem_cons.mpr ⟨tb_374, (List.forall_mem_cons.mpr ⟨tb_373, (List.forall_mem_cons.mpr ⟨tb_64, (fun _ h => absurd h List.not_mem_nil)⟩)⟩)⟩)⟩)⟩)⟩)⟩)⟩)⟩)⟩)⟩)⟩)⟩)⟩)⟩)⟩)⟩)⟩)⟩)⟩)⟩)⟩)⟩)⟩)
theorem tb_601 : Cond.methodLink RX6 233 yX1_found ∈ lw_tbl := List.mem_of_getElem? (i := 614) (by decide +kernel)
theorem in_wsX6_rest_r2 : ∀ w ∈ wsX6_rest_r2, w ∈ lw_tbl := (List.forall_mem_cons.mpr ⟨tb_372, (List.forall_mem_cons.mpr ⟨tb_371, (List.forall_mem_cons.mpr ⟨tb_370, (List.forall_mem_cons.mpr ⟨tb_369, (List.forall_mem_cons.mpr ⟨tb_368, (List.forall_mem_cons.mpr ⟨tb_367, (List.forall_mem_cons.mpr ⟨tb_366, (List.forall_mem_cons.mpr ⟨tb_365, (List.forall_mem_cons.mpr ⟨tb_364, (List.forall_mem_cons.mpr ⟨tb_363, (List.forall_mem_cons.mpr ⟨tb_362, (List.forall_mem_cons.mpr ⟨tb_361, (List.forall_mem_cons.mpr ⟨tb_360, (List.forall_mem_cons.mpr ⟨tb_601, (List.forall_mem_cons.mpr ⟨tb_354, (List.forall_mem_cons.mpr ⟨tb_353, (List.forall_mem_cons.mpr ⟨tb_390, (List.forall_mem_cons.mpr ⟨tb_266, (fun _ h => absurd h List.not_mem_nil)⟩)⟩)⟩)⟩)⟩)⟩)⟩)⟩)⟩)⟩)⟩)⟩)⟩)⟩)⟩)⟩)⟩)⟩)
theorem in_wsX6_rest : ∀ w ∈ wsX6_rest, w ∈ lw_tbl := (List.forall_mem_cons.mpr ⟨tb_596, (List.forall_mem_append.mpr ⟨(List.forall_mem_append.mpr ⟨(List.forall_mem_append.mpr ⟨(List.forall_mem_append.mpr ⟨in_wsX6_rest_r1, in_wsX6_rest_r2⟩), inX6⟩), inX2⟩), inX1⟩)⟩)
theorem tb_602 : Cond.methodLink RL 92 yX6_rest ∈ lw_tbl := List.mem_of_getElem? (i := 606) (by decide +kernel)
theorem tb_603 : Cond.instanceMethod yX6_rest ∈ lw_tbl := List.mem_of_getElem? (i := 607) (by decide +kernel)
theorem tb_604 : Cond.selects RX6 yX6_rest yX6_rest ∈ lw_tbl := List.mem_of_getElem? (i := 608) (by decide +kernel)
theorem gg_gL_law_X6_rest : ∀ w ∈ wsV RL 92 RX6 yX6_rest wsX6_rest, w ∈ lw_tbl := List.forall_mem_append.mpr ⟨(List.forall_mem_cons.mpr ⟨tb_602, (List.forall_mem_cons.mpr ⟨tb_603, (List.forall_mem_cons.mpr ⟨tb_604, (List.forall_mem_cons.mpr ⟨tb_36, (fun _ h => absurd h List.not_mem_nil)⟩)⟩)⟩)⟩), in_wsX6_rest⟩
set_option maxRecDepth 20000 in
theorem gL_law_X6_rest : GoodIn lw_tbl (wsV RL 92 RX6 yX6_rest wsX6_rest) := goodIn_sub gg_gL_law_X6_rest (by decide +kernel)
theorem tb_605 : Cond.code yX7_rest cX7_rest 8 (some .int) ∈ lw_tbl := List.mem_of_getElem? (i := 1102) (by decide +kernel)
theorem in_wsX7_rest_r1 : ∀ w ∈ wsX7_rest_r1, w ∈ lw_tbl := (List.forall_mem_cons.mpr ⟨tb_203, (List.forall_mem_cons.mpr ⟨tb_197, (List.forall_mem_cons.mpr ⟨tb_91, (List.forall_mem_cons.mpr ⟨tb_412, (List.forall_mem_cons.mpr ⟨tb_199, (List.forall_mem_cons.mpr ⟨tb_201, (List.forall_mem_cons.mpr ⟨tb_592, (List.forall_mem_cons.mpr ⟨tb_591, (List.forall_mem_cons.mpr ⟨tb_590, (List.forall_mem_cons.mpr ⟨tb_230, (List.forall_mem_cons.mpr ⟨tb_589, (List.forall_mem_cons.mpr ⟨tb_92, (List.forall_mem_cons.mpr ⟨tb_86, (List.forall_mem_cons.mpr ⟨tb_85, (List.forall_mem_cons.mpr ⟨tb_417, (List.forall_mem_cons.mpr ⟨tb_407, (List.forall_mem_cons.mpr ⟨tb_446, (List.forall_mem_cons.mpr ⟨tb_445, (List.forall_mem_cons.mpr ⟨tb_444, (List.forall_mem_cons.mpr ⟨tb_84, (List.forall_mem_cons.mpr ⟨tb_443, (List.forall_mem_cons.mpr ⟨tb_442, (List.forall_mem_cons.mpr ⟨tb_441, (List.forall_mem_cons.mpr ⟨tb_440, (fun _ h => absurd h List.not_mem_nil)⟩)⟩)⟩)⟩)⟩)⟩)⟩)⟩)⟩)⟩)⟩)⟩)⟩)⟩)⟩)⟩)⟩)⟩)⟩)⟩)⟩)⟩)⟩)⟩)
theorem in_wsX7_rest_r2 : ∀ w ∈ wsX7_rest_r2, w ∈ lw_tbl := (List.forall_mem_cons.mpr ⟨tb_424, (List.forall_mem_cons.mpr ⟨tb_451, (List.forall_mem_cons.mpr ⟨tb_450, (List.forall_mem_cons.mpr ⟨tb_449, (List.forall_mem_cons.mpr ⟨tb_448, (List.forall_mem_cons.mpr ⟨tb_447, (fun _ h => absurd h List.not_mem_nil)⟩)⟩)⟩)⟩)⟩)⟩)
theorem in_wsX7_rest : ∀ w ∈ wsX7_rest, w ∈ lw_tbl := (List.forall_mem_cons.mpr ⟨tb_605, (List.forall_mem_append.mpr ⟨(List.forall_mem_append.mpr ⟨in_wsX7_rest_r1, in_wsX7_rest_r2⟩), inX7⟩)⟩)
theorem tb_606 : Cond.methodLink RL 96 yX7_rest ∈ lw_tbl := List.mem_of_getElem? (i := 1099) (by decide +kernel)
theorem tb_607 : Cond.instanceMethod yX7_rest ∈ lw_tbl := List.mem_of_getElem? (i := 1100) (by decide +kernel)
theorem tb_608 : Cond.selects RX7 yX7_rest yX7_rest ∈ lw_tbl := List.mem_of_getElem? (i := 1101) (by decide +kernel)
theorem gg_gL_law_X7_rest : ∀ w ∈ wsV RL 96 RX7 yX7_rest wsX7_rest, w ∈ lw_tbl := List.forall_mem_append.mpr ⟨(List.forall_mem_cons.mpr ⟨tb_606, (List.forall_mem_cons.mpr ⟨tb_607, (List.forall_mem_cons.mpr ⟨tb_608, (List.forall_mem_cons.mpr ⟨tb_230, (fun _ h => absurd h List.not_mem_nil)⟩)⟩)⟩)⟩), in_wsX7_rest⟩
set_option maxRecDepth 20000 in
theorem gL_law_X7_rest : GoodIn lw_tbl (wsV RL 96 RX7 yX7_rest wsX7_rest) := goodIn_sub gg_gL_law_X7_rest (by decide +kernel)
theorem tb_609 : Cond.code yX6_order cX6_order 3 (some .int) ∈ lw_tbl := List.mem_of_getElem? (i := 618) (by decide +kernel)
theorem tb_610 : Cond.fieldLink RX6 236 "RopeLine" "orderNow" "I" ∈ lw_tbl := List.mem_of_getElem? (i := 303) (by decide +kernel)
theorem in_wsX6_order : ∀ w ∈ wsX6_order, w ∈ lw_tbl := (List.forall_mem_cons.mpr ⟨tb_609, (List.forall_mem_append.mpr ⟨(List.forall_mem_cons.mpr ⟨tb_610, (List.forall_mem_cons.mpr ⟨tb_108, (List.forall_mem_cons.mpr ⟨tb_110, (List.forall_mem_cons.mpr ⟨tb_36, (List.forall_mem_cons.mpr ⟨tb_109, (fun _ h => absurd h List.not_mem_nil)⟩)⟩)⟩)⟩)⟩), inX6⟩)⟩)
theorem tb_611 : Cond.methodLink RL 97 yX6_order ∈ lw_tbl := List.mem_of_getElem? (i := 615) (by decide +kernel)
theorem tb_612 : Cond.instanceMethod yX6_order ∈ lw_tbl := List.mem_of_getElem? (i := 616) (by decide +kernel)
theorem tb_613 : Cond.selects RX6 yX6_order yX6_order ∈ lw_tbl := List.mem_of_getElem? (i := 617) (by decide +kernel)
theorem gg_gL_law_X6_order : ∀ w ∈ wsV RL 97 RX6 yX6_order wsX6_order, w ∈ lw_tbl := List.forall_mem_append.mpr ⟨(List.forall_mem_cons.mpr ⟨tb_611, (List.forall_mem_cons.mpr ⟨tb_612, (List.forall_mem_cons.mpr ⟨tb_613, (List.forall_mem_cons.mpr ⟨tb_36, (fun _ h => absurd h List.not_mem_nil)⟩)⟩)⟩)⟩), in_wsX6_order⟩
set_option maxRecDepth 20000 in
theorem gL_law_X6_order : GoodIn lw_tbl (wsV RL 97 RX6 yX6_order wsX6_order) := goodIn_sub gg_gL_law_X6_order (by decide +kernel)
theorem tb_614 : Cond.code yX7_order cX7_order 3 (some .int) ∈ lw_tbl := List.mem_of_getElem? (i := 1106) (by decide +kernel)
theorem tb_615 : Cond.fieldLink RX7 239 "RopeLineModel" "order" "I" ∈ lw_tbl := List.mem_of_getElem? (i := 824) (by decide +kernel)
theorem in_wsX7_order : ∀ w ∈ wsX7_order, w ∈ lw_tbl := (List.forall_mem_cons.mpr ⟨tb_614, (List.forall_mem_append.mpr ⟨(List.forall_mem_cons.mpr ⟨tb_615, (List.forall_mem_cons.mpr ⟨tb_228, (List.forall_mem_cons.mpr ⟨tb_227, (List.forall_mem_cons.mpr ⟨tb_230, (List.forall_mem_cons.mpr ⟨tb_226, (fun _ h => absurd h List.not_mem_nil)⟩)⟩)⟩)⟩)⟩), inX7⟩)⟩)
theorem tb_616 : Cond.methodLink RL 100 yX7_order ∈ lw_tbl := List.mem_of_getElem? (i := 1103) (by decide +kernel)
theorem tb_617 : Cond.instanceMethod yX7_order ∈ lw_tbl := List.mem_of_getElem? (i := 1104) (by decide +kernel)
theorem tb_618 : Cond.selects RX7 yX7_order yX7_order ∈ lw_tbl := List.mem_of_getElem? (i := 1105) (by decide +kernel)
theorem gg_gL_law_X7_order : ∀ w ∈ wsV RL 100 RX7 yX7_order wsX7_order, w ∈ lw_tbl := List.forall_mem_append.mpr ⟨(List.forall_mem_cons.mpr ⟨tb_616, (List.forall_mem_cons.mpr ⟨tb_617, (List.forall_mem_cons.mpr ⟨tb_618, (List.forall_mem_cons.mpr ⟨tb_230, (fun _ h => absurd h List.not_mem_nil)⟩)⟩)⟩)⟩), in_wsX7_order⟩
set_option maxRecDepth 20000 in
theorem gL_law_X7_order : GoodIn lw_tbl (wsV RL 100 RX7 yX7_order wsX7_order) := goodIn_sub gg_gL_law_X7_order (by decide +kernel)
theorem tb_619 : Cond.code yX6_minute cX6_minute 5 (some .int) ∈ lw_tbl := List.mem_of_getElem? (i := 622) (by decide +kernel)
theorem tb_620 : Cond.instanceMethod yX3_allWait ∈ lw_tbl := List.mem_of_getElem? (i := 632) (by decide +kernel)
theorem tb_621 : Cond.methodLink RX6 246 yX3_allWait ∈ lw_tbl := List.mem_of_getElem? (i := 631) (by decide +kernel)
theorem tb_622 : Cond.code yX3_isFull cX3_isFull 1 (some .boolean) ∈ lw_tbl := List.mem_of_getElem? (i := 630) (by decide +kernel)
theorem tb_623 : Cond.selects RX3 yX3_isFull yX3_isFull ∈ lw_tbl := List.mem_of_getElem? (i := 629) (by decide +kernel)
theorem tb_624 : Cond.instanceMethod yX3_isFull ∈ lw_tbl := List.mem_of_getElem? (i := 628) (by decide +kernel)
theorem tb_625 : Cond.methodLink RX6 242 yX3_isFull ∈ lw_tbl := List.mem_of_getElem? (i := 627) (by decide +kernel)
theorem tb_626 : Cond.code yX2_sortDrawn cX2_sortDrawn 4 (some .int) ∈ lw_tbl := List.mem_of_getElem? (i := 626) (by decide +kernel)
theorem tb_627 : Cond.selects RX2 yX2_sortDrawn yX2_sortDrawn ∈ lw_tbl := List.mem_of_getElem? (i := 625) (by decide +kernel)
theorem tb_628 : Cond.instanceMethod yX2_sortDrawn ∈ lw_tbl := List.mem_of_getElem? (i := 624) (by decide +kernel)
theorem tb_629 : Cond.methodLink RX6 239 yX2_sortDrawn ∈ lw_tbl := List.mem_of_getElem? (i := 623) (by decide +kernel)
theorem in_wsX6_minute_r1 : ∀ w ∈ wsX6_minute_r1, w ∈ lw_tbl := (List.forall_mem_cons.mpr ⟨tb_10, (List.forall_mem_cons.mpr ⟨tb_46, (List.forall_mem_cons.mpr ⟨tb_610, (List.forall_mem_cons.mpr ⟨tb_108, (List.forall_mem_cons.mpr ⟨tb_110, (List.forall_mem_cons.mpr ⟨tb_36, (List.forall_mem_cons.mpr ⟨tb_109, (List.forall_mem_cons.mpr ⟨tb_629, (List.forall_mem_cons.mpr ⟨tb_628, (List.forall_mem_cons.mpr ⟨tb_627, (List.forall_mem_cons.mpr ⟨tb_11, (List.forall_mem_cons.mpr ⟨tb_626, (List.forall_mem_cons.mpr ⟨tb_167, (List.forall_mem_cons.mpr ⟨tb_72, (List.forall_mem_cons.mpr ⟨tb_136, (List.forall_mem_cons.mpr ⟨tb_135, (List.forall_mem_cons.mpr ⟨tb_625, (List.forall_mem_cons.mpr ⟨tb_624, (List.forall_mem_cons.mpr ⟨tb_623, (List.forall_mem_cons.mpr ⟨tb_47, (List.forall_mem_cons.mpr ⟨tb_622, (List.forall_mem_cons.mpr ⟨tb_184, (List.forall_mem_cons.mpr ⟨tb_621, (List.forall_mem_cons.mpr ⟨tb_620, (fun _ h => absurd h List.not_mem_nil)⟩)⟩)⟩)⟩)⟩)⟩)⟩)⟩)⟩)⟩)⟩)⟩)⟩)⟩)⟩)⟩)⟩)⟩)⟩)⟩)⟩)⟩)⟩)⟩)
theorem tb_630 : Cond.methodLink RX3 61 yX3_takeOut ∈ lw_tbl := List.mem_of_getElem? (i := 649) (by decide +kernel)
theorem tb_631 : Cond.code yX3_serve cX3_serve 3 (some .int) ∈ lw_tbl := List.mem_of_getElem? (i := 648) (by decide +kernel)
theorem tb_632 : Cond.selects RX3 yX3_serve yX3_serve ∈ lw_tbl := List.mem_of_getElem? (i := 647) (by decide +kernel)
theorem tb_633 : Cond.instanceMethod yX3_serve ∈ lw_tbl := List.mem_of_getElem? (i := 646) (by decide +kernel)
theorem tb_634 : Cond.methodLink RX6 256 yX3_serve ∈ lw_tbl := List.mem_of_getElem? (i := 645) (by decide +kernel)
theorem tb_635 : Cond.code yX3_worthOf cX3_worthOf 3 (some .int) ∈ lw_tbl := List.mem_of_getElem? (i := 644) (by decide +kernel)
theorem tb_636 : Cond.selects RX3 yX3_worthOf yX3_worthOf ∈ lw_tbl := List.mem_of_getElem? (i := 13) (by decide +kernel)
theorem tb_637 : Cond.instanceMethod yX3_worthOf ∈ lw_tbl := List.mem_of_getElem? (i := 643) (by decide +kernel)
theorem tb_638 : Cond.methodLink RX3 52 yX3_worthOf ∈ lw_tbl := List.mem_of_getElem? (i := 641) (by decide +kernel)
theorem tb_639 : Cond.code yX3_nextBy cX3_nextBy 5 (some .int) ∈ lw_tbl := List.mem_of_getElem? (i := 640) (by decide +kernel)
theorem tb_640 : Cond.selects RX3 yX3_nextBy yX3_nextBy ∈ lw_tbl := List.mem_of_getElem? (i := 639) (by decide +kernel)
theorem tb_641 : Cond.instanceMethod yX3_nextBy ∈ lw_tbl := List.mem_of_getElem? (i := 638) (by decide +kernel)
theorem tb_642 : Cond.methodLink RX6 252 yX3_nextBy ∈ lw_tbl := List.mem_of_getElem? (i := 637) (by decide +kernel)
theorem tb_643 : Cond.code yX3_allWait cX3_allWait 3 none ∈ lw_tbl := List.mem_of_getElem? (i := 634) (by decide +kernel)
theorem tb_644 : Cond.selects RX3 yX3_allWait yX3_allWait ∈ lw_tbl := List.mem_of_getElem? (i := 633) (by decide +kernel)
theorem in_wsX6_minute_r2 : ∀ w ∈ wsX6_minute_r2, w ∈ lw_tbl := (List.forall_mem_cons.mpr ⟨tb_644, (List.forall_mem_cons.mpr ⟨tb_643, (List.forall_mem_cons.mpr ⟨tb_183, (List.forall_mem_cons.mpr ⟨tb_73, (List.forall_mem_cons.mpr ⟨tb_49, (List.forall_mem_cons.mpr ⟨tb_37, (List.forall_mem_cons.mpr ⟨tb_35, (List.forall_mem_cons.mpr ⟨tb_642, (List.forall_mem_cons.mpr ⟨tb_641, (List.forall_mem_cons.mpr ⟨tb_640, (List.forall_mem_cons.mpr ⟨tb_639, (List.forall_mem_cons.mpr ⟨tb_638, (List.forall_mem_cons.mpr ⟨tb_637, (List.forall_mem_cons.mpr ⟨tb_636, (List.forall_mem_cons.mpr ⟨tb_635, (List.forall_mem_cons.mpr ⟨tb_50, (List.forall_mem_cons.mpr ⟨tb_634, (List.forall_mem_cons.mpr ⟨tb_633, (List.forall_mem_cons.mpr ⟨tb_632, (List.forall_mem_cons.mpr ⟨tb_631, (List.forall_mem_cons.mpr ⟨tb_51, (List.forall_mem_cons.mpr ⟨tb_74, (List.forall_mem_cons.mpr ⟨tb_182, (List.forall_mem_cons.mpr ⟨tb_630, (fun _ h => absurd h List.not_mem_nil)⟩)⟩)⟩)⟩)⟩)⟩)⟩)⟩)⟩)⟩)⟩)⟩)⟩)⟩)⟩)⟩)⟩)⟩)⟩)⟩)⟩)⟩)⟩)⟩)
theorem tb_645 : Cond.code yX3_comes cX3_comes 4 (some .boolean) ∈ lw_tbl := List.mem_of_getElem? (i := 656) (by decide +kernel)
theorem tb_646 : Cond.selects RX3 yX3_comes yX3_comes ∈ lw_tbl := List.mem_of_getElem? (i := 655) (by decide +kernel)
theorem tb_647 : Cond.instanceMethod yX3_comes ∈ lw_tbl := List.mem_of_getElem? (i := 654) (by decide +kernel)
theorem tb_648 : Cond.methodLink RX6 259 yX3_comes ∈ lw_tbl := List.mem_of_getElem? (i := 653) (by decide +kernel)
theorem tb_649 : Cond.code yX3_takeOut cX3_takeOut 3 none ∈ lw_tbl := List.mem_of_getElem? (i := 652) (by decide +kernel)
theorem tb_650 : Cond.selects RX3 yX3_takeOut yX3_takeOut ∈ lw_tbl := List.mem_of_getElem? (i := 651) (by decide +kernel)
theorem tb_651 : Cond.instanceMethod yX3_takeOut ∈ lw_tbl := List.mem_of_getElem? (i := 650) (by decide +kernel)
theorem in_wsX6_minute_r3 : ∀ w ∈ wsX6_minute_r3, w ∈ lw_tbl := (List.forall_mem_cons.mpr ⟨tb_651, (List.forall_mem_cons.mpr ⟨tb_650, (List.forall_mem_cons.mpr ⟨tb_649, (List.forall_mem_cons.mpr ⟨tb_266, (List.forall_mem_cons.mpr ⟨tb_648, (List.forall_mem_cons.mpr ⟨tb_647, (List.forall_mem_cons.mpr ⟨tb_646, (List.forall_mem_cons.mpr ⟨tb_645, (List.forall_mem_cons.mpr ⟨tb_75, (fun _ h => absurd h List.not_mem_nil)⟩)⟩)⟩)⟩)⟩)⟩)⟩)⟩)⟩)
theorem in_wsX6_minute : ∀ w ∈ wsX6_minute, w ∈ lw_tbl := (List.forall_mem_cons.mpr ⟨tb_619, (List.forall_mem_append.mpr ⟨(List.forall_mem_append.mpr ⟨(List.forall_mem_append.mpr ⟨(List.forall_mem_append.mpr ⟨in_wsX6_minute_r1, (List.forall_mem_append.mpr ⟨in_wsX6_minute_r2, in_wsX6_minute_r3⟩)⟩), inX6⟩), inX2⟩), inX3⟩)⟩)
theorem tb_652 : Cond.methodLink RL 101 yX6_minute ∈ lw_tbl := List.mem_of_getElem? (i := 619) (by decide +kernel)
theorem tb_653 : Cond.instanceMethod yX6_minute ∈ lw_tbl := List.mem_of_getElem? (i := 620) (by decide +kernel)
theorem tb_654 : Cond.selects RX6 yX6_minute yX6_minute ∈ lw_tbl := List.mem_of_getElem? (i := 621) (by decide +kernel)
theorem gg_gL_law_X6_minute : ∀ w ∈ wsV RL 101 RX6 yX6_minute wsX6_minute, w ∈ lw_tbl := List.forall_mem_append.mpr ⟨(List.forall_mem_cons.mpr ⟨tb_652, (List.forall_mem_cons.mpr ⟨tb_653, (List.forall_mem_cons.mpr ⟨tb_654, (List.forall_mem_cons.mpr ⟨tb_36, (fun _ h => absurd h List.not_mem_nil)⟩)⟩)⟩)⟩), in_wsX6_minute⟩
set_option maxRecDepth 20000 in
theorem gL_law_X6_minute : GoodIn lw_tbl (wsV RL 101 RX6 yX6_minute wsX6_minute) := goodIn_sub gg_gL_law_X6_minute (by decide +kernel)
theorem tb_655 : Cond.code yX7_minute cX7_minute 7 (some .int) ∈ lw_tbl := List.mem_of_getElem? (i := 1110) (by decide +kernel)
theorem tb_656 : Cond.code yX7_nextServed cX7_nextServed 4 (some .int) ∈ lw_tbl := List.mem_of_getElem? (i := 1118) (by decide +kernel)
theorem tb_657 : Cond.selects RX7 yX7_nextServed yX7_nextServed ∈ lw_tbl := List.mem_of_getElem? (i := 47) (by decide +kernel)
theorem tb_658 : Cond.instanceMethod yX7_nextServed ∈ lw_tbl := List.mem_of_getElem? (i := 1117) (by decide +kernel)
theorem tb_659 : Cond.methodLink RX7 245 yX7_nextServed ∈ lw_tbl := List.mem_of_getElem? (i := 1115) (by decide +kernel)
theorem tb_660 : Cond.code yX7_sortBy cX7_sortBy 4 (some .int) ∈ lw_tbl := List.mem_of_getElem? (i := 1114) (by decide +kernel)
theorem tb_661 : Cond.selects RX7 yX7_sortBy yX7_sortBy ∈ lw_tbl := List.mem_of_getElem? (i := 46) (by decide +kernel)
theorem tb_662 : Cond.instanceMethod yX7_sortBy ∈ lw_tbl := List.mem_of_getElem? (i := 1113) (by decide +kernel)
theorem tb_663 : Cond.methodLink RX7 242 yX7_sortBy ∈ lw_tbl := List.mem_of_getElem? (i := 1111) (by decide +kernel)
theorem in_wsX7_minute_r1 : ∀ w ∈ wsX7_minute_r1, w ∈ lw_tbl := (List.forall_mem_cons.mpr ⟨tb_203, (List.forall_mem_cons.mpr ⟨tb_193, (List.forall_mem_cons.mpr ⟨tb_77, (List.forall_mem_cons.mpr ⟨tb_78, (List.forall_mem_cons.mpr ⟨tb_201, (List.forall_mem_cons.mpr ⟨tb_97, (List.forall_mem_cons.mpr ⟨tb_192, (List.forall_mem_cons.mpr ⟨tb_90, (List.forall_mem_cons.mpr ⟨tb_79, (List.forall_mem_cons.mpr ⟨tb_98, (List.forall_mem_cons.mpr ⟨tb_228, (List.forall_mem_cons.mpr ⟨tb_227, (List.forall_mem_cons.mpr ⟨tb_230, (List.forall_mem_cons.mpr ⟨tb_226, (List.forall_mem_cons.mpr ⟨tb_663, (List.forall_mem_cons.mpr ⟨tb_662, (List.forall_mem_cons.mpr ⟨tb_661, (List.forall_mem_cons.mpr ⟨tb_660, (List.forall_mem_cons.mpr ⟨tb_197, (List.forall_mem_cons.mpr ⟨tb_92, (List.forall_mem_cons.mpr ⟨tb_659, (List.forall_mem_cons.mpr ⟨tb_658, (List.forall_mem_cons.mpr ⟨tb_657, (List.forall_mem_cons.mpr ⟨tb_656, (fun _ h => absurd h List.not_mem_nil)⟩)⟩)⟩)⟩)⟩)⟩)⟩)⟩)⟩)⟩)⟩)⟩)⟩)⟩)⟩)⟩)⟩)⟩)⟩)⟩)⟩)⟩)⟩)⟩)
theorem tb_664 : Cond.code yX7_standing cX7_standing 3 (some .int) ∈ lw_tbl := List.mem_of_getElem? (i := 1122) (by decide +kernel)
theorem tb_665 : Cond.selects RX7 yX7_standing yX7_standing ∈ lw_tbl := List.mem_of_getElem? (i := 48) (by decide +kernel)
theorem tb_666 : Cond.instanceMethod yX7_standing ∈ lw_tbl := List.mem_of_getElem? (i := 1121) (by decide +kernel)
theorem tb_667 : Cond.methodLink RX7 248 yX7_standing ∈ lw_tbl := List.mem_of_getElem? (i := 1119) (by decide +kernel)
theorem in_wsX7_minute_r2 : ∀ w ∈ wsX7_minute_r2, w ∈ lw_tbl := (List.forall_mem_cons.mpr ⟨tb_615, (List.forall_mem_cons.mpr ⟨tb_91, (List.forall_mem_cons.mpr ⟨tb_667, (List.forall_mem_cons.mpr ⟨tb_666, (List.forall_mem_cons.mpr ⟨tb_665, (List.forall_mem_cons.mpr ⟨tb_664, (fun _ h => absurd h List.not_mem_nil)⟩)⟩)⟩)⟩)⟩)⟩)
theorem in_wsX7_minute : ∀ w ∈ wsX7_minute, w ∈ lw_tbl := (List.forall_mem_cons.mpr ⟨tb_655, (List.forall_mem_append.mpr ⟨(List.forall_mem_append.mpr ⟨in_wsX7_minute_r1, in_wsX7_minute_r2⟩), inX7⟩)⟩)
theorem tb_668 : Cond.methodLink RL 104 yX7_minute ∈ lw_tbl := List.mem_of_getElem? (i := 1107) (by decide +kernel)
theorem tb_669 : Cond.instanceMethod yX7_minute ∈ lw_tbl := List.mem_of_getElem? (i := 1108) (by decide +kernel)
theorem tb_670 : Cond.selects RX7 yX7_minute yX7_minute ∈ lw_tbl := List.mem_of_getElem? (i := 1109) (by decide +kernel)
theorem gg_gL_law_X7_minute : ∀ w ∈ wsV RL 104 RX7 yX7_minute wsX7_minute, w ∈ lw_tbl := List.forall_mem_append.mpr ⟨(List.forall_mem_cons.mpr ⟨tb_668, (List.forall_mem_cons.mpr ⟨tb_669, (List.forall_mem_cons.mpr ⟨tb_670, (List.forall_mem_cons.mpr ⟨tb_230, (fun _ h => absurd h List.not_mem_nil)⟩)⟩)⟩)⟩), in_wsX7_minute⟩
set_option maxRecDepth 20000 in
theorem gL_law_X7_minute : GoodIn lw_tbl (wsV RL 104 RX7 yX7_minute wsX7_minute) := goodIn_sub gg_gL_law_X7_minute (by decide +kernel)
theorem tb_671 : Cond.code yX6_ofComer cX6_ofComer 3 (some .int) ∈ lw_tbl := List.mem_of_getElem? (i := 660) (by decide +kernel)
theorem tb_672 : Cond.code yX6_isKind cX6_isKind 3 (some .boolean) ∈ lw_tbl := List.mem_of_getElem? (i := 669) (by decide +kernel)
theorem tb_673 : Cond.selects RX6 yX6_isKind yX6_isKind ∈ lw_tbl := List.mem_of_getElem? (i := 14) (by decide +kernel)
theorem tb_674 : Cond.instanceMethod yX6_isKind ∈ lw_tbl := List.mem_of_getElem? (i := 668) (by decide +kernel)
theorem tb_675 : Cond.methodLink RX6 280 yX6_isKind ∈ lw_tbl := List.mem_of_getElem? (i := 666) (by decide +kernel)
theorem tb_676 : Cond.code yX3_has cX3_has 2 (some .boolean) ∈ lw_tbl := List.mem_of_getElem? (i := 664) (by decide +kernel)
theorem tb_677 : Cond.selects RX3 yX3_has yX3_has ∈ lw_tbl := List.mem_of_getElem? (i := 663) (by decide +kernel)
theorem tb_678 : Cond.instanceMethod yX3_has ∈ lw_tbl := List.mem_of_getElem? (i := 662) (by decide +kernel)
theorem tb_679 : Cond.methodLink RX6 265 yX3_has ∈ lw_tbl := List.mem_of_getElem? (i := 661) (by decide +kernel)
theorem in_wsX6_ofComer : ∀ w ∈ wsX6_ofComer, w ∈ lw_tbl := (List.forall_mem_cons.mpr ⟨tb_671, (List.forall_mem_append.mpr ⟨(List.forall_mem_append.mpr ⟨(List.forall_mem_append.mpr ⟨(List.forall_mem_cons.mpr ⟨tb_46, (List.forall_mem_cons.mpr ⟨tb_10, (List.forall_mem_cons.mpr ⟨tb_679, (List.forall_mem_cons.mpr ⟨tb_678, (List.forall_mem_cons.mpr ⟨tb_677, (List.forall_mem_cons.mpr ⟨tb_47, (List.forall_mem_cons.mpr ⟨tb_676, (List.forall_mem_cons.mpr ⟨tb_184, (List.forall_mem_cons.mpr ⟨tb_110, (List.forall_mem_cons.mpr ⟨tb_36, (List.forall_mem_cons.mpr ⟨tb_109, (List.forall_mem_cons.mpr ⟨tb_266, (List.forall_mem_cons.mpr ⟨tb_136, (List.forall_mem_cons.mpr ⟨tb_135, (List.forall_mem_cons.mpr ⟨tb_675, (List.forall_mem_cons.mpr ⟨tb_674, (List.forall_mem_cons.mpr ⟨tb_673, (List.forall_mem_cons.mpr ⟨tb_672, (fun _ h => absurd h List.not_mem_nil)⟩)⟩)⟩)⟩)⟩)⟩)⟩)⟩)⟩)⟩)⟩)⟩)⟩)⟩)⟩)⟩)⟩)⟩), inX6⟩), inX3⟩), inX2⟩)⟩)
theorem tb_680 : Cond.methodLink RL 105 yX6_ofComer ∈ lw_tbl := List.mem_of_getElem? (i := 657) (by decide +kernel)
theorem tb_681 : Cond.instanceMethod yX6_ofComer ∈ lw_tbl := List.mem_of_getElem? (i := 658) (by decide +kernel)
theorem tb_682 : Cond.selects RX6 yX6_ofComer yX6_ofComer ∈ lw_tbl := List.mem_of_getElem? (i := 659) (by decide +kernel)
theorem gg_gL_law_X6_ofComer : ∀ w ∈ wsV RL 105 RX6 yX6_ofComer wsX6_ofComer, w ∈ lw_tbl := List.forall_mem_append.mpr ⟨(List.forall_mem_cons.mpr ⟨tb_680, (List.forall_mem_cons.mpr ⟨tb_681, (List.forall_mem_cons.mpr ⟨tb_682, (List.forall_mem_cons.mpr ⟨tb_36, (fun _ h => absurd h List.not_mem_nil)⟩)⟩)⟩)⟩), in_wsX6_ofComer⟩
set_option maxRecDepth 20000 in
theorem gL_law_X6_ofComer : GoodIn lw_tbl (wsV RL 105 RX6 yX6_ofComer wsX6_ofComer) := goodIn_sub gg_gL_law_X6_ofComer (by decide +kernel)
theorem tb_683 : Cond.code yX7_ofComer cX7_ofComer 3 (some .int) ∈ lw_tbl := List.mem_of_getElem? (i := 1126) (by decide +kernel)
theorem tb_684 : Cond.code yX7_isComer cX7_isComer 2 (some .boolean) ∈ lw_tbl := List.mem_of_getElem? (i := 1130) (by decide +kernel)
theorem tb_685 : Cond.selects RX7 yX7_isComer yX7_isComer ∈ lw_tbl := List.mem_of_getElem? (i := 49) (by decide +kernel)
theorem tb_686 : Cond.instanceMethod yX7_isComer ∈ lw_tbl := List.mem_of_getElem? (i := 1129) (by decide +kernel)
theorem tb_687 : Cond.methodLink RX7 251 yX7_isComer ∈ lw_tbl := List.mem_of_getElem? (i := 1127) (by decide +kernel)
theorem in_wsX7_ofComer : ∀ w ∈ wsX7_ofComer, w ∈ lw_tbl := (List.forall_mem_cons.mpr ⟨tb_683, (List.forall_mem_append.mpr ⟨(List.forall_mem_cons.mpr ⟨tb_78, (List.forall_mem_cons.mpr ⟨tb_79, (List.forall_mem_cons.mpr ⟨tb_77, (List.forall_mem_cons.mpr ⟨tb_98, (List.forall_mem_cons.mpr ⟨tb_97, (List.forall_mem_cons.mpr ⟨tb_91, (List.forall_mem_cons.mpr ⟨tb_199, (List.forall_mem_cons.mpr ⟨tb_687, (List.forall_mem_cons.mpr ⟨tb_686, (List.forall_mem_cons.mpr ⟨tb_685, (List.forall_mem_cons.mpr ⟨tb_230, (List.forall_mem_cons.mpr ⟨tb_684, (List.forall_mem_cons.mpr ⟨tb_193, (fun _ h => absurd h List.not_mem_nil)⟩)⟩)⟩)⟩)⟩)⟩)⟩)⟩)⟩)⟩)⟩)⟩)⟩), inX7⟩)⟩)
theorem tb_688 : Cond.methodLink RL 108 yX7_ofComer ∈ lw_tbl := List.mem_of_getElem? (i := 1123) (by decide +kernel)
theorem tb_689 : Cond.instanceMethod yX7_ofComer ∈ lw_tbl := List.mem_of_getElem? (i := 1124) (by decide +kernel)
theorem tb_690 : Cond.selects RX7 yX7_ofComer yX7_ofComer ∈ lw_tbl := List.mem_of_getElem? (i := 1125) (by decide +kernel)
theorem gg_gL_law_X7_ofComer : ∀ w ∈ wsV RL 108 RX7 yX7_ofComer wsX7_ofComer, w ∈ lw_tbl := List.forall_mem_append.mpr ⟨(List.forall_mem_cons.mpr ⟨tb_688, (List.forall_mem_cons.mpr ⟨tb_689, (List.forall_mem_cons.mpr ⟨tb_690, (List.forall_mem_cons.mpr ⟨tb_230, (fun _ h => absurd h List.not_mem_nil)⟩)⟩)⟩)⟩), in_wsX7_ofComer⟩
set_option maxRecDepth 20000 in
theorem gL_law_X7_ofComer : GoodIn lw_tbl (wsV RL 108 RX7 yX7_ofComer wsX7_ofComer) := goodIn_sub gg_gL_law_X7_ofComer (by decide +kernel)
theorem tb_691 : Cond.code yX6_leave cX6_leave 3 (some .int) ∈ lw_tbl := List.mem_of_getElem? (i := 673) (by decide +kernel)
theorem tb_692 : Cond.methodLink RX6 286 yX3_takeOut ∈ lw_tbl := List.mem_of_getElem? (i := 678) (by decide +kernel)
theorem tb_693 : Cond.code yX3_placeOf cX3_placeOf 3 (some .int) ∈ lw_tbl := List.mem_of_getElem? (i := 677) (by decide +kernel)
theorem tb_694 : Cond.selects RX3 yX3_placeOf yX3_placeOf ∈ lw_tbl := List.mem_of_getElem? (i := 676) (by decide +kernel)
theorem tb_695 : Cond.instanceMethod yX3_placeOf ∈ lw_tbl := List.mem_of_getElem? (i := 675) (by decide +kernel)
theorem tb_696 : Cond.methodLink RX6 283 yX3_placeOf ∈ lw_tbl := List.mem_of_getElem? (i := 674) (by decide +kernel)
theorem in_wsX6_leave_r1 : ∀ w ∈ wsX6_leave_r1, w ∈ lw_tbl := (List.forall_mem_cons.mpr ⟨tb_46, (List.forall_mem_cons.mpr ⟨tb_679, (List.forall_mem_cons.mpr ⟨tb_678, (List.forall_mem_cons.mpr ⟨tb_677, (List.forall_mem_cons.mpr ⟨tb_47, (List.forall_mem_cons.mpr ⟨tb_676, (List.forall_mem_cons.mpr ⟨tb_184, (List.forall_mem_cons.mpr ⟨tb_110, (List.forall_mem_cons.mpr ⟨tb_36, (List.forall_mem_cons.mpr ⟨tb_109, (List.forall_mem_cons.mpr ⟨tb_696, (List.forall_mem_cons.mpr ⟨tb_695, (List.forall_mem_cons.mpr ⟨tb_694, (List.forall_mem_cons.mpr ⟨tb_693, (List.forall_mem_cons.mpr ⟨tb_183, (List.forall_mem_cons.mpr ⟨tb_73, (List.forall_mem_cons.mpr ⟨tb_136, (List.forall_mem_cons.mpr ⟨tb_135, (List.forall_mem_cons.mpr ⟨tb_692, (List.forall_mem_cons.mpr ⟨tb_651, (List.forall_mem_cons.mpr ⟨tb_650, (List.forall_mem_cons.mpr ⟨tb_649, (List.forall_mem_cons.mpr ⟨tb_37, (List.forall_mem_cons.mpr ⟨tb_35, (fun _ h => absurd h List.not_mem_nil)⟩)⟩)⟩)⟩)⟩)⟩)⟩)⟩)⟩)⟩)⟩)⟩)⟩)⟩)⟩)⟩)⟩)⟩)⟩)⟩)⟩)⟩)⟩)⟩)
theorem in_wsX6_leave_r2 : ∀ w ∈ wsX6_leave_r2, w ∈ lw_tbl := (List.forall_mem_cons.mpr ⟨tb_300, (fun _ h => absurd h List.not_mem_nil)⟩)
theorem in_wsX6_leave : ∀ w ∈ wsX6_leave, w ∈ lw_tbl := (List.forall_mem_cons.mpr ⟨tb_691, (List.forall_mem_append.mpr ⟨(List.forall_mem_append.mpr ⟨(List.forall_mem_append.mpr ⟨in_wsX6_leave_r1, in_wsX6_leave_r2⟩), inX6⟩), inX3⟩)⟩)
theorem tb_697 : Cond.methodLink RL 109 yX6_leave ∈ lw_tbl := List.mem_of_getElem? (i := 670) (by decide +kernel)
theorem tb_698 : Cond.instanceMethod yX6_leave ∈ lw_tbl := List.mem_of_getElem? (i := 671) (by decide +kernel)
theorem tb_699 : Cond.selects RX6 yX6_leave yX6_leave ∈ lw_tbl := List.mem_of_getElem? (i := 672) (by decide +kernel)
theorem gg_gL_law_X6_leave : ∀ w ∈ wsV RL 109 RX6 yX6_leave wsX6_leave, w ∈ lw_tbl := List.forall_mem_append.mpr ⟨(List.forall_mem_cons.mpr ⟨tb_697, (List.forall_mem_cons.mpr ⟨tb_698, (List.forall_mem_cons.mpr ⟨tb_699, (List.forall_mem_cons.mpr ⟨tb_36, (fun _ h => absurd h List.not_mem_nil)⟩)⟩)⟩)⟩), in_wsX6_leave⟩
set_option maxRecDepth 20000 in
theorem gL_law_X6_leave : GoodIn lw_tbl (wsV RL 109 RX6 yX6_leave wsX6_leave) := goodIn_sub gg_gL_law_X6_leave (by decide +kernel)
theorem tb_700 : Cond.code yX7_leave cX7_leave 2 (some .int) ∈ lw_tbl := List.mem_of_getElem? (i := 1134) (by decide +kernel)
theorem in_wsX7_leave : ∀ w ∈ wsX7_leave, w ∈ lw_tbl := (List.forall_mem_cons.mpr ⟨tb_700, (List.forall_mem_append.mpr ⟨(List.forall_mem_cons.mpr ⟨tb_78, (List.forall_mem_cons.mpr ⟨tb_687, (List.forall_mem_cons.mpr ⟨tb_686, (List.forall_mem_cons.mpr ⟨tb_685, (List.forall_mem_cons.mpr ⟨tb_230, (List.forall_mem_cons.mpr ⟨tb_684, (List.forall_mem_cons.mpr ⟨tb_193, (List.forall_mem_cons.mpr ⟨tb_667, (List.forall_mem_cons.mpr ⟨tb_666, (List.forall_mem_cons.mpr ⟨tb_665, (List.forall_mem_cons.mpr ⟨tb_664, (fun _ h => absurd h List.not_mem_nil)⟩)⟩)⟩)⟩)⟩)⟩)⟩)⟩)⟩)⟩)⟩), inX7⟩)⟩)
theorem tb_701 : Cond.methodLink RL 112 yX7_leave ∈ lw_tbl := List.mem_of_getElem? (i := 1131) (by decide +kernel)
theorem tb_702 : Cond.instanceMethod yX7_leave ∈ lw_tbl := List.mem_of_getElem? (i := 1132) (by decide +kernel)
theorem tb_703 : Cond.selects RX7 yX7_leave yX7_leave ∈ lw_tbl := List.mem_of_getElem? (i := 1133) (by decide +kernel)
theorem gg_gL_law_X7_leave : ∀ w ∈ wsV RL 112 RX7 yX7_leave wsX7_leave, w ∈ lw_tbl := List.forall_mem_append.mpr ⟨(List.forall_mem_cons.mpr ⟨tb_701, (List.forall_mem_cons.mpr ⟨tb_702, (List.forall_mem_cons.mpr ⟨tb_703, (List.forall_mem_cons.mpr ⟨tb_230, (fun _ h => absurd h List.not_mem_nil)⟩)⟩)⟩)⟩), in_wsX7_leave⟩
set_option maxRecDepth 20000 in
theorem gL_law_X7_leave : GoodIn lw_tbl (wsV RL 112 RX7 yX7_leave wsX7_leave) := goodIn_sub gg_gL_law_X7_leave (by decide +kernel)
theorem tb_704 : Cond.code yX6_line cX6_line 2 (some .int) ∈ lw_tbl := List.mem_of_getElem? (i := 682) (by decide +kernel)
theorem in_wsX6_line : ∀ w ∈ wsX6_line, w ∈ lw_tbl := (List.forall_mem_cons.mpr ⟨tb_704, (List.forall_mem_append.mpr ⟨(List.forall_mem_append.mpr ⟨(List.forall_mem_cons.mpr ⟨tb_46, (List.forall_mem_cons.mpr ⟨tb_108, (List.forall_mem_cons.mpr ⟨tb_110, (List.forall_mem_cons.mpr ⟨tb_36, (List.forall_mem_cons.mpr ⟨tb_109, (List.forall_mem_cons.mpr ⟨tb_266, (List.forall_mem_cons.mpr ⟨tb_136, (List.forall_mem_cons.mpr ⟨tb_135, (fun _ h => absurd h List.not_mem_nil)⟩)⟩)⟩)⟩)⟩)⟩)⟩)⟩), inX6⟩), inX3⟩)⟩)
theorem tb_705 : Cond.methodLink RL 113 yX6_line ∈ lw_tbl := List.mem_of_getElem? (i := 679) (by decide +kernel)
theorem tb_706 : Cond.instanceMethod yX6_line ∈ lw_tbl := List.mem_of_getElem? (i := 680) (by decide +kernel)
theorem tb_707 : Cond.selects RX6 yX6_line yX6_line ∈ lw_tbl := List.mem_of_getElem? (i := 681) (by decide +kernel)
theorem gg_gL_law_X6_line : ∀ w ∈ wsV RL 113 RX6 yX6_line wsX6_line, w ∈ lw_tbl := List.forall_mem_append.mpr ⟨(List.forall_mem_cons.mpr ⟨tb_705, (List.forall_mem_cons.mpr ⟨tb_706, (List.forall_mem_cons.mpr ⟨tb_707, (List.forall_mem_cons.mpr ⟨tb_36, (fun _ h => absurd h List.not_mem_nil)⟩)⟩)⟩)⟩), in_wsX6_line⟩
set_option maxRecDepth 20000 in
theorem gL_law_X6_line : GoodIn lw_tbl (wsV RL 113 RX6 yX6_line wsX6_line) := goodIn_sub gg_gL_law_X6_line (by decide +kernel)
theorem tb_708 : Cond.code yX7_line cX7_line 4 (some .int) ∈ lw_tbl := List.mem_of_getElem? (i := 1138) (by decide +kernel)
theorem in_wsX7_line : ∀ w ∈ wsX7_line, w ∈ lw_tbl := (List.forall_mem_cons.mpr ⟨tb_708, (List.forall_mem_append.mpr ⟨(List.forall_mem_cons.mpr ⟨tb_193, (List.forall_mem_cons.mpr ⟨tb_78, (List.forall_mem_cons.mpr ⟨tb_228, (List.forall_mem_cons.mpr ⟨tb_227, (List.forall_mem_cons.mpr ⟨tb_230, (List.forall_mem_cons.mpr ⟨tb_226, (fun _ h => absurd h List.not_mem_nil)⟩)⟩)⟩)⟩)⟩)⟩), inX7⟩)⟩)
theorem tb_709 : Cond.methodLink RL 116 yX7_line ∈ lw_tbl := List.mem_of_getElem? (i := 1135) (by decide +kernel)
theorem tb_710 : Cond.instanceMethod yX7_line ∈ lw_tbl := List.mem_of_getElem? (i := 1136) (by decide +kernel)
theorem tb_711 : Cond.selects RX7 yX7_line yX7_line ∈ lw_tbl := List.mem_of_getElem? (i := 1137) (by decide +kernel)
theorem gg_gL_law_X7_line : ∀ w ∈ wsV RL 116 RX7 yX7_line wsX7_line, w ∈ lw_tbl := List.forall_mem_append.mpr ⟨(List.forall_mem_cons.mpr ⟨tb_709, (List.forall_mem_cons.mpr ⟨tb_710, (List.forall_mem_cons.mpr ⟨tb_711, (List.forall_mem_cons.mpr ⟨tb_230, (fun _ h => absurd h List.not_mem_nil)⟩)⟩)⟩)⟩), in_wsX7_line⟩
set_option maxRecDepth 20000 in
theorem gL_law_X7_line : GoodIn lw_tbl (wsV RL 116 RX7 yX7_line wsX7_line) := goodIn_sub gg_gL_law_X7_line (by decide +kernel)
theorem tb_712 : Cond.code yX6_envy cX6_envy 1 (some .int) ∈ lw_tbl := List.mem_of_getElem? (i := 686) (by decide +kernel)
theorem tb_713 : Cond.code yX3_envies cX3_envies 3 (some .boolean) ∈ lw_tbl := List.mem_of_getElem? (i := 694) (by decide +kernel)
theorem tb_714 : Cond.selects RX3 yX3_envies yX3_envies ∈ lw_tbl := List.mem_of_getElem? (i := 15) (by decide +kernel)
theorem tb_715 : Cond.instanceMethod yX3_envies ∈ lw_tbl := List.mem_of_getElem? (i := 693) (by decide +kernel)
theorem tb_716 : Cond.methodLink RX3 65 yX3_envies ∈ lw_tbl := List.mem_of_getElem? (i := 691) (by decide +kernel)
theorem tb_717 : Cond.code yX3_envious cX3_envious 4 (some .int) ∈ lw_tbl := List.mem_of_getElem? (i := 690) (by decide +kernel)
theorem tb_718 : Cond.selects RX3 yX3_envious yX3_envious ∈ lw_tbl := List.mem_of_getElem? (i := 689) (by decide +kernel)
theorem tb_719 : Cond.instanceMethod yX3_envious ∈ lw_tbl := List.mem_of_getElem? (i := 688) (by decide +kernel)
theorem tb_720 : Cond.methodLink RX6 291 yX3_envious ∈ lw_tbl := List.mem_of_getElem? (i := 687) (by decide +kernel)
theorem in_wsX6_envy : ∀ w ∈ wsX6_envy, w ∈ lw_tbl := (List.forall_mem_cons.mpr ⟨tb_712, (List.forall_mem_append.mpr ⟨(List.forall_mem_append.mpr ⟨(List.forall_mem_cons.mpr ⟨tb_46, (List.forall_mem_cons.mpr ⟨tb_720, (List.forall_mem_cons.mpr ⟨tb_719, (List.forall_mem_cons.mpr ⟨tb_718, (List.forall_mem_cons.mpr ⟨tb_47, (List.forall_mem_cons.mpr ⟨tb_717, (List.forall_mem_cons.mpr ⟨tb_184, (List.forall_mem_cons.mpr ⟨tb_716, (List.forall_mem_cons.mpr ⟨tb_715, (List.forall_mem_cons.mpr ⟨tb_714, (List.forall_mem_cons.mpr ⟨tb_713, (List.forall_mem_cons.mpr ⟨tb_51, (List.forall_mem_cons.mpr ⟨tb_74, (List.forall_mem_cons.mpr ⟨tb_136, (List.forall_mem_cons.mpr ⟨tb_36, (List.forall_mem_cons.mpr ⟨tb_135, (fun _ h => absurd h List.not_mem_nil)⟩)⟩)⟩)⟩)⟩)⟩)⟩)⟩)⟩)⟩)⟩)⟩)⟩)⟩)⟩)⟩), inX6⟩), inX3⟩)⟩)
theorem tb_721 : Cond.methodLink RL 117 yX6_envy ∈ lw_tbl := List.mem_of_getElem? (i := 683) (by decide +kernel)
theorem tb_722 : Cond.instanceMethod yX6_envy ∈ lw_tbl := List.mem_of_getElem? (i := 684) (by decide +kernel)
theorem tb_723 : Cond.selects RX6 yX6_envy yX6_envy ∈ lw_tbl := List.mem_of_getElem? (i := 685) (by decide +kernel)
theorem gg_gL_law_X6_envy : ∀ w ∈ wsV RL 117 RX6 yX6_envy wsX6_envy, w ∈ lw_tbl := List.forall_mem_append.mpr ⟨(List.forall_mem_cons.mpr ⟨tb_721, (List.forall_mem_cons.mpr ⟨tb_722, (List.forall_mem_cons.mpr ⟨tb_723, (List.forall_mem_cons.mpr ⟨tb_36, (fun _ h => absurd h List.not_mem_nil)⟩)⟩)⟩)⟩), in_wsX6_envy⟩
set_option maxRecDepth 20000 in
theorem gL_law_X6_envy : GoodIn lw_tbl (wsV RL 117 RX6 yX6_envy wsX6_envy) := goodIn_sub gg_gL_law_X6_envy (by decide +kernel)
theorem tb_724 : Cond.code yX7_envy cX7_envy 4 (some .int) ∈ lw_tbl := List.mem_of_getElem? (i := 1142) (by decide +kernel)
theorem in_wsX7_envy : ∀ w ∈ wsX7_envy, w ∈ lw_tbl := (List.forall_mem_cons.mpr ⟨tb_724, (List.forall_mem_append.mpr ⟨(List.forall_mem_cons.mpr ⟨tb_193, (List.forall_mem_cons.mpr ⟨tb_78, (List.forall_mem_cons.mpr ⟨tb_97, (fun _ h => absurd h List.not_mem_nil)⟩)⟩)⟩), inX7⟩)⟩)
theorem tb_725 : Cond.methodLink RL 120 yX7_envy ∈ lw_tbl := List.mem_of_getElem? (i := 1139) (by decide +kernel)
theorem tb_726 : Cond.instanceMethod yX7_envy ∈ lw_tbl := List.mem_of_getElem? (i := 1140) (by decide +kernel)
theorem tb_727 : Cond.selects RX7 yX7_envy yX7_envy ∈ lw_tbl := List.mem_of_getElem? (i := 1141) (by decide +kernel)
theorem gg_gL_law_X7_envy : ∀ w ∈ wsV RL 120 RX7 yX7_envy wsX7_envy, w ∈ lw_tbl := List.forall_mem_append.mpr ⟨(List.forall_mem_cons.mpr ⟨tb_725, (List.forall_mem_cons.mpr ⟨tb_726, (List.forall_mem_cons.mpr ⟨tb_727, (List.forall_mem_cons.mpr ⟨tb_230, (fun _ h => absurd h List.not_mem_nil)⟩)⟩)⟩)⟩), in_wsX7_envy⟩
set_option maxRecDepth 20000 in
theorem gL_law_X7_envy : GoodIn lw_tbl (wsV RL 120 RX7 yX7_envy wsX7_envy) := goodIn_sub gg_gL_law_X7_envy (by decide +kernel)
theorem tb_728 : Cond.code yX6_sheet cX6_sheet 4 (some .int) ∈ lw_tbl := List.mem_of_getElem? (i := 698) (by decide +kernel)
theorem tb_729 : Cond.code yX4_renew cX4_renew 5 none ∈ lw_tbl := List.mem_of_getElem? (i := 702) (by decide +kernel)
theorem tb_730 : Cond.selects RX4 yX4_renew yX4_renew ∈ lw_tbl := List.mem_of_getElem? (i := 701) (by decide +kernel)
theorem tb_731 : Cond.instanceMethod yX4_renew ∈ lw_tbl := List.mem_of_getElem? (i := 700) (by decide +kernel)
theorem tb_732 : Cond.methodLink RX6 294 yX4_renew ∈ lw_tbl := List.mem_of_getElem? (i := 699) (by decide +kernel)
theorem in_wsX6_sheet_r1 : ∀ w ∈ wsX6_sheet_r1, w ∈ lw_tbl := (List.forall_mem_cons.mpr ⟨tb_115, (List.forall_mem_cons.mpr ⟨tb_18, (List.forall_mem_cons.mpr ⟨tb_114, (List.forall_mem_cons.mpr ⟨tb_113, (List.forall_mem_cons.mpr ⟨tb_112, (List.forall_mem_cons.mpr ⟨tb_19, (List.forall_mem_cons.mpr ⟨tb_111, (List.forall_mem_cons.mpr ⟨tb_110, (List.forall_mem_cons.mpr ⟨tb_36, (List.forall_mem_cons.mpr ⟨tb_109, (List.forall_mem_cons.mpr ⟨tb_108, (List.forall_mem_cons.mpr ⟨tb_134, (List.forall_mem_cons.mpr ⟨tb_133, (List.forall_mem_cons.mpr ⟨tb_132, (List.forall_mem_cons.mpr ⟨tb_131, (List.forall_mem_cons.mpr ⟨tb_732, (List.forall_mem_cons.mpr ⟨tb_731, (List.forall_mem_cons.mpr ⟨tb_730, (List.forall_mem_cons.mpr ⟨tb_729, (List.forall_mem_cons.mpr ⟨tb_40, (List.forall_mem_cons.mpr ⟨tb_39, (List.forall_mem_cons.mpr ⟨tb_38, (List.forall_mem_cons.mpr ⟨tb_37, (List.forall_mem_cons.mpr ⟨tb_35, (fun _ h => absurd h List.not_mem_nil)⟩)⟩)⟩)⟩)⟩)⟩)⟩)⟩)⟩)⟩)⟩)⟩)⟩)⟩)⟩)⟩)⟩)⟩)⟩)⟩)⟩)⟩)⟩)⟩)
theorem tb_733 : Cond.methodLink RX4 37 yX4_indexOf ∈ lw_tbl := List.mem_of_getElem? (i := 703) (by decide +kernel)
theorem in_wsX6_sheet_r2 : ∀ w ∈ wsX6_sheet_r2, w ∈ lw_tbl := (List.forall_mem_cons.mpr ⟨tb_733, (List.forall_mem_cons.mpr ⟨tb_157, (List.forall_mem_cons.mpr ⟨tb_156, (List.forall_mem_cons.mpr ⟨tb_155, (fun _ h => absurd h List.not_mem_nil)⟩)⟩)⟩)⟩)
theorem in_wsX6_sheet : ∀ w ∈ wsX6_sheet, w ∈ lw_tbl := (List.forall_mem_cons.mpr ⟨tb_728, (List.forall_mem_append.mpr ⟨(List.forall_mem_append.mpr ⟨(List.forall_mem_append.mpr ⟨in_wsX6_sheet_r1, in_wsX6_sheet_r2⟩), inX6⟩), inX4⟩)⟩)
theorem tb_734 : Cond.methodLink RL 121 yX6_sheet ∈ lw_tbl := List.mem_of_getElem? (i := 695) (by decide +kernel)
theorem tb_735 : Cond.instanceMethod yX6_sheet ∈ lw_tbl := List.mem_of_getElem? (i := 696) (by decide +kernel)
theorem tb_736 : Cond.selects RX6 yX6_sheet yX6_sheet ∈ lw_tbl := List.mem_of_getElem? (i := 697) (by decide +kernel)
theorem gg_gL_law_X6_sheet : ∀ w ∈ wsV RL 121 RX6 yX6_sheet wsX6_sheet, w ∈ lw_tbl := List.forall_mem_append.mpr ⟨(List.forall_mem_cons.mpr ⟨tb_734, (List.forall_mem_cons.mpr ⟨tb_735, (List.forall_mem_cons.mpr ⟨tb_736, (List.forall_mem_cons.mpr ⟨tb_36, (fun _ h => absurd h List.not_mem_nil)⟩)⟩)⟩)⟩), in_wsX6_sheet⟩
set_option maxRecDepth 20000 in
theorem gL_law_X6_sheet : GoodIn lw_tbl (wsV RL 121 RX6 yX6_sheet wsX6_sheet) := goodIn_sub gg_gL_law_X6_sheet (by decide +kernel)
theorem tb_737 : Cond.code yX7_sheet cX7_sheet 5 (some .int) ∈ lw_tbl := List.mem_of_getElem? (i := 1146) (by decide +kernel)
theorem in_wsX7_sheet : ∀ w ∈ wsX7_sheet, w ∈ lw_tbl := (List.forall_mem_cons.mpr ⟨tb_737, (List.forall_mem_append.mpr ⟨(List.forall_mem_cons.mpr ⟨tb_206, (List.forall_mem_cons.mpr ⟨tb_95, (List.forall_mem_cons.mpr ⟨tb_94, (List.forall_mem_cons.mpr ⟨tb_93, (List.forall_mem_cons.mpr ⟨tb_191, (List.forall_mem_cons.mpr ⟨tb_190, (List.forall_mem_cons.mpr ⟨tb_230, (List.forall_mem_cons.mpr ⟨tb_229, (List.forall_mem_cons.mpr ⟨tb_228, (List.forall_mem_cons.mpr ⟨tb_227, (List.forall_mem_cons.mpr ⟨tb_226, (List.forall_mem_cons.mpr ⟨tb_225, (List.forall_mem_cons.mpr ⟨tb_224, (List.forall_mem_cons.mpr ⟨tb_223, (List.forall_mem_cons.mpr ⟨tb_222, (List.forall_mem_cons.mpr ⟨tb_221, (List.forall_mem_cons.mpr ⟨tb_220, (List.forall_mem_cons.mpr ⟨tb_219, (fun _ h => absurd h List.not_mem_nil)⟩)⟩)⟩)⟩)⟩)⟩)⟩)⟩)⟩)⟩)⟩)⟩)⟩)⟩)⟩)⟩)⟩)⟩), inX7⟩)⟩)
theorem tb_738 : Cond.methodLink RL 125 yX7_sheet ∈ lw_tbl := List.mem_of_getElem? (i := 1143) (by decide +kernel)
theorem tb_739 : Cond.instanceMethod yX7_sheet ∈ lw_tbl := List.mem_of_getElem? (i := 1144) (by decide +kernel)
theorem tb_740 : Cond.selects RX7 yX7_sheet yX7_sheet ∈ lw_tbl := List.mem_of_getElem? (i := 1145) (by decide +kernel)
theorem gg_gL_law_X7_sheet : ∀ w ∈ wsV RL 125 RX7 yX7_sheet wsX7_sheet, w ∈ lw_tbl := List.forall_mem_append.mpr ⟨(List.forall_mem_cons.mpr ⟨tb_738, (List.forall_mem_cons.mpr ⟨tb_739, (List.forall_mem_cons.mpr ⟨tb_740, (List.forall_mem_cons.mpr ⟨tb_230, (fun _ h => absurd h List.not_mem_nil)⟩)⟩)⟩)⟩), in_wsX7_sheet⟩
set_option maxRecDepth 20000 in
theorem gL_law_X7_sheet : GoodIn lw_tbl (wsV RL 125 RX7 yX7_sheet wsX7_sheet) := goodIn_sub gg_gL_law_X7_sheet (by decide +kernel)
theorem tb_741 : Cond.code yX6_lose cX6_lose 2 (some .int) ∈ lw_tbl := List.mem_of_getElem? (i := 707) (by decide +kernel)
theorem tb_742 : Cond.code yX4_forget cX4_forget 2 none ∈ lw_tbl := List.mem_of_getElem? (i := 711) (by decide +kernel)
theorem tb_743 : Cond.selects RX4 yX4_forget yX4_forget ∈ lw_tbl := List.mem_of_getElem? (i := 710) (by decide +kernel)
theorem tb_744 : Cond.instanceMethod yX4_forget ∈ lw_tbl := List.mem_of_getElem? (i := 709) (by decide +kernel)
theorem tb_745 : Cond.methodLink RX6 298 yX4_forget ∈ lw_tbl := List.mem_of_getElem? (i := 708) (by decide +kernel)
theorem in_wsX6_lose : ∀ w ∈ wsX6_lose, w ∈ lw_tbl := (List.forall_mem_cons.mpr ⟨tb_741, (List.forall_mem_append.mpr ⟨(List.forall_mem_append.mpr ⟨(List.forall_mem_cons.mpr ⟨tb_18, (List.forall_mem_cons.mpr ⟨tb_114, (List.forall_mem_cons.mpr ⟨tb_113, (List.forall_mem_cons.mpr ⟨tb_112, (List.forall_mem_cons.mpr ⟨tb_19, (List.forall_mem_cons.mpr ⟨tb_111, (List.forall_mem_cons.mpr ⟨tb_110, (List.forall_mem_cons.mpr ⟨tb_36, (List.forall_mem_cons.mpr ⟨tb_109, (List.forall_mem_cons.mpr ⟨tb_130, (List.forall_mem_cons.mpr ⟨tb_102, (List.forall_mem_cons.mpr ⟨tb_101, (List.forall_mem_cons.mpr ⟨tb_100, (List.forall_mem_cons.mpr ⟨tb_40, (List.forall_mem_cons.mpr ⟨tb_136, (List.forall_mem_cons.mpr ⟨tb_135, (List.forall_mem_cons.mpr ⟨tb_745, (List.forall_mem_cons.mpr ⟨tb_744, (List.forall_mem_cons.mpr ⟨tb_743, (List.forall_mem_cons.mpr ⟨tb_742, (List.forall_mem_cons.mpr ⟨tb_39, (List.forall_mem_cons.mpr ⟨tb_37, (List.forall_mem_cons.mpr ⟨tb_35, (fun _ h => absurd h List.not_mem_nil)⟩)⟩)⟩)⟩)⟩)⟩)⟩)⟩)⟩)⟩)⟩)⟩)⟩)⟩)⟩)⟩)⟩)⟩)⟩)⟩)⟩)⟩)⟩), inX6⟩), inX4⟩)⟩)
theorem tb_746 : Cond.methodLink RL 126 yX6_lose ∈ lw_tbl := List.mem_of_getElem? (i := 704) (by decide +kernel)
theorem tb_747 : Cond.instanceMethod yX6_lose ∈ lw_tbl := List.mem_of_getElem? (i := 705) (by decide +kernel)
theorem tb_748 : Cond.selects RX6 yX6_lose yX6_lose ∈ lw_tbl := List.mem_of_getElem? (i := 706) (by decide +kernel)
theorem gg_gL_law_X6_lose : ∀ w ∈ wsV RL 126 RX6 yX6_lose wsX6_lose, w ∈ lw_tbl := List.forall_mem_append.mpr ⟨(List.forall_mem_cons.mpr ⟨tb_746, (List.forall_mem_cons.mpr ⟨tb_747, (List.forall_mem_cons.mpr ⟨tb_748, (List.forall_mem_cons.mpr ⟨tb_36, (fun _ h => absurd h List.not_mem_nil)⟩)⟩)⟩)⟩), in_wsX6_lose⟩
set_option maxRecDepth 20000 in
theorem gL_law_X6_lose : GoodIn lw_tbl (wsV RL 126 RX6 yX6_lose wsX6_lose) := goodIn_sub gg_gL_law_X6_lose (by decide +kernel)
theorem tb_749 : Cond.code yX7_lose cX7_lose 3 (some .int) ∈ lw_tbl := List.mem_of_getElem? (i := 1150) (by decide +kernel)
theorem in_wsX7_lose : ∀ w ∈ wsX7_lose, w ∈ lw_tbl := (List.forall_mem_cons.mpr ⟨tb_749, (List.forall_mem_append.mpr ⟨(List.forall_mem_cons.mpr ⟨tb_95, (List.forall_mem_cons.mpr ⟨tb_191, (List.forall_mem_cons.mpr ⟨tb_190, (List.forall_mem_cons.mpr ⟨tb_230, (List.forall_mem_cons.mpr ⟨tb_229, (List.forall_mem_cons.mpr ⟨tb_228, (List.forall_mem_cons.mpr ⟨tb_227, (List.forall_mem_cons.mpr ⟨tb_226, (fun _ h => absurd h List.not_mem_nil)⟩)⟩)⟩)⟩)⟩)⟩)⟩)⟩), inX7⟩)⟩)
theorem tb_750 : Cond.methodLink RL 129 yX7_lose ∈ lw_tbl := List.mem_of_getElem? (i := 1147) (by decide +kernel)
theorem tb_751 : Cond.instanceMethod yX7_lose ∈ lw_tbl := List.mem_of_getElem? (i := 1148) (by decide +kernel)
theorem tb_752 : Cond.selects RX7 yX7_lose yX7_lose ∈ lw_tbl := List.mem_of_getElem? (i := 1149) (by decide +kernel)
theorem gg_gL_law_X7_lose : ∀ w ∈ wsV RL 129 RX7 yX7_lose wsX7_lose, w ∈ lw_tbl := List.forall_mem_append.mpr ⟨(List.forall_mem_cons.mpr ⟨tb_750, (List.forall_mem_cons.mpr ⟨tb_751, (List.forall_mem_cons.mpr ⟨tb_752, (List.forall_mem_cons.mpr ⟨tb_230, (fun _ h => absurd h List.not_mem_nil)⟩)⟩)⟩)⟩), in_wsX7_lose⟩
set_option maxRecDepth 20000 in
theorem gL_law_X7_lose : GoodIn lw_tbl (wsV RL 129 RX7 yX7_lose wsX7_lose) := goodIn_sub gg_gL_law_X7_lose (by decide +kernel)
theorem tb_753 : Cond.code yX6_put cX6_put 4 (some .int) ∈ lw_tbl := List.mem_of_getElem? (i := 715) (by decide +kernel)
theorem in_wsX6_put_r1 : ∀ w ∈ wsX6_put_r1, w ∈ lw_tbl := (List.forall_mem_cons.mpr ⟨tb_115, (List.forall_mem_cons.mpr ⟨tb_18, (List.forall_mem_cons.mpr ⟨tb_114, (List.forall_mem_cons.mpr ⟨tb_113, (List.forall_mem_cons.mpr ⟨tb_112, (List.forall_mem_cons.mpr ⟨tb_19, (List.forall_mem_cons.mpr ⟨tb_111, (List.forall_mem_cons.mpr ⟨tb_110, (List.forall_mem_cons.mpr ⟨tb_36, (List.forall_mem_cons.mpr ⟨tb_109, (List.forall_mem_cons.mpr ⟨tb_130, (List.forall_mem_cons.mpr ⟨tb_102, (List.forall_mem_cons.mpr ⟨tb_101, (List.forall_mem_cons.mpr ⟨tb_100, (List.forall_mem_cons.mpr ⟨tb_40, (List.forall_mem_cons.mpr ⟨tb_136, (List.forall_mem_cons.mpr ⟨tb_135, (List.forall_mem_cons.mpr ⟨tb_134, (List.forall_mem_cons.mpr ⟨tb_133, (List.forall_mem_cons.mpr ⟨tb_132, (List.forall_mem_cons.mpr ⟨tb_131, (List.forall_mem_cons.mpr ⟨tb_129, (List.forall_mem_cons.mpr ⟨tb_128, (List.forall_mem_cons.mpr ⟨tb_127, (fun _ h => absurd h List.not_mem_nil)⟩)⟩)⟩)⟩)⟩)⟩)⟩)⟩)⟩)⟩)⟩)⟩)⟩)⟩)⟩)⟩)⟩)⟩)⟩)⟩)⟩)⟩)⟩)⟩)
theorem tb_754 : Cond.code yX4_write cX4_write 5 none ∈ lw_tbl := List.mem_of_getElem? (i := 719) (by decide +kernel)
theorem tb_755 : Cond.selects RX4 yX4_write yX4_write ∈ lw_tbl := List.mem_of_getElem? (i := 718) (by decide +kernel)
theorem tb_756 : Cond.instanceMethod yX4_write ∈ lw_tbl := List.mem_of_getElem? (i := 717) (by decide +kernel)
theorem tb_757 : Cond.methodLink RX6 301 yX4_write ∈ lw_tbl := List.mem_of_getElem? (i := 716) (by decide +kernel)
theorem in_wsX6_put_r2 : ∀ w ∈ wsX6_put_r2, w ∈ lw_tbl := (List.forall_mem_cons.mpr ⟨tb_126, (List.forall_mem_cons.mpr ⟨tb_39, (List.forall_mem_cons.mpr ⟨tb_108, (List.forall_mem_cons.mpr ⟨tb_757, (List.forall_mem_cons.mpr ⟨tb_756, (List.forall_mem_cons.mpr ⟨tb_755, (List.forall_mem_cons.mpr ⟨tb_754, (List.forall_mem_cons.mpr ⟨tb_38, (List.forall_mem_cons.mpr ⟨tb_733, (List.forall_mem_cons.mpr ⟨tb_157, (List.forall_mem_cons.mpr ⟨tb_156, (List.forall_mem_cons.mpr ⟨tb_155, (List.forall_mem_cons.mpr ⟨tb_37, (List.forall_mem_cons.mpr ⟨tb_35, (fun _ h => absurd h List.not_mem_nil)⟩)⟩)⟩)⟩)⟩)⟩)⟩)⟩)⟩)⟩)⟩)⟩)⟩)⟩)
theorem in_wsX6_put : ∀ w ∈ wsX6_put, w ∈ lw_tbl := (List.forall_mem_cons.mpr ⟨tb_753, (List.forall_mem_append.mpr ⟨(List.forall_mem_append.mpr ⟨(List.forall_mem_append.mpr ⟨in_wsX6_put_r1, in_wsX6_put_r2⟩), inX6⟩), inX4⟩)⟩)
theorem tb_758 : Cond.methodLink RL 130 yX6_put ∈ lw_tbl := List.mem_of_getElem? (i := 712) (by decide +kernel)
theorem tb_759 : Cond.instanceMethod yX6_put ∈ lw_tbl := List.mem_of_getElem? (i := 713) (by decide +kernel)
theorem tb_760 : Cond.selects RX6 yX6_put yX6_put ∈ lw_tbl := List.mem_of_getElem? (i := 714) (by decide +kernel)
theorem gg_gL_law_X6_put : ∀ w ∈ wsV RL 130 RX6 yX6_put wsX6_put, w ∈ lw_tbl := List.forall_mem_append.mpr ⟨(List.forall_mem_cons.mpr ⟨tb_758, (List.forall_mem_cons.mpr ⟨tb_759, (List.forall_mem_cons.mpr ⟨tb_760, (List.forall_mem_cons.mpr ⟨tb_36, (fun _ h => absurd h List.not_mem_nil)⟩)⟩)⟩)⟩), in_wsX6_put⟩
set_option maxRecDepth 20000 in
theorem gL_law_X6_put : GoodIn lw_tbl (wsV RL 130 RX6 yX6_put wsX6_put) := goodIn_sub gg_gL_law_X6_put (by decide +kernel)
theorem tb_761 : Cond.code yX7_put cX7_put 4 (some .int) ∈ lw_tbl := List.mem_of_getElem? (i := 1154) (by decide +kernel)
theorem in_wsX7_put : ∀ w ∈ wsX7_put, w ∈ lw_tbl := (List.forall_mem_cons.mpr ⟨tb_761, (List.forall_mem_append.mpr ⟨(List.forall_mem_cons.mpr ⟨tb_206, (List.forall_mem_cons.mpr ⟨tb_95, (List.forall_mem_cons.mpr ⟨tb_94, (List.forall_mem_cons.mpr ⟨tb_93, (List.forall_mem_cons.mpr ⟨tb_191, (List.forall_mem_cons.mpr ⟨tb_190, (List.forall_mem_cons.mpr ⟨tb_230, (List.forall_mem_cons.mpr ⟨tb_229, (List.forall_mem_cons.mpr ⟨tb_228, (List.forall_mem_cons.mpr ⟨tb_227, (List.forall_mem_cons.mpr ⟨tb_226, (List.forall_mem_cons.mpr ⟨tb_222, (List.forall_mem_cons.mpr ⟨tb_221, (List.forall_mem_cons.mpr ⟨tb_220, (List.forall_mem_cons.mpr ⟨tb_219, (fun _ h => absurd h List.not_mem_nil)⟩)⟩)⟩)⟩)⟩)⟩)⟩)⟩)⟩)⟩)⟩)⟩)⟩)⟩)⟩), inX7⟩)⟩)
theorem tb_762 : Cond.methodLink RL 133 yX7_put ∈ lw_tbl := List.mem_of_getElem? (i := 1151) (by decide +kernel)
theorem tb_763 : Cond.instanceMethod yX7_put ∈ lw_tbl := List.mem_of_getElem? (i := 1152) (by decide +kernel)
theorem tb_764 : Cond.selects RX7 yX7_put yX7_put ∈ lw_tbl := List.mem_of_getElem? (i := 1153) (by decide +kernel)
theorem gg_gL_law_X7_put : ∀ w ∈ wsV RL 133 RX7 yX7_put wsX7_put, w ∈ lw_tbl := List.forall_mem_append.mpr ⟨(List.forall_mem_cons.mpr ⟨tb_762, (List.forall_mem_cons.mpr ⟨tb_763, (List.forall_mem_cons.mpr ⟨tb_764, (List.forall_mem_cons.mpr ⟨tb_230, (fun _ h => absurd h List.not_mem_nil)⟩)⟩)⟩)⟩), in_wsX7_put⟩
set_option maxRecDepth 20000 in
theorem gL_law_X7_put : GoodIn lw_tbl (wsV RL 133 RX7 yX7_put wsX7_put) := goodIn_sub gg_gL_law_X7_put (by decide +kernel)
theorem tb_765 : Cond.code yX6_cell cX6_cell 4 (some .long) ∈ lw_tbl := List.mem_of_getElem? (i := 723) (by decide +kernel)
theorem tb_766 : Cond.methodLink RX6 304 yX6_lost ∈ lw_tbl := List.mem_of_getElem? (i := 724) (by decide +kernel)
theorem in_wsX6_cell_r1 : ∀ w ∈ wsX6_cell_r1, w ∈ lw_tbl := (List.forall_mem_cons.mpr ⟨tb_115, (List.forall_mem_cons.mpr ⟨tb_18, (List.forall_mem_cons.mpr ⟨tb_457, (List.forall_mem_cons.mpr ⟨tb_114, (List.forall_mem_cons.mpr ⟨tb_113, (List.forall_mem_cons.mpr ⟨tb_112, (List.forall_mem_cons.mpr ⟨tb_19, (List.forall_mem_cons.mpr ⟨tb_111, (List.forall_mem_cons.mpr ⟨tb_110, (List.forall_mem_cons.mpr ⟨tb_36, (List.forall_mem_cons.mpr ⟨tb_109, (List.forall_mem_cons.mpr ⟨tb_108, (List.forall_mem_cons.mpr ⟨tb_107, (List.forall_mem_cons.mpr ⟨tb_106, (List.forall_mem_cons.mpr ⟨tb_105, (List.forall_mem_cons.mpr ⟨tb_104, (List.forall_mem_cons.mpr ⟨tb_40, (List.forall_mem_cons.mpr ⟨tb_103, (List.forall_mem_cons.mpr ⟨tb_102, (List.forall_mem_cons.mpr ⟨tb_101, (List.forall_mem_cons.mpr ⟨tb_100, (List.forall_mem_cons.mpr ⟨tb_136, (List.forall_mem_cons.mpr ⟨tb_135, (List.forall_mem_cons.mpr ⟨tb_766, (fun _ h => absurd h List.not_mem_nil)⟩)⟩)⟩)⟩)⟩)⟩)⟩)⟩)⟩)⟩)⟩)⟩)⟩)⟩)⟩)⟩)⟩)⟩)⟩)⟩)⟩)⟩)⟩)⟩)
theorem tb_767 : Cond.code yX4_read cX4_read 3 (some .int) ∈ lw_tbl := List.mem_of_getElem? (i := 731) (by decide +kernel)
theorem tb_768 : Cond.selects RX4 yX4_read yX4_read ∈ lw_tbl := List.mem_of_getElem? (i := 730) (by decide +kernel)
theorem tb_769 : Cond.instanceMethod yX4_read ∈ lw_tbl := List.mem_of_getElem? (i := 729) (by decide +kernel)
theorem tb_770 : Cond.methodLink RX6 307 yX4_read ∈ lw_tbl := List.mem_of_getElem? (i := 728) (by decide +kernel)
theorem tb_771 : Cond.code yX6_lost cX6_lost 2 (some .long) ∈ lw_tbl := List.mem_of_getElem? (i := 727) (by decide +kernel)
theorem tb_772 : Cond.selects RX6 yX6_lost yX6_lost ∈ lw_tbl := List.mem_of_getElem? (i := 16) (by decide +kernel)
theorem tb_773 : Cond.instanceMethod yX6_lost ∈ lw_tbl := List.mem_of_getElem? (i := 726) (by decide +kernel)
theorem in_wsX6_cell_r2 : ∀ w ∈ wsX6_cell_r2, w ∈ lw_tbl := (List.forall_mem_cons.mpr ⟨tb_773, (List.forall_mem_cons.mpr ⟨tb_772, (List.forall_mem_cons.mpr ⟨tb_771, (List.forall_mem_cons.mpr ⟨tb_130, (List.forall_mem_cons.mpr ⟨tb_129, (List.forall_mem_cons.mpr ⟨tb_128, (List.forall_mem_cons.mpr ⟨tb_127, (List.forall_mem_cons.mpr ⟨tb_126, (List.forall_mem_cons.mpr ⟨tb_39, (List.forall_mem_cons.mpr ⟨tb_770, (List.forall_mem_cons.mpr ⟨tb_769, (List.forall_mem_cons.mpr ⟨tb_768, (List.forall_mem_cons.mpr ⟨tb_767, (List.forall_mem_cons.mpr ⟨tb_38, (List.forall_mem_cons.mpr ⟨tb_733, (List.forall_mem_cons.mpr ⟨tb_157, (List.forall_mem_cons.mpr ⟨tb_156, (List.forall_mem_cons.mpr ⟨tb_155, (fun _ h => absurd h List.not_mem_nil)⟩)⟩)⟩)⟩)⟩)⟩)⟩)⟩)⟩)⟩)⟩)⟩)⟩)⟩)⟩)⟩)⟩)⟩)
theorem in_wsX6_cell : ∀ w ∈ wsX6_cell, w ∈ lw_tbl := (List.forall_mem_cons.mpr ⟨tb_765, (List.forall_mem_append.mpr ⟨(List.forall_mem_append.mpr ⟨(List.forall_mem_append.mpr ⟨in_wsX6_cell_r1, in_wsX6_cell_r2⟩), inX6⟩), inX4⟩)⟩)
theorem tb_774 : Cond.methodLink RL 134 yX6_cell ∈ lw_tbl := List.mem_of_getElem? (i := 720) (by decide +kernel)
theorem tb_775 : Cond.instanceMethod yX6_cell ∈ lw_tbl := List.mem_of_getElem? (i := 721) (by decide +kernel)
theorem tb_776 : Cond.selects RX6 yX6_cell yX6_cell ∈ lw_tbl := List.mem_of_getElem? (i := 722) (by decide +kernel)
theorem gg_gL_law_X6_cell : ∀ w ∈ wsV RL 134 RX6 yX6_cell wsX6_cell, w ∈ lw_tbl := List.forall_mem_append.mpr ⟨(List.forall_mem_cons.mpr ⟨tb_774, (List.forall_mem_cons.mpr ⟨tb_775, (List.forall_mem_cons.mpr ⟨tb_776, (List.forall_mem_cons.mpr ⟨tb_36, (fun _ h => absurd h List.not_mem_nil)⟩)⟩)⟩)⟩), in_wsX6_cell⟩
set_option maxRecDepth 20000 in
theorem gL_law_X6_cell : GoodIn lw_tbl (wsV RL 134 RX6 yX6_cell wsX6_cell) := goodIn_sub gg_gL_law_X6_cell (by decide +kernel)
theorem tb_777 : Cond.code yX7_cell cX7_cell 4 (some .long) ∈ lw_tbl := List.mem_of_getElem? (i := 1158) (by decide +kernel)
theorem tb_778 : Cond.code yX7_lost cX7_lost 2 (some .long) ∈ lw_tbl := List.mem_of_getElem? (i := 1162) (by decide +kernel)
theorem tb_779 : Cond.selects RX7 yX7_lost yX7_lost ∈ lw_tbl := List.mem_of_getElem? (i := 50) (by decide +kernel)
theorem tb_780 : Cond.instanceMethod yX7_lost ∈ lw_tbl := List.mem_of_getElem? (i := 1161) (by decide +kernel)
theorem tb_781 : Cond.methodLink RX7 254 yX7_lost ∈ lw_tbl := List.mem_of_getElem? (i := 1159) (by decide +kernel)
theorem in_wsX7_cell : ∀ w ∈ wsX7_cell, w ∈ lw_tbl := (List.forall_mem_cons.mpr ⟨tb_777, (List.forall_mem_append.mpr ⟨(List.forall_mem_cons.mpr ⟨tb_206, (List.forall_mem_cons.mpr ⟨tb_475, (List.forall_mem_cons.mpr ⟨tb_95, (List.forall_mem_cons.mpr ⟨tb_94, (List.forall_mem_cons.mpr ⟨tb_93, (List.forall_mem_cons.mpr ⟨tb_191, (List.forall_mem_cons.mpr ⟨tb_190, (List.forall_mem_cons.mpr ⟨tb_230, (List.forall_mem_cons.mpr ⟨tb_229, (List.forall_mem_cons.mpr ⟨tb_228, (List.forall_mem_cons.mpr ⟨tb_227, (List.forall_mem_cons.mpr ⟨tb_226, (List.forall_mem_cons.mpr ⟨tb_225, (List.forall_mem_cons.mpr ⟨tb_224, (List.forall_mem_cons.mpr ⟨tb_223, (List.forall_mem_cons.mpr ⟨tb_781, (List.forall_mem_cons.mpr ⟨tb_780, (List.forall_mem_cons.mpr ⟨tb_779, (List.forall_mem_cons.mpr ⟨tb_778, (fun _ h => absurd h List.not_mem_nil)⟩)⟩)⟩)⟩)⟩)⟩)⟩)⟩)⟩)⟩)⟩)⟩)⟩)⟩)⟩)⟩)⟩)⟩)⟩), inX7⟩)⟩)
theorem tb_782 : Cond.methodLink RL 137 yX7_cell ∈ lw_tbl := List.mem_of_getElem? (i := 1155) (by decide +kernel)
theorem tb_783 : Cond.instanceMethod yX7_cell ∈ lw_tbl := List.mem_of_getElem? (i := 1156) (by decide +kernel)
theorem tb_784 : Cond.selects RX7 yX7_cell yX7_cell ∈ lw_tbl := List.mem_of_getElem? (i := 1157) (by decide +kernel)
theorem gg_gL_law_X7_cell : ∀ w ∈ wsV RL 137 RX7 yX7_cell wsX7_cell, w ∈ lw_tbl := List.forall_mem_append.mpr ⟨(List.forall_mem_cons.mpr ⟨tb_782, (List.forall_mem_cons.mpr ⟨tb_783, (List.forall_mem_cons.mpr ⟨tb_784, (List.forall_mem_cons.mpr ⟨tb_230, (fun _ h => absurd h List.not_mem_nil)⟩)⟩)⟩)⟩), in_wsX7_cell⟩
set_option maxRecDepth 20000 in
theorem gL_law_X7_cell : GoodIn lw_tbl (wsV RL 137 RX7 yX7_cell wsX7_cell) := goodIn_sub gg_gL_law_X7_cell (by decide +kernel)
theorem tb_785 : Cond.code yX6_tell cX6_tell 2 (some .int) ∈ lw_tbl := List.mem_of_getElem? (i := 735) (by decide +kernel)
theorem tb_786 : Cond.instanceMethod yX6_toldByStands ∈ lw_tbl := List.mem_of_getElem? (i := 746) (by decide +kernel)
theorem tb_787 : Cond.methodLink RX6 313 yX6_toldByStands ∈ lw_tbl := List.mem_of_getElem? (i := 744) (by decide +kernel)
theorem tb_788 : Cond.fieldLink RX6 325 "RopeLine" "traceNow" "I" ∈ lw_tbl := List.mem_of_getElem? (i := 304) (by decide +kernel)
theorem tb_789 : Cond.code yX6_leaveNumber cX6_leaveNumber 2 none ∈ lw_tbl := List.mem_of_getElem? (i := 743) (by decide +kernel)
theorem tb_790 : Cond.selects RX6 yX6_leaveNumber yX6_leaveNumber ∈ lw_tbl := List.mem_of_getElem? (i := 18) (by decide +kernel)
theorem tb_791 : Cond.instanceMethod yX6_leaveNumber ∈ lw_tbl := List.mem_of_getElem? (i := 742) (by decide +kernel)
theorem tb_792 : Cond.methodLink RX6 334 yX6_leaveNumber ∈ lw_tbl := List.mem_of_getElem? (i := 740) (by decide +kernel)
theorem tb_793 : Cond.code yX6_toldByDone cX6_toldByDone 3 (some .int) ∈ lw_tbl := List.mem_of_getElem? (i := 739) (by decide +kernel)
theorem tb_794 : Cond.selects RX6 yX6_toldByDone yX6_toldByDone ∈ lw_tbl := List.mem_of_getElem? (i := 17) (by decide +kernel)
theorem tb_795 : Cond.instanceMethod yX6_toldByDone ∈ lw_tbl := List.mem_of_getElem? (i := 738) (by decide +kernel)
theorem tb_796 : Cond.methodLink RX6 310 yX6_toldByDone ∈ lw_tbl := List.mem_of_getElem? (i := 736) (by decide +kernel)
theorem in_wsX6_tell_r1 : ∀ w ∈ wsX6_tell_r1, w ∈ lw_tbl := (List.forall_mem_cons.mpr ⟨tb_46, (List.forall_mem_cons.mpr ⟨tb_679, (List.forall_mem_cons.mpr ⟨tb_678, (List.forall_mem_cons.mpr ⟨tb_677, (List.forall_mem_cons.mpr ⟨tb_47, (List.forall_mem_cons.mpr ⟨tb_676, (List.forall_mem_cons.mpr ⟨tb_184, (List.forall_mem_cons.mpr ⟨tb_110, (List.forall_mem_cons.mpr ⟨tb_36, (List.forall_mem_cons.mpr ⟨tb_109, (List.forall_mem_cons.mpr ⟨tb_266, (List.forall_mem_cons.mpr ⟨tb_136, (List.forall_mem_cons.mpr ⟨tb_135, (List.forall_mem_cons.mpr ⟨tb_796, (List.forall_mem_cons.mpr ⟨tb_795, (List.forall_mem_cons.mpr ⟨tb_794, (List.forall_mem_cons.mpr ⟨tb_793, (List.forall_mem_cons.mpr ⟨tb_792, (List.forall_mem_cons.mpr ⟨tb_791, (List.forall_mem_cons.mpr ⟨tb_790, (List.forall_mem_cons.mpr ⟨tb_789, (List.forall_mem_cons.mpr ⟨tb_788, (List.forall_mem_cons.mpr ⟨tb_787, (List.forall_mem_cons.mpr ⟨tb_786, (fun _ h => absurd h List.not_mem_nil)⟩)⟩)⟩)⟩)⟩)⟩)⟩)⟩)⟩)⟩)⟩)⟩)⟩)⟩)⟩)⟩)⟩)⟩)⟩)⟩)⟩)⟩)⟩)⟩)
theorem tb_797 : Cond.code yX6_toldByComer cX6_toldByComer 2 (some .int) ∈ lw_tbl := List.mem_of_getElem? (i := 751) (by decide +kernel)
theorem tb_798 : Cond.selects RX6 yX6_toldByComer yX6_toldByComer ∈ lw_tbl := List.mem_of_getElem? (i := 20) (by decide +kernel)
theorem tb_799 : Cond.instanceMethod yX6_toldByComer ∈ lw_tbl := List.mem_of_getElem? (i := 750) (by decide +kernel)
theorem tb_800 : Cond.methodLink RX6 316 yX6_toldByComer ∈ lw_tbl := List.mem_of_getElem? (i := 748) (by decide +kernel)
theorem tb_801 : Cond.code yX6_toldByStands cX6_toldByStands 2 (some .int) ∈ lw_tbl := List.mem_of_getElem? (i := 747) (by decide +kernel)
theorem tb_802 : Cond.selects RX6 yX6_toldByStands yX6_toldByStands ∈ lw_tbl := List.mem_of_getElem? (i := 19) (by decide +kernel)
theorem in_wsX6_tell_r2 : ∀ w ∈ wsX6_tell_r2, w ∈ lw_tbl := (List.forall_mem_cons.mpr ⟨tb_802, (List.forall_mem_cons.mpr ⟨tb_801, (List.forall_mem_cons.mpr ⟨tb_800, (List.forall_mem_cons.mpr ⟨tb_799, (List.forall_mem_cons.mpr ⟨tb_798, (List.forall_mem_cons.mpr ⟨tb_797, (fun _ h => absurd h List.not_mem_nil)⟩)⟩)⟩)⟩)⟩)⟩)
theorem in_wsX6_tell : ∀ w ∈ wsX6_tell, w ∈ lw_tbl := (List.forall_mem_cons.mpr ⟨tb_785, (List.forall_mem_append.mpr ⟨(List.forall_mem_append.mpr ⟨(List.forall_mem_append.mpr ⟨in_wsX6_tell_r1, in_wsX6_tell_r2⟩), inX6⟩), inX3⟩)⟩)
theorem tb_803 : Cond.methodLink RL 138 yX6_tell ∈ lw_tbl := List.mem_of_getElem? (i := 732) (by decide +kernel)
theorem tb_804 : Cond.instanceMethod yX6_tell ∈ lw_tbl := List.mem_of_getElem? (i := 733) (by decide +kernel)
theorem tb_805 : Cond.selects RX6 yX6_tell yX6_tell ∈ lw_tbl := List.mem_of_getElem? (i := 734) (by decide +kernel)
theorem gg_gL_law_X6_tell : ∀ w ∈ wsV RL 138 RX6 yX6_tell wsX6_tell, w ∈ lw_tbl := List.forall_mem_append.mpr ⟨(List.forall_mem_cons.mpr ⟨tb_803, (List.forall_mem_cons.mpr ⟨tb_804, (List.forall_mem_cons.mpr ⟨tb_805, (List.forall_mem_cons.mpr ⟨tb_36, (fun _ h => absurd h List.not_mem_nil)⟩)⟩)⟩)⟩), in_wsX6_tell⟩
set_option maxRecDepth 20000 in
theorem gL_law_X6_tell : GoodIn lw_tbl (wsV RL 138 RX6 yX6_tell wsX6_tell) := goodIn_sub gg_gL_law_X6_tell (by decide +kernel)
theorem tb_806 : Cond.code yX7_tell cX7_tell 3 (some .int) ∈ lw_tbl := List.mem_of_getElem? (i := 1166) (by decide +kernel)
theorem tb_807 : Cond.fieldLink RX7 257 "RopeLineModel" "trace" "I" ∈ lw_tbl := List.mem_of_getElem? (i := 791) (by decide +kernel)
theorem tb_808 : Cond.code yX7_begins cX7_begins 2 none ∈ lw_tbl := List.mem_of_getElem? (i := 1170) (by decide +kernel)
theorem tb_809 : Cond.selects RX7 yX7_begins yX7_begins ∈ lw_tbl := List.mem_of_getElem? (i := 51) (by decide +kernel)
theorem tb_810 : Cond.instanceMethod yX7_begins ∈ lw_tbl := List.mem_of_getElem? (i := 1169) (by decide +kernel)
theorem tb_811 : Cond.methodLink RX7 260 yX7_begins ∈ lw_tbl := List.mem_of_getElem? (i := 1167) (by decide +kernel)
theorem in_wsX7_tell : ∀ w ∈ wsX7_tell, w ∈ lw_tbl := (List.forall_mem_cons.mpr ⟨tb_806, (List.forall_mem_append.mpr ⟨(List.forall_mem_cons.mpr ⟨tb_79, (List.forall_mem_cons.mpr ⟨tb_78, (List.forall_mem_cons.mpr ⟨tb_77, (List.forall_mem_cons.mpr ⟨tb_687, (List.forall_mem_cons.mpr ⟨tb_686, (List.forall_mem_cons.mpr ⟨tb_685, (List.forall_mem_cons.mpr ⟨tb_230, (List.forall_mem_cons.mpr ⟨tb_684, (List.forall_mem_cons.mpr ⟨tb_193, (List.forall_mem_cons.mpr ⟨tb_811, (List.forall_mem_cons.mpr ⟨tb_810, (List.forall_mem_cons.mpr ⟨tb_809, (List.forall_mem_cons.mpr ⟨tb_808, (List.forall_mem_cons.mpr ⟨tb_807, (fun _ h => absurd h List.not_mem_nil)⟩)⟩)⟩)⟩)⟩)⟩)⟩)⟩)⟩)⟩)⟩)⟩)⟩)⟩), inX7⟩)⟩)
theorem tb_812 : Cond.methodLink RL 141 yX7_tell ∈ lw_tbl := List.mem_of_getElem? (i := 1163) (by decide +kernel)
theorem tb_813 : Cond.instanceMethod yX7_tell ∈ lw_tbl := List.mem_of_getElem? (i := 1164) (by decide +kernel)
theorem tb_814 : Cond.selects RX7 yX7_tell yX7_tell ∈ lw_tbl := List.mem_of_getElem? (i := 1165) (by decide +kernel)
theorem gg_gL_law_X7_tell : ∀ w ∈ wsV RL 141 RX7 yX7_tell wsX7_tell, w ∈ lw_tbl := List.forall_mem_append.mpr ⟨(List.forall_mem_cons.mpr ⟨tb_812, (List.forall_mem_cons.mpr ⟨tb_813, (List.forall_mem_cons.mpr ⟨tb_814, (List.forall_mem_cons.mpr ⟨tb_230, (fun _ h => absurd h List.not_mem_nil)⟩)⟩)⟩)⟩), in_wsX7_tell⟩
set_option maxRecDepth 20000 in
theorem gL_law_X7_tell : GoodIn lw_tbl (wsV RL 141 RX7 yX7_tell wsX7_tell) := goodIn_sub gg_gL_law_X7_tell (by decide +kernel)
theorem tb_815 : Cond.code yX6_call cX6_call 2 (some .int) ∈ lw_tbl := List.mem_of_getElem? (i := 755) (by decide +kernel)
theorem tb_816 : Cond.code yX6_calledByDone cX6_calledByDone 1 (some .int) ∈ lw_tbl := List.mem_of_getElem? (i := 759) (by decide +kernel)
theorem tb_817 : Cond.selects RX6 yX6_calledByDone yX6_calledByDone ∈ lw_tbl := List.mem_of_getElem? (i := 21) (by decide +kernel)
theorem tb_818 : Cond.instanceMethod yX6_calledByDone ∈ lw_tbl := List.mem_of_getElem? (i := 758) (by decide +kernel)
theorem tb_819 : Cond.methodLink RX6 319 yX6_calledByDone ∈ lw_tbl := List.mem_of_getElem? (i := 756) (by decide +kernel)
theorem in_wsX6_call_r1 : ∀ w ∈ wsX6_call_r1, w ∈ lw_tbl := (List.forall_mem_cons.mpr ⟨tb_46, (List.forall_mem_cons.mpr ⟨tb_679, (List.forall_mem_cons.mpr ⟨tb_678, (List.forall_mem_cons.mpr ⟨tb_677, (List.forall_mem_cons.mpr ⟨tb_47, (List.forall_mem_cons.mpr ⟨tb_676, (List.forall_mem_cons.mpr ⟨tb_184, (List.forall_mem_cons.mpr ⟨tb_110, (List.forall_mem_cons.mpr ⟨tb_36, (List.forall_mem_cons.mpr ⟨tb_109, (List.forall_mem_cons.mpr ⟨tb_675, (List.forall_mem_cons.mpr ⟨tb_674, (List.forall_mem_cons.mpr ⟨tb_673, (List.forall_mem_cons.mpr ⟨tb_672, (List.forall_mem_cons.mpr ⟨tb_266, (List.forall_mem_cons.mpr ⟨tb_136, (List.forall_mem_cons.mpr ⟨tb_135, (List.forall_mem_cons.mpr ⟨tb_819, (List.forall_mem_cons.mpr ⟨tb_818, (List.forall_mem_cons.mpr ⟨tb_817, (List.forall_mem_cons.mpr ⟨tb_816, (List.forall_mem_cons.mpr ⟨tb_792, (List.forall_mem_cons.mpr ⟨tb_791, (List.forall_mem_cons.mpr ⟨tb_790, (fun _ h => absurd h List.not_mem_nil)⟩)⟩)⟩)⟩)⟩)⟩)⟩)⟩)⟩)⟩)⟩)⟩)⟩)⟩)⟩)⟩)⟩)⟩)⟩)⟩)⟩)⟩)⟩)⟩)
theorem tb_820 : Cond.code yX6_calledByLent cX6_calledByLent 2 (some .int) ∈ lw_tbl := List.mem_of_getElem? (i := 763) (by decide +kernel)
theorem tb_821 : Cond.selects RX6 yX6_calledByLent yX6_calledByLent ∈ lw_tbl := List.mem_of_getElem? (i := 22) (by decide +kernel)
theorem tb_822 : Cond.instanceMethod yX6_calledByLent ∈ lw_tbl := List.mem_of_getElem? (i := 762) (by decide +kernel)
theorem tb_823 : Cond.methodLink RX6 322 yX6_calledByLent ∈ lw_tbl := List.mem_of_getElem? (i := 760) (by decide +kernel)
theorem in_wsX6_call_r2 : ∀ w ∈ wsX6_call_r2, w ∈ lw_tbl := (List.forall_mem_cons.mpr ⟨tb_789, (List.forall_mem_cons.mpr ⟨tb_788, (List.forall_mem_cons.mpr ⟨tb_823, (List.forall_mem_cons.mpr ⟨tb_822, (List.forall_mem_cons.mpr ⟨tb_821, (List.forall_mem_cons.mpr ⟨tb_820, (fun _ h => absurd h List.not_mem_nil)⟩)⟩)⟩)⟩)⟩)⟩)
theorem in_wsX6_call : ∀ w ∈ wsX6_call, w ∈ lw_tbl := (List.forall_mem_cons.mpr ⟨tb_815, (List.forall_mem_append.mpr ⟨(List.forall_mem_append.mpr ⟨(List.forall_mem_append.mpr ⟨in_wsX6_call_r1, in_wsX6_call_r2⟩), inX6⟩), inX3⟩)⟩)
theorem tb_824 : Cond.methodLink RL 142 yX6_call ∈ lw_tbl := List.mem_of_getElem? (i := 752) (by decide +kernel)
theorem tb_825 : Cond.instanceMethod yX6_call ∈ lw_tbl := List.mem_of_getElem? (i := 753) (by decide +kernel)
theorem tb_826 : Cond.selects RX6 yX6_call yX6_call ∈ lw_tbl := List.mem_of_getElem? (i := 754) (by decide +kernel)
theorem gg_gL_law_X6_call : ∀ w ∈ wsV RL 142 RX6 yX6_call wsX6_call, w ∈ lw_tbl := List.forall_mem_append.mpr ⟨(List.forall_mem_cons.mpr ⟨tb_824, (List.forall_mem_cons.mpr ⟨tb_825, (List.forall_mem_cons.mpr ⟨tb_826, (List.forall_mem_cons.mpr ⟨tb_36, (fun _ h => absurd h List.not_mem_nil)⟩)⟩)⟩)⟩), in_wsX6_call⟩
set_option maxRecDepth 20000 in
theorem gL_law_X6_call : GoodIn lw_tbl (wsV RL 142 RX6 yX6_call wsX6_call) := goodIn_sub gg_gL_law_X6_call (by decide +kernel)
theorem tb_827 : Cond.code yX7_call cX7_call 2 (some .int) ∈ lw_tbl := List.mem_of_getElem? (i := 1174) (by decide +kernel)
theorem in_wsX7_call : ∀ w ∈ wsX7_call, w ∈ lw_tbl := (List.forall_mem_cons.mpr ⟨tb_827, (List.forall_mem_append.mpr ⟨(List.forall_mem_cons.mpr ⟨tb_78, (List.forall_mem_cons.mpr ⟨tb_687, (List.forall_mem_cons.mpr ⟨tb_686, (List.forall_mem_cons.mpr ⟨tb_685, (List.forall_mem_cons.mpr ⟨tb_230, (List.forall_mem_cons.mpr ⟨tb_684, (List.forall_mem_cons.mpr ⟨tb_193, (List.forall_mem_cons.mpr ⟨tb_811, (List.forall_mem_cons.mpr ⟨tb_810, (List.forall_mem_cons.mpr ⟨tb_809, (List.forall_mem_cons.mpr ⟨tb_808, (List.forall_mem_cons.mpr ⟨tb_807, (fun _ h => absurd h List.not_mem_nil)⟩)⟩)⟩)⟩)⟩)⟩)⟩)⟩)⟩)⟩)⟩)⟩), inX7⟩)⟩)
theorem tb_828 : Cond.methodLink RL 145 yX7_call ∈ lw_tbl := List.mem_of_getElem? (i := 1171) (by decide +kernel)
theorem tb_829 : Cond.instanceMethod yX7_call ∈ lw_tbl := List.mem_of_getElem? (i := 1172) (by decide +kernel)
theorem tb_830 : Cond.selects RX7 yX7_call yX7_call ∈ lw_tbl := List.mem_of_getElem? (i := 1173) (by decide +kernel)
theorem gg_gL_law_X7_call : ∀ w ∈ wsV RL 145 RX7 yX7_call wsX7_call, w ∈ lw_tbl := List.forall_mem_append.mpr ⟨(List.forall_mem_cons.mpr ⟨tb_828, (List.forall_mem_cons.mpr ⟨tb_829, (List.forall_mem_cons.mpr ⟨tb_830, (List.forall_mem_cons.mpr ⟨tb_230, (fun _ h => absurd h List.not_mem_nil)⟩)⟩)⟩)⟩), in_wsX7_call⟩
set_option maxRecDepth 20000 in
theorem gL_law_X7_call : GoodIn lw_tbl (wsV RL 145 RX7 yX7_call wsX7_call) := goodIn_sub gg_gL_law_X7_call (by decide +kernel)
theorem tb_831 : Cond.code yX6_as cX6_as 3 (some .int) ∈ lw_tbl := List.mem_of_getElem? (i := 767) (by decide +kernel)
theorem in_wsX6_as : ∀ w ∈ wsX6_as, w ∈ lw_tbl := (List.forall_mem_cons.mpr ⟨tb_831, (List.forall_mem_append.mpr ⟨(List.forall_mem_append.mpr ⟨(List.forall_mem_cons.mpr ⟨tb_115, (List.forall_mem_cons.mpr ⟨tb_46, (List.forall_mem_cons.mpr ⟨tb_679, (List.forall_mem_cons.mpr ⟨tb_678, (List.forall_mem_cons.mpr ⟨tb_677, (List.forall_mem_cons.mpr ⟨tb_47, (List.forall_mem_cons.mpr ⟨tb_676, (List.forall_mem_cons.mpr ⟨tb_184, (List.forall_mem_cons.mpr ⟨tb_110, (List.forall_mem_cons.mpr ⟨tb_36, (List.forall_mem_cons.mpr ⟨tb_109, (List.forall_mem_cons.mpr ⟨tb_108, (List.forall_mem_cons.mpr ⟨tb_675, (List.forall_mem_cons.mpr ⟨tb_674, (List.forall_mem_cons.mpr ⟨tb_673, (List.forall_mem_cons.mpr ⟨tb_672, (List.forall_mem_cons.mpr ⟨tb_266, (List.forall_mem_cons.mpr ⟨tb_136, (List.forall_mem_cons.mpr ⟨tb_135, (List.forall_mem_cons.mpr ⟨tb_134, (List.forall_mem_cons.mpr ⟨tb_133, (List.forall_mem_cons.mpr ⟨tb_132, (List.forall_mem_cons.mpr ⟨tb_131, (fun _ h => absurd h List.not_mem_nil)⟩)⟩)⟩)⟩)⟩)⟩)⟩)⟩)⟩)⟩)⟩)⟩)⟩)⟩)⟩)⟩)⟩)⟩)⟩)⟩)⟩)⟩)⟩), inX6⟩), inX3⟩)⟩)
theorem tb_832 : Cond.methodLink RL 146 yX6_as ∈ lw_tbl := List.mem_of_getElem? (i := 764) (by decide +kernel)
theorem tb_833 : Cond.instanceMethod yX6_as ∈ lw_tbl := List.mem_of_getElem? (i := 765) (by decide +kernel)
theorem tb_834 : Cond.selects RX6 yX6_as yX6_as ∈ lw_tbl := List.mem_of_getElem? (i := 766) (by decide +kernel)
theorem gg_gL_law_X6_as : ∀ w ∈ wsV RL 146 RX6 yX6_as wsX6_as, w ∈ lw_tbl := List.forall_mem_append.mpr ⟨(List.forall_mem_cons.mpr ⟨tb_832, (List.forall_mem_cons.mpr ⟨tb_833, (List.forall_mem_cons.mpr ⟨tb_834, (List.forall_mem_cons.mpr ⟨tb_36, (fun _ h => absurd h List.not_mem_nil)⟩)⟩)⟩)⟩), in_wsX6_as⟩
set_option maxRecDepth 20000 in
theorem gL_law_X6_as : GoodIn lw_tbl (wsV RL 146 RX6 yX6_as wsX6_as) := goodIn_sub gg_gL_law_X6_as (by decide +kernel)
theorem tb_835 : Cond.code yX7_as cX7_as 3 (some .int) ∈ lw_tbl := List.mem_of_getElem? (i := 1178) (by decide +kernel)
theorem in_wsX7_as : ∀ w ∈ wsX7_as, w ∈ lw_tbl := (List.forall_mem_cons.mpr ⟨tb_835, (List.forall_mem_append.mpr ⟨(List.forall_mem_cons.mpr ⟨tb_206, (List.forall_mem_cons.mpr ⟨tb_78, (List.forall_mem_cons.mpr ⟨tb_687, (List.forall_mem_cons.mpr ⟨tb_686, (List.forall_mem_cons.mpr ⟨tb_685, (List.forall_mem_cons.mpr ⟨tb_230, (List.forall_mem_cons.mpr ⟨tb_684, (List.forall_mem_cons.mpr ⟨tb_193, (List.forall_mem_cons.mpr ⟨tb_228, (List.forall_mem_cons.mpr ⟨tb_227, (List.forall_mem_cons.mpr ⟨tb_226, (List.forall_mem_cons.mpr ⟨tb_222, (List.forall_mem_cons.mpr ⟨tb_221, (List.forall_mem_cons.mpr ⟨tb_220, (List.forall_mem_cons.mpr ⟨tb_219, (fun _ h => absurd h List.not_mem_nil)⟩)⟩)⟩)⟩)⟩)⟩)⟩)⟩)⟩)⟩)⟩)⟩)⟩)⟩)⟩), inX7⟩)⟩)
theorem tb_836 : Cond.methodLink RL 149 yX7_as ∈ lw_tbl := List.mem_of_getElem? (i := 1175) (by decide +kernel)
theorem tb_837 : Cond.instanceMethod yX7_as ∈ lw_tbl := List.mem_of_getElem? (i := 1176) (by decide +kernel)
theorem tb_838 : Cond.selects RX7 yX7_as yX7_as ∈ lw_tbl := List.mem_of_getElem? (i := 1177) (by decide +kernel)
theorem gg_gL_law_X7_as : ∀ w ∈ wsV RL 149 RX7 yX7_as wsX7_as, w ∈ lw_tbl := List.forall_mem_append.mpr ⟨(List.forall_mem_cons.mpr ⟨tb_836, (List.forall_mem_cons.mpr ⟨tb_837, (List.forall_mem_cons.mpr ⟨tb_838, (List.forall_mem_cons.mpr ⟨tb_230, (fun _ h => absurd h List.not_mem_nil)⟩)⟩)⟩)⟩), in_wsX7_as⟩
set_option maxRecDepth 20000 in
theorem gL_law_X7_as : GoodIn lw_tbl (wsV RL 149 RX7 yX7_as wsX7_as) := goodIn_sub gg_gL_law_X7_as (by decide +kernel)
theorem tb_839 : Cond.code yX6_trace cX6_trace 1 (some .int) ∈ lw_tbl := List.mem_of_getElem? (i := 771) (by decide +kernel)
theorem in_wsX6_trace : ∀ w ∈ wsX6_trace, w ∈ lw_tbl := (List.forall_mem_cons.mpr ⟨tb_839, (List.forall_mem_append.mpr ⟨(List.forall_mem_cons.mpr ⟨tb_788, (fun _ h => absurd h List.not_mem_nil)⟩), inX6⟩)⟩)
theorem tb_840 : Cond.methodLink RL 150 yX6_trace ∈ lw_tbl := List.mem_of_getElem? (i := 768) (by decide +kernel)
theorem tb_841 : Cond.instanceMethod yX6_trace ∈ lw_tbl := List.mem_of_getElem? (i := 769) (by decide +kernel)
theorem tb_842 : Cond.selects RX6 yX6_trace yX6_trace ∈ lw_tbl := List.mem_of_getElem? (i := 770) (by decide +kernel)
theorem gg_gL_law_X6_trace : ∀ w ∈ wsV RL 150 RX6 yX6_trace wsX6_trace, w ∈ lw_tbl := List.forall_mem_append.mpr ⟨(List.forall_mem_cons.mpr ⟨tb_840, (List.forall_mem_cons.mpr ⟨tb_841, (List.forall_mem_cons.mpr ⟨tb_842, (List.forall_mem_cons.mpr ⟨tb_36, (fun _ h => absurd h List.not_mem_nil)⟩)⟩)⟩)⟩), in_wsX6_trace⟩
set_option maxRecDepth 20000 in
theorem gL_law_X6_trace : GoodIn lw_tbl (wsV RL 150 RX6 yX6_trace wsX6_trace) := goodIn_sub gg_gL_law_X6_trace (by decide +kernel)
theorem tb_843 : Cond.code yX7_trace cX7_trace 1 (some .int) ∈ lw_tbl := List.mem_of_getElem? (i := 1182) (by decide +kernel)
theorem in_wsX7_trace : ∀ w ∈ wsX7_trace, w ∈ lw_tbl := (List.forall_mem_cons.mpr ⟨tb_843, (List.forall_mem_append.mpr ⟨(List.forall_mem_cons.mpr ⟨tb_807, (fun _ h => absurd h List.not_mem_nil)⟩), inX7⟩)⟩)
theorem tb_844 : Cond.methodLink RL 153 yX7_trace ∈ lw_tbl := List.mem_of_getElem? (i := 1179) (by decide +kernel)
theorem tb_845 : Cond.instanceMethod yX7_trace ∈ lw_tbl := List.mem_of_getElem? (i := 1180) (by decide +kernel)
theorem tb_846 : Cond.selects RX7 yX7_trace yX7_trace ∈ lw_tbl := List.mem_of_getElem? (i := 1181) (by decide +kernel)
theorem gg_gL_law_X7_trace : ∀ w ∈ wsV RL 153 RX7 yX7_trace wsX7_trace, w ∈ lw_tbl := List.forall_mem_append.mpr ⟨(List.forall_mem_cons.mpr ⟨tb_844, (List.forall_mem_cons.mpr ⟨tb_845, (List.forall_mem_cons.mpr ⟨tb_846, (List.forall_mem_cons.mpr ⟨tb_230, (fun _ h => absurd h List.not_mem_nil)⟩)⟩)⟩)⟩), in_wsX7_trace⟩
set_option maxRecDepth 20000 in
theorem gL_law_X7_trace : GoodIn lw_tbl (wsV RL 153 RX7 yX7_trace wsX7_trace) := goodIn_sub gg_gL_law_X7_trace (by decide +kernel)
theorem tb_847 : Cond.code yX6_fault cX6_fault 1 (some .int) ∈ lw_tbl := List.mem_of_getElem? (i := 775) (by decide +kernel)
theorem in_wsX6_fault : ∀ w ∈ wsX6_fault, w ∈ lw_tbl := (List.forall_mem_cons.mpr ⟨tb_847, (List.forall_mem_append.mpr ⟨(List.forall_mem_cons.mpr ⟨tb_115, (fun _ h => absurd h List.not_mem_nil)⟩), inX6⟩)⟩)
theorem tb_848 : Cond.methodLink RL 154 yX6_fault ∈ lw_tbl := List.mem_of_getElem? (i := 772) (by decide +kernel)
theorem tb_849 : Cond.instanceMethod yX6_fault ∈ lw_tbl := List.mem_of_getElem? (i := 773) (by decide +kernel)
theorem tb_850 : Cond.selects RX6 yX6_fault yX6_fault ∈ lw_tbl := List.mem_of_getElem? (i := 774) (by decide +kernel)
theorem gg_gL_law_X6_fault : ∀ w ∈ wsV RL 154 RX6 yX6_fault wsX6_fault, w ∈ lw_tbl := List.forall_mem_append.mpr ⟨(List.forall_mem_cons.mpr ⟨tb_848, (List.forall_mem_cons.mpr ⟨tb_849, (List.forall_mem_cons.mpr ⟨tb_850, (List.forall_mem_cons.mpr ⟨tb_36, (fun _ h => absurd h List.not_mem_nil)⟩)⟩)⟩)⟩), in_wsX6_fault⟩
set_option maxRecDepth 20000 in
theorem gL_law_X6_fault : GoodIn lw_tbl (wsV RL 154 RX6 yX6_fault wsX6_fault) := goodIn_sub gg_gL_law_X6_fault (by decide +kernel)
theorem tb_851 : Cond.code yX7_fault cX7_fault 1 (some .int) ∈ lw_tbl := List.mem_of_getElem? (i := 1186) (by decide +kernel)
theorem in_wsX7_fault : ∀ w ∈ wsX7_fault, w ∈ lw_tbl := (List.forall_mem_cons.mpr ⟨tb_851, (List.forall_mem_append.mpr ⟨(List.forall_mem_cons.mpr ⟨tb_206, (fun _ h => absurd h List.not_mem_nil)⟩), inX7⟩)⟩)
theorem tb_852 : Cond.methodLink RL 157 yX7_fault ∈ lw_tbl := List.mem_of_getElem? (i := 1183) (by decide +kernel)
theorem tb_853 : Cond.instanceMethod yX7_fault ∈ lw_tbl := List.mem_of_getElem? (i := 1184) (by decide +kernel)
theorem tb_854 : Cond.selects RX7 yX7_fault yX7_fault ∈ lw_tbl := List.mem_of_getElem? (i := 1185) (by decide +kernel)
theorem gg_gL_law_X7_fault : ∀ w ∈ wsV RL 157 RX7 yX7_fault wsX7_fault, w ∈ lw_tbl := List.forall_mem_append.mpr ⟨(List.forall_mem_cons.mpr ⟨tb_852, (List.forall_mem_cons.mpr ⟨tb_853, (List.forall_mem_cons.mpr ⟨tb_854, (List.forall_mem_cons.mpr ⟨tb_230, (fun _ h => absurd h List.not_mem_nil)⟩)⟩)⟩)⟩), in_wsX7_fault⟩
set_option maxRecDepth 20000 in
theorem gL_law_X7_fault : GoodIn lw_tbl (wsV RL 157 RX7 yX7_fault wsX7_fault) := goodIn_sub gg_gL_law_X7_fault (by decide +kernel)
theorem tb_855 : Cond.code yX6_many cX6_many 2 (some .int) ∈ lw_tbl := List.mem_of_getElem? (i := 779) (by decide +kernel)
theorem tb_856 : Cond.code yX3_done cX3_done 3 (some .int) ∈ lw_tbl := List.mem_of_getElem? (i := 783) (by decide +kernel)
theorem tb_857 : Cond.selects RX3 yX3_done yX3_done ∈ lw_tbl := List.mem_of_getElem? (i := 782) (by decide +kernel)
theorem tb_858 : Cond.instanceMethod yX3_done ∈ lw_tbl := List.mem_of_getElem? (i := 781) (by decide +kernel)
theorem tb_859 : Cond.methodLink RX6 331 yX3_done ∈ lw_tbl := List.mem_of_getElem? (i := 780) (by decide +kernel)
theorem in_wsX6_many : ∀ w ∈ wsX6_many, w ∈ lw_tbl := (List.forall_mem_cons.mpr ⟨tb_855, (List.forall_mem_append.mpr ⟨(List.forall_mem_append.mpr ⟨(List.forall_mem_append.mpr ⟨(List.forall_mem_cons.mpr ⟨tb_10, (List.forall_mem_cons.mpr ⟨tb_46, (List.forall_mem_cons.mpr ⟨tb_859, (List.forall_mem_cons.mpr ⟨tb_858, (List.forall_mem_cons.mpr ⟨tb_857, (List.forall_mem_cons.mpr ⟨tb_47, (List.forall_mem_cons.mpr ⟨tb_856, (List.forall_mem_cons.mpr ⟨tb_184, (List.forall_mem_cons.mpr ⟨tb_51, (List.forall_mem_cons.mpr ⟨tb_136, (List.forall_mem_cons.mpr ⟨tb_36, (List.forall_mem_cons.mpr ⟨tb_135, (fun _ h => absurd h List.not_mem_nil)⟩)⟩)⟩)⟩)⟩)⟩)⟩)⟩)⟩)⟩)⟩)⟩), inX6⟩), inX2⟩), inX3⟩)⟩)
theorem tb_860 : Cond.methodLink RL 158 yX6_many ∈ lw_tbl := List.mem_of_getElem? (i := 776) (by decide +kernel)
theorem tb_861 : Cond.instanceMethod yX6_many ∈ lw_tbl := List.mem_of_getElem? (i := 777) (by decide +kernel)
theorem tb_862 : Cond.selects RX6 yX6_many yX6_many ∈ lw_tbl := List.mem_of_getElem? (i := 778) (by decide +kernel)
theorem gg_gL_law_X6_many : ∀ w ∈ wsV RL 158 RX6 yX6_many wsX6_many, w ∈ lw_tbl := List.forall_mem_append.mpr ⟨(List.forall_mem_cons.mpr ⟨tb_860, (List.forall_mem_cons.mpr ⟨tb_861, (List.forall_mem_cons.mpr ⟨tb_862, (List.forall_mem_cons.mpr ⟨tb_36, (fun _ h => absurd h List.not_mem_nil)⟩)⟩)⟩)⟩), in_wsX6_many⟩
set_option maxRecDepth 20000 in
theorem gL_law_X6_many : GoodIn lw_tbl (wsV RL 158 RX6 yX6_many wsX6_many) := goodIn_sub gg_gL_law_X6_many (by decide +kernel)
theorem tb_863 : Cond.code yX7_many cX7_many 4 (some .int) ∈ lw_tbl := List.mem_of_getElem? (i := 1190) (by decide +kernel)
theorem in_wsX7_many : ∀ w ∈ wsX7_many, w ∈ lw_tbl := (List.forall_mem_cons.mpr ⟨tb_863, (List.forall_mem_append.mpr ⟨(List.forall_mem_cons.mpr ⟨tb_193, (List.forall_mem_cons.mpr ⟨tb_78, (List.forall_mem_cons.mpr ⟨tb_197, (List.forall_mem_cons.mpr ⟨tb_192, (List.forall_mem_cons.mpr ⟨tb_667, (List.forall_mem_cons.mpr ⟨tb_666, (List.forall_mem_cons.mpr ⟨tb_665, (List.forall_mem_cons.mpr ⟨tb_230, (List.forall_mem_cons.mpr ⟨tb_664, (fun _ h => absurd h List.not_mem_nil)⟩)⟩)⟩)⟩)⟩)⟩)⟩)⟩)⟩), inX7⟩)⟩)
theorem tb_864 : Cond.methodLink RL 161 yX7_many ∈ lw_tbl := List.mem_of_getElem? (i := 1187) (by decide +kernel)
theorem tb_865 : Cond.instanceMethod yX7_many ∈ lw_tbl := List.mem_of_getElem? (i := 1188) (by decide +kernel)
theorem tb_866 : Cond.selects RX7 yX7_many yX7_many ∈ lw_tbl := List.mem_of_getElem? (i := 1189) (by decide +kernel)
theorem gg_gL_law_X7_many : ∀ w ∈ wsV RL 161 RX7 yX7_many wsX7_many, w ∈ lw_tbl := List.forall_mem_append.mpr ⟨(List.forall_mem_cons.mpr ⟨tb_864, (List.forall_mem_cons.mpr ⟨tb_865, (List.forall_mem_cons.mpr ⟨tb_866, (List.forall_mem_cons.mpr ⟨tb_230, (fun _ h => absurd h List.not_mem_nil)⟩)⟩)⟩)⟩), in_wsX7_many⟩
set_option maxRecDepth 20000 in
theorem gL_law_X7_many : GoodIn lw_tbl (wsV RL 161 RX7 yX7_many wsX7_many) := goodIn_sub gg_gL_law_X7_many (by decide +kernel)
theorem dL_law_0 : decode cL_law 0 = .ok (.new 7, 3) := by decide +kernel
theorem dL_law_3 : decode cL_law 3 = .ok (.dup, 1) := by decide +kernel
theorem dL_law_4 : decode cL_law 4 = .ok (.invokespecial 9, 3) := by decide +kernel
theorem dL_law_7 : decode cL_law 7 = .ok (.astore_n 1, 1) := by decide +kernel
theorem dL_law_8 : decode cL_law 8 = .ok (.new 10, 3) := by decide +kernel
theorem dL_law_11 : decode cL_law 11 = .ok (.dup, 1) := by decide +kernel
theorem dL_law_12 : decode cL_law 12 = .ok (.invokespecial 12, 3) := by decide +kernel
theorem dL_law_15 : decode cL_law 15 = .ok (.astore_n 2, 1) := by decide +kernel
theorem dL_law_16 : decode cL_law 16 = .ok (.iconst 0, 1) := by decide +kernel
theorem dL_law_17 : decode cL_law 17 = .ok (.istore_n 3, 1) := by decide +kernel
theorem dL_law_18 : decode cL_law 18 = .ok (.iload_n 3, 1) := by decide +kernel
theorem dL_law_19 : decode cL_law 19 = .ok (.aload_n 0, 1) := by decide +kernel
theorem dL_law_20 : decode cL_law 20 = .ok (.arraylength, 1) := by decide +kernel
theorem dL_law_21 : decode cL_law 21 = .ok (.iconst 5, 1) := by decide +kernel
theorem dL_law_22 : decode cL_law 22 = .ok (.isub, 1) := by decide +kernel
theorem dL_law_23 : decode cL_law 23 = .ok (.if_icmp .gt 1195, 3) := by decide +kernel
theorem dL_law_26 : decode cL_law 26 = .ok (.aload_n 0, 1) := by decide +kernel
theorem dL_law_27 : decode cL_law 27 = .ok (.iload_n 3, 1) := by decide +kernel
theorem dL_law_28 : decode cL_law 28 = .ok (.iaload, 1) := by decide +kernel
theorem dL_law_29 : decode cL_law 29 = .ok (.bipush 63, 2) := by decide +kernel
theorem dL_law_31 : decode cL_law 31 = .ok (.iand, 1) := by decide +kernel
theorem dL_law_32 : decode cL_law 32 = .ok (.tableswitch 1180 0 34 #[156, 209, 232, 265, 298, 321, 354, 377, 411, 435, 469, 503, 557, 591, 615, 638, 671, 694, 738, 751, 774, 807, 840, 863, 886, 899, 942, 965, 1008, 1052, 1075, 1098, 1131, 1144, 1157], 156) := by decide +kernel
theorem dL_law_188 : decode cL_law 188 = .ok (.aload_n 1, 1) := by decide +kernel
theorem dL_law_189 : decode cL_law 189 = .ok (.aload_n 0, 1) := by decide +kernel
theorem dL_law_190 : decode cL_law 190 = .ok (.iload_n 3, 1) := by decide +kernel
theorem dL_law_191 : decode cL_law 191 = .ok (.iconst 1, 1) := by decide +kernel
theorem dL_law_192 : decode cL_law 192 = .ok (.iadd, 1) := by decide +kernel
theorem dL_law_193 : decode cL_law 193 = .ok (.iaload, 1) := by decide +kernel
theorem dL_law_194 : decode cL_law 194 = .ok (.aload_n 0, 1) := by decide +kernel
theorem dL_law_195 : decode cL_law 195 = .ok (.iload_n 3, 1) := by decide +kernel
theorem dL_law_196 : decode cL_law 196 = .ok (.iconst 2, 1) := by decide +kernel
theorem dL_law_197 : decode cL_law 197 = .ok (.iadd, 1) := by decide +kernel
theorem dL_law_198 : decode cL_law 198 = .ok (.iaload, 1) := by decide +kernel
theorem dL_law_199 : decode cL_law 199 = .ok (.aload_n 0, 1) := by decide +kernel
theorem dL_law_200 : decode cL_law 200 = .ok (.iload_n 3, 1) := by decide +kernel
theorem dL_law_201 : decode cL_law 201 = .ok (.iconst 3, 1) := by decide +kernel
theorem dL_law_202 : decode cL_law 202 = .ok (.iadd, 1) := by decide +kernel
theorem dL_law_203 : decode cL_law 203 = .ok (.iaload, 1) := by decide +kernel
theorem dL_law_204 : decode cL_law 204 = .ok (.aload_n 0, 1) := by decide +kernel
theorem dL_law_205 : decode cL_law 205 = .ok (.iload_n 3, 1) := by decide +kernel
theorem dL_law_206 : decode cL_law 206 = .ok (.iconst 4, 1) := by decide +kernel
theorem dL_law_207 : decode cL_law 207 = .ok (.iadd, 1) := by decide +kernel
theorem dL_law_208 : decode cL_law 208 = .ok (.iaload, 1) := by decide +kernel
theorem dL_law_209 : decode cL_law 209 = .ok (.invokevirtual 13, 3) := by decide +kernel
theorem dL_law_212 : decode cL_law 212 = .ok (.aload_n 2, 1) := by decide +kernel
theorem dL_law_213 : decode cL_law 213 = .ok (.aload_n 0, 1) := by decide +kernel
theorem dL_law_214 : decode cL_law 214 = .ok (.iload_n 3, 1) := by decide +kernel
theorem dL_law_215 : decode cL_law 215 = .ok (.iconst 1, 1) := by decide +kernel
theorem dL_law_216 : decode cL_law 216 = .ok (.iadd, 1) := by decide +kernel
theorem dL_law_217 : decode cL_law 217 = .ok (.iaload, 1) := by decide +kernel
theorem dL_law_218 : decode cL_law 218 = .ok (.aload_n 0, 1) := by decide +kernel
theorem dL_law_219 : decode cL_law 219 = .ok (.iload_n 3, 1) := by decide +kernel
theorem dL_law_220 : decode cL_law 220 = .ok (.iconst 2, 1) := by decide +kernel
theorem dL_law_221 : decode cL_law 221 = .ok (.iadd, 1) := by decide +kernel
theorem dL_law_222 : decode cL_law 222 = .ok (.iaload, 1) := by decide +kernel
theorem dL_law_223 : decode cL_law 223 = .ok (.aload_n 0, 1) := by decide +kernel
theorem dL_law_224 : decode cL_law 224 = .ok (.iload_n 3, 1) := by decide +kernel
theorem dL_law_225 : decode cL_law 225 = .ok (.iconst 3, 1) := by decide +kernel
theorem dL_law_226 : decode cL_law 226 = .ok (.iadd, 1) := by decide +kernel
theorem dL_law_227 : decode cL_law 227 = .ok (.iaload, 1) := by decide +kernel
theorem dL_law_228 : decode cL_law 228 = .ok (.aload_n 0, 1) := by decide +kernel
theorem dL_law_229 : decode cL_law 229 = .ok (.iload_n 3, 1) := by decide +kernel
theorem dL_law_230 : decode cL_law 230 = .ok (.iconst 4, 1) := by decide +kernel
theorem dL_law_231 : decode cL_law 231 = .ok (.iadd, 1) := by decide +kernel
theorem dL_law_232 : decode cL_law 232 = .ok (.iaload, 1) := by decide +kernel
theorem dL_law_233 : decode cL_law 233 = .ok (.invokevirtual 17, 3) := by decide +kernel
theorem dL_law_236 : decode cL_law 236 = .ok (.if_icmp .eq 976, 3) := by decide +kernel
theorem dL_law_239 : decode cL_law 239 = .ok (.iconst 0, 1) := by decide +kernel
theorem dL_law_240 : decode cL_law 240 = .ok (.ireturn, 1) := by decide +kernel
theorem dL_law_241 : decode cL_law 241 = .ok (.aload_n 1, 1) := by decide +kernel
theorem dL_law_242 : decode cL_law 242 = .ok (.aload_n 0, 1) := by decide +kernel
theorem dL_law_243 : decode cL_law 243 = .ok (.iload_n 3, 1) := by decide +kernel
theorem dL_law_244 : decode cL_law 244 = .ok (.iconst 1, 1) := by decide +kernel
theorem dL_law_245 : decode cL_law 245 = .ok (.iadd, 1) := by decide +kernel
theorem dL_law_246 : decode cL_law 246 = .ok (.iaload, 1) := by decide +kernel
theorem dL_law_247 : decode cL_law 247 = .ok (.invokevirtual 18, 3) := by decide +kernel
theorem dL_law_250 : decode cL_law 250 = .ok (.aload_n 2, 1) := by decide +kernel
theorem dL_law_251 : decode cL_law 251 = .ok (.aload_n 0, 1) := by decide +kernel
theorem dL_law_252 : decode cL_law 252 = .ok (.iload_n 3, 1) := by decide +kernel
theorem dL_law_253 : decode cL_law 253 = .ok (.iconst 1, 1) := by decide +kernel
theorem dL_law_254 : decode cL_law 254 = .ok (.iadd, 1) := by decide +kernel
theorem dL_law_255 : decode cL_law 255 = .ok (.iaload, 1) := by decide +kernel
theorem dL_law_256 : decode cL_law 256 = .ok (.invokevirtual 22, 3) := by decide +kernel
theorem dL_law_259 : decode cL_law 259 = .ok (.if_icmp .eq 953, 3) := by decide +kernel
theorem dL_law_262 : decode cL_law 262 = .ok (.iconst 0, 1) := by decide +kernel
theorem dL_law_263 : decode cL_law 263 = .ok (.ireturn, 1) := by decide +kernel
theorem dL_law_264 : decode cL_law 264 = .ok (.aload_n 1, 1) := by decide +kernel
theorem dL_law_265 : decode cL_law 265 = .ok (.aload_n 0, 1) := by decide +kernel
theorem dL_law_266 : decode cL_law 266 = .ok (.iload_n 3, 1) := by decide +kernel
theorem dL_law_267 : decode cL_law 267 = .ok (.iconst 1, 1) := by decide +kernel
theorem dL_law_268 : decode cL_law 268 = .ok (.iadd, 1) := by decide +kernel
theorem dL_law_269 : decode cL_law 269 = .ok (.iaload, 1) := by decide +kernel
theorem dL_law_270 : decode cL_law 270 = .ok (.aload_n 0, 1) := by decide +kernel
theorem dL_law_271 : decode cL_law 271 = .ok (.iload_n 3, 1) := by decide +kernel
theorem dL_law_272 : decode cL_law 272 = .ok (.iconst 2, 1) := by decide +kernel
theorem dL_law_273 : decode cL_law 273 = .ok (.iadd, 1) := by decide +kernel
theorem dL_law_274 : decode cL_law 274 = .ok (.iaload, 1) := by decide +kernel
theorem dL_law_275 : decode cL_law 275 = .ok (.invokevirtual 23, 3) := by decide +kernel
theorem dL_law_278 : decode cL_law 278 = .ok (.aload_n 2, 1) := by decide +kernel
theorem dL_law_279 : decode cL_law 279 = .ok (.aload_n 0, 1) := by decide +kernel
theorem dL_law_280 : decode cL_law 280 = .ok (.iload_n 3, 1) := by decide +kernel
theorem dL_law_281 : decode cL_law 281 = .ok (.iconst 1, 1) := by decide +kernel
theorem dL_law_282 : decode cL_law 282 = .ok (.iadd, 1) := by decide +kernel
theorem dL_law_283 : decode cL_law 283 = .ok (.iaload, 1) := by decide +kernel
theorem dL_law_284 : decode cL_law 284 = .ok (.aload_n 0, 1) := by decide +kernel
theorem dL_law_285 : decode cL_law 285 = .ok (.iload_n 3, 1) := by decide +kernel
theorem dL_law_286 : decode cL_law 286 = .ok (.iconst 2, 1) := by decide +kernel
theorem dL_law_287 : decode cL_law 287 = .ok (.iadd, 1) := by decide +kernel
theorem dL_law_288 : decode cL_law 288 = .ok (.iaload, 1) := by decide +kernel
theorem dL_law_289 : decode cL_law 289 = .ok (.invokevirtual 27, 3) := by decide +kernel
theorem dL_law_292 : decode cL_law 292 = .ok (.if_icmp .eq 920, 3) := by decide +kernel
theorem dL_law_295 : decode cL_law 295 = .ok (.iconst 0, 1) := by decide +kernel
theorem dL_law_296 : decode cL_law 296 = .ok (.ireturn, 1) := by decide +kernel
theorem dL_law_297 : decode cL_law 297 = .ok (.aload_n 1, 1) := by decide +kernel
theorem dL_law_298 : decode cL_law 298 = .ok (.aload_n 0, 1) := by decide +kernel
theorem dL_law_299 : decode cL_law 299 = .ok (.iload_n 3, 1) := by decide +kernel
theorem dL_law_300 : decode cL_law 300 = .ok (.iconst 1, 1) := by decide +kernel
theorem dL_law_301 : decode cL_law 301 = .ok (.iadd, 1) := by decide +kernel
theorem dL_law_302 : decode cL_law 302 = .ok (.iaload, 1) := by decide +kernel
theorem dL_law_303 : decode cL_law 303 = .ok (.aload_n 0, 1) := by decide +kernel
theorem dL_law_304 : decode cL_law 304 = .ok (.iload_n 3, 1) := by decide +kernel
theorem dL_law_305 : decode cL_law 305 = .ok (.iconst 2, 1) := by decide +kernel
theorem dL_law_306 : decode cL_law 306 = .ok (.iadd, 1) := by decide +kernel
theorem dL_law_307 : decode cL_law 307 = .ok (.iaload, 1) := by decide +kernel
theorem dL_law_308 : decode cL_law 308 = .ok (.invokevirtual 28, 3) := by decide +kernel
theorem dL_law_311 : decode cL_law 311 = .ok (.aload_n 2, 1) := by decide +kernel
theorem dL_law_312 : decode cL_law 312 = .ok (.aload_n 0, 1) := by decide +kernel
theorem dL_law_313 : decode cL_law 313 = .ok (.iload_n 3, 1) := by decide +kernel
theorem dL_law_314 : decode cL_law 314 = .ok (.iconst 1, 1) := by decide +kernel
theorem dL_law_315 : decode cL_law 315 = .ok (.iadd, 1) := by decide +kernel
theorem dL_law_316 : decode cL_law 316 = .ok (.iaload, 1) := by decide +kernel
theorem dL_law_317 : decode cL_law 317 = .ok (.aload_n 0, 1) := by decide +kernel
theorem dL_law_318 : decode cL_law 318 = .ok (.iload_n 3, 1) := by decide +kernel
theorem dL_law_319 : decode cL_law 319 = .ok (.iconst 2, 1) := by decide +kernel
theorem dL_law_320 : decode cL_law 320 = .ok (.iadd, 1) := by decide +kernel
theorem dL_law_321 : decode cL_law 321 = .ok (.iaload, 1) := by decide +kernel
theorem dL_law_322 : decode cL_law 322 = .ok (.invokevirtual 31, 3) := by decide +kernel
theorem dL_law_325 : decode cL_law 325 = .ok (.if_icmp .eq 887, 3) := by decide +kernel
theorem dL_law_328 : decode cL_law 328 = .ok (.iconst 0, 1) := by decide +kernel
theorem dL_law_329 : decode cL_law 329 = .ok (.ireturn, 1) := by decide +kernel
theorem dL_law_330 : decode cL_law 330 = .ok (.aload_n 1, 1) := by decide +kernel
theorem dL_law_331 : decode cL_law 331 = .ok (.aload_n 0, 1) := by decide +kernel
theorem dL_law_332 : decode cL_law 332 = .ok (.iload_n 3, 1) := by decide +kernel
theorem dL_law_333 : decode cL_law 333 = .ok (.iconst 1, 1) := by decide +kernel
theorem dL_law_334 : decode cL_law 334 = .ok (.iadd, 1) := by decide +kernel
theorem dL_law_335 : decode cL_law 335 = .ok (.iaload, 1) := by decide +kernel
theorem dL_law_336 : decode cL_law 336 = .ok (.invokevirtual 32, 3) := by decide +kernel
theorem dL_law_339 : decode cL_law 339 = .ok (.aload_n 2, 1) := by decide +kernel
theorem dL_law_340 : decode cL_law 340 = .ok (.aload_n 0, 1) := by decide +kernel
theorem dL_law_341 : decode cL_law 341 = .ok (.iload_n 3, 1) := by decide +kernel
theorem dL_law_342 : decode cL_law 342 = .ok (.iconst 1, 1) := by decide +kernel
theorem dL_law_343 : decode cL_law 343 = .ok (.iadd, 1) := by decide +kernel
theorem dL_law_344 : decode cL_law 344 = .ok (.iaload, 1) := by decide +kernel
theorem dL_law_345 : decode cL_law 345 = .ok (.invokevirtual 35, 3) := by decide +kernel
theorem dL_law_348 : decode cL_law 348 = .ok (.if_icmp .eq 864, 3) := by decide +kernel
theorem dL_law_351 : decode cL_law 351 = .ok (.iconst 0, 1) := by decide +kernel
theorem dL_law_352 : decode cL_law 352 = .ok (.ireturn, 1) := by decide +kernel
theorem dL_law_353 : decode cL_law 353 = .ok (.aload_n 1, 1) := by decide +kernel
theorem dL_law_354 : decode cL_law 354 = .ok (.aload_n 0, 1) := by decide +kernel
theorem dL_law_355 : decode cL_law 355 = .ok (.iload_n 3, 1) := by decide +kernel
theorem dL_law_356 : decode cL_law 356 = .ok (.iconst 1, 1) := by decide +kernel
theorem dL_law_357 : decode cL_law 357 = .ok (.iadd, 1) := by decide +kernel
theorem dL_law_358 : decode cL_law 358 = .ok (.iaload, 1) := by decide +kernel
theorem dL_law_359 : decode cL_law 359 = .ok (.aload_n 0, 1) := by decide +kernel
theorem dL_law_360 : decode cL_law 360 = .ok (.iload_n 3, 1) := by decide +kernel
theorem dL_law_361 : decode cL_law 361 = .ok (.iconst 2, 1) := by decide +kernel
theorem dL_law_362 : decode cL_law 362 = .ok (.iadd, 1) := by decide +kernel
theorem dL_law_363 : decode cL_law 363 = .ok (.iaload, 1) := by decide +kernel
theorem dL_law_364 : decode cL_law 364 = .ok (.invokevirtual 36, 3) := by decide +kernel
theorem dL_law_367 : decode cL_law 367 = .ok (.aload_n 2, 1) := by decide +kernel
theorem dL_law_368 : decode cL_law 368 = .ok (.aload_n 0, 1) := by decide +kernel
theorem dL_law_369 : decode cL_law 369 = .ok (.iload_n 3, 1) := by decide +kernel
theorem dL_law_370 : decode cL_law 370 = .ok (.iconst 1, 1) := by decide +kernel
theorem dL_law_371 : decode cL_law 371 = .ok (.iadd, 1) := by decide +kernel
theorem dL_law_372 : decode cL_law 372 = .ok (.iaload, 1) := by decide +kernel
theorem dL_law_373 : decode cL_law 373 = .ok (.aload_n 0, 1) := by decide +kernel
theorem dL_law_374 : decode cL_law 374 = .ok (.iload_n 3, 1) := by decide +kernel
theorem dL_law_375 : decode cL_law 375 = .ok (.iconst 2, 1) := by decide +kernel
theorem dL_law_376 : decode cL_law 376 = .ok (.iadd, 1) := by decide +kernel
theorem dL_law_377 : decode cL_law 377 = .ok (.iaload, 1) := by decide +kernel
theorem dL_law_378 : decode cL_law 378 = .ok (.invokevirtual 39, 3) := by decide +kernel
theorem dL_law_381 : decode cL_law 381 = .ok (.if_icmp .eq 831, 3) := by decide +kernel
theorem dL_law_384 : decode cL_law 384 = .ok (.iconst 0, 1) := by decide +kernel
theorem dL_law_385 : decode cL_law 385 = .ok (.ireturn, 1) := by decide +kernel
theorem dL_law_386 : decode cL_law 386 = .ok (.aload_n 1, 1) := by decide +kernel
theorem dL_law_387 : decode cL_law 387 = .ok (.aload_n 0, 1) := by decide +kernel
theorem dL_law_388 : decode cL_law 388 = .ok (.iload_n 3, 1) := by decide +kernel
theorem dL_law_389 : decode cL_law 389 = .ok (.iconst 1, 1) := by decide +kernel
theorem dL_law_390 : decode cL_law 390 = .ok (.iadd, 1) := by decide +kernel
theorem dL_law_391 : decode cL_law 391 = .ok (.iaload, 1) := by decide +kernel
theorem dL_law_392 : decode cL_law 392 = .ok (.invokevirtual 40, 3) := by decide +kernel
theorem dL_law_395 : decode cL_law 395 = .ok (.aload_n 2, 1) := by decide +kernel
theorem dL_law_396 : decode cL_law 396 = .ok (.aload_n 0, 1) := by decide +kernel
theorem dL_law_397 : decode cL_law 397 = .ok (.iload_n 3, 1) := by decide +kernel
theorem dL_law_398 : decode cL_law 398 = .ok (.iconst 1, 1) := by decide +kernel
theorem dL_law_399 : decode cL_law 399 = .ok (.iadd, 1) := by decide +kernel
theorem dL_law_400 : decode cL_law 400 = .ok (.iaload, 1) := by decide +kernel
theorem dL_law_401 : decode cL_law 401 = .ok (.invokevirtual 43, 3) := by decide +kernel
theorem dL_law_404 : decode cL_law 404 = .ok (.if_icmp .eq 808, 3) := by decide +kernel
theorem dL_law_407 : decode cL_law 407 = .ok (.iconst 0, 1) := by decide +kernel
theorem dL_law_408 : decode cL_law 408 = .ok (.ireturn, 1) := by decide +kernel
theorem dL_law_409 : decode cL_law 409 = .ok (.aload_n 1, 1) := by decide +kernel
theorem dL_law_410 : decode cL_law 410 = .ok (.aload_n 0, 1) := by decide +kernel
theorem dL_law_411 : decode cL_law 411 = .ok (.iload_n 3, 1) := by decide +kernel
theorem dL_law_412 : decode cL_law 412 = .ok (.iconst 1, 1) := by decide +kernel
theorem dL_law_413 : decode cL_law 413 = .ok (.iadd, 1) := by decide +kernel
theorem dL_law_414 : decode cL_law 414 = .ok (.iaload, 1) := by decide +kernel
theorem dL_law_415 : decode cL_law 415 = .ok (.aload_n 0, 1) := by decide +kernel
theorem dL_law_416 : decode cL_law 416 = .ok (.iload_n 3, 1) := by decide +kernel
theorem dL_law_417 : decode cL_law 417 = .ok (.iconst 2, 1) := by decide +kernel
theorem dL_law_418 : decode cL_law 418 = .ok (.iadd, 1) := by decide +kernel
theorem dL_law_419 : decode cL_law 419 = .ok (.iaload, 1) := by decide +kernel
theorem dL_law_420 : decode cL_law 420 = .ok (.invokevirtual 44, 3) := by decide +kernel
theorem dL_law_423 : decode cL_law 423 = .ok (.aload_n 2, 1) := by decide +kernel
theorem dL_law_424 : decode cL_law 424 = .ok (.aload_n 0, 1) := by decide +kernel
theorem dL_law_425 : decode cL_law 425 = .ok (.iload_n 3, 1) := by decide +kernel
theorem dL_law_426 : decode cL_law 426 = .ok (.iconst 1, 1) := by decide +kernel
theorem dL_law_427 : decode cL_law 427 = .ok (.iadd, 1) := by decide +kernel
theorem dL_law_428 : decode cL_law 428 = .ok (.iaload, 1) := by decide +kernel
theorem dL_law_429 : decode cL_law 429 = .ok (.aload_n 0, 1) := by decide +kernel
theorem dL_law_430 : decode cL_law 430 = .ok (.iload_n 3, 1) := by decide +kernel
theorem dL_law_431 : decode cL_law 431 = .ok (.iconst 2, 1) := by decide +kernel
theorem dL_law_432 : decode cL_law 432 = .ok (.iadd, 1) := by decide +kernel
theorem dL_law_433 : decode cL_law 433 = .ok (.iaload, 1) := by decide +kernel
theorem dL_law_434 : decode cL_law 434 = .ok (.invokevirtual 48, 3) := by decide +kernel
theorem dL_law_437 : decode cL_law 437 = .ok (.lcmp, 1) := by decide +kernel
theorem dL_law_438 : decode cL_law 438 = .ok (.ifCond .eq 774, 3) := by decide +kernel
theorem dL_law_441 : decode cL_law 441 = .ok (.iconst 0, 1) := by decide +kernel
theorem dL_law_442 : decode cL_law 442 = .ok (.ireturn, 1) := by decide +kernel
theorem dL_law_443 : decode cL_law 443 = .ok (.aload_n 1, 1) := by decide +kernel
theorem dL_law_444 : decode cL_law 444 = .ok (.aload_n 0, 1) := by decide +kernel
theorem dL_law_445 : decode cL_law 445 = .ok (.iload_n 3, 1) := by decide +kernel
theorem dL_law_446 : decode cL_law 446 = .ok (.iconst 1, 1) := by decide +kernel
theorem dL_law_447 : decode cL_law 447 = .ok (.iadd, 1) := by decide +kernel
theorem dL_law_448 : decode cL_law 448 = .ok (.iaload, 1) := by decide +kernel
theorem dL_law_449 : decode cL_law 449 = .ok (.invokevirtual 49, 3) := by decide +kernel
theorem dL_law_452 : decode cL_law 452 = .ok (.aload_n 2, 1) := by decide +kernel
theorem dL_law_453 : decode cL_law 453 = .ok (.aload_n 0, 1) := by decide +kernel
theorem dL_law_454 : decode cL_law 454 = .ok (.iload_n 3, 1) := by decide +kernel
theorem dL_law_455 : decode cL_law 455 = .ok (.iconst 1, 1) := by decide +kernel
theorem dL_law_456 : decode cL_law 456 = .ok (.iadd, 1) := by decide +kernel
theorem dL_law_457 : decode cL_law 457 = .ok (.iaload, 1) := by decide +kernel
theorem dL_law_458 : decode cL_law 458 = .ok (.invokevirtual 53, 3) := by decide +kernel
theorem dL_law_461 : decode cL_law 461 = .ok (.lcmp, 1) := by decide +kernel
theorem dL_law_462 : decode cL_law 462 = .ok (.ifCond .eq 750, 3) := by decide +kernel
theorem dL_law_465 : decode cL_law 465 = .ok (.iconst 0, 1) := by decide +kernel
theorem dL_law_466 : decode cL_law 466 = .ok (.ireturn, 1) := by decide +kernel
theorem dL_law_467 : decode cL_law 467 = .ok (.aload_n 1, 1) := by decide +kernel
theorem dL_law_468 : decode cL_law 468 = .ok (.aload_n 0, 1) := by decide +kernel
theorem dL_law_469 : decode cL_law 469 = .ok (.iload_n 3, 1) := by decide +kernel
theorem dL_law_470 : decode cL_law 470 = .ok (.iconst 1, 1) := by decide +kernel
theorem dL_law_471 : decode cL_law 471 = .ok (.iadd, 1) := by decide +kernel
theorem dL_law_472 : decode cL_law 472 = .ok (.iaload, 1) := by decide +kernel
theorem dL_law_473 : decode cL_law 473 = .ok (.aload_n 0, 1) := by decide +kernel
theorem dL_law_474 : decode cL_law 474 = .ok (.iload_n 3, 1) := by decide +kernel
theorem dL_law_475 : decode cL_law 475 = .ok (.iconst 2, 1) := by decide +kernel
theorem dL_law_476 : decode cL_law 476 = .ok (.iadd, 1) := by decide +kernel
theorem dL_law_477 : decode cL_law 477 = .ok (.iaload, 1) := by decide +kernel
theorem dL_law_478 : decode cL_law 478 = .ok (.invokevirtual 54, 3) := by decide +kernel
theorem dL_law_481 : decode cL_law 481 = .ok (.aload_n 2, 1) := by decide +kernel
theorem dL_law_482 : decode cL_law 482 = .ok (.aload_n 0, 1) := by decide +kernel
theorem dL_law_483 : decode cL_law 483 = .ok (.iload_n 3, 1) := by decide +kernel
theorem dL_law_484 : decode cL_law 484 = .ok (.iconst 1, 1) := by decide +kernel
theorem dL_law_485 : decode cL_law 485 = .ok (.iadd, 1) := by decide +kernel
theorem dL_law_486 : decode cL_law 486 = .ok (.iaload, 1) := by decide +kernel
theorem dL_law_487 : decode cL_law 487 = .ok (.aload_n 0, 1) := by decide +kernel
theorem dL_law_488 : decode cL_law 488 = .ok (.iload_n 3, 1) := by decide +kernel
theorem dL_law_489 : decode cL_law 489 = .ok (.iconst 2, 1) := by decide +kernel
theorem dL_law_490 : decode cL_law 490 = .ok (.iadd, 1) := by decide +kernel
theorem dL_law_491 : decode cL_law 491 = .ok (.iaload, 1) := by decide +kernel
theorem dL_law_492 : decode cL_law 492 = .ok (.invokevirtual 57, 3) := by decide +kernel
theorem dL_law_495 : decode cL_law 495 = .ok (.lcmp, 1) := by decide +kernel
theorem dL_law_496 : decode cL_law 496 = .ok (.ifCond .eq 716, 3) := by decide +kernel
theorem dL_law_499 : decode cL_law 499 = .ok (.iconst 0, 1) := by decide +kernel
theorem dL_law_500 : decode cL_law 500 = .ok (.ireturn, 1) := by decide +kernel
theorem dL_law_501 : decode cL_law 501 = .ok (.aload_n 1, 1) := by decide +kernel
theorem dL_law_502 : decode cL_law 502 = .ok (.aload_n 0, 1) := by decide +kernel
theorem dL_law_503 : decode cL_law 503 = .ok (.iload_n 3, 1) := by decide +kernel
theorem dL_law_504 : decode cL_law 504 = .ok (.iconst 1, 1) := by decide +kernel
theorem dL_law_505 : decode cL_law 505 = .ok (.iadd, 1) := by decide +kernel
theorem dL_law_506 : decode cL_law 506 = .ok (.iaload, 1) := by decide +kernel
theorem dL_law_507 : decode cL_law 507 = .ok (.aload_n 0, 1) := by decide +kernel
theorem dL_law_508 : decode cL_law 508 = .ok (.iload_n 3, 1) := by decide +kernel
theorem dL_law_509 : decode cL_law 509 = .ok (.iconst 2, 1) := by decide +kernel
theorem dL_law_510 : decode cL_law 510 = .ok (.iadd, 1) := by decide +kernel
theorem dL_law_511 : decode cL_law 511 = .ok (.iaload, 1) := by decide +kernel
theorem dL_law_512 : decode cL_law 512 = .ok (.invokevirtual 58, 3) := by decide +kernel
theorem dL_law_515 : decode cL_law 515 = .ok (.aload_n 2, 1) := by decide +kernel
theorem dL_law_516 : decode cL_law 516 = .ok (.aload_n 0, 1) := by decide +kernel
theorem dL_law_517 : decode cL_law 517 = .ok (.iload_n 3, 1) := by decide +kernel
theorem dL_law_518 : decode cL_law 518 = .ok (.iconst 1, 1) := by decide +kernel
theorem dL_law_519 : decode cL_law 519 = .ok (.iadd, 1) := by decide +kernel
theorem dL_law_520 : decode cL_law 520 = .ok (.iaload, 1) := by decide +kernel
theorem dL_law_521 : decode cL_law 521 = .ok (.aload_n 0, 1) := by decide +kernel
theorem dL_law_522 : decode cL_law 522 = .ok (.iload_n 3, 1) := by decide +kernel
theorem dL_law_523 : decode cL_law 523 = .ok (.iconst 2, 1) := by decide +kernel
theorem dL_law_524 : decode cL_law 524 = .ok (.iadd, 1) := by decide +kernel
theorem dL_law_525 : decode cL_law 525 = .ok (.iaload, 1) := by decide +kernel
theorem dL_law_526 : decode cL_law 526 = .ok (.invokevirtual 61, 3) := by decide +kernel
theorem dL_law_529 : decode cL_law 529 = .ok (.lcmp, 1) := by decide +kernel
theorem dL_law_530 : decode cL_law 530 = .ok (.ifCond .eq 682, 3) := by decide +kernel
theorem dL_law_533 : decode cL_law 533 = .ok (.iconst 0, 1) := by decide +kernel
theorem dL_law_534 : decode cL_law 534 = .ok (.ireturn, 1) := by decide +kernel
theorem dL_law_535 : decode cL_law 535 = .ok (.aload_n 1, 1) := by decide +kernel
theorem dL_law_536 : decode cL_law 536 = .ok (.aload_n 0, 1) := by decide +kernel
theorem dL_law_537 : decode cL_law 537 = .ok (.iload_n 3, 1) := by decide +kernel
theorem dL_law_538 : decode cL_law 538 = .ok (.iconst 1, 1) := by decide +kernel
theorem dL_law_539 : decode cL_law 539 = .ok (.iadd, 1) := by decide +kernel
theorem dL_law_540 : decode cL_law 540 = .ok (.iaload, 1) := by decide +kernel
theorem dL_law_541 : decode cL_law 541 = .ok (.aload_n 0, 1) := by decide +kernel
theorem dL_law_542 : decode cL_law 542 = .ok (.iload_n 3, 1) := by decide +kernel
theorem dL_law_543 : decode cL_law 543 = .ok (.iconst 2, 1) := by decide +kernel
theorem dL_law_544 : decode cL_law 544 = .ok (.iadd, 1) := by decide +kernel
theorem dL_law_545 : decode cL_law 545 = .ok (.iaload, 1) := by decide +kernel
theorem dL_law_546 : decode cL_law 546 = .ok (.aload_n 0, 1) := by decide +kernel
theorem dL_law_547 : decode cL_law 547 = .ok (.iload_n 3, 1) := by decide +kernel
theorem dL_law_548 : decode cL_law 548 = .ok (.iconst 3, 1) := by decide +kernel
theorem dL_law_549 : decode cL_law 549 = .ok (.iadd, 1) := by decide +kernel
theorem dL_law_550 : decode cL_law 550 = .ok (.iaload, 1) := by decide +kernel
theorem dL_law_551 : decode cL_law 551 = .ok (.aload_n 0, 1) := by decide +kernel
theorem dL_law_552 : decode cL_law 552 = .ok (.iload_n 3, 1) := by decide +kernel
theorem dL_law_553 : decode cL_law 553 = .ok (.iconst 4, 1) := by decide +kernel
theorem dL_law_554 : decode cL_law 554 = .ok (.iadd, 1) := by decide +kernel
theorem dL_law_555 : decode cL_law 555 = .ok (.iaload, 1) := by decide +kernel
theorem dL_law_556 : decode cL_law 556 = .ok (.invokevirtual 62, 3) := by decide +kernel
theorem dL_law_559 : decode cL_law 559 = .ok (.aload_n 2, 1) := by decide +kernel
theorem dL_law_560 : decode cL_law 560 = .ok (.aload_n 0, 1) := by decide +kernel
theorem dL_law_561 : decode cL_law 561 = .ok (.iload_n 3, 1) := by decide +kernel
theorem dL_law_562 : decode cL_law 562 = .ok (.iconst 1, 1) := by decide +kernel
theorem dL_law_563 : decode cL_law 563 = .ok (.iadd, 1) := by decide +kernel
theorem dL_law_564 : decode cL_law 564 = .ok (.iaload, 1) := by decide +kernel
theorem dL_law_565 : decode cL_law 565 = .ok (.aload_n 0, 1) := by decide +kernel
theorem dL_law_566 : decode cL_law 566 = .ok (.iload_n 3, 1) := by decide +kernel
theorem dL_law_567 : decode cL_law 567 = .ok (.iconst 2, 1) := by decide +kernel
theorem dL_law_568 : decode cL_law 568 = .ok (.iadd, 1) := by decide +kernel
theorem dL_law_569 : decode cL_law 569 = .ok (.iaload, 1) := by decide +kernel
theorem dL_law_570 : decode cL_law 570 = .ok (.aload_n 0, 1) := by decide +kernel
theorem dL_law_571 : decode cL_law 571 = .ok (.iload_n 3, 1) := by decide +kernel
theorem dL_law_572 : decode cL_law 572 = .ok (.iconst 3, 1) := by decide +kernel
theorem dL_law_573 : decode cL_law 573 = .ok (.iadd, 1) := by decide +kernel
theorem dL_law_574 : decode cL_law 574 = .ok (.iaload, 1) := by decide +kernel
theorem dL_law_575 : decode cL_law 575 = .ok (.aload_n 0, 1) := by decide +kernel
theorem dL_law_576 : decode cL_law 576 = .ok (.iload_n 3, 1) := by decide +kernel
theorem dL_law_577 : decode cL_law 577 = .ok (.iconst 4, 1) := by decide +kernel
theorem dL_law_578 : decode cL_law 578 = .ok (.iadd, 1) := by decide +kernel
theorem dL_law_579 : decode cL_law 579 = .ok (.iaload, 1) := by decide +kernel
theorem dL_law_580 : decode cL_law 580 = .ok (.invokevirtual 66, 3) := by decide +kernel
theorem dL_law_583 : decode cL_law 583 = .ok (.lcmp, 1) := by decide +kernel
theorem dL_law_584 : decode cL_law 584 = .ok (.ifCond .eq 628, 3) := by decide +kernel
theorem dL_law_587 : decode cL_law 587 = .ok (.iconst 0, 1) := by decide +kernel
theorem dL_law_588 : decode cL_law 588 = .ok (.ireturn, 1) := by decide +kernel
theorem dL_law_589 : decode cL_law 589 = .ok (.aload_n 1, 1) := by decide +kernel
theorem dL_law_590 : decode cL_law 590 = .ok (.aload_n 0, 1) := by decide +kernel
theorem dL_law_591 : decode cL_law 591 = .ok (.iload_n 3, 1) := by decide +kernel
theorem dL_law_592 : decode cL_law 592 = .ok (.iconst 1, 1) := by decide +kernel
theorem dL_law_593 : decode cL_law 593 = .ok (.iadd, 1) := by decide +kernel
theorem dL_law_594 : decode cL_law 594 = .ok (.iaload, 1) := by decide +kernel
theorem dL_law_595 : decode cL_law 595 = .ok (.aload_n 0, 1) := by decide +kernel
theorem dL_law_596 : decode cL_law 596 = .ok (.iload_n 3, 1) := by decide +kernel
theorem dL_law_597 : decode cL_law 597 = .ok (.iconst 2, 1) := by decide +kernel
theorem dL_law_598 : decode cL_law 598 = .ok (.iadd, 1) := by decide +kernel
theorem dL_law_599 : decode cL_law 599 = .ok (.iaload, 1) := by decide +kernel
theorem dL_law_600 : decode cL_law 600 = .ok (.invokevirtual 67, 3) := by decide +kernel
theorem dL_law_603 : decode cL_law 603 = .ok (.aload_n 2, 1) := by decide +kernel
theorem dL_law_604 : decode cL_law 604 = .ok (.aload_n 0, 1) := by decide +kernel
theorem dL_law_605 : decode cL_law 605 = .ok (.iload_n 3, 1) := by decide +kernel
theorem dL_law_606 : decode cL_law 606 = .ok (.iconst 1, 1) := by decide +kernel
theorem dL_law_607 : decode cL_law 607 = .ok (.iadd, 1) := by decide +kernel
theorem dL_law_608 : decode cL_law 608 = .ok (.iaload, 1) := by decide +kernel
theorem dL_law_609 : decode cL_law 609 = .ok (.aload_n 0, 1) := by decide +kernel
theorem dL_law_610 : decode cL_law 610 = .ok (.iload_n 3, 1) := by decide +kernel
theorem dL_law_611 : decode cL_law 611 = .ok (.iconst 2, 1) := by decide +kernel
theorem dL_law_612 : decode cL_law 612 = .ok (.iadd, 1) := by decide +kernel
theorem dL_law_613 : decode cL_law 613 = .ok (.iaload, 1) := by decide +kernel
theorem dL_law_614 : decode cL_law 614 = .ok (.invokevirtual 70, 3) := by decide +kernel
theorem dL_law_617 : decode cL_law 617 = .ok (.lcmp, 1) := by decide +kernel
theorem dL_law_618 : decode cL_law 618 = .ok (.ifCond .eq 594, 3) := by decide +kernel
theorem dL_law_621 : decode cL_law 621 = .ok (.iconst 0, 1) := by decide +kernel
theorem dL_law_622 : decode cL_law 622 = .ok (.ireturn, 1) := by decide +kernel
theorem dL_law_623 : decode cL_law 623 = .ok (.aload_n 1, 1) := by decide +kernel
theorem dL_law_624 : decode cL_law 624 = .ok (.aload_n 0, 1) := by decide +kernel
theorem dL_law_625 : decode cL_law 625 = .ok (.iload_n 3, 1) := by decide +kernel
theorem dL_law_626 : decode cL_law 626 = .ok (.iconst 1, 1) := by decide +kernel
theorem dL_law_627 : decode cL_law 627 = .ok (.iadd, 1) := by decide +kernel
theorem dL_law_628 : decode cL_law 628 = .ok (.iaload, 1) := by decide +kernel
theorem dL_law_629 : decode cL_law 629 = .ok (.invokevirtual 71, 3) := by decide +kernel
theorem dL_law_632 : decode cL_law 632 = .ok (.aload_n 2, 1) := by decide +kernel
theorem dL_law_633 : decode cL_law 633 = .ok (.aload_n 0, 1) := by decide +kernel
theorem dL_law_634 : decode cL_law 634 = .ok (.iload_n 3, 1) := by decide +kernel
theorem dL_law_635 : decode cL_law 635 = .ok (.iconst 1, 1) := by decide +kernel
theorem dL_law_636 : decode cL_law 636 = .ok (.iadd, 1) := by decide +kernel
theorem dL_law_637 : decode cL_law 637 = .ok (.iaload, 1) := by decide +kernel
theorem dL_law_638 : decode cL_law 638 = .ok (.invokevirtual 74, 3) := by decide +kernel
theorem dL_law_641 : decode cL_law 641 = .ok (.lcmp, 1) := by decide +kernel
theorem dL_law_642 : decode cL_law 642 = .ok (.ifCond .eq 570, 3) := by decide +kernel
theorem dL_law_645 : decode cL_law 645 = .ok (.iconst 0, 1) := by decide +kernel
theorem dL_law_646 : decode cL_law 646 = .ok (.ireturn, 1) := by decide +kernel
theorem dL_law_647 : decode cL_law 647 = .ok (.aload_n 1, 1) := by decide +kernel
theorem dL_law_648 : decode cL_law 648 = .ok (.aload_n 0, 1) := by decide +kernel
theorem dL_law_649 : decode cL_law 649 = .ok (.iload_n 3, 1) := by decide +kernel
theorem dL_law_650 : decode cL_law 650 = .ok (.iconst 1, 1) := by decide +kernel
theorem dL_law_651 : decode cL_law 651 = .ok (.iadd, 1) := by decide +kernel
theorem dL_law_652 : decode cL_law 652 = .ok (.iaload, 1) := by decide +kernel
theorem dL_law_653 : decode cL_law 653 = .ok (.invokevirtual 75, 3) := by decide +kernel
theorem dL_law_656 : decode cL_law 656 = .ok (.aload_n 2, 1) := by decide +kernel
theorem dL_law_657 : decode cL_law 657 = .ok (.aload_n 0, 1) := by decide +kernel
theorem dL_law_658 : decode cL_law 658 = .ok (.iload_n 3, 1) := by decide +kernel
theorem dL_law_659 : decode cL_law 659 = .ok (.iconst 1, 1) := by decide +kernel
theorem dL_law_660 : decode cL_law 660 = .ok (.iadd, 1) := by decide +kernel
theorem dL_law_661 : decode cL_law 661 = .ok (.iaload, 1) := by decide +kernel
theorem dL_law_662 : decode cL_law 662 = .ok (.invokevirtual 78, 3) := by decide +kernel
theorem dL_law_665 : decode cL_law 665 = .ok (.if_icmp .eq 547, 3) := by decide +kernel
theorem dL_law_668 : decode cL_law 668 = .ok (.iconst 0, 1) := by decide +kernel
theorem dL_law_669 : decode cL_law 669 = .ok (.ireturn, 1) := by decide +kernel
theorem dL_law_670 : decode cL_law 670 = .ok (.aload_n 1, 1) := by decide +kernel
theorem dL_law_671 : decode cL_law 671 = .ok (.aload_n 0, 1) := by decide +kernel
theorem dL_law_672 : decode cL_law 672 = .ok (.iload_n 3, 1) := by decide +kernel
theorem dL_law_673 : decode cL_law 673 = .ok (.iconst 1, 1) := by decide +kernel
theorem dL_law_674 : decode cL_law 674 = .ok (.iadd, 1) := by decide +kernel
theorem dL_law_675 : decode cL_law 675 = .ok (.iaload, 1) := by decide +kernel
theorem dL_law_676 : decode cL_law 676 = .ok (.aload_n 0, 1) := by decide +kernel
theorem dL_law_677 : decode cL_law 677 = .ok (.iload_n 3, 1) := by decide +kernel
theorem dL_law_678 : decode cL_law 678 = .ok (.iconst 2, 1) := by decide +kernel
theorem dL_law_679 : decode cL_law 679 = .ok (.iadd, 1) := by decide +kernel
theorem dL_law_680 : decode cL_law 680 = .ok (.iaload, 1) := by decide +kernel
theorem dL_law_681 : decode cL_law 681 = .ok (.invokevirtual 79, 3) := by decide +kernel
theorem dL_law_684 : decode cL_law 684 = .ok (.aload_n 2, 1) := by decide +kernel
theorem dL_law_685 : decode cL_law 685 = .ok (.aload_n 0, 1) := by decide +kernel
theorem dL_law_686 : decode cL_law 686 = .ok (.iload_n 3, 1) := by decide +kernel
theorem dL_law_687 : decode cL_law 687 = .ok (.iconst 1, 1) := by decide +kernel
theorem dL_law_688 : decode cL_law 688 = .ok (.iadd, 1) := by decide +kernel
theorem dL_law_689 : decode cL_law 689 = .ok (.iaload, 1) := by decide +kernel
theorem dL_law_690 : decode cL_law 690 = .ok (.aload_n 0, 1) := by decide +kernel
theorem dL_law_691 : decode cL_law 691 = .ok (.iload_n 3, 1) := by decide +kernel
theorem dL_law_692 : decode cL_law 692 = .ok (.iconst 2, 1) := by decide +kernel
theorem dL_law_693 : decode cL_law 693 = .ok (.iadd, 1) := by decide +kernel
theorem dL_law_694 : decode cL_law 694 = .ok (.iaload, 1) := by decide +kernel
theorem dL_law_695 : decode cL_law 695 = .ok (.invokevirtual 82, 3) := by decide +kernel
theorem dL_law_698 : decode cL_law 698 = .ok (.if_icmp .eq 514, 3) := by decide +kernel
theorem dL_law_701 : decode cL_law 701 = .ok (.iconst 0, 1) := by decide +kernel
theorem dL_law_702 : decode cL_law 702 = .ok (.ireturn, 1) := by decide +kernel
theorem dL_law_703 : decode cL_law 703 = .ok (.aload_n 1, 1) := by decide +kernel
theorem dL_law_704 : decode cL_law 704 = .ok (.aload_n 0, 1) := by decide +kernel
theorem dL_law_705 : decode cL_law 705 = .ok (.iload_n 3, 1) := by decide +kernel
theorem dL_law_706 : decode cL_law 706 = .ok (.iconst 1, 1) := by decide +kernel
theorem dL_law_707 : decode cL_law 707 = .ok (.iadd, 1) := by decide +kernel
theorem dL_law_708 : decode cL_law 708 = .ok (.iaload, 1) := by decide +kernel
theorem dL_law_709 : decode cL_law 709 = .ok (.invokevirtual 83, 3) := by decide +kernel
theorem dL_law_712 : decode cL_law 712 = .ok (.aload_n 2, 1) := by decide +kernel
theorem dL_law_713 : decode cL_law 713 = .ok (.aload_n 0, 1) := by decide +kernel
theorem dL_law_714 : decode cL_law 714 = .ok (.iload_n 3, 1) := by decide +kernel
theorem dL_law_715 : decode cL_law 715 = .ok (.iconst 1, 1) := by decide +kernel
theorem dL_law_716 : decode cL_law 716 = .ok (.iadd, 1) := by decide +kernel
theorem dL_law_717 : decode cL_law 717 = .ok (.iaload, 1) := by decide +kernel
theorem dL_law_718 : decode cL_law 718 = .ok (.invokevirtual 86, 3) := by decide +kernel
theorem dL_law_721 : decode cL_law 721 = .ok (.if_icmp .eq 491, 3) := by decide +kernel
theorem dL_law_724 : decode cL_law 724 = .ok (.iconst 0, 1) := by decide +kernel
theorem dL_law_725 : decode cL_law 725 = .ok (.ireturn, 1) := by decide +kernel
theorem dL_law_726 : decode cL_law 726 = .ok (.aload_n 1, 1) := by decide +kernel
theorem dL_law_727 : decode cL_law 727 = .ok (.aload_n 0, 1) := by decide +kernel
theorem dL_law_728 : decode cL_law 728 = .ok (.iload_n 3, 1) := by decide +kernel
theorem dL_law_729 : decode cL_law 729 = .ok (.iconst 1, 1) := by decide +kernel
theorem dL_law_730 : decode cL_law 730 = .ok (.iadd, 1) := by decide +kernel
theorem dL_law_731 : decode cL_law 731 = .ok (.iaload, 1) := by decide +kernel
theorem dL_law_732 : decode cL_law 732 = .ok (.aload_n 0, 1) := by decide +kernel
theorem dL_law_733 : decode cL_law 733 = .ok (.iload_n 3, 1) := by decide +kernel
theorem dL_law_734 : decode cL_law 734 = .ok (.iconst 2, 1) := by decide +kernel
theorem dL_law_735 : decode cL_law 735 = .ok (.iadd, 1) := by decide +kernel
theorem dL_law_736 : decode cL_law 736 = .ok (.iaload, 1) := by decide +kernel
theorem dL_law_737 : decode cL_law 737 = .ok (.aload_n 0, 1) := by decide +kernel
theorem dL_law_738 : decode cL_law 738 = .ok (.iload_n 3, 1) := by decide +kernel
theorem dL_law_739 : decode cL_law 739 = .ok (.iconst 3, 1) := by decide +kernel
theorem dL_law_740 : decode cL_law 740 = .ok (.iadd, 1) := by decide +kernel
theorem dL_law_741 : decode cL_law 741 = .ok (.iaload, 1) := by decide +kernel
theorem dL_law_742 : decode cL_law 742 = .ok (.invokevirtual 87, 3) := by decide +kernel
theorem dL_law_745 : decode cL_law 745 = .ok (.aload_n 2, 1) := by decide +kernel
theorem dL_law_746 : decode cL_law 746 = .ok (.aload_n 0, 1) := by decide +kernel
theorem dL_law_747 : decode cL_law 747 = .ok (.iload_n 3, 1) := by decide +kernel
theorem dL_law_748 : decode cL_law 748 = .ok (.iconst 1, 1) := by decide +kernel
theorem dL_law_749 : decode cL_law 749 = .ok (.iadd, 1) := by decide +kernel
theorem dL_law_750 : decode cL_law 750 = .ok (.iaload, 1) := by decide +kernel
theorem dL_law_751 : decode cL_law 751 = .ok (.aload_n 0, 1) := by decide +kernel
theorem dL_law_752 : decode cL_law 752 = .ok (.iload_n 3, 1) := by decide +kernel
theorem dL_law_753 : decode cL_law 753 = .ok (.iconst 2, 1) := by decide +kernel
theorem dL_law_754 : decode cL_law 754 = .ok (.iadd, 1) := by decide +kernel
theorem dL_law_755 : decode cL_law 755 = .ok (.iaload, 1) := by decide +kernel
theorem dL_law_756 : decode cL_law 756 = .ok (.aload_n 0, 1) := by decide +kernel
theorem dL_law_757 : decode cL_law 757 = .ok (.iload_n 3, 1) := by decide +kernel
theorem dL_law_758 : decode cL_law 758 = .ok (.iconst 3, 1) := by decide +kernel
theorem dL_law_759 : decode cL_law 759 = .ok (.iadd, 1) := by decide +kernel
theorem dL_law_760 : decode cL_law 760 = .ok (.iaload, 1) := by decide +kernel
theorem dL_law_761 : decode cL_law 761 = .ok (.invokevirtual 91, 3) := by decide +kernel
theorem dL_law_764 : decode cL_law 764 = .ok (.lcmp, 1) := by decide +kernel
theorem dL_law_765 : decode cL_law 765 = .ok (.ifCond .eq 447, 3) := by decide +kernel
theorem dL_law_768 : decode cL_law 768 = .ok (.iconst 0, 1) := by decide +kernel
theorem dL_law_769 : decode cL_law 769 = .ok (.ireturn, 1) := by decide +kernel
theorem dL_law_770 : decode cL_law 770 = .ok (.aload_n 1, 1) := by decide +kernel
theorem dL_law_771 : decode cL_law 771 = .ok (.invokevirtual 92, 3) := by decide +kernel
theorem dL_law_774 : decode cL_law 774 = .ok (.aload_n 2, 1) := by decide +kernel
theorem dL_law_775 : decode cL_law 775 = .ok (.invokevirtual 96, 3) := by decide +kernel
theorem dL_law_778 : decode cL_law 778 = .ok (.if_icmp .eq 434, 3) := by decide +kernel
theorem dL_law_781 : decode cL_law 781 = .ok (.iconst 0, 1) := by decide +kernel
theorem dL_law_782 : decode cL_law 782 = .ok (.ireturn, 1) := by decide +kernel
theorem dL_law_783 : decode cL_law 783 = .ok (.aload_n 1, 1) := by decide +kernel
theorem dL_law_784 : decode cL_law 784 = .ok (.aload_n 0, 1) := by decide +kernel
theorem dL_law_785 : decode cL_law 785 = .ok (.iload_n 3, 1) := by decide +kernel
theorem dL_law_786 : decode cL_law 786 = .ok (.iconst 1, 1) := by decide +kernel
theorem dL_law_787 : decode cL_law 787 = .ok (.iadd, 1) := by decide +kernel
theorem dL_law_788 : decode cL_law 788 = .ok (.iaload, 1) := by decide +kernel
theorem dL_law_789 : decode cL_law 789 = .ok (.invokevirtual 97, 3) := by decide +kernel
theorem dL_law_792 : decode cL_law 792 = .ok (.aload_n 2, 1) := by decide +kernel
theorem dL_law_793 : decode cL_law 793 = .ok (.aload_n 0, 1) := by decide +kernel
theorem dL_law_794 : decode cL_law 794 = .ok (.iload_n 3, 1) := by decide +kernel
theorem dL_law_795 : decode cL_law 795 = .ok (.iconst 1, 1) := by decide +kernel
theorem dL_law_796 : decode cL_law 796 = .ok (.iadd, 1) := by decide +kernel
theorem dL_law_797 : decode cL_law 797 = .ok (.iaload, 1) := by decide +kernel
theorem dL_law_798 : decode cL_law 798 = .ok (.invokevirtual 100, 3) := by decide +kernel
theorem dL_law_801 : decode cL_law 801 = .ok (.if_icmp .eq 411, 3) := by decide +kernel
theorem dL_law_804 : decode cL_law 804 = .ok (.iconst 0, 1) := by decide +kernel
theorem dL_law_805 : decode cL_law 805 = .ok (.ireturn, 1) := by decide +kernel
theorem dL_law_806 : decode cL_law 806 = .ok (.aload_n 1, 1) := by decide +kernel
theorem dL_law_807 : decode cL_law 807 = .ok (.aload_n 0, 1) := by decide +kernel
theorem dL_law_808 : decode cL_law 808 = .ok (.iload_n 3, 1) := by decide +kernel
theorem dL_law_809 : decode cL_law 809 = .ok (.iconst 1, 1) := by decide +kernel
theorem dL_law_810 : decode cL_law 810 = .ok (.iadd, 1) := by decide +kernel
theorem dL_law_811 : decode cL_law 811 = .ok (.iaload, 1) := by decide +kernel
theorem dL_law_812 : decode cL_law 812 = .ok (.aload_n 0, 1) := by decide +kernel
theorem dL_law_813 : decode cL_law 813 = .ok (.iload_n 3, 1) := by decide +kernel
theorem dL_law_814 : decode cL_law 814 = .ok (.iconst 2, 1) := by decide +kernel
theorem dL_law_815 : decode cL_law 815 = .ok (.iadd, 1) := by decide +kernel
theorem dL_law_816 : decode cL_law 816 = .ok (.iaload, 1) := by decide +kernel
theorem dL_law_817 : decode cL_law 817 = .ok (.invokevirtual 101, 3) := by decide +kernel
theorem dL_law_820 : decode cL_law 820 = .ok (.aload_n 2, 1) := by decide +kernel
theorem dL_law_821 : decode cL_law 821 = .ok (.aload_n 0, 1) := by decide +kernel
theorem dL_law_822 : decode cL_law 822 = .ok (.iload_n 3, 1) := by decide +kernel
theorem dL_law_823 : decode cL_law 823 = .ok (.iconst 1, 1) := by decide +kernel
theorem dL_law_824 : decode cL_law 824 = .ok (.iadd, 1) := by decide +kernel
theorem dL_law_825 : decode cL_law 825 = .ok (.iaload, 1) := by decide +kernel
theorem dL_law_826 : decode cL_law 826 = .ok (.aload_n 0, 1) := by decide +kernel
theorem dL_law_827 : decode cL_law 827 = .ok (.iload_n 3, 1) := by decide +kernel
theorem dL_law_828 : decode cL_law 828 = .ok (.iconst 2, 1) := by decide +kernel
theorem dL_law_829 : decode cL_law 829 = .ok (.iadd, 1) := by decide +kernel
theorem dL_law_830 : decode cL_law 830 = .ok (.iaload, 1) := by decide +kernel
theorem dL_law_831 : decode cL_law 831 = .ok (.invokevirtual 104, 3) := by decide +kernel
theorem dL_law_834 : decode cL_law 834 = .ok (.if_icmp .eq 378, 3) := by decide +kernel
theorem dL_law_837 : decode cL_law 837 = .ok (.iconst 0, 1) := by decide +kernel
theorem dL_law_838 : decode cL_law 838 = .ok (.ireturn, 1) := by decide +kernel
theorem dL_law_839 : decode cL_law 839 = .ok (.aload_n 1, 1) := by decide +kernel
theorem dL_law_840 : decode cL_law 840 = .ok (.aload_n 0, 1) := by decide +kernel
theorem dL_law_841 : decode cL_law 841 = .ok (.iload_n 3, 1) := by decide +kernel
theorem dL_law_842 : decode cL_law 842 = .ok (.iconst 1, 1) := by decide +kernel
theorem dL_law_843 : decode cL_law 843 = .ok (.iadd, 1) := by decide +kernel
theorem dL_law_844 : decode cL_law 844 = .ok (.iaload, 1) := by decide +kernel
theorem dL_law_845 : decode cL_law 845 = .ok (.aload_n 0, 1) := by decide +kernel
theorem dL_law_846 : decode cL_law 846 = .ok (.iload_n 3, 1) := by decide +kernel
theorem dL_law_847 : decode cL_law 847 = .ok (.iconst 2, 1) := by decide +kernel
theorem dL_law_848 : decode cL_law 848 = .ok (.iadd, 1) := by decide +kernel
theorem dL_law_849 : decode cL_law 849 = .ok (.iaload, 1) := by decide +kernel
theorem dL_law_850 : decode cL_law 850 = .ok (.invokevirtual 105, 3) := by decide +kernel
theorem dL_law_853 : decode cL_law 853 = .ok (.aload_n 2, 1) := by decide +kernel
theorem dL_law_854 : decode cL_law 854 = .ok (.aload_n 0, 1) := by decide +kernel
theorem dL_law_855 : decode cL_law 855 = .ok (.iload_n 3, 1) := by decide +kernel
theorem dL_law_856 : decode cL_law 856 = .ok (.iconst 1, 1) := by decide +kernel
theorem dL_law_857 : decode cL_law 857 = .ok (.iadd, 1) := by decide +kernel
theorem dL_law_858 : decode cL_law 858 = .ok (.iaload, 1) := by decide +kernel
theorem dL_law_859 : decode cL_law 859 = .ok (.aload_n 0, 1) := by decide +kernel
theorem dL_law_860 : decode cL_law 860 = .ok (.iload_n 3, 1) := by decide +kernel
theorem dL_law_861 : decode cL_law 861 = .ok (.iconst 2, 1) := by decide +kernel
theorem dL_law_862 : decode cL_law 862 = .ok (.iadd, 1) := by decide +kernel
theorem dL_law_863 : decode cL_law 863 = .ok (.iaload, 1) := by decide +kernel
theorem dL_law_864 : decode cL_law 864 = .ok (.invokevirtual 108, 3) := by decide +kernel
theorem dL_law_867 : decode cL_law 867 = .ok (.if_icmp .eq 345, 3) := by decide +kernel
theorem dL_law_870 : decode cL_law 870 = .ok (.iconst 0, 1) := by decide +kernel
theorem dL_law_871 : decode cL_law 871 = .ok (.ireturn, 1) := by decide +kernel
theorem dL_law_872 : decode cL_law 872 = .ok (.aload_n 1, 1) := by decide +kernel
theorem dL_law_873 : decode cL_law 873 = .ok (.aload_n 0, 1) := by decide +kernel
theorem dL_law_874 : decode cL_law 874 = .ok (.iload_n 3, 1) := by decide +kernel
theorem dL_law_875 : decode cL_law 875 = .ok (.iconst 1, 1) := by decide +kernel
theorem dL_law_876 : decode cL_law 876 = .ok (.iadd, 1) := by decide +kernel
theorem dL_law_877 : decode cL_law 877 = .ok (.iaload, 1) := by decide +kernel
theorem dL_law_878 : decode cL_law 878 = .ok (.invokevirtual 109, 3) := by decide +kernel
theorem dL_law_881 : decode cL_law 881 = .ok (.aload_n 2, 1) := by decide +kernel
theorem dL_law_882 : decode cL_law 882 = .ok (.aload_n 0, 1) := by decide +kernel
theorem dL_law_883 : decode cL_law 883 = .ok (.iload_n 3, 1) := by decide +kernel
theorem dL_law_884 : decode cL_law 884 = .ok (.iconst 1, 1) := by decide +kernel
theorem dL_law_885 : decode cL_law 885 = .ok (.iadd, 1) := by decide +kernel
theorem dL_law_886 : decode cL_law 886 = .ok (.iaload, 1) := by decide +kernel
theorem dL_law_887 : decode cL_law 887 = .ok (.invokevirtual 112, 3) := by decide +kernel
theorem dL_law_890 : decode cL_law 890 = .ok (.if_icmp .eq 322, 3) := by decide +kernel
theorem dL_law_893 : decode cL_law 893 = .ok (.iconst 0, 1) := by decide +kernel
theorem dL_law_894 : decode cL_law 894 = .ok (.ireturn, 1) := by decide +kernel
theorem dL_law_895 : decode cL_law 895 = .ok (.aload_n 1, 1) := by decide +kernel
theorem dL_law_896 : decode cL_law 896 = .ok (.aload_n 0, 1) := by decide +kernel
theorem dL_law_897 : decode cL_law 897 = .ok (.iload_n 3, 1) := by decide +kernel
theorem dL_law_898 : decode cL_law 898 = .ok (.iconst 1, 1) := by decide +kernel
theorem dL_law_899 : decode cL_law 899 = .ok (.iadd, 1) := by decide +kernel
theorem dL_law_900 : decode cL_law 900 = .ok (.iaload, 1) := by decide +kernel
theorem dL_law_901 : decode cL_law 901 = .ok (.invokevirtual 113, 3) := by decide +kernel
theorem dL_law_904 : decode cL_law 904 = .ok (.aload_n 2, 1) := by decide +kernel
theorem dL_law_905 : decode cL_law 905 = .ok (.aload_n 0, 1) := by decide +kernel
theorem dL_law_906 : decode cL_law 906 = .ok (.iload_n 3, 1) := by decide +kernel
theorem dL_law_907 : decode cL_law 907 = .ok (.iconst 1, 1) := by decide +kernel
theorem dL_law_908 : decode cL_law 908 = .ok (.iadd, 1) := by decide +kernel
theorem dL_law_909 : decode cL_law 909 = .ok (.iaload, 1) := by decide +kernel
theorem dL_law_910 : decode cL_law 910 = .ok (.invokevirtual 116, 3) := by decide +kernel
theorem dL_law_913 : decode cL_law 913 = .ok (.if_icmp .eq 299, 3) := by decide +kernel
theorem dL_law_916 : decode cL_law 916 = .ok (.iconst 0, 1) := by decide +kernel
theorem dL_law_917 : decode cL_law 917 = .ok (.ireturn, 1) := by decide +kernel
theorem dL_law_918 : decode cL_law 918 = .ok (.aload_n 1, 1) := by decide +kernel
theorem dL_law_919 : decode cL_law 919 = .ok (.invokevirtual 117, 3) := by decide +kernel
theorem dL_law_922 : decode cL_law 922 = .ok (.aload_n 2, 1) := by decide +kernel
theorem dL_law_923 : decode cL_law 923 = .ok (.invokevirtual 120, 3) := by decide +kernel
theorem dL_law_926 : decode cL_law 926 = .ok (.if_icmp .eq 286, 3) := by decide +kernel
theorem dL_law_929 : decode cL_law 929 = .ok (.iconst 0, 1) := by decide +kernel
theorem dL_law_930 : decode cL_law 930 = .ok (.ireturn, 1) := by decide +kernel
theorem dL_law_931 : decode cL_law 931 = .ok (.aload_n 1, 1) := by decide +kernel
theorem dL_law_932 : decode cL_law 932 = .ok (.aload_n 0, 1) := by decide +kernel
theorem dL_law_933 : decode cL_law 933 = .ok (.iload_n 3, 1) := by decide +kernel
theorem dL_law_934 : decode cL_law 934 = .ok (.iconst 1, 1) := by decide +kernel
theorem dL_law_935 : decode cL_law 935 = .ok (.iadd, 1) := by decide +kernel
theorem dL_law_936 : decode cL_law 936 = .ok (.iaload, 1) := by decide +kernel
theorem dL_law_937 : decode cL_law 937 = .ok (.aload_n 0, 1) := by decide +kernel
theorem dL_law_938 : decode cL_law 938 = .ok (.iload_n 3, 1) := by decide +kernel
theorem dL_law_939 : decode cL_law 939 = .ok (.iconst 2, 1) := by decide +kernel
theorem dL_law_940 : decode cL_law 940 = .ok (.iadd, 1) := by decide +kernel
theorem dL_law_941 : decode cL_law 941 = .ok (.iaload, 1) := by decide +kernel
theorem dL_law_942 : decode cL_law 942 = .ok (.aload_n 0, 1) := by decide +kernel
theorem dL_law_943 : decode cL_law 943 = .ok (.iload_n 3, 1) := by decide +kernel
theorem dL_law_944 : decode cL_law 944 = .ok (.iconst 3, 1) := by decide +kernel
theorem dL_law_945 : decode cL_law 945 = .ok (.iadd, 1) := by decide +kernel
theorem dL_law_946 : decode cL_law 946 = .ok (.iaload, 1) := by decide +kernel
theorem dL_law_947 : decode cL_law 947 = .ok (.invokevirtual 121, 3) := by decide +kernel
theorem dL_law_950 : decode cL_law 950 = .ok (.aload_n 2, 1) := by decide +kernel
theorem dL_law_951 : decode cL_law 951 = .ok (.aload_n 0, 1) := by decide +kernel
theorem dL_law_952 : decode cL_law 952 = .ok (.iload_n 3, 1) := by decide +kernel
theorem dL_law_953 : decode cL_law 953 = .ok (.iconst 1, 1) := by decide +kernel
theorem dL_law_954 : decode cL_law 954 = .ok (.iadd, 1) := by decide +kernel
theorem dL_law_955 : decode cL_law 955 = .ok (.iaload, 1) := by decide +kernel
theorem dL_law_956 : decode cL_law 956 = .ok (.aload_n 0, 1) := by decide +kernel
theorem dL_law_957 : decode cL_law 957 = .ok (.iload_n 3, 1) := by decide +kernel
theorem dL_law_958 : decode cL_law 958 = .ok (.iconst 2, 1) := by decide +kernel
theorem dL_law_959 : decode cL_law 959 = .ok (.iadd, 1) := by decide +kernel
theorem dL_law_960 : decode cL_law 960 = .ok (.iaload, 1) := by decide +kernel
theorem dL_law_961 : decode cL_law 961 = .ok (.aload_n 0, 1) := by decide +kernel
theorem dL_law_962 : decode cL_law 962 = .ok (.iload_n 3, 1) := by decide +kernel
theorem dL_law_963 : decode cL_law 963 = .ok (.iconst 3, 1) := by decide +kernel
theorem dL_law_964 : decode cL_law 964 = .ok (.iadd, 1) := by decide +kernel
theorem dL_law_965 : decode cL_law 965 = .ok (.iaload, 1) := by decide +kernel
theorem dL_law_966 : decode cL_law 966 = .ok (.invokevirtual 125, 3) := by decide +kernel
theorem dL_law_969 : decode cL_law 969 = .ok (.if_icmp .eq 243, 3) := by decide +kernel
theorem dL_law_972 : decode cL_law 972 = .ok (.iconst 0, 1) := by decide +kernel
theorem dL_law_973 : decode cL_law 973 = .ok (.ireturn, 1) := by decide +kernel
theorem dL_law_974 : decode cL_law 974 = .ok (.aload_n 1, 1) := by decide +kernel
theorem dL_law_975 : decode cL_law 975 = .ok (.aload_n 0, 1) := by decide +kernel
theorem dL_law_976 : decode cL_law 976 = .ok (.iload_n 3, 1) := by decide +kernel
theorem dL_law_977 : decode cL_law 977 = .ok (.iconst 1, 1) := by decide +kernel
theorem dL_law_978 : decode cL_law 978 = .ok (.iadd, 1) := by decide +kernel
theorem dL_law_979 : decode cL_law 979 = .ok (.iaload, 1) := by decide +kernel
theorem dL_law_980 : decode cL_law 980 = .ok (.invokevirtual 126, 3) := by decide +kernel
theorem dL_law_983 : decode cL_law 983 = .ok (.aload_n 2, 1) := by decide +kernel
theorem dL_law_984 : decode cL_law 984 = .ok (.aload_n 0, 1) := by decide +kernel
theorem dL_law_985 : decode cL_law 985 = .ok (.iload_n 3, 1) := by decide +kernel
theorem dL_law_986 : decode cL_law 986 = .ok (.iconst 1, 1) := by decide +kernel
theorem dL_law_987 : decode cL_law 987 = .ok (.iadd, 1) := by decide +kernel
theorem dL_law_988 : decode cL_law 988 = .ok (.iaload, 1) := by decide +kernel
theorem dL_law_989 : decode cL_law 989 = .ok (.invokevirtual 129, 3) := by decide +kernel
theorem dL_law_992 : decode cL_law 992 = .ok (.if_icmp .eq 220, 3) := by decide +kernel
theorem dL_law_995 : decode cL_law 995 = .ok (.iconst 0, 1) := by decide +kernel
theorem dL_law_996 : decode cL_law 996 = .ok (.ireturn, 1) := by decide +kernel
theorem dL_law_997 : decode cL_law 997 = .ok (.aload_n 1, 1) := by decide +kernel
theorem dL_law_998 : decode cL_law 998 = .ok (.aload_n 0, 1) := by decide +kernel
theorem dL_law_999 : decode cL_law 999 = .ok (.iload_n 3, 1) := by decide +kernel
theorem dL_law_1000 : decode cL_law 1000 = .ok (.iconst 1, 1) := by decide +kernel
theorem dL_law_1001 : decode cL_law 1001 = .ok (.iadd, 1) := by decide +kernel
theorem dL_law_1002 : decode cL_law 1002 = .ok (.iaload, 1) := by decide +kernel
theorem dL_law_1003 : decode cL_law 1003 = .ok (.aload_n 0, 1) := by decide +kernel
theorem dL_law_1004 : decode cL_law 1004 = .ok (.iload_n 3, 1) := by decide +kernel
theorem dL_law_1005 : decode cL_law 1005 = .ok (.iconst 2, 1) := by decide +kernel
theorem dL_law_1006 : decode cL_law 1006 = .ok (.iadd, 1) := by decide +kernel
theorem dL_law_1007 : decode cL_law 1007 = .ok (.iaload, 1) := by decide +kernel
theorem dL_law_1008 : decode cL_law 1008 = .ok (.aload_n 0, 1) := by decide +kernel
theorem dL_law_1009 : decode cL_law 1009 = .ok (.iload_n 3, 1) := by decide +kernel
theorem dL_law_1010 : decode cL_law 1010 = .ok (.iconst 3, 1) := by decide +kernel
theorem dL_law_1011 : decode cL_law 1011 = .ok (.iadd, 1) := by decide +kernel
theorem dL_law_1012 : decode cL_law 1012 = .ok (.iaload, 1) := by decide +kernel
theorem dL_law_1013 : decode cL_law 1013 = .ok (.invokevirtual 130, 3) := by decide +kernel
theorem dL_law_1016 : decode cL_law 1016 = .ok (.aload_n 2, 1) := by decide +kernel
theorem dL_law_1017 : decode cL_law 1017 = .ok (.aload_n 0, 1) := by decide +kernel
theorem dL_law_1018 : decode cL_law 1018 = .ok (.iload_n 3, 1) := by decide +kernel
theorem dL_law_1019 : decode cL_law 1019 = .ok (.iconst 1, 1) := by decide +kernel
theorem dL_law_1020 : decode cL_law 1020 = .ok (.iadd, 1) := by decide +kernel
theorem dL_law_1021 : decode cL_law 1021 = .ok (.iaload, 1) := by decide +kernel
theorem dL_law_1022 : decode cL_law 1022 = .ok (.aload_n 0, 1) := by decide +kernel
theorem dL_law_1023 : decode cL_law 1023 = .ok (.iload_n 3, 1) := by decide +kernel
theorem dL_law_1024 : decode cL_law 1024 = .ok (.iconst 2, 1) := by decide +kernel
theorem dL_law_1025 : decode cL_law 1025 = .ok (.iadd, 1) := by decide +kernel
theorem dL_law_1026 : decode cL_law 1026 = .ok (.iaload, 1) := by decide +kernel
theorem dL_law_1027 : decode cL_law 1027 = .ok (.aload_n 0, 1) := by decide +kernel
theorem dL_law_1028 : decode cL_law 1028 = .ok (.iload_n 3, 1) := by decide +kernel
theorem dL_law_1029 : decode cL_law 1029 = .ok (.iconst 3, 1) := by decide +kernel
theorem dL_law_1030 : decode cL_law 1030 = .ok (.iadd, 1) := by decide +kernel
theorem dL_law_1031 : decode cL_law 1031 = .ok (.iaload, 1) := by decide +kernel
theorem dL_law_1032 : decode cL_law 1032 = .ok (.invokevirtual 133, 3) := by decide +kernel
theorem dL_law_1035 : decode cL_law 1035 = .ok (.if_icmp .eq 177, 3) := by decide +kernel
theorem dL_law_1038 : decode cL_law 1038 = .ok (.iconst 0, 1) := by decide +kernel
theorem dL_law_1039 : decode cL_law 1039 = .ok (.ireturn, 1) := by decide +kernel
theorem dL_law_1040 : decode cL_law 1040 = .ok (.aload_n 1, 1) := by decide +kernel
theorem dL_law_1041 : decode cL_law 1041 = .ok (.aload_n 0, 1) := by decide +kernel
theorem dL_law_1042 : decode cL_law 1042 = .ok (.iload_n 3, 1) := by decide +kernel
theorem dL_law_1043 : decode cL_law 1043 = .ok (.iconst 1, 1) := by decide +kernel
theorem dL_law_1044 : decode cL_law 1044 = .ok (.iadd, 1) := by decide +kernel
theorem dL_law_1045 : decode cL_law 1045 = .ok (.iaload, 1) := by decide +kernel
theorem dL_law_1046 : decode cL_law 1046 = .ok (.aload_n 0, 1) := by decide +kernel
theorem dL_law_1047 : decode cL_law 1047 = .ok (.iload_n 3, 1) := by decide +kernel
theorem dL_law_1048 : decode cL_law 1048 = .ok (.iconst 2, 1) := by decide +kernel
theorem dL_law_1049 : decode cL_law 1049 = .ok (.iadd, 1) := by decide +kernel
theorem dL_law_1050 : decode cL_law 1050 = .ok (.iaload, 1) := by decide +kernel
theorem dL_law_1051 : decode cL_law 1051 = .ok (.aload_n 0, 1) := by decide +kernel
theorem dL_law_1052 : decode cL_law 1052 = .ok (.iload_n 3, 1) := by decide +kernel
theorem dL_law_1053 : decode cL_law 1053 = .ok (.iconst 3, 1) := by decide +kernel
theorem dL_law_1054 : decode cL_law 1054 = .ok (.iadd, 1) := by decide +kernel
theorem dL_law_1055 : decode cL_law 1055 = .ok (.iaload, 1) := by decide +kernel
theorem dL_law_1056 : decode cL_law 1056 = .ok (.invokevirtual 134, 3) := by decide +kernel
theorem dL_law_1059 : decode cL_law 1059 = .ok (.aload_n 2, 1) := by decide +kernel
theorem dL_law_1060 : decode cL_law 1060 = .ok (.aload_n 0, 1) := by decide +kernel
theorem dL_law_1061 : decode cL_law 1061 = .ok (.iload_n 3, 1) := by decide +kernel
theorem dL_law_1062 : decode cL_law 1062 = .ok (.iconst 1, 1) := by decide +kernel
theorem dL_law_1063 : decode cL_law 1063 = .ok (.iadd, 1) := by decide +kernel
theorem dL_law_1064 : decode cL_law 1064 = .ok (.iaload, 1) := by decide +kernel
theorem dL_law_1065 : decode cL_law 1065 = .ok (.aload_n 0, 1) := by decide +kernel
theorem dL_law_1066 : decode cL_law 1066 = .ok (.iload_n 3, 1) := by decide +kernel
theorem dL_law_1067 : decode cL_law 1067 = .ok (.iconst 2, 1) := by decide +kernel
theorem dL_law_1068 : decode cL_law 1068 = .ok (.iadd, 1) := by decide +kernel
theorem dL_law_1069 : decode cL_law 1069 = .ok (.iaload, 1) := by decide +kernel
theorem dL_law_1070 : decode cL_law 1070 = .ok (.aload_n 0, 1) := by decide +kernel
theorem dL_law_1071 : decode cL_law 1071 = .ok (.iload_n 3, 1) := by decide +kernel
theorem dL_law_1072 : decode cL_law 1072 = .ok (.iconst 3, 1) := by decide +kernel
theorem dL_law_1073 : decode cL_law 1073 = .ok (.iadd, 1) := by decide +kernel
theorem dL_law_1074 : decode cL_law 1074 = .ok (.iaload, 1) := by decide +kernel
theorem dL_law_1075 : decode cL_law 1075 = .ok (.invokevirtual 137, 3) := by decide +kernel
theorem dL_law_1078 : decode cL_law 1078 = .ok (.lcmp, 1) := by decide +kernel
theorem dL_law_1079 : decode cL_law 1079 = .ok (.ifCond .eq 133, 3) := by decide +kernel
theorem dL_law_1082 : decode cL_law 1082 = .ok (.iconst 0, 1) := by decide +kernel
theorem dL_law_1083 : decode cL_law 1083 = .ok (.ireturn, 1) := by decide +kernel
theorem dL_law_1084 : decode cL_law 1084 = .ok (.aload_n 1, 1) := by decide +kernel
theorem dL_law_1085 : decode cL_law 1085 = .ok (.aload_n 0, 1) := by decide +kernel
theorem dL_law_1086 : decode cL_law 1086 = .ok (.iload_n 3, 1) := by decide +kernel
theorem dL_law_1087 : decode cL_law 1087 = .ok (.iconst 1, 1) := by decide +kernel
theorem dL_law_1088 : decode cL_law 1088 = .ok (.iadd, 1) := by decide +kernel
theorem dL_law_1089 : decode cL_law 1089 = .ok (.iaload, 1) := by decide +kernel
theorem dL_law_1090 : decode cL_law 1090 = .ok (.invokevirtual 138, 3) := by decide +kernel
theorem dL_law_1093 : decode cL_law 1093 = .ok (.aload_n 2, 1) := by decide +kernel
theorem dL_law_1094 : decode cL_law 1094 = .ok (.aload_n 0, 1) := by decide +kernel
theorem dL_law_1095 : decode cL_law 1095 = .ok (.iload_n 3, 1) := by decide +kernel
theorem dL_law_1096 : decode cL_law 1096 = .ok (.iconst 1, 1) := by decide +kernel
theorem dL_law_1097 : decode cL_law 1097 = .ok (.iadd, 1) := by decide +kernel
theorem dL_law_1098 : decode cL_law 1098 = .ok (.iaload, 1) := by decide +kernel
theorem dL_law_1099 : decode cL_law 1099 = .ok (.invokevirtual 141, 3) := by decide +kernel
theorem dL_law_1102 : decode cL_law 1102 = .ok (.if_icmp .eq 110, 3) := by decide +kernel
theorem dL_law_1105 : decode cL_law 1105 = .ok (.iconst 0, 1) := by decide +kernel
theorem dL_law_1106 : decode cL_law 1106 = .ok (.ireturn, 1) := by decide +kernel
theorem dL_law_1107 : decode cL_law 1107 = .ok (.aload_n 1, 1) := by decide +kernel
theorem dL_law_1108 : decode cL_law 1108 = .ok (.aload_n 0, 1) := by decide +kernel
theorem dL_law_1109 : decode cL_law 1109 = .ok (.iload_n 3, 1) := by decide +kernel
theorem dL_law_1110 : decode cL_law 1110 = .ok (.iconst 1, 1) := by decide +kernel
theorem dL_law_1111 : decode cL_law 1111 = .ok (.iadd, 1) := by decide +kernel
theorem dL_law_1112 : decode cL_law 1112 = .ok (.iaload, 1) := by decide +kernel
theorem dL_law_1113 : decode cL_law 1113 = .ok (.invokevirtual 142, 3) := by decide +kernel
theorem dL_law_1116 : decode cL_law 1116 = .ok (.aload_n 2, 1) := by decide +kernel
theorem dL_law_1117 : decode cL_law 1117 = .ok (.aload_n 0, 1) := by decide +kernel
theorem dL_law_1118 : decode cL_law 1118 = .ok (.iload_n 3, 1) := by decide +kernel
theorem dL_law_1119 : decode cL_law 1119 = .ok (.iconst 1, 1) := by decide +kernel
theorem dL_law_1120 : decode cL_law 1120 = .ok (.iadd, 1) := by decide +kernel
theorem dL_law_1121 : decode cL_law 1121 = .ok (.iaload, 1) := by decide +kernel
theorem dL_law_1122 : decode cL_law 1122 = .ok (.invokevirtual 145, 3) := by decide +kernel
theorem dL_law_1125 : decode cL_law 1125 = .ok (.if_icmp .eq 87, 3) := by decide +kernel
theorem dL_law_1128 : decode cL_law 1128 = .ok (.iconst 0, 1) := by decide +kernel
theorem dL_law_1129 : decode cL_law 1129 = .ok (.ireturn, 1) := by decide +kernel
theorem dL_law_1130 : decode cL_law 1130 = .ok (.aload_n 1, 1) := by decide +kernel
theorem dL_law_1131 : decode cL_law 1131 = .ok (.aload_n 0, 1) := by decide +kernel
theorem dL_law_1132 : decode cL_law 1132 = .ok (.iload_n 3, 1) := by decide +kernel
theorem dL_law_1133 : decode cL_law 1133 = .ok (.iconst 1, 1) := by decide +kernel
theorem dL_law_1134 : decode cL_law 1134 = .ok (.iadd, 1) := by decide +kernel
theorem dL_law_1135 : decode cL_law 1135 = .ok (.iaload, 1) := by decide +kernel
theorem dL_law_1136 : decode cL_law 1136 = .ok (.aload_n 0, 1) := by decide +kernel
theorem dL_law_1137 : decode cL_law 1137 = .ok (.iload_n 3, 1) := by decide +kernel
theorem dL_law_1138 : decode cL_law 1138 = .ok (.iconst 2, 1) := by decide +kernel
theorem dL_law_1139 : decode cL_law 1139 = .ok (.iadd, 1) := by decide +kernel
theorem dL_law_1140 : decode cL_law 1140 = .ok (.iaload, 1) := by decide +kernel
theorem dL_law_1141 : decode cL_law 1141 = .ok (.invokevirtual 146, 3) := by decide +kernel
theorem dL_law_1144 : decode cL_law 1144 = .ok (.aload_n 2, 1) := by decide +kernel
theorem dL_law_1145 : decode cL_law 1145 = .ok (.aload_n 0, 1) := by decide +kernel
theorem dL_law_1146 : decode cL_law 1146 = .ok (.iload_n 3, 1) := by decide +kernel
theorem dL_law_1147 : decode cL_law 1147 = .ok (.iconst 1, 1) := by decide +kernel
theorem dL_law_1148 : decode cL_law 1148 = .ok (.iadd, 1) := by decide +kernel
theorem dL_law_1149 : decode cL_law 1149 = .ok (.iaload, 1) := by decide +kernel
theorem dL_law_1150 : decode cL_law 1150 = .ok (.aload_n 0, 1) := by decide +kernel
theorem dL_law_1151 : decode cL_law 1151 = .ok (.iload_n 3, 1) := by decide +kernel
theorem dL_law_1152 : decode cL_law 1152 = .ok (.iconst 2, 1) := by decide +kernel
theorem dL_law_1153 : decode cL_law 1153 = .ok (.iadd, 1) := by decide +kernel
theorem dL_law_1154 : decode cL_law 1154 = .ok (.iaload, 1) := by decide +kernel
theorem dL_law_1155 : decode cL_law 1155 = .ok (.invokevirtual 149, 3) := by decide +kernel
theorem dL_law_1158 : decode cL_law 1158 = .ok (.if_icmp .eq 54, 3) := by decide +kernel
theorem dL_law_1161 : decode cL_law 1161 = .ok (.iconst 0, 1) := by decide +kernel
theorem dL_law_1162 : decode cL_law 1162 = .ok (.ireturn, 1) := by decide +kernel
theorem dL_law_1163 : decode cL_law 1163 = .ok (.aload_n 1, 1) := by decide +kernel
theorem dL_law_1164 : decode cL_law 1164 = .ok (.invokevirtual 150, 3) := by decide +kernel
theorem dL_law_1167 : decode cL_law 1167 = .ok (.aload_n 2, 1) := by decide +kernel
theorem dL_law_1168 : decode cL_law 1168 = .ok (.invokevirtual 153, 3) := by decide +kernel
theorem dL_law_1171 : decode cL_law 1171 = .ok (.if_icmp .eq 41, 3) := by decide +kernel
theorem dL_law_1174 : decode cL_law 1174 = .ok (.iconst 0, 1) := by decide +kernel
theorem dL_law_1175 : decode cL_law 1175 = .ok (.ireturn, 1) := by decide +kernel
theorem dL_law_1176 : decode cL_law 1176 = .ok (.aload_n 1, 1) := by decide +kernel
theorem dL_law_1177 : decode cL_law 1177 = .ok (.invokevirtual 154, 3) := by decide +kernel
theorem dL_law_1180 : decode cL_law 1180 = .ok (.aload_n 2, 1) := by decide +kernel
theorem dL_law_1181 : decode cL_law 1181 = .ok (.invokevirtual 157, 3) := by decide +kernel
theorem dL_law_1184 : decode cL_law 1184 = .ok (.if_icmp .eq 28, 3) := by decide +kernel
theorem dL_law_1187 : decode cL_law 1187 = .ok (.iconst 0, 1) := by decide +kernel
theorem dL_law_1188 : decode cL_law 1188 = .ok (.ireturn, 1) := by decide +kernel
theorem dL_law_1189 : decode cL_law 1189 = .ok (.aload_n 1, 1) := by decide +kernel
theorem dL_law_1190 : decode cL_law 1190 = .ok (.aload_n 0, 1) := by decide +kernel
theorem dL_law_1191 : decode cL_law 1191 = .ok (.iload_n 3, 1) := by decide +kernel
theorem dL_law_1192 : decode cL_law 1192 = .ok (.iconst 1, 1) := by decide +kernel
theorem dL_law_1193 : decode cL_law 1193 = .ok (.iadd, 1) := by decide +kernel
theorem dL_law_1194 : decode cL_law 1194 = .ok (.iaload, 1) := by decide +kernel
theorem dL_law_1195 : decode cL_law 1195 = .ok (.invokevirtual 158, 3) := by decide +kernel
theorem dL_law_1198 : decode cL_law 1198 = .ok (.aload_n 2, 1) := by decide +kernel
theorem dL_law_1199 : decode cL_law 1199 = .ok (.aload_n 0, 1) := by decide +kernel
theorem dL_law_1200 : decode cL_law 1200 = .ok (.iload_n 3, 1) := by decide +kernel
theorem dL_law_1201 : decode cL_law 1201 = .ok (.iconst 1, 1) := by decide +kernel
theorem dL_law_1202 : decode cL_law 1202 = .ok (.iadd, 1) := by decide +kernel
theorem dL_law_1203 : decode cL_law 1203 = .ok (.iaload, 1) := by decide +kernel
theorem dL_law_1204 : decode cL_law 1204 = .ok (.invokevirtual 161, 3) := by decide +kernel
theorem dL_law_1207 : decode cL_law 1207 = .ok (.if_icmp .eq 5, 3) := by decide +kernel
theorem dL_law_1210 : decode cL_law 1210 = .ok (.iconst 0, 1) := by decide +kernel
theorem dL_law_1211 : decode cL_law 1211 = .ok (.ireturn, 1) := by decide +kernel
theorem dL_law_1212 : decode cL_law 1212 = .ok (.iinc 3 5, 3) := by decide +kernel
theorem dL_law_1215 : decode cL_law 1215 = .ok (.goto (-1197), 3) := by decide +kernel
theorem dL_law_1218 : decode cL_law 1218 = .ok (.iconst 1, 1) := by decide +kernel
theorem dL_law_1219 : decode cL_law 1219 = .ok (.ireturn, 1) := by decide +kernel
