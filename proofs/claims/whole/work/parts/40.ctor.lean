/-! constructors: words, pictures, walks, by program -/
theorem woi : .instanceMethod objectInit ∈ q_tbl := (q_mem (q_t1 _ (List.mem_of_getElem? (i := 26) (by decide +kernel))) rfl)
theorem woc : Cond.code objectInit ⟨#[0xb1]⟩ 1 none ∈ q_tbl := (q_mem (q_t1 _ (List.mem_of_getElem? (i := 27) rfl)) rfl)
theorem wob_RX11_1 : Cond.methodLink RX11 1 objectInit ∈ q_tbl := (q_mem (q_t1 _ (List.mem_of_getElem? (i := 25) (by decide +kernel))) rfl)
theorem wob_RX3_3 : Cond.methodLink RX3 3 objectInit ∈ q_tbl := (q_mem (q_t1 _ (List.mem_of_getElem? (i := 33) (by decide +kernel))) rfl)
theorem wob_RX9_3 : Cond.methodLink RX9 3 objectInit ∈ q_tbl := (q_mem (q_t1 _ (List.mem_of_getElem? (i := 39) (by decide +kernel))) rfl)
theorem wob_RX5_1 : Cond.methodLink RX5 1 objectInit ∈ q_tbl := (q_mem (q_t1 _ (List.mem_of_getElem? (i := 45) (by decide +kernel))) rfl)
theorem wob_RX8_3 : Cond.methodLink RX8 3 objectInit ∈ q_tbl := (q_mem (q_t1 _ (List.mem_of_getElem? (i := 188) (by decide +kernel))) rfl)
theorem wob_RX2_3 : Cond.methodLink RX2 3 objectInit ∈ q_tbl := (q_mem (q_t1 _ (List.mem_of_getElem? (i := 209) (by decide +kernel))) rfl)
theorem wob_RX6_3 : Cond.methodLink RX6 3 objectInit ∈ q_tbl := (q_mem (q_t1 _ (List.mem_of_getElem? (i := 230) (by decide +kernel))) rfl)
theorem wob_RX4_3 : Cond.methodLink RX4 3 objectInit ∈ q_tbl := (q_mem (q_t2 _ (List.mem_of_getElem? (i := 11) (by decide +kernel))) rfl)
theorem wob_RX10_3 : Cond.methodLink RX10 3 objectInit ∈ q_tbl := (q_mem (q_t2 _ (List.mem_of_getElem? (i := 43) (by decide +kernel))) rfl)
theorem wob_RX0_3 : Cond.methodLink RX0 3 objectInit ∈ q_tbl := (q_mem (q_t2 _ (List.mem_of_getElem? (i := 56) (by decide +kernel))) rfl)
theorem wob_RX1_3 : Cond.methodLink RX1 3 objectInit ∈ q_tbl := (q_mem (q_t2 _ (List.mem_of_getElem? (i := 75) (by decide +kernel))) rfl)
theorem wob_RX7_3 : Cond.methodLink RX7 3 objectInit ∈ q_tbl := (q_mem (q_t2 _ (List.mem_of_getElem? (i := 91) (by decide +kernel))) rfl)
theorem wob_RX12_7 : Cond.methodLink RX12 7 objectInit ∈ q_tbl := (q_mem (q_t6 _ (List.mem_of_getElem? (i := 135) (by decide +kernel))) rfl)
theorem wa_int : Cond.arrayClass .int ∈ q_tbl := (q_mem (q_t7 _ (List.mem_of_getElem? (i := 104) (by decide +kernel))) rfl)
theorem wa_long : Cond.arrayClass .long ∈ q_tbl := (q_mem (q_t1 _ (List.mem_of_getElem? (i := 53) (by decide +kernel))) rfl)
theorem wa_byte : Cond.arrayClass .byte ∈ q_tbl := (q_mem (q_t1 _ (List.mem_of_getElem? (i := 153) (by decide +kernel))) rfl)
theorem wa_boolean : Cond.arrayClass .boolean ∈ q_tbl := (q_mem (q_t7 _ (List.mem_of_getElem? (i := 105) (by decide +kernel))) rfl)
theorem wo_0 : Cond.arrayOver (.object RX0) ∈ q_nst := (q_memN (q_t2 _ (List.mem_of_getElem? (i := 45) (by decide +kernel))) rfl)
theorem wo_1 : Cond.arrayOver (.object RX1) ∈ q_nst := (q_memN (q_t2 _ (List.mem_of_getElem? (i := 47) (by decide +kernel))) rfl)
theorem wo_5 : Cond.arrayOver (.object RX5) ∈ q_nst := (q_memN (q_t2 _ (List.mem_of_getElem? (i := 16) (by decide +kernel))) rfl)
theorem wo_7 : Cond.arrayOver (.object RX7) ∈ q_nst := (q_memN (q_t2 _ (List.mem_of_getElem? (i := 49) (by decide +kernel))) rfl)
theorem wo_8 : Cond.arrayOver (.object RX8) ∈ q_nst := (q_memN (q_t1 _ (List.mem_of_getElem? (i := 203) (by decide +kernel))) rfl)
theorem df_0 : q_Df 0 tyX0 := by unfold q_Df; decide +kernel
theorem df_1 : q_Df 1 tyX1 := by unfold q_Df; decide +kernel
theorem df_2 : q_Df 2 tyX2 := by unfold q_Df; decide +kernel
theorem df_3 : q_Df 3 tyX3 := by unfold q_Df; decide +kernel
theorem df_4 : q_Df 4 tyX4 := by unfold q_Df; decide +kernel
theorem df_5 : q_Df 5 tyX5 := by unfold q_Df; decide +kernel
theorem df_6 : q_Df 6 tyX6 := by unfold q_Df; decide +kernel
theorem df_7 : q_Df 7 tyX7 := by unfold q_Df; decide +kernel
theorem df_8 : q_Df 8 tyX8 := by unfold q_Df; decide +kernel
theorem df_9 : q_Df 9 tyX9 := by unfold q_Df; decide +kernel
theorem df_10 : q_Df 10 tyX10 := by unfold q_Df; decide +kernel
theorem df_11 : q_Df 11 tyX11 := by unfold q_Df; decide +kernel
theorem df_12 : q_Df 12 tyX12 := by unfold q_Df; decide +kernel
theorem wl_RL_7 : Cond.classLink RL 7 RX11 ∈ q_tbl := (q_mem (q_t1 _ (List.mem_of_getElem? (i := 20) (by decide +kernel))) rfl)
theorem nl_RL_7 : q_Nl RL 7 11 := ⟨_, _, _, rfl, rfl, wl_RL_7, (q_mem (q_t1 _ (List.mem_of_getElem? (i := 21) (by decide +kernel))) rfl), (q_mem (q_t1 _ (List.mem_of_getElem? (i := 1) (by decide +kernel))) rfl)⟩
theorem wl_RX11_7 : Cond.classLink RX11 7 RX3 ∈ q_tbl := (q_mem (q_t1 _ (List.mem_of_getElem? (i := 28) (by decide +kernel))) rfl)
theorem nl_RX11_7 : q_Nl RX11 7 3 := ⟨_, _, _, rfl, rfl, wl_RX11_7, (q_mem (q_t1 _ (List.mem_of_getElem? (i := 29) (by decide +kernel))) rfl), (q_mem (q_t1 _ (List.mem_of_getElem? (i := 2) (by decide +kernel))) rfl)⟩
theorem wl_RX3_9 : Cond.classLink RX3 9 RX9 ∈ q_tbl := (q_mem (q_t1 _ (List.mem_of_getElem? (i := 34) (by decide +kernel))) rfl)
theorem nl_RX3_9 : q_Nl RX3 9 9 := ⟨_, _, _, rfl, rfl, wl_RX3_9, (q_mem (q_t1 _ (List.mem_of_getElem? (i := 35) (by decide +kernel))) rfl), (q_mem (q_t1 _ (List.mem_of_getElem? (i := 3) (by decide +kernel))) rfl)⟩
theorem wl_RX9_9 : Cond.classLink RX9 9 RX5 ∈ q_tbl := (q_mem (q_t1 _ (List.mem_of_getElem? (i := 40) (by decide +kernel))) rfl)
theorem nl_RX9_9 : q_Nl RX9 9 5 := ⟨_, _, _, rfl, rfl, wl_RX9_9, (q_mem (q_t1 _ (List.mem_of_getElem? (i := 41) (by decide +kernel))) rfl), (q_mem (q_t1 _ (List.mem_of_getElem? (i := 4) (by decide +kernel))) rfl)⟩
theorem wl_RX3_18 : Cond.classLink RX3 18 RX5 ∈ q_tbl := (q_mem (q_t1 _ (List.mem_of_getElem? (i := 154) (by decide +kernel))) rfl)
theorem nl_RX3_18 : q_Nl RX3 18 5 := ⟨_, _, _, rfl, rfl, wl_RX3_18, (q_mem (q_t1 _ (List.mem_of_getElem? (i := 41) (by decide +kernel))) rfl), (q_mem (q_t1 _ (List.mem_of_getElem? (i := 4) (by decide +kernel))) rfl)⟩
theorem wl_RX11_16 : Cond.classLink RX11 16 RX8 ∈ q_tbl := (q_mem (q_t1 _ (List.mem_of_getElem? (i := 183) (by decide +kernel))) rfl)
theorem nl_RX11_16 : q_Nl RX11 16 8 := ⟨_, _, _, rfl, rfl, wl_RX11_16, (q_mem (q_t1 _ (List.mem_of_getElem? (i := 184) (by decide +kernel))) rfl), (q_mem (q_t1 _ (List.mem_of_getElem? (i := 10) (by decide +kernel))) rfl)⟩
theorem wl_RX8_9 : Cond.classLink RX8 9 RX5 ∈ q_tbl := (q_mem (q_t1 _ (List.mem_of_getElem? (i := 189) (by decide +kernel))) rfl)
theorem nl_RX8_9 : q_Nl RX8 9 5 := ⟨_, _, _, rfl, rfl, wl_RX8_9, (q_mem (q_t1 _ (List.mem_of_getElem? (i := 41) (by decide +kernel))) rfl), (q_mem (q_t1 _ (List.mem_of_getElem? (i := 4) (by decide +kernel))) rfl)⟩
theorem wl_RX11_27 : Cond.classLink RX11 27 RX2 ∈ q_tbl := (q_mem (q_t1 _ (List.mem_of_getElem? (i := 204) (by decide +kernel))) rfl)
theorem nl_RX11_27 : q_Nl RX11 27 2 := ⟨_, _, _, rfl, rfl, wl_RX11_27, (q_mem (q_t1 _ (List.mem_of_getElem? (i := 205) (by decide +kernel))) rfl), (q_mem (q_t1 _ (List.mem_of_getElem? (i := 11) (by decide +kernel))) rfl)⟩
theorem wl_RX2_9 : Cond.classLink RX2 9 RX5 ∈ q_tbl := (q_mem (q_t1 _ (List.mem_of_getElem? (i := 210) (by decide +kernel))) rfl)
theorem nl_RX2_9 : q_Nl RX2 9 5 := ⟨_, _, _, rfl, rfl, wl_RX2_9, (q_mem (q_t1 _ (List.mem_of_getElem? (i := 41) (by decide +kernel))) rfl), (q_mem (q_t1 _ (List.mem_of_getElem? (i := 4) (by decide +kernel))) rfl)⟩
theorem wl_RX11_34 : Cond.classLink RX11 34 RX6 ∈ q_tbl := (q_mem (q_t1 _ (List.mem_of_getElem? (i := 225) (by decide +kernel))) rfl)
theorem nl_RX11_34 : q_Nl RX11 34 6 := ⟨_, _, _, rfl, rfl, wl_RX11_34, (q_mem (q_t1 _ (List.mem_of_getElem? (i := 226) (by decide +kernel))) rfl), (q_mem (q_t1 _ (List.mem_of_getElem? (i := 12) (by decide +kernel))) rfl)⟩
theorem wl_RX6_9 : Cond.classLink RX6 9 RX5 ∈ q_tbl := (q_mem (q_t1 _ (List.mem_of_getElem? (i := 231) (by decide +kernel))) rfl)
theorem nl_RX6_9 : q_Nl RX6 9 5 := ⟨_, _, _, rfl, rfl, wl_RX6_9, (q_mem (q_t1 _ (List.mem_of_getElem? (i := 41) (by decide +kernel))) rfl), (q_mem (q_t1 _ (List.mem_of_getElem? (i := 4) (by decide +kernel))) rfl)⟩
theorem wl_RX11_41 : Cond.classLink RX11 41 RX4 ∈ q_tbl := (q_mem (q_t2 _ (List.mem_of_getElem? (i := 6) (by decide +kernel))) rfl)
theorem nl_RX11_41 : q_Nl RX11 41 4 := ⟨_, _, _, rfl, rfl, wl_RX11_41, (q_mem (q_t2 _ (List.mem_of_getElem? (i := 7) (by decide +kernel))) rfl), (q_mem (q_t1 _ (List.mem_of_getElem? (i := 13) (by decide +kernel))) rfl)⟩
theorem wl_RX4_9 : Cond.classLink RX4 9 RX5 ∈ q_tbl := (q_mem (q_t2 _ (List.mem_of_getElem? (i := 12) (by decide +kernel))) rfl)
theorem nl_RX4_9 : q_Nl RX4 9 5 := ⟨_, _, _, rfl, rfl, wl_RX4_9, (q_mem (q_t1 _ (List.mem_of_getElem? (i := 41) (by decide +kernel))) rfl), (q_mem (q_t1 _ (List.mem_of_getElem? (i := 4) (by decide +kernel))) rfl)⟩
theorem wl_RX4_20 : Cond.classLink RX4 20 RX8 ∈ q_tbl := (q_mem (q_t2 _ (List.mem_of_getElem? (i := 14) (by decide +kernel))) rfl)
theorem nl_RX4_20 : q_Nl RX4 20 8 := ⟨_, _, _, rfl, rfl, wl_RX4_20, (q_mem (q_t1 _ (List.mem_of_getElem? (i := 184) (by decide +kernel))) rfl), (q_mem (q_t1 _ (List.mem_of_getElem? (i := 10) (by decide +kernel))) rfl)⟩
theorem wl_RX11_48 : Cond.classLink RX11 48 RX10 ∈ q_tbl := (q_mem (q_t2 _ (List.mem_of_getElem? (i := 38) (by decide +kernel))) rfl)
theorem nl_RX11_48 : q_Nl RX11 48 10 := ⟨_, _, _, rfl, rfl, wl_RX11_48, (q_mem (q_t2 _ (List.mem_of_getElem? (i := 39) (by decide +kernel))) rfl), (q_mem (q_t1 _ (List.mem_of_getElem? (i := 14) (by decide +kernel))) rfl)⟩
theorem wl_RX10_9 : Cond.classLink RX10 9 RX0 ∈ q_tbl := (q_mem (q_t2 _ (List.mem_of_getElem? (i := 44) (by decide +kernel))) rfl)
theorem nl_RX10_9 : q_Nl RX10 9 0 := ⟨_, _, _, rfl, rfl, wl_RX10_9, (q_mem (q_t2 _ (List.mem_of_getElem? (i := 52) (by decide +kernel))) rfl), (q_mem (q_t1 _ (List.mem_of_getElem? (i := 15) (by decide +kernel))) rfl)⟩
theorem wl_RX10_17 : Cond.classLink RX10 17 RX1 ∈ q_tbl := (q_mem (q_t2 _ (List.mem_of_getElem? (i := 46) (by decide +kernel))) rfl)
theorem nl_RX10_17 : q_Nl RX10 17 1 := ⟨_, _, _, rfl, rfl, wl_RX10_17, (q_mem (q_t2 _ (List.mem_of_getElem? (i := 71) (by decide +kernel))) rfl), (q_mem (q_t1 _ (List.mem_of_getElem? (i := 16) (by decide +kernel))) rfl)⟩
theorem wl_RX10_23 : Cond.classLink RX10 23 RX7 ∈ q_tbl := (q_mem (q_t2 _ (List.mem_of_getElem? (i := 48) (by decide +kernel))) rfl)
theorem nl_RX10_23 : q_Nl RX10 23 7 := ⟨_, _, _, rfl, rfl, wl_RX10_23, (q_mem (q_t2 _ (List.mem_of_getElem? (i := 87) (by decide +kernel))) rfl), (q_mem (q_t1 _ (List.mem_of_getElem? (i := 17) (by decide +kernel))) rfl)⟩
theorem wl_RX10_29 : Cond.classLink RX10 29 RX5 ∈ q_tbl := (q_mem (q_t2 _ (List.mem_of_getElem? (i := 50) (by decide +kernel))) rfl)
theorem nl_RX10_29 : q_Nl RX10 29 5 := ⟨_, _, _, rfl, rfl, wl_RX10_29, (q_mem (q_t1 _ (List.mem_of_getElem? (i := 41) (by decide +kernel))) rfl), (q_mem (q_t1 _ (List.mem_of_getElem? (i := 4) (by decide +kernel))) rfl)⟩
theorem wl_RX0_9 : Cond.classLink RX0 9 RX5 ∈ q_tbl := (q_mem (q_t2 _ (List.mem_of_getElem? (i := 57) (by decide +kernel))) rfl)
theorem nl_RX0_9 : q_Nl RX0 9 5 := ⟨_, _, _, rfl, rfl, wl_RX0_9, (q_mem (q_t1 _ (List.mem_of_getElem? (i := 41) (by decide +kernel))) rfl), (q_mem (q_t1 _ (List.mem_of_getElem? (i := 4) (by decide +kernel))) rfl)⟩
theorem wl_RX7_9 : Cond.classLink RX7 9 RX5 ∈ q_tbl := (q_mem (q_t2 _ (List.mem_of_getElem? (i := 92) (by decide +kernel))) rfl)
theorem nl_RX7_9 : q_Nl RX7 9 5 := ⟨_, _, _, rfl, rfl, wl_RX7_9, (q_mem (q_t1 _ (List.mem_of_getElem? (i := 41) (by decide +kernel))) rfl), (q_mem (q_t1 _ (List.mem_of_getElem? (i := 4) (by decide +kernel))) rfl)⟩
theorem wl_RL_10 : Cond.classLink RL 10 RX12 ∈ q_tbl := (q_mem (q_t6 _ (List.mem_of_getElem? (i := 130) (by decide +kernel))) rfl)
theorem nl_RL_10 : q_Nl RL 10 12 := ⟨_, _, _, rfl, rfl, wl_RL_10, (q_mem (q_t6 _ (List.mem_of_getElem? (i := 131) (by decide +kernel))) rfl), (q_mem (q_t1 _ (List.mem_of_getElem? (i := 18) (by decide +kernel))) rfl)⟩
theorem gl_RX11_10 : q_Fl0 RX11 10 11 0 := ⟨RX11, TX11, 10, rfl, by decide, rfl, rfl, (q_mem (q_t2 _ (List.mem_of_getElem? (i := 212) (by decide +kernel))) rfl)⟩
theorem gl_RX11_19 : q_Fl0 RX11 19 11 1 := ⟨RX11, TX11, 10, rfl, by decide, rfl, rfl, (q_mem (q_t2 _ (List.mem_of_getElem? (i := 213) (by decide +kernel))) rfl)⟩
theorem gl_RX11_23 : q_Fl0 RX11 23 11 2 := ⟨RX11, TX11, 10, rfl, by decide, rfl, rfl, (q_mem (q_t2 _ (List.mem_of_getElem? (i := 214) (by decide +kernel))) rfl)⟩
theorem gl_RX11_30 : q_Fl0 RX11 30 11 3 := ⟨RX11, TX11, 10, rfl, by decide, rfl, rfl, (q_mem (q_t2 _ (List.mem_of_getElem? (i := 215) (by decide +kernel))) rfl)⟩
theorem gl_RX11_37 : q_Fl0 RX11 37 11 4 := ⟨RX11, TX11, 10, rfl, by decide, rfl, rfl, (q_mem (q_t2 _ (List.mem_of_getElem? (i := 216) (by decide +kernel))) rfl)⟩
theorem gl_RX11_44 : q_Fl0 RX11 44 11 5 := ⟨RX11, TX11, 10, rfl, by decide, rfl, rfl, (q_mem (q_t2 _ (List.mem_of_getElem? (i := 217) (by decide +kernel))) rfl)⟩
theorem gl_RX11_51 : q_Fl0 RX11 51 11 6 := ⟨RX11, TX11, 10, rfl, by decide, rfl, rfl, (q_mem (q_t2 _ (List.mem_of_getElem? (i := 218) (by decide +kernel))) rfl)⟩
theorem gl_RX11_55 : q_Fl0 RX11 55 11 7 := ⟨RX11, TX11, 10, rfl, by decide, rfl, rfl, (q_mem (q_t2 _ (List.mem_of_getElem? (i := 219) (by decide +kernel))) rfl)⟩
theorem gl_RX11_58 : q_Fl0 RX11 58 11 8 := ⟨RX11, TX11, 10, rfl, by decide, rfl, rfl, (q_mem (q_t2 _ (List.mem_of_getElem? (i := 220) (by decide +kernel))) rfl)⟩
theorem gl_RX11_62 : q_Fl0 RX11 62 11 9 := ⟨RX11, TX11, 10, rfl, by decide, rfl, rfl, (q_mem (q_t2 _ (List.mem_of_getElem? (i := 221) (by decide +kernel))) rfl)⟩
theorem gl_RX0_14 : q_Fl0 RX0 14 0 0 := ⟨RX0, TX0, 2, rfl, by decide, rfl, rfl, (q_mem (q_t2 _ (List.mem_of_getElem? (i := 59) (by decide +kernel))) rfl)⟩
theorem gl_RX0_20 : q_Fl0 RX0 20 0 1 := ⟨RX0, TX0, 2, rfl, by decide, rfl, rfl, (q_mem (q_t2 _ (List.mem_of_getElem? (i := 60) (by decide +kernel))) rfl)⟩
theorem gl_RX1_9 : q_Fl0 RX1 9 1 0 := ⟨RX1, TX1, 3, rfl, by decide, rfl, rfl, (q_mem (q_t2 _ (List.mem_of_getElem? (i := 76) (by decide +kernel))) rfl)⟩
theorem gl_RX1_15 : q_Fl0 RX1 15 1 1 := ⟨RX1, TX1, 3, rfl, by decide, rfl, rfl, (q_mem (q_t2 _ (List.mem_of_getElem? (i := 78) (by decide +kernel))) rfl)⟩
theorem gl_RX1_18 : q_Fl0 RX1 18 1 2 := ⟨RX1, TX1, 3, rfl, by decide, rfl, rfl, (q_mem (q_t2 _ (List.mem_of_getElem? (i := 79) (by decide +kernel))) rfl)⟩
theorem gl_RX2_14 : q_Fl0 RX2 14 2 0 := ⟨RX2, TX2, 4, rfl, by decide, rfl, rfl, (q_mem (q_t1 _ (List.mem_of_getElem? (i := 212) (by decide +kernel))) rfl)⟩
theorem gl_RX2_20 : q_Fl0 RX2 20 2 1 := ⟨RX2, TX2, 4, rfl, by decide, rfl, rfl, (q_mem (q_t1 _ (List.mem_of_getElem? (i := 213) (by decide +kernel))) rfl)⟩
theorem gl_RX2_23 : q_Fl0 RX2 23 2 2 := ⟨RX2, TX2, 4, rfl, by decide, rfl, rfl, (q_mem (q_t1 _ (List.mem_of_getElem? (i := 214) (by decide +kernel))) rfl)⟩
theorem gl_RX2_26 : q_Fl0 RX2 26 2 3 := ⟨RX2, TX2, 4, rfl, by decide, rfl, rfl, (q_mem (q_t1 _ (List.mem_of_getElem? (i := 215) (by decide +kernel))) rfl)⟩
theorem gl_RX3_12 : q_Fl0 RX3 12 3 0 := ⟨RX3, TX3, 8, rfl, by decide, rfl, rfl, (q_mem (q_t1 _ (List.mem_of_getElem? (i := 156) (by decide +kernel))) rfl)⟩
theorem gl_RX3_23 : q_Fl0 RX3 23 3 1 := ⟨RX3, TX3, 8, rfl, by decide, rfl, rfl, (q_mem (q_t1 _ (List.mem_of_getElem? (i := 158) (by decide +kernel))) rfl)⟩
theorem gl_RX3_27 : q_Fl0 RX3 27 3 2 := ⟨RX3, TX3, 8, rfl, by decide, rfl, rfl, (q_mem (q_t1 _ (List.mem_of_getElem? (i := 159) (by decide +kernel))) rfl)⟩
theorem gl_RX3_30 : q_Fl0 RX3 30 3 3 := ⟨RX3, TX3, 8, rfl, by decide, rfl, rfl, (q_mem (q_t1 _ (List.mem_of_getElem? (i := 160) (by decide +kernel))) rfl)⟩
theorem gl_RX3_33 : q_Fl0 RX3 33 3 4 := ⟨RX3, TX3, 8, rfl, by decide, rfl, rfl, (q_mem (q_t1 _ (List.mem_of_getElem? (i := 161) (by decide +kernel))) rfl)⟩
theorem gl_RX3_37 : q_Fl0 RX3 37 3 5 := ⟨RX3, TX3, 8, rfl, by decide, rfl, rfl, (q_mem (q_t1 _ (List.mem_of_getElem? (i := 162) (by decide +kernel))) rfl)⟩
theorem gl_RX3_40 : q_Fl0 RX3 40 3 6 := ⟨RX3, TX3, 8, rfl, by decide, rfl, rfl, (q_mem (q_t1 _ (List.mem_of_getElem? (i := 163) (by decide +kernel))) rfl)⟩
theorem gl_RX3_43 : q_Fl0 RX3 43 3 7 := ⟨RX3, TX3, 8, rfl, by decide, rfl, rfl, (q_mem (q_t1 _ (List.mem_of_getElem? (i := 164) (by decide +kernel))) rfl)⟩
theorem gl_RX4_14 : q_Fl0 RX4 14 4 0 := ⟨RX4, TX4, 6, rfl, by decide, rfl, rfl, (q_mem (q_t2 _ (List.mem_of_getElem? (i := 17) (by decide +kernel))) rfl)⟩
theorem gl_RX4_23 : q_Fl0 RX4 23 4 1 := ⟨RX4, TX4, 6, rfl, by decide, rfl, rfl, (q_mem (q_t2 _ (List.mem_of_getElem? (i := 18) (by decide +kernel))) rfl)⟩
theorem gl_RX4_27 : q_Fl0 RX4 27 4 2 := ⟨RX4, TX4, 6, rfl, by decide, rfl, rfl, (q_mem (q_t2 _ (List.mem_of_getElem? (i := 19) (by decide +kernel))) rfl)⟩
theorem gl_RX4_31 : q_Fl0 RX4 31 4 3 := ⟨RX4, TX4, 6, rfl, by decide, rfl, rfl, (q_mem (q_t2 _ (List.mem_of_getElem? (i := 20) (by decide +kernel))) rfl)⟩
theorem gl_RX4_34 : q_Fl0 RX4 34 4 4 := ⟨RX4, TX4, 6, rfl, by decide, rfl, rfl, (q_mem (q_t2 _ (List.mem_of_getElem? (i := 21) (by decide +kernel))) rfl)⟩
theorem gl_RX4_38 : q_Fl0 RX4 38 4 5 := ⟨RX4, TX4, 6, rfl, by decide, rfl, rfl, (q_mem (q_t2 _ (List.mem_of_getElem? (i := 23) (by decide +kernel))) rfl)⟩
theorem gl_RX5_13 : q_Fl0 RX5 13 5 0 := ⟨RX5, TX5, 1, rfl, by decide, rfl, rfl, (q_mem (q_t1 _ (List.mem_of_getElem? (i := 49) (by decide +kernel))) rfl)⟩
theorem gl_RX6_14 : q_Fl0 RX6 14 6 0 := ⟨RX6, TX6, 4, rfl, by decide, rfl, rfl, (q_mem (q_t1 _ (List.mem_of_getElem? (i := 233) (by decide +kernel))) rfl)⟩
theorem gl_RX6_20 : q_Fl0 RX6 20 6 1 := ⟨RX6, TX6, 4, rfl, by decide, rfl, rfl, (q_mem (q_t1 _ (List.mem_of_getElem? (i := 234) (by decide +kernel))) rfl)⟩
theorem gl_RX6_23 : q_Fl0 RX6 23 6 2 := ⟨RX6, TX6, 4, rfl, by decide, rfl, rfl, (q_mem (q_t1 _ (List.mem_of_getElem? (i := 235) (by decide +kernel))) rfl)⟩
theorem gl_RX6_26 : q_Fl0 RX6 26 6 3 := ⟨RX6, TX6, 4, rfl, by decide, rfl, rfl, (q_mem (q_t1 _ (List.mem_of_getElem? (i := 236) (by decide +kernel))) rfl)⟩
theorem gl_RX7_14 : q_Fl0 RX7 14 7 0 := ⟨RX7, TX7, 9, rfl, by decide, rfl, rfl, (q_mem (q_t2 _ (List.mem_of_getElem? (i := 94) (by decide +kernel))) rfl)⟩
theorem gl_RX7_20 : q_Fl0 RX7 20 7 1 := ⟨RX7, TX7, 9, rfl, by decide, rfl, rfl, (q_mem (q_t2 _ (List.mem_of_getElem? (i := 97) (by decide +kernel))) rfl)⟩
theorem gl_RX7_23 : q_Fl0 RX7 23 7 2 := ⟨RX7, TX7, 9, rfl, by decide, rfl, rfl, (q_mem (q_t2 _ (List.mem_of_getElem? (i := 100) (by decide +kernel))) rfl)⟩
theorem gl_RX7_27 : q_Fl0 RX7 27 7 3 := ⟨RX7, TX7, 9, rfl, by decide, rfl, rfl, (q_mem (q_t2 _ (List.mem_of_getElem? (i := 103) (by decide +kernel))) rfl)⟩
theorem gl_RX7_31 : q_Fl0 RX7 31 7 4 := ⟨RX7, TX7, 9, rfl, by decide, rfl, rfl, (q_mem (q_t2 _ (List.mem_of_getElem? (i := 107) (by decide +kernel))) rfl)⟩
theorem gl_RX7_34 : q_Fl0 RX7 34 7 5 := ⟨RX7, TX7, 9, rfl, by decide, rfl, rfl, (q_mem (q_t2 _ (List.mem_of_getElem? (i := 112) (by decide +kernel))) rfl)⟩
theorem gl_RX7_37 : q_Fl0 RX7 37 7 6 := ⟨RX7, TX7, 9, rfl, by decide, rfl, rfl, (q_mem (q_t2 _ (List.mem_of_getElem? (i := 115) (by decide +kernel))) rfl)⟩
theorem gl_RX7_40 : q_Fl0 RX7 40 7 7 := ⟨RX7, TX7, 9, rfl, by decide, rfl, rfl, (q_mem (q_t2 _ (List.mem_of_getElem? (i := 118) (by decide +kernel))) rfl)⟩
theorem gl_RX7_43 : q_Fl0 RX7 43 7 8 := ⟨RX7, TX7, 9, rfl, by decide, rfl, rfl, (q_mem (q_t2 _ (List.mem_of_getElem? (i := 120) (by decide +kernel))) rfl)⟩
theorem gl_RX8_14 : q_Fl0 RX8 14 8 0 := ⟨RX8, TX8, 3, rfl, by decide, rfl, rfl, (q_mem (q_t1 _ (List.mem_of_getElem? (i := 191) (by decide +kernel))) rfl)⟩
theorem gl_RX8_20 : q_Fl0 RX8 20 8 1 := ⟨RX8, TX8, 3, rfl, by decide, rfl, rfl, (q_mem (q_t1 _ (List.mem_of_getElem? (i := 192) (by decide +kernel))) rfl)⟩
theorem gl_RX8_23 : q_Fl0 RX8 23 8 2 := ⟨RX8, TX8, 3, rfl, by decide, rfl, rfl, (q_mem (q_t1 _ (List.mem_of_getElem? (i := 193) (by decide +kernel))) rfl)⟩
theorem gl_RX9_14 : q_Fl0 RX9 14 9 0 := ⟨RX9, TX9, 10, rfl, by decide, rfl, rfl, (q_mem (q_t1 _ (List.mem_of_getElem? (i := 116) (by decide +kernel))) rfl)⟩
theorem gl_RX9_20 : q_Fl0 RX9 20 9 1 := ⟨RX9, TX9, 10, rfl, by decide, rfl, rfl, (q_mem (q_t1 _ (List.mem_of_getElem? (i := 117) (by decide +kernel))) rfl)⟩
theorem gl_RX9_23 : q_Fl0 RX9 23 9 2 := ⟨RX9, TX9, 10, rfl, by decide, rfl, rfl, (q_mem (q_t1 _ (List.mem_of_getElem? (i := 119) (by decide +kernel))) rfl)⟩
theorem gl_RX9_26 : q_Fl0 RX9 26 9 3 := ⟨RX9, TX9, 10, rfl, by decide, rfl, rfl, (q_mem (q_t1 _ (List.mem_of_getElem? (i := 121) (by decide +kernel))) rfl)⟩
theorem gl_RX9_29 : q_Fl0 RX9 29 9 4 := ⟨RX9, TX9, 10, rfl, by decide, rfl, rfl, (q_mem (q_t1 _ (List.mem_of_getElem? (i := 123) (by decide +kernel))) rfl)⟩
theorem gl_RX9_32 : q_Fl0 RX9 32 9 5 := ⟨RX9, TX9, 10, rfl, by decide, rfl, rfl, (q_mem (q_t1 _ (List.mem_of_getElem? (i := 124) (by decide +kernel))) rfl)⟩
theorem gl_RX9_35 : q_Fl0 RX9 35 9 6 := ⟨RX9, TX9, 10, rfl, by decide, rfl, rfl, (q_mem (q_t1 _ (List.mem_of_getElem? (i := 125) (by decide +kernel))) rfl)⟩
theorem gl_RX9_39 : q_Fl0 RX9 39 9 7 := ⟨RX9, TX9, 10, rfl, by decide, rfl, rfl, (q_mem (q_t1 _ (List.mem_of_getElem? (i := 127) (by decide +kernel))) rfl)⟩
theorem gl_RX9_42 : q_Fl0 RX9 42 9 8 := ⟨RX9, TX9, 10, rfl, by decide, rfl, rfl, (q_mem (q_t1 _ (List.mem_of_getElem? (i := 129) (by decide +kernel))) rfl)⟩
theorem gl_RX9_45 : q_Fl0 RX9 45 9 9 := ⟨RX9, TX9, 10, rfl, by decide, rfl, rfl, (q_mem (q_t1 _ (List.mem_of_getElem? (i := 130) (by decide +kernel))) rfl)⟩
theorem gl_RX10_11 : q_Fl0 RX10 11 10 0 := ⟨RX10, TX10, 15, rfl, by decide, rfl, rfl, (q_mem (q_t2 _ (List.mem_of_getElem? (i := 141) (by decide +kernel))) rfl)⟩
theorem gl_RX10_19 : q_Fl0 RX10 19 10 1 := ⟨RX10, TX10, 15, rfl, by decide, rfl, rfl, (q_mem (q_t2 _ (List.mem_of_getElem? (i := 142) (by decide +kernel))) rfl)⟩
theorem gl_RX10_25 : q_Fl0 RX10 25 10 2 := ⟨RX10, TX10, 15, rfl, by decide, rfl, rfl, (q_mem (q_t2 _ (List.mem_of_getElem? (i := 143) (by decide +kernel))) rfl)⟩
theorem gl_RX10_34 : q_Fl0 RX10 34 10 3 := ⟨RX10, TX10, 15, rfl, by decide, rfl, rfl, (q_mem (q_t2 _ (List.mem_of_getElem? (i := 144) (by decide +kernel))) rfl)⟩
theorem gl_RX10_38 : q_Fl0 RX10 38 10 4 := ⟨RX10, TX10, 15, rfl, by decide, rfl, rfl, (q_mem (q_t2 _ (List.mem_of_getElem? (i := 146) (by decide +kernel))) rfl)⟩
theorem gl_RX10_41 : q_Fl0 RX10 41 10 5 := ⟨RX10, TX10, 15, rfl, by decide, rfl, rfl, (q_mem (q_t2 _ (List.mem_of_getElem? (i := 148) (by decide +kernel))) rfl)⟩
theorem gl_RX10_44 : q_Fl0 RX10 44 10 6 := ⟨RX10, TX10, 15, rfl, by decide, rfl, rfl, (q_mem (q_t2 _ (List.mem_of_getElem? (i := 150) (by decide +kernel))) rfl)⟩
theorem gl_RX10_47 : q_Fl0 RX10 47 10 7 := ⟨RX10, TX10, 15, rfl, by decide, rfl, rfl, (q_mem (q_t2 _ (List.mem_of_getElem? (i := 152) (by decide +kernel))) rfl)⟩
theorem gl_RX10_51 : q_Fl0 RX10 51 10 8 := ⟨RX10, TX10, 15, rfl, by decide, rfl, rfl, (q_mem (q_t2 _ (List.mem_of_getElem? (i := 156) (by decide +kernel))) rfl)⟩
theorem gl_RX10_54 : q_Fl0 RX10 54 10 9 := ⟨RX10, TX10, 15, rfl, by decide, rfl, rfl, (q_mem (q_t2 _ (List.mem_of_getElem? (i := 159) (by decide +kernel))) rfl)⟩
theorem gl_RX10_57 : q_Fl0 RX10 57 10 10 := ⟨RX10, TX10, 15, rfl, by decide, rfl, rfl, (q_mem (q_t2 _ (List.mem_of_getElem? (i := 164) (by decide +kernel))) rfl)⟩
theorem gl_RX10_60 : q_Fl0 RX10 60 10 11 := ⟨RX10, TX10, 15, rfl, by decide, rfl, rfl, (q_mem (q_t2 _ (List.mem_of_getElem? (i := 167) (by decide +kernel))) rfl)⟩
theorem gl_RX10_63 : q_Fl0 RX10 63 10 12 := ⟨RX10, TX10, 15, rfl, by decide, rfl, rfl, (q_mem (q_t2 _ (List.mem_of_getElem? (i := 170) (by decide +kernel))) rfl)⟩
theorem gl_RX10_66 : q_Fl0 RX10 66 10 13 := ⟨RX10, TX10, 15, rfl, by decide, rfl, rfl, (q_mem (q_t2 _ (List.mem_of_getElem? (i := 174) (by decide +kernel))) rfl)⟩
theorem gl_RX10_69 : q_Fl0 RX10 69 10 14 := ⟨RX10, TX10, 15, rfl, by decide, rfl, rfl, (q_mem (q_t2 _ (List.mem_of_getElem? (i := 178) (by decide +kernel))) rfl)⟩
theorem gl_RX12_13 : q_Fl0 RX12 13 12 1 := ⟨RX12, TX12, 67, rfl, by decide, rfl, rfl, (q_mem (q_t6 _ (List.mem_of_getElem? (i := 143) (by decide +kernel))) rfl)⟩
theorem gl_RX12_17 : q_Fl0 RX12 17 12 3 := ⟨RX12, TX12, 67, rfl, by decide, rfl, rfl, (q_mem (q_t6 _ (List.mem_of_getElem? (i := 145) (by decide +kernel))) rfl)⟩
theorem gl_RX12_20 : q_Fl0 RX12 20 12 5 := ⟨RX12, TX12, 67, rfl, by decide, rfl, rfl, (q_mem (q_t6 _ (List.mem_of_getElem? (i := 147) (by decide +kernel))) rfl)⟩
theorem gl_RX12_24 : q_Fl0 RX12 24 12 6 := ⟨RX12, TX12, 67, rfl, by decide, rfl, rfl, (q_mem (q_t6 _ (List.mem_of_getElem? (i := 148) (by decide +kernel))) rfl)⟩
theorem gl_RX12_27 : q_Fl0 RX12 27 12 7 := ⟨RX12, TX12, 67, rfl, by decide, rfl, rfl, (q_mem (q_t6 _ (List.mem_of_getElem? (i := 149) (by decide +kernel))) rfl)⟩
theorem gl_RX12_30 : q_Fl0 RX12 30 12 8 := ⟨RX12, TX12, 67, rfl, by decide, rfl, rfl, (q_mem (q_t6 _ (List.mem_of_getElem? (i := 150) (by decide +kernel))) rfl)⟩
theorem gl_RX12_34 : q_Fl0 RX12 34 12 9 := ⟨RX12, TX12, 67, rfl, by decide, rfl, rfl, (q_mem (q_t6 _ (List.mem_of_getElem? (i := 151) (by decide +kernel))) rfl)⟩
theorem gl_RX12_37 : q_Fl0 RX12 37 12 17 := ⟨RX12, TX12, 67, rfl, by decide, rfl, rfl, (q_mem (q_t6 _ (List.mem_of_getElem? (i := 159) (by decide +kernel))) rfl)⟩
theorem gl_RX12_40 : q_Fl0 RX12 40 12 21 := ⟨RX12, TX12, 67, rfl, by decide, rfl, rfl, (q_mem (q_t6 _ (List.mem_of_getElem? (i := 163) (by decide +kernel))) rfl)⟩
theorem gl_RX12_43 : q_Fl0 RX12 43 12 22 := ⟨RX12, TX12, 67, rfl, by decide, rfl, rfl, (q_mem (q_t6 _ (List.mem_of_getElem? (i := 164) (by decide +kernel))) rfl)⟩
theorem gl_RX12_46 : q_Fl0 RX12 46 12 23 := ⟨RX12, TX12, 67, rfl, by decide, rfl, rfl, (q_mem (q_t6 _ (List.mem_of_getElem? (i := 165) (by decide +kernel))) rfl)⟩
theorem gl_RX12_49 : q_Fl0 RX12 49 12 24 := ⟨RX12, TX12, 67, rfl, by decide, rfl, rfl, (q_mem (q_t6 _ (List.mem_of_getElem? (i := 166) (by decide +kernel))) rfl)⟩
theorem gl_RX12_52 : q_Fl0 RX12 52 12 25 := ⟨RX12, TX12, 67, rfl, by decide, rfl, rfl, (q_mem (q_t6 _ (List.mem_of_getElem? (i := 167) (by decide +kernel))) rfl)⟩
theorem gl_RX12_55 : q_Fl0 RX12 55 12 26 := ⟨RX12, TX12, 67, rfl, by decide, rfl, rfl, (q_mem (q_t6 _ (List.mem_of_getElem? (i := 168) (by decide +kernel))) rfl)⟩
theorem gl_RX12_58 : q_Fl0 RX12 58 12 27 := ⟨RX12, TX12, 67, rfl, by decide, rfl, rfl, (q_mem (q_t6 _ (List.mem_of_getElem? (i := 169) (by decide +kernel))) rfl)⟩
theorem gl_RX12_61 : q_Fl0 RX12 61 12 28 := ⟨RX12, TX12, 67, rfl, by decide, rfl, rfl, (q_mem (q_t6 _ (List.mem_of_getElem? (i := 170) (by decide +kernel))) rfl)⟩
theorem gl_RX12_64 : q_Fl0 RX12 64 12 29 := ⟨RX12, TX12, 67, rfl, by decide, rfl, rfl, (q_mem (q_t6 _ (List.mem_of_getElem? (i := 171) (by decide +kernel))) rfl)⟩
theorem gl_RX12_67 : q_Fl0 RX12 67 12 30 := ⟨RX12, TX12, 67, rfl, by decide, rfl, rfl, (q_mem (q_t6 _ (List.mem_of_getElem? (i := 172) (by decide +kernel))) rfl)⟩
theorem gl_RX12_70 : q_Fl0 RX12 70 12 31 := ⟨RX12, TX12, 67, rfl, by decide, rfl, rfl, (q_mem (q_t6 _ (List.mem_of_getElem? (i := 173) (by decide +kernel))) rfl)⟩
theorem gl_RX12_73 : q_Fl0 RX12 73 12 32 := ⟨RX12, TX12, 67, rfl, by decide, rfl, rfl, (q_mem (q_t6 _ (List.mem_of_getElem? (i := 174) (by decide +kernel))) rfl)⟩
theorem gl_RX12_76 : q_Fl0 RX12 76 12 33 := ⟨RX12, TX12, 67, rfl, by decide, rfl, rfl, (q_mem (q_t6 _ (List.mem_of_getElem? (i := 175) (by decide +kernel))) rfl)⟩
theorem gl_RX12_79 : q_Fl0 RX12 79 12 34 := ⟨RX12, TX12, 67, rfl, by decide, rfl, rfl, (q_mem (q_t6 _ (List.mem_of_getElem? (i := 176) (by decide +kernel))) rfl)⟩
theorem gl_RX12_82 : q_Fl0 RX12 82 12 35 := ⟨RX12, TX12, 67, rfl, by decide, rfl, rfl, (q_mem (q_t6 _ (List.mem_of_getElem? (i := 177) (by decide +kernel))) rfl)⟩
theorem gl_RX12_85 : q_Fl0 RX12 85 12 36 := ⟨RX12, TX12, 67, rfl, by decide, rfl, rfl, (q_mem (q_t6 _ (List.mem_of_getElem? (i := 178) (by decide +kernel))) rfl)⟩
theorem gl_RX12_88 : q_Fl0 RX12 88 12 37 := ⟨RX12, TX12, 67, rfl, by decide, rfl, rfl, (q_mem (q_t6 _ (List.mem_of_getElem? (i := 179) (by decide +kernel))) rfl)⟩
theorem gl_RX12_91 : q_Fl0 RX12 91 12 38 := ⟨RX12, TX12, 67, rfl, by decide, rfl, rfl, (q_mem (q_t6 _ (List.mem_of_getElem? (i := 180) (by decide +kernel))) rfl)⟩
theorem gl_RX12_94 : q_Fl0 RX12 94 12 39 := ⟨RX12, TX12, 67, rfl, by decide, rfl, rfl, (q_mem (q_t6 _ (List.mem_of_getElem? (i := 181) (by decide +kernel))) rfl)⟩
theorem gl_RX12_97 : q_Fl0 RX12 97 12 40 := ⟨RX12, TX12, 67, rfl, by decide, rfl, rfl, (q_mem (q_t6 _ (List.mem_of_getElem? (i := 182) (by decide +kernel))) rfl)⟩
theorem gl_RX12_100 : q_Fl0 RX12 100 12 41 := ⟨RX12, TX12, 67, rfl, by decide, rfl, rfl, (q_mem (q_t6 _ (List.mem_of_getElem? (i := 183) (by decide +kernel))) rfl)⟩
theorem gl_RX12_103 : q_Fl0 RX12 103 12 42 := ⟨RX12, TX12, 67, rfl, by decide, rfl, rfl, (q_mem (q_t6 _ (List.mem_of_getElem? (i := 184) (by decide +kernel))) rfl)⟩
theorem gl_RX12_106 : q_Fl0 RX12 106 12 43 := ⟨RX12, TX12, 67, rfl, by decide, rfl, rfl, (q_mem (q_t6 _ (List.mem_of_getElem? (i := 185) (by decide +kernel))) rfl)⟩
theorem gl_RX12_109 : q_Fl0 RX12 109 12 44 := ⟨RX12, TX12, 67, rfl, by decide, rfl, rfl, (q_mem (q_t6 _ (List.mem_of_getElem? (i := 186) (by decide +kernel))) rfl)⟩
theorem gl_RX12_112 : q_Fl0 RX12 112 12 45 := ⟨RX12, TX12, 67, rfl, by decide, rfl, rfl, (q_mem (q_t6 _ (List.mem_of_getElem? (i := 187) (by decide +kernel))) rfl)⟩
theorem gl_RX12_115 : q_Fl0 RX12 115 12 46 := ⟨RX12, TX12, 67, rfl, by decide, rfl, rfl, (q_mem (q_t6 _ (List.mem_of_getElem? (i := 188) (by decide +kernel))) rfl)⟩
theorem gl_RX12_118 : q_Fl0 RX12 118 12 47 := ⟨RX12, TX12, 67, rfl, by decide, rfl, rfl, (q_mem (q_t6 _ (List.mem_of_getElem? (i := 189) (by decide +kernel))) rfl)⟩
theorem gl_RX12_121 : q_Fl0 RX12 121 12 48 := ⟨RX12, TX12, 67, rfl, by decide, rfl, rfl, (q_mem (q_t6 _ (List.mem_of_getElem? (i := 190) (by decide +kernel))) rfl)⟩
theorem gl_RX12_124 : q_Fl0 RX12 124 12 49 := ⟨RX12, TX12, 67, rfl, by decide, rfl, rfl, (q_mem (q_t6 _ (List.mem_of_getElem? (i := 191) (by decide +kernel))) rfl)⟩
theorem gl_RX12_127 : q_Fl0 RX12 127 12 51 := ⟨RX12, TX12, 67, rfl, by decide, rfl, rfl, (q_mem (q_t6 _ (List.mem_of_getElem? (i := 193) (by decide +kernel))) rfl)⟩
theorem gl_RX12_130 : q_Fl0 RX12 130 12 52 := ⟨RX12, TX12, 67, rfl, by decide, rfl, rfl, (q_mem (q_t6 _ (List.mem_of_getElem? (i := 194) (by decide +kernel))) rfl)⟩
theorem gl_RX12_133 : q_Fl0 RX12 133 12 53 := ⟨RX12, TX12, 67, rfl, by decide, rfl, rfl, (q_mem (q_t6 _ (List.mem_of_getElem? (i := 195) (by decide +kernel))) rfl)⟩
theorem gl_RX12_136 : q_Fl0 RX12 136 12 54 := ⟨RX12, TX12, 67, rfl, by decide, rfl, rfl, (q_mem (q_t6 _ (List.mem_of_getElem? (i := 196) (by decide +kernel))) rfl)⟩
theorem gl_RX12_139 : q_Fl0 RX12 139 12 55 := ⟨RX12, TX12, 67, rfl, by decide, rfl, rfl, (q_mem (q_t6 _ (List.mem_of_getElem? (i := 197) (by decide +kernel))) rfl)⟩
theorem gl_RX12_142 : q_Fl0 RX12 142 12 56 := ⟨RX12, TX12, 67, rfl, by decide, rfl, rfl, (q_mem (q_t6 _ (List.mem_of_getElem? (i := 198) (by decide +kernel))) rfl)⟩
theorem gl_RX12_145 : q_Fl0 RX12 145 12 57 := ⟨RX12, TX12, 67, rfl, by decide, rfl, rfl, (q_mem (q_t6 _ (List.mem_of_getElem? (i := 199) (by decide +kernel))) rfl)⟩
theorem gl_RX12_148 : q_Fl0 RX12 148 12 58 := ⟨RX12, TX12, 67, rfl, by decide, rfl, rfl, (q_mem (q_t6 _ (List.mem_of_getElem? (i := 200) (by decide +kernel))) rfl)⟩
theorem gl_RX12_151 : q_Fl0 RX12 151 12 59 := ⟨RX12, TX12, 67, rfl, by decide, rfl, rfl, (q_mem (q_t6 _ (List.mem_of_getElem? (i := 201) (by decide +kernel))) rfl)⟩
theorem gl_RX12_155 : q_Fl0 RX12 155 12 62 := ⟨RX12, TX12, 67, rfl, by decide, rfl, rfl, (q_mem (q_t6 _ (List.mem_of_getElem? (i := 204) (by decide +kernel))) rfl)⟩
theorem gl_RX12_158 : q_Fl0 RX12 158 12 63 := ⟨RX12, TX12, 67, rfl, by decide, rfl, rfl, (q_mem (q_t6 _ (List.mem_of_getElem? (i := 205) (by decide +kernel))) rfl)⟩
theorem gl_RX12_161 : q_Fl0 RX12 161 12 64 := ⟨RX12, TX12, 67, rfl, by decide, rfl, rfl, (q_mem (q_t6 _ (List.mem_of_getElem? (i := 206) (by decide +kernel))) rfl)⟩
theorem gl_RX12_164 : q_Fl0 RX12 164 12 65 := ⟨RX12, TX12, 67, rfl, by decide, rfl, rfl, (q_mem (q_t6 _ (List.mem_of_getElem? (i := 207) (by decide +kernel))) rfl)⟩
theorem gl_RX12_167 : q_Fl0 RX12 167 12 66 := ⟨RX12, TX12, 67, rfl, by decide, rfl, rfl, (q_mem (q_t6 _ (List.mem_of_getElem? (i := 208) (by decide +kernel))) rfl)⟩
theorem yl_X5_init : q_Yl yX5_init cX5_init 2 none 1 := ⟨(q_mem (q_t1 _ (List.mem_of_getElem? (i := 44) rfl)) rfl), (q_mem (q_t1 _ (List.mem_of_getElem? (i := 4) (by decide +kernel))) rfl), by decide, by decide, by decide +kernel⟩
theorem vi_X5_init : .instanceMethod yX5_init ∈ q_tbl := (q_mem (q_t1 _ (List.mem_of_getElem? (i := 43) (by decide +kernel))) rfl)
theorem yl_X0_init : q_Yl yX0_init cX0_init 1 none 0 := ⟨(q_mem (q_t2 _ (List.mem_of_getElem? (i := 55) rfl)) rfl), (q_mem (q_t1 _ (List.mem_of_getElem? (i := 15) (by decide +kernel))) rfl), by decide, by decide, by decide +kernel⟩
theorem vi_X0_init : .instanceMethod yX0_init ∈ q_tbl := (q_mem (q_t2 _ (List.mem_of_getElem? (i := 54) (by decide +kernel))) rfl)
theorem yl_X1_init : q_Yl yX1_init cX1_init 1 none 0 := ⟨(q_mem (q_t2 _ (List.mem_of_getElem? (i := 74) rfl)) rfl), (q_mem (q_t1 _ (List.mem_of_getElem? (i := 16) (by decide +kernel))) rfl), by decide, by decide, by decide +kernel⟩
theorem vi_X1_init : .instanceMethod yX1_init ∈ q_tbl := (q_mem (q_t2 _ (List.mem_of_getElem? (i := 73) (by decide +kernel))) rfl)
theorem yl_X7_init : q_Yl yX7_init cX7_init 1 none 0 := ⟨(q_mem (q_t2 _ (List.mem_of_getElem? (i := 90) rfl)) rfl), (q_mem (q_t1 _ (List.mem_of_getElem? (i := 17) (by decide +kernel))) rfl), by decide, by decide, by decide +kernel⟩
theorem vi_X7_init : .instanceMethod yX7_init ∈ q_tbl := (q_mem (q_t2 _ (List.mem_of_getElem? (i := 89) (by decide +kernel))) rfl)
theorem yl_X8_init : q_Yl yX8_init cX8_init 1 none 0 := ⟨(q_mem (q_t1 _ (List.mem_of_getElem? (i := 187) rfl)) rfl), (q_mem (q_t1 _ (List.mem_of_getElem? (i := 10) (by decide +kernel))) rfl), by decide, by decide, by decide +kernel⟩
theorem vi_X8_init : .instanceMethod yX8_init ∈ q_tbl := (q_mem (q_t1 _ (List.mem_of_getElem? (i := 186) (by decide +kernel))) rfl)
theorem yl_X2_init : q_Yl yX2_init cX2_init 1 none 0 := ⟨(q_mem (q_t1 _ (List.mem_of_getElem? (i := 208) rfl)) rfl), (q_mem (q_t1 _ (List.mem_of_getElem? (i := 11) (by decide +kernel))) rfl), by decide, by decide, by decide +kernel⟩
theorem vi_X2_init : .instanceMethod yX2_init ∈ q_tbl := (q_mem (q_t1 _ (List.mem_of_getElem? (i := 207) (by decide +kernel))) rfl)
theorem yl_X6_init : q_Yl yX6_init cX6_init 1 none 0 := ⟨(q_mem (q_t1 _ (List.mem_of_getElem? (i := 229) rfl)) rfl), (q_mem (q_t1 _ (List.mem_of_getElem? (i := 12) (by decide +kernel))) rfl), by decide, by decide, by decide +kernel⟩
theorem vi_X6_init : .instanceMethod yX6_init ∈ q_tbl := (q_mem (q_t1 _ (List.mem_of_getElem? (i := 228) (by decide +kernel))) rfl)
theorem yl_X9_init : q_Yl yX9_init cX9_init 3 none 0 := ⟨(q_mem (q_t1 _ (List.mem_of_getElem? (i := 38) rfl)) rfl), (q_mem (q_t1 _ (List.mem_of_getElem? (i := 3) (by decide +kernel))) rfl), by decide, by decide, by decide +kernel⟩
theorem vi_X9_init : .instanceMethod yX9_init ∈ q_tbl := (q_mem (q_t1 _ (List.mem_of_getElem? (i := 37) (by decide +kernel))) rfl)
theorem yl_X3_init : q_Yl yX3_init cX3_init 1 none 0 := ⟨(q_mem (q_t1 _ (List.mem_of_getElem? (i := 32) rfl)) rfl), (q_mem (q_t1 _ (List.mem_of_getElem? (i := 2) (by decide +kernel))) rfl), by decide, by decide, by decide +kernel⟩
theorem vi_X3_init : .instanceMethod yX3_init ∈ q_tbl := (q_mem (q_t1 _ (List.mem_of_getElem? (i := 31) (by decide +kernel))) rfl)
theorem yl_X4_init : q_Yl yX4_init cX4_init 2 none 0 := ⟨(q_mem (q_t2 _ (List.mem_of_getElem? (i := 10) rfl)) rfl), (q_mem (q_t1 _ (List.mem_of_getElem? (i := 13) (by decide +kernel))) rfl), by decide, by decide, by decide +kernel⟩
theorem vi_X4_init : .instanceMethod yX4_init ∈ q_tbl := (q_mem (q_t2 _ (List.mem_of_getElem? (i := 9) (by decide +kernel))) rfl)
theorem yl_X10_init : q_Yl yX10_init cX10_init 2 none 0 := ⟨(q_mem (q_t2 _ (List.mem_of_getElem? (i := 42) rfl)) rfl), (q_mem (q_t1 _ (List.mem_of_getElem? (i := 14) (by decide +kernel))) rfl), by decide, by decide, by decide +kernel⟩
theorem vi_X10_init : .instanceMethod yX10_init ∈ q_tbl := (q_mem (q_t2 _ (List.mem_of_getElem? (i := 41) (by decide +kernel))) rfl)
theorem yl_X11_init : q_Yl yX11_init cX11_init 2 none 0 := ⟨(q_mem (q_t1 _ (List.mem_of_getElem? (i := 24) rfl)) rfl), (q_mem (q_t1 _ (List.mem_of_getElem? (i := 1) (by decide +kernel))) rfl), by decide, by decide, by decide +kernel⟩
theorem vi_X11_init : .instanceMethod yX11_init ∈ q_tbl := (q_mem (q_t1 _ (List.mem_of_getElem? (i := 23) (by decide +kernel))) rfl)
theorem yl_X12_init : q_Yl yX12_init cX12_init 1 none 0 := ⟨(q_mem (q_t6 _ (List.mem_of_getElem? (i := 134) rfl)) rfl), (q_mem (q_t1 _ (List.mem_of_getElem? (i := 18) (by decide +kernel))) rfl), by decide, by decide, by decide +kernel⟩
theorem vi_X12_init : .instanceMethod yX12_init ∈ q_tbl := (q_mem (q_t6 _ (List.mem_of_getElem? (i := 133) (by decide +kernel))) rfl)
theorem ml_RL_9 : q_Ml RL 9 yX11_init := Or.inl (q_mem (q_t1 _ (List.mem_of_getElem? (i := 22) (by decide +kernel))) rfl)
theorem ml_RX11_9 : q_Ml RX11 9 yX3_init := Or.inr ⟨RX11, (q_memN (q_t1 _ (List.mem_of_getElem? (i := 30) (by decide +kernel))) rfl)⟩
theorem ml_RX3_11 : q_Ml RX3 11 yX9_init := Or.inl (q_mem (q_t1 _ (List.mem_of_getElem? (i := 36) (by decide +kernel))) rfl)
theorem ml_RX9_11 : q_Ml RX9 11 yX5_init := Or.inl (q_mem (q_t1 _ (List.mem_of_getElem? (i := 42) (by decide +kernel))) rfl)
theorem ml_RX3_20 : q_Ml RX3 20 yX5_init := Or.inl (q_mem (q_t1 _ (List.mem_of_getElem? (i := 155) (by decide +kernel))) rfl)
theorem ml_RX11_18 : q_Ml RX11 18 yX8_init := Or.inr ⟨RX11, (q_memN (q_t1 _ (List.mem_of_getElem? (i := 185) (by decide +kernel))) rfl)⟩
theorem ml_RX8_11 : q_Ml RX8 11 yX5_init := Or.inl (q_mem (q_t1 _ (List.mem_of_getElem? (i := 190) (by decide +kernel))) rfl)
theorem ml_RX11_29 : q_Ml RX11 29 yX2_init := Or.inr ⟨RX11, (q_memN (q_t1 _ (List.mem_of_getElem? (i := 206) (by decide +kernel))) rfl)⟩
theorem ml_RX2_11 : q_Ml RX2 11 yX5_init := Or.inl (q_mem (q_t1 _ (List.mem_of_getElem? (i := 211) (by decide +kernel))) rfl)
theorem ml_RX11_36 : q_Ml RX11 36 yX6_init := Or.inr ⟨RX11, (q_memN (q_t1 _ (List.mem_of_getElem? (i := 227) (by decide +kernel))) rfl)⟩
theorem ml_RX6_11 : q_Ml RX6 11 yX5_init := Or.inl (q_mem (q_t1 _ (List.mem_of_getElem? (i := 232) (by decide +kernel))) rfl)
theorem ml_RX11_43 : q_Ml RX11 43 yX4_init := Or.inl (q_mem (q_t2 _ (List.mem_of_getElem? (i := 8) (by decide +kernel))) rfl)
theorem ml_RX4_11 : q_Ml RX4 11 yX5_init := Or.inl (q_mem (q_t2 _ (List.mem_of_getElem? (i := 13) (by decide +kernel))) rfl)
theorem ml_RX4_22 : q_Ml RX4 22 yX8_init := Or.inr ⟨RX11, (q_memN (q_t2 _ (List.mem_of_getElem? (i := 15) (by decide +kernel))) rfl)⟩
theorem ml_RX11_50 : q_Ml RX11 50 yX10_init := Or.inl (q_mem (q_t2 _ (List.mem_of_getElem? (i := 40) (by decide +kernel))) rfl)
theorem ml_RX10_31 : q_Ml RX10 31 yX5_init := Or.inl (q_mem (q_t2 _ (List.mem_of_getElem? (i := 51) (by decide +kernel))) rfl)
theorem ml_RX10_72 : q_Ml RX10 72 yX0_init := Or.inr ⟨RX11, (q_memN (q_t2 _ (List.mem_of_getElem? (i := 53) (by decide +kernel))) rfl)⟩
theorem ml_RX0_11 : q_Ml RX0 11 yX5_init := Or.inl (q_mem (q_t2 _ (List.mem_of_getElem? (i := 58) (by decide +kernel))) rfl)
theorem ml_RX10_73 : q_Ml RX10 73 yX1_init := Or.inr ⟨RX11, (q_memN (q_t2 _ (List.mem_of_getElem? (i := 72) (by decide +kernel))) rfl)⟩
theorem ml_RX10_74 : q_Ml RX10 74 yX7_init := Or.inr ⟨RX11, (q_memN (q_t2 _ (List.mem_of_getElem? (i := 88) (by decide +kernel))) rfl)⟩
theorem ml_RX7_11 : q_Ml RX7 11 yX5_init := Or.inl (q_mem (q_t2 _ (List.mem_of_getElem? (i := 93) (by decide +kernel))) rfl)
theorem ml_RL_12 : q_Ml RL 12 yX12_init := Or.inl (q_mem (q_t6 _ (List.mem_of_getElem? (i := 132) (by decide +kernel))) rfl)
set_option maxRecDepth 100000 in
def IX5_at (C : List q_Ce) (x0 : Nat) (x1 : Int32) : Option Int64 := if x1 < 0 then (some 0) else (if q_ckd C x0 = 5 + 101 then (q_m (q_cR C x0 0) none (fun o1000002 => if q_ckd C o1000002 = 22 then (if (Int32.ofNat (q_cln C o1000002)) ≤ x1 then (some 0) else (if q_ckd C x0 = 5 + 101 then (q_m (q_cR C x0 0) none (fun o1000004 => if q_ckd C o1000004 = 22 ∧ ¬ (x1 < 0 ∨ q_cln C o1000004 ≤ Int32.toNatClampNeg x1) then (some (q_cJ C o1000004 (Int32.toNatClampNeg x1))) else none)) else none)) else none)) else none)
set_option maxRecDepth 100000 in
def IX5_put (C : List q_Ce) (x0 : Nat) (x1 : Int32) (x2 : Int64) : Option (List q_Ce) := if x1 < 0 then (some C) else (if q_ckd C x0 = 5 + 101 then (q_m (q_cR C x0 0) none (fun o1000002 => if q_ckd C o1000002 = 22 then (if (Int32.ofNat (q_cln C o1000002)) ≤ x1 then (some C) else (if q_ckd C x0 = 5 + 101 then (q_m (q_cR C x0 0) none (fun o1000004 => if q_ckd C o1000004 = 22 ∧ ¬ (x1 < 0 ∨ q_cln C o1000004 ≤ Int32.toNatClampNeg x1) then q_o (q_sJ C o1000004 (Int32.toNatClampNeg x1) x2) (fun C1000005 => some C1000005) else none)) else none)) else none)) else none)
set_option maxRecDepth 100000 in
def IX5_init (C : List q_Ce) (x0 : Nat) (x1 : Int32) : Option (List q_Ce) := if (q_max x1 0) < 0 ∨ 60000000 < Int32.toNatClampNeg (q_max x1 0) then none else (q_o (C ++ [(22, Int32.toNatClampNeg (q_max x1 0), [], [], [])]) (fun C1000001 => if q_ckd C1000001 x0 = 5 + 101 then q_o (q_sR C1000001 x0 0 (some (List.length C))) (fun C1000002 => some C1000002) else none))
set_option maxRecDepth 100000 in
def IX0_init (C : List q_Ce) (x0 : Nat) : Option (List q_Ce) := q_o (C ++ [(5 + 101, 0, [], [], [])]) (fun C1000001 => q_b1 (IX5_init C1000001 (List.length C) 127) (fun C1000003 => if q_ckd C1000003 x0 = 0 + 101 then q_o (q_sR C1000003 x0 0 (some (List.length C))) (fun C1000004 => if q_ckd C1000004 x0 = 0 + 101 then q_o (q_sI C1000004 x0 1 1) (fun C1000005 => some C1000005) else none) else none))
set_option maxRecDepth 100000 in
def IX1_init (C : List q_Ce) (x0 : Nat) : Option (List q_Ce) := if q_ckd C x0 = 1 + 101 then q_o (q_sI C x0 0 2) (fun C1000001 => if q_ckd C1000001 x0 = 1 + 101 then q_o (q_sI C1000001 x0 1 0) (fun C1000002 => if q_ckd C1000002 x0 = 1 + 101 then q_o (q_sI C1000002 x0 2 0) (fun C1000003 => some C1000003) else none) else none) else none
set_option maxRecDepth 100000 in
def IX7_init (C : List q_Ce) (x0 : Nat) : Option (List q_Ce) := q_o (C ++ [(5 + 101, 0, [], [], [])]) (fun C1000001 => q_b1 (IX5_init C1000001 (List.length C) 6) (fun C1000003 => if q_ckd C1000003 x0 = 7 + 101 then q_o (q_sR C1000003 x0 0 (some (List.length C))) (fun C1000004 => q_o (C1000004 ++ [(5 + 101, 0, [], [], [])]) (fun C1000005 => q_b1 (IX5_init C1000005 (List.length C1000004) 6) (fun C1000007 => if q_ckd C1000007 x0 = 7 + 101 then q_o (q_sR C1000007 x0 1 (some (List.length C1000004))) (fun C1000008 => if q_ckd C1000008 x0 = 7 + 101 then q_o (q_sR C1000008 x0 2 none) (fun C1000009 => if q_ckd C1000009 x0 = 7 + 101 then q_o (q_sI C1000009 x0 3 0) (fun C1000010 => if q_ckd C1000010 x0 = 7 + 101 then q_o (q_sI C1000010 x0 4 1) (fun C1000011 => if q_ckd C1000011 x0 = 7 + 101 then q_o (q_sI C1000011 x0 5 0) (fun C1000012 => if q_ckd C1000012 x0 = 7 + 101 then q_o (q_sI C1000012 x0 6 0) (fun C1000013 => if q_ckd C1000013 x0 = 7 + 101 then q_o (q_sI C1000013 x0 7 0) (fun C1000014 => if q_ckd C1000014 x0 = 7 + 101 then q_o (q_sI C1000014 x0 8 0) (fun C1000015 => some C1000015) else none) else none) else none) else none) else none) else none) else none) else none))) else none))
set_option maxRecDepth 100000 in
def IX8_init (C : List q_Ce) (x0 : Nat) : Option (List q_Ce) := q_o (C ++ [(5 + 101, 0, [], [], [])]) (fun C1000001 => q_b1 (IX5_init C1000001 (List.length C) 512) (fun C1000003 => if q_ckd C1000003 x0 = 8 + 101 then q_o (q_sR C1000003 x0 0 (some (List.length C))) (fun C1000004 => q_o (C1000004 ++ [(5 + 101, 0, [], [], [])]) (fun C1000005 => q_b1 (IX5_init C1000005 (List.length C1000004) 512) (fun C1000007 => if q_ckd C1000007 x0 = 8 + 101 then q_o (q_sR C1000007 x0 1 (some (List.length C1000004))) (fun C1000008 => if q_ckd C1000008 x0 = 8 + 101 then q_o (q_sI C1000008 x0 2 256) (fun C1000009 => some C1000009) else none) else none))) else none))
set_option maxRecDepth 100000 in
def IX2_init (C : List q_Ce) (x0 : Nat) : Option (List q_Ce) := q_o (C ++ [(5 + 101, 0, [], [], [])]) (fun C1000001 => q_b1 (IX5_init C1000001 (List.length C) 8) (fun C1000003 => if q_ckd C1000003 x0 = 2 + 101 then q_o (q_sR C1000003 x0 0 (some (List.length C))) (fun C1000004 => q_o (C1000004 ++ [(5 + 101, 0, [], [], [])]) (fun C1000005 => q_b1 (IX5_init C1000005 (List.length C1000004) 128) (fun C1000007 => if q_ckd C1000007 x0 = 2 + 101 then q_o (q_sR C1000007 x0 1 (some (List.length C1000004))) (fun C1000008 => q_o (C1000008 ++ [(5 + 101, 0, [], [], [])]) (fun C1000009 => q_b1 (IX5_init C1000009 (List.length C1000008) 128) (fun C1000011 => if q_ckd C1000011 x0 = 2 + 101 then q_o (q_sR C1000011 x0 2 (some (List.length C1000008))) (fun C1000012 => q_o (C1000012 ++ [(5 + 101, 0, [], [], [])]) (fun C1000013 => q_b1 (IX5_init C1000013 (List.length C1000012) 128) (fun C1000015 => if q_ckd C1000015 x0 = 2 + 101 then q_o (q_sR C1000015 x0 3 (some (List.length C1000012))) (fun C1000016 => some C1000016) else none))) else none))) else none))) else none))
set_option maxRecDepth 100000 in
def IX6_init (C : List q_Ce) (x0 : Nat) : Option (List q_Ce) := q_o (C ++ [(5 + 101, 0, [], [], [])]) (fun C1000001 => q_b1 (IX5_init C1000001 (List.length C) 127) (fun C1000003 => if q_ckd C1000003 x0 = 6 + 101 then q_o (q_sR C1000003 x0 0 (some (List.length C))) (fun C1000004 => q_o (C1000004 ++ [(5 + 101, 0, [], [], [])]) (fun C1000005 => q_b1 (IX5_init C1000005 (List.length C1000004) 127) (fun C1000007 => if q_ckd C1000007 x0 = 6 + 101 then q_o (q_sR C1000007 x0 1 (some (List.length C1000004))) (fun C1000008 => q_o (C1000008 ++ [(5 + 101, 0, [], [], [])]) (fun C1000009 => q_b1 (IX5_init C1000009 (List.length C1000008) 508) (fun C1000011 => if q_ckd C1000011 x0 = 6 + 101 then q_o (q_sR C1000011 x0 2 (some (List.length C1000008))) (fun C1000012 => if q_ckd C1000012 x0 = 6 + 101 then q_o (q_sI C1000012 x0 3 1) (fun C1000013 => some C1000013) else none) else none))) else none))) else none))
set_option maxRecDepth 100000 in
def IX9_init_b161 (k110 : Nat → Int32 → Int32 → List q_Ce → Option (List q_Ce)) (x0_161 : Nat) (x1_161 : Int32) (x2_161 : Int32) (C1 : List q_Ce) : Option (List q_Ce) := k110 x0_161 x1_161 (x2_161 + 1) C1
set_option maxRecDepth 100000 in
def IX9_init_b110 : Nat → Nat → Int32 → Int32 → List q_Ce → Option (List q_Ce)
  | 0, _, _, _, _ => none
  | n + 1, x0_110, x1_110, x2_110, C1 => if (q_slen 0) ≤ x2_110 then (some C1) else (if x2_110 < 0 ∨ q_sl.getD 0 0 ≤ Int32.toNatClampNeg x2_110 then none else (if (q_sch 0 x2_110) = 32 then (IX9_init_b161 (IX9_init_b110 n) x0_110 (x1_110 + 1) x2_110 C1) else (if q_ckd C1 x0_110 = 9 + 101 then (q_m (q_cR C1 x0_110 4) none (fun o110004 => if q_ckd C1 x0_110 = 9 + 101 then (q_m (q_cR C1 x0_110 4) none (fun o110005 => if q_ckd C1 o110005 = 5 + 101 then (q_b1 (IX5_at C1 o110005 x1_110) (fun v110008 => if x2_110 < 0 ∨ q_sl.getD 0 0 ≤ Int32.toNatClampNeg x2_110 then none else (q_b1 (X9_withLetter v110008 (q_sch 0 x2_110)) (fun v110010 => if q_ckd C1 o110004 = 5 + 101 then (q_b1 (IX5_put C1 o110004 x1_110 v110010) (fun C110014 => IX9_init_b161 (IX9_init_b110 n) x0_110 x1_110 x2_110 C110014)) else none)))) else none)) else none)) else none)))
set_option maxRecDepth 100000 in
def IX9_init (C : List q_Ce) (x0 : Nat) : Option (List q_Ce) := q_o (C ++ [(5 + 101, 0, [], [], [])]) (fun C1000001 => q_b1 (IX5_init C1000001 (List.length C) 2000) (fun C1000003 => if q_ckd C1000003 x0 = 9 + 101 then q_o (q_sR C1000003 x0 0 (some (List.length C))) (fun C1000004 => q_o (C1000004 ++ [(5 + 101, 0, [], [], [])]) (fun C1000005 => q_b1 (IX5_init C1000005 (List.length C1000004) 401) (fun C1000007 => if q_ckd C1000007 x0 = 9 + 101 then q_o (q_sR C1000007 x0 1 (some (List.length C1000004))) (fun C1000008 => q_o (C1000008 ++ [(5 + 101, 0, [], [], [])]) (fun C1000009 => q_b1 (IX5_init C1000009 (List.length C1000008) 401) (fun C1000011 => if q_ckd C1000011 x0 = 9 + 101 then q_o (q_sR C1000011 x0 2 (some (List.length C1000008))) (fun C1000012 => q_o (C1000012 ++ [(5 + 101, 0, [], [], [])]) (fun C1000013 => q_b1 (IX5_init C1000013 (List.length C1000012) 401) (fun C1000015 => if q_ckd C1000015 x0 = 9 + 101 then q_o (q_sR C1000015 x0 3 (some (List.length C1000012))) (fun C1000016 => q_o (C1000016 ++ [(5 + 101, 0, [], [], [])]) (fun C1000017 => q_b1 (IX5_init C1000017 (List.length C1000016) 11) (fun C1000019 => if q_ckd C1000019 x0 = 9 + 101 then q_o (q_sR C1000019 x0 4 (some (List.length C1000016))) (fun C1000020 => q_o (C1000020 ++ [(5 + 101, 0, [], [], [])]) (fun C1000021 => q_b1 (IX5_init C1000021 (List.length C1000020) 8) (fun C1000023 => if q_ckd C1000023 x0 = 9 + 101 then q_o (q_sR C1000023 x0 5 (some (List.length C1000020))) (fun C1000024 => if q_ckd C1000024 x0 = 9 + 101 then q_o (q_sI C1000024 x0 6 0) (fun C1000025 => if q_ckd C1000025 x0 = 9 + 101 then q_o (q_sI C1000025 x0 7 0) (fun C1000026 => if q_ckd C1000026 x0 = 9 + 101 then q_o (q_sI C1000026 x0 8 0) (fun C1000027 => if q_ckd C1000027 x0 = 9 + 101 then q_o (q_sI C1000027 x0 9 (-1)) (fun C1000028 => IX9_init_b110 q_FU x0 0 0 C1000028) else none) else none) else none) else none) else none))) else none))) else none))) else none))) else none))) else none))
set_option maxRecDepth 100000 in
def IX3_init (C : List q_Ce) (x0 : Nat) : Option (List q_Ce) := q_o (C ++ [(9 + 101, 0, [], [], [])]) (fun C1000001 => q_b1 (IX9_init C1000001 (List.length C)) (fun C1000003 => if q_ckd C1000003 x0 = 3 + 101 then q_o (q_sR C1000003 x0 0 (some (List.length C))) (fun C1000004 => q_o (C1000004 ++ [(5 + 101, 0, [], [], [])]) (fun C1000005 => q_b1 (IX5_init C1000005 (List.length C1000004) 20) (fun C1000007 => if q_ckd C1000007 x0 = 3 + 101 then q_o (q_sR C1000007 x0 1 (some (List.length C1000004))) (fun C1000008 => q_o (C1000008 ++ [(5 + 101, 0, [], [], [])]) (fun C1000009 => q_b1 (IX5_init C1000009 (List.length C1000008) 20) (fun C1000011 => if q_ckd C1000011 x0 = 3 + 101 then q_o (q_sR C1000011 x0 2 (some (List.length C1000008))) (fun C1000012 => q_o (C1000012 ++ [(5 + 101, 0, [], [], [])]) (fun C1000013 => q_b1 (IX5_init C1000013 (List.length C1000012) 20) (fun C1000015 => if q_ckd C1000015 x0 = 3 + 101 then q_o (q_sR C1000015 x0 3 (some (List.length C1000012))) (fun C1000016 => if q_ckd C1000016 x0 = 3 + 101 then q_o (q_sI C1000016 x0 4 0) (fun C1000017 => if q_ckd C1000017 x0 = 3 + 101 then q_o (q_sI C1000017 x0 5 0) (fun C1000018 => if q_ckd C1000018 x0 = 3 + 101 then q_o (q_sI C1000018 x0 6 0) (fun C1000019 => if q_ckd C1000019 x0 = 3 + 101 then q_o (q_sI C1000019 x0 7 (-1)) (fun C1000020 => some C1000020) else none) else none) else none) else none) else none))) else none))) else none))) else none))
set_option maxRecDepth 100000 in
def IX4_init (C : List q_Ce) (x0 : Nat) : Option (List q_Ce) := q_o (C ++ [(5 + 101, 0, [], [], [])]) (fun C1000001 => q_b1 (IX5_init C1000001 (List.length C) 512) (fun C1000003 => if q_ckd C1000003 x0 = 4 + 101 then q_o (q_sR C1000003 x0 0 (some (List.length C))) (fun C1000004 => q_o (C1000004 ++ [(8 + 101, 0, [], [], [])]) (fun C1000005 => q_b1 (IX8_init C1000005 (List.length C1000004)) (fun C1000007 => if q_ckd C1000007 x0 = 4 + 101 then q_o (q_sR C1000007 x0 1 (some (List.length C1000004))) (fun C1000008 => if (6 : Int32) < 0 ∨ 60000000 < Int32.toNatClampNeg 6 then none else (q_o (C1000008 ++ [(5 + 130, Int32.toNatClampNeg 6, [], [], [])]) (fun C1000009 => if q_ckd C1000009 x0 = 4 + 101 then q_o (q_sR C1000009 x0 2 (some (List.length C1000008))) (fun C1000010 => if (6 : Int32) < 0 ∨ 60000000 < Int32.toNatClampNeg 6 then none else (q_o (C1000010 ++ [(5 + 130, Int32.toNatClampNeg 6, [], [], [])]) (fun C1000011 => if q_ckd C1000011 x0 = 4 + 101 then q_o (q_sR C1000011 x0 3 (some (List.length C1000010))) (fun C1000012 => if q_ckd C1000012 x0 = 4 + 101 then q_o (q_sI C1000012 x0 4 0) (fun C1000013 => if q_ckd C1000013 x0 = 4 + 101 then q_o (q_sI C1000013 x0 5 0) (fun C1000014 => if q_ckd C1000014 x0 = 4 + 101 then (q_m (q_cR C1000014 x0 2) none (fun o1000015 => q_o (C1000014 ++ [(5 + 101, 0, [], [], [])]) (fun C1000016 => q_b1 (IX5_init C1000016 (List.length C1000014) 512) (fun C1000018 => if q_ckd C1000018 o1000015 = 5 + 130 ∧ ¬ ((0 : Int32) < 0 ∨ q_cln C1000018 o1000015 ≤ Int32.toNatClampNeg 0) ∧ q_ckd C1000018 (List.length C1000014) = 5 + 101 then q_o (q_sR C1000018 o1000015 (Int32.toNatClampNeg 0) (some (List.length C1000014))) (fun C1000019 => if q_ckd C1000019 x0 = 4 + 101 then (q_m (q_cR C1000019 x0 3) none (fun o1000020 => q_o (C1000019 ++ [(5 + 101, 0, [], [], [])]) (fun C1000021 => q_b1 (IX5_init C1000021 (List.length C1000019) 512) (fun C1000023 => if q_ckd C1000023 o1000020 = 5 + 130 ∧ ¬ ((0 : Int32) < 0 ∨ q_cln C1000023 o1000020 ≤ Int32.toNatClampNeg 0) ∧ q_ckd C1000023 (List.length C1000019) = 5 + 101 then q_o (q_sR C1000023 o1000020 (Int32.toNatClampNeg 0) (some (List.length C1000019))) (fun C1000024 => if q_ckd C1000024 x0 = 4 + 101 then (q_m (q_cR C1000024 x0 2) none (fun o1000025 => q_o (C1000024 ++ [(5 + 101, 0, [], [], [])]) (fun C1000026 => q_b1 (IX5_init C1000026 (List.length C1000024) 512) (fun C1000028 => if q_ckd C1000028 o1000025 = 5 + 130 ∧ ¬ ((1 : Int32) < 0 ∨ q_cln C1000028 o1000025 ≤ Int32.toNatClampNeg 1) ∧ q_ckd C1000028 (List.length C1000024) = 5 + 101 then q_o (q_sR C1000028 o1000025 (Int32.toNatClampNeg 1) (some (List.length C1000024))) (fun C1000029 => if q_ckd C1000029 x0 = 4 + 101 then (q_m (q_cR C1000029 x0 3) none (fun o1000030 => q_o (C1000029 ++ [(5 + 101, 0, [], [], [])]) (fun C1000031 => q_b1 (IX5_init C1000031 (List.length C1000029) 512) (fun C1000033 => if q_ckd C1000033 o1000030 = 5 + 130 ∧ ¬ ((1 : Int32) < 0 ∨ q_cln C1000033 o1000030 ≤ Int32.toNatClampNeg 1) ∧ q_ckd C1000033 (List.length C1000029) = 5 + 101 then q_o (q_sR C1000033 o1000030 (Int32.toNatClampNeg 1) (some (List.length C1000029))) (fun C1000034 => if q_ckd C1000034 x0 = 4 + 101 then (q_m (q_cR C1000034 x0 2) none (fun o1000035 => q_o (C1000034 ++ [(5 + 101, 0, [], [], [])]) (fun C1000036 => q_b1 (IX5_init C1000036 (List.length C1000034) 512) (fun C1000038 => if q_ckd C1000038 o1000035 = 5 + 130 ∧ ¬ ((2 : Int32) < 0 ∨ q_cln C1000038 o1000035 ≤ Int32.toNatClampNeg 2) ∧ q_ckd C1000038 (List.length C1000034) = 5 + 101 then q_o (q_sR C1000038 o1000035 (Int32.toNatClampNeg 2) (some (List.length C1000034))) (fun C1000039 => if q_ckd C1000039 x0 = 4 + 101 then (q_m (q_cR C1000039 x0 3) none (fun o1000040 => q_o (C1000039 ++ [(5 + 101, 0, [], [], [])]) (fun C1000041 => q_b1 (IX5_init C1000041 (List.length C1000039) 512) (fun C1000043 => if q_ckd C1000043 o1000040 = 5 + 130 ∧ ¬ ((2 : Int32) < 0 ∨ q_cln C1000043 o1000040 ≤ Int32.toNatClampNeg 2) ∧ q_ckd C1000043 (List.length C1000039) = 5 + 101 then q_o (q_sR C1000043 o1000040 (Int32.toNatClampNeg 2) (some (List.length C1000039))) (fun C1000044 => if q_ckd C1000044 x0 = 4 + 101 then (q_m (q_cR C1000044 x0 2) none (fun o1000045 => q_o (C1000044 ++ [(5 + 101, 0, [], [], [])]) (fun C1000046 => q_b1 (IX5_init C1000046 (List.length C1000044) 512) (fun C1000048 => if q_ckd C1000048 o1000045 = 5 + 130 ∧ ¬ ((3 : Int32) < 0 ∨ q_cln C1000048 o1000045 ≤ Int32.toNatClampNeg 3) ∧ q_ckd C1000048 (List.length C1000044) = 5 + 101 then q_o (q_sR C1000048 o1000045 (Int32.toNatClampNeg 3) (some (List.length C1000044))) (fun C1000049 => if q_ckd C1000049 x0 = 4 + 101 then (q_m (q_cR C1000049 x0 3) none (fun o1000050 => q_o (C1000049 ++ [(5 + 101, 0, [], [], [])]) (fun C1000051 => q_b1 (IX5_init C1000051 (List.length C1000049) 512) (fun C1000053 => if q_ckd C1000053 o1000050 = 5 + 130 ∧ ¬ ((3 : Int32) < 0 ∨ q_cln C1000053 o1000050 ≤ Int32.toNatClampNeg 3) ∧ q_ckd C1000053 (List.length C1000049) = 5 + 101 then q_o (q_sR C1000053 o1000050 (Int32.toNatClampNeg 3) (some (List.length C1000049))) (fun C1000054 => if q_ckd C1000054 x0 = 4 + 101 then (q_m (q_cR C1000054 x0 2) none (fun o1000055 => q_o (C1000054 ++ [(5 + 101, 0, [], [], [])]) (fun C1000056 => q_b1 (IX5_init C1000056 (List.length C1000054) 512) (fun C1000058 => if q_ckd C1000058 o1000055 = 5 + 130 ∧ ¬ ((4 : Int32) < 0 ∨ q_cln C1000058 o1000055 ≤ Int32.toNatClampNeg 4) ∧ q_ckd C1000058 (List.length C1000054) = 5 + 101 then q_o (q_sR C1000058 o1000055 (Int32.toNatClampNeg 4) (some (List.length C1000054))) (fun C1000059 => if q_ckd C1000059 x0 = 4 + 101 then (q_m (q_cR C1000059 x0 3) none (fun o1000060 => q_o (C1000059 ++ [(5 + 101, 0, [], [], [])]) (fun C1000061 => q_b1 (IX5_init C1000061 (List.length C1000059) 512) (fun C1000063 => if q_ckd C1000063 o1000060 = 5 + 130 ∧ ¬ ((4 : Int32) < 0 ∨ q_cln C1000063 o1000060 ≤ Int32.toNatClampNeg 4) ∧ q_ckd C1000063 (List.length C1000059) = 5 + 101 then q_o (q_sR C1000063 o1000060 (Int32.toNatClampNeg 4) (some (List.length C1000059))) (fun C1000064 => if q_ckd C1000064 x0 = 4 + 101 then (q_m (q_cR C1000064 x0 2) none (fun o1000065 => q_o (C1000064 ++ [(5 + 101, 0, [], [], [])]) (fun C1000066 => q_b1 (IX5_init C1000066 (List.length C1000064) 512) (fun C1000068 => if q_ckd C1000068 o1000065 = 5 + 130 ∧ ¬ ((5 : Int32) < 0 ∨ q_cln C1000068 o1000065 ≤ Int32.toNatClampNeg 5) ∧ q_ckd C1000068 (List.length C1000064) = 5 + 101 then q_o (q_sR C1000068 o1000065 (Int32.toNatClampNeg 5) (some (List.length C1000064))) (fun C1000069 => if q_ckd C1000069 x0 = 4 + 101 then (q_m (q_cR C1000069 x0 3) none (fun o1000070 => q_o (C1000069 ++ [(5 + 101, 0, [], [], [])]) (fun C1000071 => q_b1 (IX5_init C1000071 (List.length C1000069) 512) (fun C1000073 => if q_ckd C1000073 o1000070 = 5 + 130 ∧ ¬ ((5 : Int32) < 0 ∨ q_cln C1000073 o1000070 ≤ Int32.toNatClampNeg 5) ∧ q_ckd C1000073 (List.length C1000069) = 5 + 101 then q_o (q_sR C1000073 o1000070 (Int32.toNatClampNeg 5) (some (List.length C1000069))) (fun C1000074 => some C1000074) else none)))) else none) else none)))) else none) else none)))) else none) else none)))) else none) else none)))) else none) else none)))) else none) else none)))) else none) else none)))) else none) else none)))) else none) else none)))) else none) else none)))) else none) else none)))) else none) else none) else none) else none))) else none))) else none))) else none))
set_option maxRecDepth 100000 in
def IX10_init (C : List q_Ce) (x0 : Nat) : Option (List q_Ce) := if (8 : Int32) < 0 ∨ 60000000 < Int32.toNatClampNeg 8 then none else (q_o (C ++ [(0 + 130, Int32.toNatClampNeg 8, [], [], [])]) (fun C1000001 => if q_ckd C1000001 x0 = 10 + 101 then q_o (q_sR C1000001 x0 0 (some (List.length C))) (fun C1000002 => if (6 : Int32) < 0 ∨ 60000000 < Int32.toNatClampNeg 6 then none else (q_o (C1000002 ++ [(1 + 130, Int32.toNatClampNeg 6, [], [], [])]) (fun C1000003 => if q_ckd C1000003 x0 = 10 + 101 then q_o (q_sR C1000003 x0 1 (some (List.length C1000002))) (fun C1000004 => if (6 : Int32) < 0 ∨ 60000000 < Int32.toNatClampNeg 6 then none else (q_o (C1000004 ++ [(7 + 130, Int32.toNatClampNeg 6, [], [], [])]) (fun C1000005 => if q_ckd C1000005 x0 = 10 + 101 then q_o (q_sR C1000005 x0 2 (some (List.length C1000004))) (fun C1000006 => q_o (C1000006 ++ [(5 + 101, 0, [], [], [])]) (fun C1000007 => q_b1 (IX5_init C1000007 (List.length C1000006) 4) (fun C1000009 => if q_ckd C1000009 x0 = 10 + 101 then q_o (q_sR C1000009 x0 3 (some (List.length C1000006))) (fun C1000010 => q_o (C1000010 ++ [(5 + 101, 0, [], [], [])]) (fun C1000011 => q_b1 (IX5_init C1000011 (List.length C1000010) 4) (fun C1000013 => if q_ckd C1000013 x0 = 10 + 101 then q_o (q_sR C1000013 x0 4 (some (List.length C1000010))) (fun C1000014 => q_o (C1000014 ++ [(5 + 101, 0, [], [], [])]) (fun C1000015 => q_b1 (IX5_init C1000015 (List.length C1000014) 4) (fun C1000017 => if q_ckd C1000017 x0 = 10 + 101 then q_o (q_sR C1000017 x0 5 (some (List.length C1000014))) (fun C1000018 => q_o (C1000018 ++ [(5 + 101, 0, [], [], [])]) (fun C1000019 => q_b1 (IX5_init C1000019 (List.length C1000018) 4) (fun C1000021 => if q_ckd C1000021 x0 = 10 + 101 then q_o (q_sR C1000021 x0 6 (some (List.length C1000018))) (fun C1000022 => if q_ckd C1000022 x0 = 10 + 101 then q_o (q_sI C1000022 x0 7 0) (fun C1000023 => if q_ckd C1000023 x0 = 10 + 101 then q_o (q_sI C1000023 x0 8 0) (fun C1000024 => if q_ckd C1000024 x0 = 10 + 101 then q_o (q_sI C1000024 x0 9 0) (fun C1000025 => if q_ckd C1000025 x0 = 10 + 101 then q_o (q_sI C1000025 x0 10 0) (fun C1000026 => if q_ckd C1000026 x0 = 10 + 101 then q_o (q_sI C1000026 x0 11 0) (fun C1000027 => if q_ckd C1000027 x0 = 10 + 101 then q_o (q_sI C1000027 x0 12 256) (fun C1000028 => if q_ckd C1000028 x0 = 10 + 101 then q_o (q_sI C1000028 x0 13 0) (fun C1000029 => if q_ckd C1000029 x0 = 10 + 101 then q_o (q_sI C1000029 x0 14 0) (fun C1000030 => if q_ckd C1000030 x0 = 10 + 101 then (q_m (q_cR C1000030 x0 0) none (fun o1000031 => if q_ckd C1000030 o1000031 = 0 + 130 ∧ q_cln C1000030 o1000031 = 8 then (if q_ckd C1000030 x0 = 10 + 101 then (q_m (q_cR C1000030 x0 0) none (fun o1000032 => q_o (C1000030 ++ [(0 + 101, 0, [], [], [])]) (fun C1000033 => q_b1 (IX0_init C1000033 (List.length C1000030)) (fun C1000035 => if q_ckd C1000035 o1000032 = 0 + 130 ∧ ¬ ((0 : Int32) < 0 ∨ q_cln C1000035 o1000032 ≤ Int32.toNatClampNeg 0) ∧ q_ckd C1000035 (List.length C1000030) = 0 + 101 then q_o (q_sR C1000035 o1000032 (Int32.toNatClampNeg 0) (some (List.length C1000030))) (fun C1000036 => if q_ckd C1000036 x0 = 10 + 101 then (q_m (q_cR C1000036 x0 0) none (fun o1000037 => if q_ckd C1000036 o1000037 = 0 + 130 ∧ q_cln C1000036 o1000037 = 8 then (if q_ckd C1000036 x0 = 10 + 101 then (q_m (q_cR C1000036 x0 0) none (fun o1000038 => q_o (C1000036 ++ [(0 + 101, 0, [], [], [])]) (fun C1000039 => q_b1 (IX0_init C1000039 (List.length C1000036)) (fun C1000041 => if q_ckd C1000041 o1000038 = 0 + 130 ∧ ¬ ((1 : Int32) < 0 ∨ q_cln C1000041 o1000038 ≤ Int32.toNatClampNeg 1) ∧ q_ckd C1000041 (List.length C1000036) = 0 + 101 then q_o (q_sR C1000041 o1000038 (Int32.toNatClampNeg 1) (some (List.length C1000036))) (fun C1000042 => if q_ckd C1000042 x0 = 10 + 101 then (q_m (q_cR C1000042 x0 0) none (fun o1000043 => if q_ckd C1000042 o1000043 = 0 + 130 ∧ q_cln C1000042 o1000043 = 8 then (if q_ckd C1000042 x0 = 10 + 101 then (q_m (q_cR C1000042 x0 0) none (fun o1000044 => q_o (C1000042 ++ [(0 + 101, 0, [], [], [])]) (fun C1000045 => q_b1 (IX0_init C1000045 (List.length C1000042)) (fun C1000047 => if q_ckd C1000047 o1000044 = 0 + 130 ∧ ¬ ((2 : Int32) < 0 ∨ q_cln C1000047 o1000044 ≤ Int32.toNatClampNeg 2) ∧ q_ckd C1000047 (List.length C1000042) = 0 + 101 then q_o (q_sR C1000047 o1000044 (Int32.toNatClampNeg 2) (some (List.length C1000042))) (fun C1000048 => if q_ckd C1000048 x0 = 10 + 101 then (q_m (q_cR C1000048 x0 0) none (fun o1000049 => if q_ckd C1000048 o1000049 = 0 + 130 ∧ q_cln C1000048 o1000049 = 8 then (if q_ckd C1000048 x0 = 10 + 101 then (q_m (q_cR C1000048 x0 0) none (fun o1000050 => q_o (C1000048 ++ [(0 + 101, 0, [], [], [])]) (fun C1000051 => q_b1 (IX0_init C1000051 (List.length C1000048)) (fun C1000053 => if q_ckd C1000053 o1000050 = 0 + 130 ∧ ¬ ((3 : Int32) < 0 ∨ q_cln C1000053 o1000050 ≤ Int32.toNatClampNeg 3) ∧ q_ckd C1000053 (List.length C1000048) = 0 + 101 then q_o (q_sR C1000053 o1000050 (Int32.toNatClampNeg 3) (some (List.length C1000048))) (fun C1000054 => if q_ckd C1000054 x0 = 10 + 101 then (q_m (q_cR C1000054 x0 0) none (fun o1000055 => if q_ckd C1000054 o1000055 = 0 + 130 ∧ q_cln C1000054 o1000055 = 8 then (if q_ckd C1000054 x0 = 10 + 101 then (q_m (q_cR C1000054 x0 0) none (fun o1000056 => q_o (C1000054 ++ [(0 + 101, 0, [], [], [])]) (fun C1000057 => q_b1 (IX0_init C1000057 (List.length C1000054)) (fun C1000059 => if q_ckd C1000059 o1000056 = 0 + 130 ∧ ¬ ((4 : Int32) < 0 ∨ q_cln C1000059 o1000056 ≤ Int32.toNatClampNeg 4) ∧ q_ckd C1000059 (List.length C1000054) = 0 + 101 then q_o (q_sR C1000059 o1000056 (Int32.toNatClampNeg 4) (some (List.length C1000054))) (fun C1000060 => if q_ckd C1000060 x0 = 10 + 101 then (q_m (q_cR C1000060 x0 0) none (fun o1000061 => if q_ckd C1000060 o1000061 = 0 + 130 ∧ q_cln C1000060 o1000061 = 8 then (if q_ckd C1000060 x0 = 10 + 101 then (q_m (q_cR C1000060 x0 0) none (fun o1000062 => q_o (C1000060 ++ [(0 + 101, 0, [], [], [])]) (fun C1000063 => q_b1 (IX0_init C1000063 (List.length C1000060)) (fun C1000065 => if q_ckd C1000065 o1000062 = 0 + 130 ∧ ¬ ((5 : Int32) < 0 ∨ q_cln C1000065 o1000062 ≤ Int32.toNatClampNeg 5) ∧ q_ckd C1000065 (List.length C1000060) = 0 + 101 then q_o (q_sR C1000065 o1000062 (Int32.toNatClampNeg 5) (some (List.length C1000060))) (fun C1000066 => if q_ckd C1000066 x0 = 10 + 101 then (q_m (q_cR C1000066 x0 0) none (fun o1000067 => if q_ckd C1000066 o1000067 = 0 + 130 ∧ q_cln C1000066 o1000067 = 8 then (if q_ckd C1000066 x0 = 10 + 101 then (q_m (q_cR C1000066 x0 0) none (fun o1000068 => q_o (C1000066 ++ [(0 + 101, 0, [], [], [])]) (fun C1000069 => q_b1 (IX0_init C1000069 (List.length C1000066)) (fun C1000071 => if q_ckd C1000071 o1000068 = 0 + 130 ∧ ¬ ((6 : Int32) < 0 ∨ q_cln C1000071 o1000068 ≤ Int32.toNatClampNeg 6) ∧ q_ckd C1000071 (List.length C1000066) = 0 + 101 then q_o (q_sR C1000071 o1000068 (Int32.toNatClampNeg 6) (some (List.length C1000066))) (fun C1000072 => if q_ckd C1000072 x0 = 10 + 101 then (q_m (q_cR C1000072 x0 0) none (fun o1000073 => if q_ckd C1000072 o1000073 = 0 + 130 ∧ q_cln C1000072 o1000073 = 8 then (if q_ckd C1000072 x0 = 10 + 101 then (q_m (q_cR C1000072 x0 0) none (fun o1000074 => q_o (C1000072 ++ [(0 + 101, 0, [], [], [])]) (fun C1000075 => q_b1 (IX0_init C1000075 (List.length C1000072)) (fun C1000077 => if q_ckd C1000077 o1000074 = 0 + 130 ∧ ¬ ((7 : Int32) < 0 ∨ q_cln C1000077 o1000074 ≤ Int32.toNatClampNeg 7) ∧ q_ckd C1000077 (List.length C1000072) = 0 + 101 then q_o (q_sR C1000077 o1000074 (Int32.toNatClampNeg 7) (some (List.length C1000072))) (fun C1000078 => if q_ckd C1000078 x0 = 10 + 101 then (q_m (q_cR C1000078 x0 0) none (fun o1000079 => if q_ckd C1000078 o1000079 = 0 + 130 ∧ q_cln C1000078 o1000079 = 8 then (if q_ckd C1000078 x0 = 10 + 101 then (q_m (q_cR C1000078 x0 1) none (fun o1000080 => if q_ckd C1000078 o1000080 = 1 + 130 ∧ q_cln C1000078 o1000080 = 6 then (if q_ckd C1000078 x0 = 10 + 101 then (q_m (q_cR C1000078 x0 1) none (fun o1000081 => q_o (C1000078 ++ [(1 + 101, 0, [], [], [])]) (fun C1000082 => q_b1 (IX1_init C1000082 (List.length C1000078)) (fun C1000084 => if q_ckd C1000084 o1000081 = 1 + 130 ∧ ¬ ((0 : Int32) < 0 ∨ q_cln C1000084 o1000081 ≤ Int32.toNatClampNeg 0) ∧ q_ckd C1000084 (List.length C1000078) = 1 + 101 then q_o (q_sR C1000084 o1000081 (Int32.toNatClampNeg 0) (some (List.length C1000078))) (fun C1000085 => if q_ckd C1000085 x0 = 10 + 101 then (q_m (q_cR C1000085 x0 1) none (fun o1000086 => if q_ckd C1000085 o1000086 = 1 + 130 ∧ q_cln C1000085 o1000086 = 6 then (if q_ckd C1000085 x0 = 10 + 101 then (q_m (q_cR C1000085 x0 1) none (fun o1000087 => q_o (C1000085 ++ [(1 + 101, 0, [], [], [])]) (fun C1000088 => q_b1 (IX1_init C1000088 (List.length C1000085)) (fun C1000090 => if q_ckd C1000090 o1000087 = 1 + 130 ∧ ¬ ((1 : Int32) < 0 ∨ q_cln C1000090 o1000087 ≤ Int32.toNatClampNeg 1) ∧ q_ckd C1000090 (List.length C1000085) = 1 + 101 then q_o (q_sR C1000090 o1000087 (Int32.toNatClampNeg 1) (some (List.length C1000085))) (fun C1000091 => if q_ckd C1000091 x0 = 10 + 101 then (q_m (q_cR C1000091 x0 1) none (fun o1000092 => if q_ckd C1000091 o1000092 = 1 + 130 ∧ q_cln C1000091 o1000092 = 6 then (if q_ckd C1000091 x0 = 10 + 101 then (q_m (q_cR C1000091 x0 1) none (fun o1000093 => q_o (C1000091 ++ [(1 + 101, 0, [], [], [])]) (fun C1000094 => q_b1 (IX1_init C1000094 (List.length C1000091)) (fun C1000096 => if q_ckd C1000096 o1000093 = 1 + 130 ∧ ¬ ((2 : Int32) < 0 ∨ q_cln C1000096 o1000093 ≤ Int32.toNatClampNeg 2) ∧ q_ckd C1000096 (List.length C1000091) = 1 + 101 then q_o (q_sR C1000096 o1000093 (Int32.toNatClampNeg 2) (some (List.length C1000091))) (fun C1000097 => if q_ckd C1000097 x0 = 10 + 101 then (q_m (q_cR C1000097 x0 1) none (fun o1000098 => if q_ckd C1000097 o1000098 = 1 + 130 ∧ q_cln C1000097 o1000098 = 6 then (if q_ckd C1000097 x0 = 10 + 101 then (q_m (q_cR C1000097 x0 1) none (fun o1000099 => q_o (C1000097 ++ [(1 + 101, 0, [], [], [])]) (fun C1000100 => q_b1 (IX1_init C1000100 (List.length C1000097)) (fun C1000102 => if q_ckd C1000102 o1000099 = 1 + 130 ∧ ¬ ((3 : Int32) < 0 ∨ q_cln C1000102 o1000099 ≤ Int32.toNatClampNeg 3) ∧ q_ckd C1000102 (List.length C1000097) = 1 + 101 then q_o (q_sR C1000102 o1000099 (Int32.toNatClampNeg 3) (some (List.length C1000097))) (fun C1000103 => if q_ckd C1000103 x0 = 10 + 101 then (q_m (q_cR C1000103 x0 1) none (fun o1000104 => if q_ckd C1000103 o1000104 = 1 + 130 ∧ q_cln C1000103 o1000104 = 6 then (if q_ckd C1000103 x0 = 10 + 101 then (q_m (q_cR C1000103 x0 1) none (fun o1000105 => q_o (C1000103 ++ [(1 + 101, 0, [], [], [])]) (fun C1000106 => q_b1 (IX1_init C1000106 (List.length C1000103)) (fun C1000108 => if q_ckd C1000108 o1000105 = 1 + 130 ∧ ¬ ((4 : Int32) < 0 ∨ q_cln C1000108 o1000105 ≤ Int32.toNatClampNeg 4) ∧ q_ckd C1000108 (List.length C1000103) = 1 + 101 then q_o (q_sR C1000108 o1000105 (Int32.toNatClampNeg 4) (some (List.length C1000103))) (fun C1000109 => if q_ckd C1000109 x0 = 10 + 101 then (q_m (q_cR C1000109 x0 1) none (fun o1000110 => if q_ckd C1000109 o1000110 = 1 + 130 ∧ q_cln C1000109 o1000110 = 6 then (if q_ckd C1000109 x0 = 10 + 101 then (q_m (q_cR C1000109 x0 1) none (fun o1000111 => q_o (C1000109 ++ [(1 + 101, 0, [], [], [])]) (fun C1000112 => q_b1 (IX1_init C1000112 (List.length C1000109)) (fun C1000114 => if q_ckd C1000114 o1000111 = 1 + 130 ∧ ¬ ((5 : Int32) < 0 ∨ q_cln C1000114 o1000111 ≤ Int32.toNatClampNeg 5) ∧ q_ckd C1000114 (List.length C1000109) = 1 + 101 then q_o (q_sR C1000114 o1000111 (Int32.toNatClampNeg 5) (some (List.length C1000109))) (fun C1000115 => if q_ckd C1000115 x0 = 10 + 101 then (q_m (q_cR C1000115 x0 1) none (fun o1000116 => if q_ckd C1000115 o1000116 = 1 + 130 ∧ q_cln C1000115 o1000116 = 6 then (if q_ckd C1000115 x0 = 10 + 101 then (q_m (q_cR C1000115 x0 2) none (fun o1000117 => if q_ckd C1000115 o1000117 = 7 + 130 ∧ q_cln C1000115 o1000117 = 6 then (if q_ckd C1000115 x0 = 10 + 101 then (q_m (q_cR C1000115 x0 2) none (fun o1000118 => q_o (C1000115 ++ [(7 + 101, 0, [], [], [])]) (fun C1000119 => q_b1 (IX7_init C1000119 (List.length C1000115)) (fun C1000121 => if q_ckd C1000121 o1000118 = 7 + 130 ∧ ¬ ((0 : Int32) < 0 ∨ q_cln C1000121 o1000118 ≤ Int32.toNatClampNeg 0) ∧ q_ckd C1000121 (List.length C1000115) = 7 + 101 then q_o (q_sR C1000121 o1000118 (Int32.toNatClampNeg 0) (some (List.length C1000115))) (fun C1000122 => if q_ckd C1000122 x0 = 10 + 101 then (q_m (q_cR C1000122 x0 2) none (fun o1000123 => if q_ckd C1000122 o1000123 = 7 + 130 ∧ q_cln C1000122 o1000123 = 6 then (if q_ckd C1000122 x0 = 10 + 101 then (q_m (q_cR C1000122 x0 2) none (fun o1000124 => q_o (C1000122 ++ [(7 + 101, 0, [], [], [])]) (fun C1000125 => q_b1 (IX7_init C1000125 (List.length C1000122)) (fun C1000127 => if q_ckd C1000127 o1000124 = 7 + 130 ∧ ¬ ((1 : Int32) < 0 ∨ q_cln C1000127 o1000124 ≤ Int32.toNatClampNeg 1) ∧ q_ckd C1000127 (List.length C1000122) = 7 + 101 then q_o (q_sR C1000127 o1000124 (Int32.toNatClampNeg 1) (some (List.length C1000122))) (fun C1000128 => if q_ckd C1000128 x0 = 10 + 101 then (q_m (q_cR C1000128 x0 2) none (fun o1000129 => if q_ckd C1000128 o1000129 = 7 + 130 ∧ q_cln C1000128 o1000129 = 6 then (if q_ckd C1000128 x0 = 10 + 101 then (q_m (q_cR C1000128 x0 2) none (fun o1000130 => q_o (C1000128 ++ [(7 + 101, 0, [], [], [])]) (fun C1000131 => q_b1 (IX7_init C1000131 (List.length C1000128)) (fun C1000133 => if q_ckd C1000133 o1000130 = 7 + 130 ∧ ¬ ((2 : Int32) < 0 ∨ q_cln C1000133 o1000130 ≤ Int32.toNatClampNeg 2) ∧ q_ckd C1000133 (List.length C1000128) = 7 + 101 then q_o (q_sR C1000133 o1000130 (Int32.toNatClampNeg 2) (some (List.length C1000128))) (fun C1000134 => if q_ckd C1000134 x0 = 10 + 101 then (q_m (q_cR C1000134 x0 2) none (fun o1000135 => if q_ckd C1000134 o1000135 = 7 + 130 ∧ q_cln C1000134 o1000135 = 6 then (if q_ckd C1000134 x0 = 10 + 101 then (q_m (q_cR C1000134 x0 2) none (fun o1000136 => q_o (C1000134 ++ [(7 + 101, 0, [], [], [])]) (fun C1000137 => q_b1 (IX7_init C1000137 (List.length C1000134)) (fun C1000139 => if q_ckd C1000139 o1000136 = 7 + 130 ∧ ¬ ((3 : Int32) < 0 ∨ q_cln C1000139 o1000136 ≤ Int32.toNatClampNeg 3) ∧ q_ckd C1000139 (List.length C1000134) = 7 + 101 then q_o (q_sR C1000139 o1000136 (Int32.toNatClampNeg 3) (some (List.length C1000134))) (fun C1000140 => if q_ckd C1000140 x0 = 10 + 101 then (q_m (q_cR C1000140 x0 2) none (fun o1000141 => if q_ckd C1000140 o1000141 = 7 + 130 ∧ q_cln C1000140 o1000141 = 6 then (if q_ckd C1000140 x0 = 10 + 101 then (q_m (q_cR C1000140 x0 2) none (fun o1000142 => q_o (C1000140 ++ [(7 + 101, 0, [], [], [])]) (fun C1000143 => q_b1 (IX7_init C1000143 (List.length C1000140)) (fun C1000145 => if q_ckd C1000145 o1000142 = 7 + 130 ∧ ¬ ((4 : Int32) < 0 ∨ q_cln C1000145 o1000142 ≤ Int32.toNatClampNeg 4) ∧ q_ckd C1000145 (List.length C1000140) = 7 + 101 then q_o (q_sR C1000145 o1000142 (Int32.toNatClampNeg 4) (some (List.length C1000140))) (fun C1000146 => if q_ckd C1000146 x0 = 10 + 101 then (q_m (q_cR C1000146 x0 2) none (fun o1000147 => if q_ckd C1000146 o1000147 = 7 + 130 ∧ q_cln C1000146 o1000147 = 6 then (if q_ckd C1000146 x0 = 10 + 101 then (q_m (q_cR C1000146 x0 2) none (fun o1000148 => q_o (C1000146 ++ [(7 + 101, 0, [], [], [])]) (fun C1000149 => q_b1 (IX7_init C1000149 (List.length C1000146)) (fun C1000151 => if q_ckd C1000151 o1000148 = 7 + 130 ∧ ¬ ((5 : Int32) < 0 ∨ q_cln C1000151 o1000148 ≤ Int32.toNatClampNeg 5) ∧ q_ckd C1000151 (List.length C1000146) = 7 + 101 then q_o (q_sR C1000151 o1000148 (Int32.toNatClampNeg 5) (some (List.length C1000146))) (fun C1000152 => if q_ckd C1000152 x0 = 10 + 101 then (q_m (q_cR C1000152 x0 2) none (fun o1000153 => if q_ckd C1000152 o1000153 = 7 + 130 ∧ q_cln C1000152 o1000153 = 6 then (some C1000152) else none)) else none) else none)))) else none) else none)) else none) else none)))) else none) else none)) else none) else none)))) else none) else none)) else none) else none)))) else none) else none)) else none) else none)))) else none) else none)) else none) else none)))) else none) else none)) else none) else none)) else none) else none)))) else none) else none)) else none) else none)))) else none) else none)) else none) else none)))) else none) else none)) else none) else none)))) else none) else none)) else none) else none)))) else none) else none)) else none) else none)))) else none) else none)) else none) else none)) else none) else none)))) else none) else none)) else none) else none)))) else none) else none)) else none) else none)))) else none) else none)) else none) else none)))) else none) else none)) else none) else none)))) else none) else none)) else none) else none)))) else none) else none)) else none) else none)))) else none) else none)) else none) else none)))) else none) else none)) else none) else none) else none) else none) else none) else none) else none) else none) else none) else none))) else none))) else none))) else none))) else none))) else none))) else none))
set_option maxRecDepth 100000 in
def IX11_init (C : List q_Ce) (x0 : Nat) : Option (List q_Ce) := q_o (C ++ [(3 + 101, 0, [], [], [])]) (fun C1000001 => q_b1 (IX3_init C1000001 (List.length C)) (fun C1000003 => if q_ckd C1000003 x0 = 11 + 101 then q_o (q_sR C1000003 x0 0 (some (List.length C))) (fun C1000004 => q_o (C1000004 ++ [(8 + 101, 0, [], [], [])]) (fun C1000005 => q_b1 (IX8_init C1000005 (List.length C1000004)) (fun C1000007 => if q_ckd C1000007 x0 = 11 + 101 then q_o (q_sR C1000007 x0 1 (some (List.length C1000004))) (fun C1000008 => if (3 : Int32) < 0 ∨ 60000000 < Int32.toNatClampNeg 3 then none else (q_o (C1000008 ++ [(8 + 130, Int32.toNatClampNeg 3, [], [], [])]) (fun C1000009 => if q_ckd C1000009 x0 = 11 + 101 then q_o (q_sR C1000009 x0 2 (some (List.length C1000008))) (fun C1000010 => q_o (C1000010 ++ [(2 + 101, 0, [], [], [])]) (fun C1000011 => q_b1 (IX2_init C1000011 (List.length C1000010)) (fun C1000013 => if q_ckd C1000013 x0 = 11 + 101 then q_o (q_sR C1000013 x0 3 (some (List.length C1000010))) (fun C1000014 => q_o (C1000014 ++ [(6 + 101, 0, [], [], [])]) (fun C1000015 => q_b1 (IX6_init C1000015 (List.length C1000014)) (fun C1000017 => if q_ckd C1000017 x0 = 11 + 101 then q_o (q_sR C1000017 x0 4 (some (List.length C1000014))) (fun C1000018 => q_o (C1000018 ++ [(4 + 101, 0, [], [], [])]) (fun C1000019 => q_b1 (IX4_init C1000019 (List.length C1000018)) (fun C1000021 => if q_ckd C1000021 x0 = 11 + 101 then q_o (q_sR C1000021 x0 5 (some (List.length C1000018))) (fun C1000022 => q_o (C1000022 ++ [(10 + 101, 0, [], [], [])]) (fun C1000023 => q_b1 (IX10_init C1000023 (List.length C1000022)) (fun C1000025 => if q_ckd C1000025 x0 = 11 + 101 then q_o (q_sR C1000025 x0 6 (some (List.length C1000022))) (fun C1000026 => q_o (C1000026 ++ [(10 + 101, 0, [], [], [])]) (fun C1000027 => q_b1 (IX10_init C1000027 (List.length C1000026)) (fun C1000029 => if q_ckd C1000029 x0 = 11 + 101 then q_o (q_sR C1000029 x0 7 (some (List.length C1000026))) (fun C1000030 => if q_ckd C1000030 x0 = 11 + 101 then q_o (q_sI C1000030 x0 8 (-1)) (fun C1000031 => if q_ckd C1000031 x0 = 11 + 101 then q_o (q_sI C1000031 x0 9 0) (fun C1000032 => if q_ckd C1000032 x0 = 11 + 101 then (q_m (q_cR C1000032 x0 2) none (fun o1000033 => if q_ckd C1000032 o1000033 = 8 + 130 ∧ q_cln C1000032 o1000033 = 3 then (if q_ckd C1000032 x0 = 11 + 101 then (q_m (q_cR C1000032 x0 2) none (fun o1000034 => q_o (C1000032 ++ [(8 + 101, 0, [], [], [])]) (fun C1000035 => q_b1 (IX8_init C1000035 (List.length C1000032)) (fun C1000037 => if q_ckd C1000037 o1000034 = 8 + 130 ∧ ¬ ((0 : Int32) < 0 ∨ q_cln C1000037 o1000034 ≤ Int32.toNatClampNeg 0) ∧ q_ckd C1000037 (List.length C1000032) = 8 + 101 then q_o (q_sR C1000037 o1000034 (Int32.toNatClampNeg 0) (some (List.length C1000032))) (fun C1000038 => if q_ckd C1000038 x0 = 11 + 101 then (q_m (q_cR C1000038 x0 2) none (fun o1000039 => if q_ckd C1000038 o1000039 = 8 + 130 ∧ q_cln C1000038 o1000039 = 3 then (if q_ckd C1000038 x0 = 11 + 101 then (q_m (q_cR C1000038 x0 2) none (fun o1000040 => q_o (C1000038 ++ [(8 + 101, 0, [], [], [])]) (fun C1000041 => q_b1 (IX8_init C1000041 (List.length C1000038)) (fun C1000043 => if q_ckd C1000043 o1000040 = 8 + 130 ∧ ¬ ((1 : Int32) < 0 ∨ q_cln C1000043 o1000040 ≤ Int32.toNatClampNeg 1) ∧ q_ckd C1000043 (List.length C1000038) = 8 + 101 then q_o (q_sR C1000043 o1000040 (Int32.toNatClampNeg 1) (some (List.length C1000038))) (fun C1000044 => if q_ckd C1000044 x0 = 11 + 101 then (q_m (q_cR C1000044 x0 2) none (fun o1000045 => if q_ckd C1000044 o1000045 = 8 + 130 ∧ q_cln C1000044 o1000045 = 3 then (if q_ckd C1000044 x0 = 11 + 101 then (q_m (q_cR C1000044 x0 2) none (fun o1000046 => q_o (C1000044 ++ [(8 + 101, 0, [], [], [])]) (fun C1000047 => q_b1 (IX8_init C1000047 (List.length C1000044)) (fun C1000049 => if q_ckd C1000049 o1000046 = 8 + 130 ∧ ¬ ((2 : Int32) < 0 ∨ q_cln C1000049 o1000046 ≤ Int32.toNatClampNeg 2) ∧ q_ckd C1000049 (List.length C1000044) = 8 + 101 then q_o (q_sR C1000049 o1000046 (Int32.toNatClampNeg 2) (some (List.length C1000044))) (fun C1000050 => if q_ckd C1000050 x0 = 11 + 101 then (q_m (q_cR C1000050 x0 2) none (fun o1000051 => if q_ckd C1000050 o1000051 = 8 + 130 ∧ q_cln C1000050 o1000051 = 3 then (some C1000050) else none)) else none) else none)))) else none) else none)) else none) else none)))) else none) else none)) else none) else none)))) else none) else none)) else none) else none) else none) else none))) else none))) else none))) else none))) else none))) else none))) else none))) else none))
set_option maxRecDepth 100000 in
def IX12_init (C : List q_Ce) (x0 : Nat) : Option (List q_Ce) := if (2000 : Int32) < 0 ∨ 60000000 < Int32.toNatClampNeg 2000 then none else (q_o (C ++ [(20, Int32.toNatClampNeg 2000, [], [], [])]) (fun C1000001 => if q_ckd C1000001 x0 = 12 + 101 then q_o (q_sR C1000001 x0 1 (some (List.length C))) (fun C1000002 => if (2000 : Int32) < 0 ∨ 60000000 < Int32.toNatClampNeg 2000 then none else (q_o (C1000002 ++ [(20, Int32.toNatClampNeg 2000, [], [], [])]) (fun C1000003 => if q_ckd C1000003 x0 = 12 + 101 then q_o (q_sR C1000003 x0 3 (some (List.length C1000002))) (fun C1000004 => if (403 : Int32) < 0 ∨ 60000000 < Int32.toNatClampNeg 403 then none else (q_o (C1000004 ++ [(21, Int32.toNatClampNeg 403, [], [], [])]) (fun C1000005 => if q_ckd C1000005 x0 = 12 + 101 then q_o (q_sR C1000005 x0 5 (some (List.length C1000004))) (fun C1000006 => if (403 : Int32) < 0 ∨ 60000000 < Int32.toNatClampNeg 403 then none else (q_o (C1000006 ++ [(21, Int32.toNatClampNeg 403, [], [], [])]) (fun C1000007 => if q_ckd C1000007 x0 = 12 + 101 then q_o (q_sR C1000007 x0 6 (some (List.length C1000006))) (fun C1000008 => if (403 : Int32) < 0 ∨ 60000000 < Int32.toNatClampNeg 403 then none else (q_o (C1000008 ++ [(21, Int32.toNatClampNeg 403, [], [], [])]) (fun C1000009 => if q_ckd C1000009 x0 = 12 + 101 then q_o (q_sR C1000009 x0 7 (some (List.length C1000008))) (fun C1000010 => if (403 : Int32) < 0 ∨ 60000000 < Int32.toNatClampNeg 403 then none else (q_o (C1000010 ++ [(22, Int32.toNatClampNeg 403, [], [], [])]) (fun C1000011 => if q_ckd C1000011 x0 = 12 + 101 then q_o (q_sR C1000011 x0 8 (some (List.length C1000010))) (fun C1000012 => if (11 : Int32) < 0 ∨ 60000000 < Int32.toNatClampNeg 11 then none else (q_o (C1000012 ++ [(22, Int32.toNatClampNeg 11, [], [], [])]) (fun C1000013 => if q_ckd C1000013 x0 = 12 + 101 then q_o (q_sR C1000013 x0 9 (some (List.length C1000012))) (fun C1000014 => if q_ckd C1000014 x0 = 12 + 101 then q_o (q_sI C1000014 x0 17 (-1)) (fun C1000015 => if (20 : Int32) < 0 ∨ 60000000 < Int32.toNatClampNeg 20 then none else (q_o (C1000015 ++ [(22, Int32.toNatClampNeg 20, [], [], [])]) (fun C1000016 => if q_ckd C1000016 x0 = 12 + 101 then q_o (q_sR C1000016 x0 21 (some (List.length C1000015))) (fun C1000017 => if (20 : Int32) < 0 ∨ 60000000 < Int32.toNatClampNeg 20 then none else (q_o (C1000017 ++ [(21, Int32.toNatClampNeg 20, [], [], [])]) (fun C1000018 => if q_ckd C1000018 x0 = 12 + 101 then q_o (q_sR C1000018 x0 22 (some (List.length C1000017))) (fun C1000019 => if (20 : Int32) < 0 ∨ 60000000 < Int32.toNatClampNeg 20 then none else (q_o (C1000019 ++ [(21, Int32.toNatClampNeg 20, [], [], [])]) (fun C1000020 => if q_ckd C1000020 x0 = 12 + 101 then q_o (q_sR C1000020 x0 23 (some (List.length C1000019))) (fun C1000021 => if (2 : Int32) < 0 ∨ 60000000 < Int32.toNatClampNeg 2 then none else (q_o (C1000021 ++ [(21, Int32.toNatClampNeg 2, [], [], [])]) (fun C1000022 => if q_ckd C1000022 x0 = 12 + 101 then q_o (q_sR C1000022 x0 24 (some (List.length C1000021))) (fun C1000023 => if (16 : Int32) < 0 ∨ 60000000 < Int32.toNatClampNeg 16 then none else (q_o (C1000023 ++ [(21, Int32.toNatClampNeg 16, [], [], [])]) (fun C1000024 => if q_ckd C1000024 x0 = 12 + 101 then q_o (q_sR C1000024 x0 25 (some (List.length C1000023))) (fun C1000025 => if (2048 : Int32) < 0 ∨ 60000000 < Int32.toNatClampNeg 2048 then none else (q_o (C1000025 ++ [(21, Int32.toNatClampNeg 2048, [], [], [])]) (fun C1000026 => if q_ckd C1000026 x0 = 12 + 101 then q_o (q_sR C1000026 x0 26 (some (List.length C1000025))) (fun C1000027 => if (2 : Int32) < 0 ∨ 60000000 < Int32.toNatClampNeg 2 then none else (q_o (C1000027 ++ [(21, Int32.toNatClampNeg 2, [], [], [])]) (fun C1000028 => if q_ckd C1000028 x0 = 12 + 101 then q_o (q_sR C1000028 x0 27 (some (List.length C1000027))) (fun C1000029 => if (12 : Int32) < 0 ∨ 60000000 < Int32.toNatClampNeg 12 then none else (q_o (C1000029 ++ [(21, Int32.toNatClampNeg 12, [], [], [])]) (fun C1000030 => if q_ckd C1000030 x0 = 12 + 101 then q_o (q_sR C1000030 x0 28 (some (List.length C1000029))) (fun C1000031 => if (12 : Int32) < 0 ∨ 60000000 < Int32.toNatClampNeg 12 then none else (q_o (C1000031 ++ [(21, Int32.toNatClampNeg 12, [], [], [])]) (fun C1000032 => if q_ckd C1000032 x0 = 12 + 101 then q_o (q_sR C1000032 x0 29 (some (List.length C1000031))) (fun C1000033 => if (12 : Int32) < 0 ∨ 60000000 < Int32.toNatClampNeg 12 then none else (q_o (C1000033 ++ [(21, Int32.toNatClampNeg 12, [], [], [])]) (fun C1000034 => if q_ckd C1000034 x0 = 12 + 101 then q_o (q_sR C1000034 x0 30 (some (List.length C1000033))) (fun C1000035 => if (2 : Int32) < 0 ∨ 60000000 < Int32.toNatClampNeg 2 then none else (q_o (C1000035 ++ [(21, Int32.toNatClampNeg 2, [], [], [])]) (fun C1000036 => if q_ckd C1000036 x0 = 12 + 101 then q_o (q_sR C1000036 x0 31 (some (List.length C1000035))) (fun C1000037 => if (12 : Int32) < 0 ∨ 60000000 < Int32.toNatClampNeg 12 then none else (q_o (C1000037 ++ [(21, Int32.toNatClampNeg 12, [], [], [])]) (fun C1000038 => if q_ckd C1000038 x0 = 12 + 101 then q_o (q_sR C1000038 x0 32 (some (List.length C1000037))) (fun C1000039 => if (12 : Int32) < 0 ∨ 60000000 < Int32.toNatClampNeg 12 then none else (q_o (C1000039 ++ [(21, Int32.toNatClampNeg 12, [], [], [])]) (fun C1000040 => if q_ckd C1000040 x0 = 12 + 101 then q_o (q_sR C1000040 x0 33 (some (List.length C1000039))) (fun C1000041 => if (12 : Int32) < 0 ∨ 60000000 < Int32.toNatClampNeg 12 then none else (q_o (C1000041 ++ [(21, Int32.toNatClampNeg 12, [], [], [])]) (fun C1000042 => if q_ckd C1000042 x0 = 12 + 101 then q_o (q_sR C1000042 x0 34 (some (List.length C1000041))) (fun C1000043 => if (12 : Int32) < 0 ∨ 60000000 < Int32.toNatClampNeg 12 then none else (q_o (C1000043 ++ [(21, Int32.toNatClampNeg 12, [], [], [])]) (fun C1000044 => if q_ckd C1000044 x0 = 12 + 101 then q_o (q_sR C1000044 x0 35 (some (List.length C1000043))) (fun C1000045 => if (12 : Int32) < 0 ∨ 60000000 < Int32.toNatClampNeg 12 then none else (q_o (C1000045 ++ [(21, Int32.toNatClampNeg 12, [], [], [])]) (fun C1000046 => if q_ckd C1000046 x0 = 12 + 101 then q_o (q_sR C1000046 x0 36 (some (List.length C1000045))) (fun C1000047 => if (12 : Int32) < 0 ∨ 60000000 < Int32.toNatClampNeg 12 then none else (q_o (C1000047 ++ [(21, Int32.toNatClampNeg 12, [], [], [])]) (fun C1000048 => if q_ckd C1000048 x0 = 12 + 101 then q_o (q_sR C1000048 x0 37 (some (List.length C1000047))) (fun C1000049 => if (2 : Int32) < 0 ∨ 60000000 < Int32.toNatClampNeg 2 then none else (q_o (C1000049 ++ [(21, Int32.toNatClampNeg 2, [], [], [])]) (fun C1000050 => if q_ckd C1000050 x0 = 12 + 101 then q_o (q_sR C1000050 x0 38 (some (List.length C1000049))) (fun C1000051 => if (12 : Int32) < 0 ∨ 60000000 < Int32.toNatClampNeg 12 then none else (q_o (C1000051 ++ [(21, Int32.toNatClampNeg 12, [], [], [])]) (fun C1000052 => if q_ckd C1000052 x0 = 12 + 101 then q_o (q_sR C1000052 x0 39 (some (List.length C1000051))) (fun C1000053 => if (12 : Int32) < 0 ∨ 60000000 < Int32.toNatClampNeg 12 then none else (q_o (C1000053 ++ [(21, Int32.toNatClampNeg 12, [], [], [])]) (fun C1000054 => if q_ckd C1000054 x0 = 12 + 101 then q_o (q_sR C1000054 x0 40 (some (List.length C1000053))) (fun C1000055 => if (12 : Int32) < 0 ∨ 60000000 < Int32.toNatClampNeg 12 then none else (q_o (C1000055 ++ [(21, Int32.toNatClampNeg 12, [], [], [])]) (fun C1000056 => if q_ckd C1000056 x0 = 12 + 101 then q_o (q_sR C1000056 x0 41 (some (List.length C1000055))) (fun C1000057 => if (2 : Int32) < 0 ∨ 60000000 < Int32.toNatClampNeg 2 then none else (q_o (C1000057 ++ [(21, Int32.toNatClampNeg 2, [], [], [])]) (fun C1000058 => if q_ckd C1000058 x0 = 12 + 101 then q_o (q_sR C1000058 x0 42 (some (List.length C1000057))) (fun C1000059 => if (8 : Int32) < 0 ∨ 60000000 < Int32.toNatClampNeg 8 then none else (q_o (C1000059 ++ [(21, Int32.toNatClampNeg 8, [], [], [])]) (fun C1000060 => if q_ckd C1000060 x0 = 12 + 101 then q_o (q_sR C1000060 x0 43 (some (List.length C1000059))) (fun C1000061 => if (8 : Int32) < 0 ∨ 60000000 < Int32.toNatClampNeg 8 then none else (q_o (C1000061 ++ [(21, Int32.toNatClampNeg 8, [], [], [])]) (fun C1000062 => if q_ckd C1000062 x0 = 12 + 101 then q_o (q_sR C1000062 x0 44 (some (List.length C1000061))) (fun C1000063 => if (8 : Int32) < 0 ∨ 60000000 < Int32.toNatClampNeg 8 then none else (q_o (C1000063 ++ [(21, Int32.toNatClampNeg 8, [], [], [])]) (fun C1000064 => if q_ckd C1000064 x0 = 12 + 101 then q_o (q_sR C1000064 x0 45 (some (List.length C1000063))) (fun C1000065 => if (8 : Int32) < 0 ∨ 60000000 < Int32.toNatClampNeg 8 then none else (q_o (C1000065 ++ [(21, Int32.toNatClampNeg 8, [], [], [])]) (fun C1000066 => if q_ckd C1000066 x0 = 12 + 101 then q_o (q_sR C1000066 x0 46 (some (List.length C1000065))) (fun C1000067 => if (2 : Int32) < 0 ∨ 60000000 < Int32.toNatClampNeg 2 then none else (q_o (C1000067 ++ [(21, Int32.toNatClampNeg 2, [], [], [])]) (fun C1000068 => if q_ckd C1000068 x0 = 12 + 101 then q_o (q_sR C1000068 x0 47 (some (List.length C1000067))) (fun C1000069 => if (2 : Int32) < 0 ∨ 60000000 < Int32.toNatClampNeg 2 then none else (q_o (C1000069 ++ [(21, Int32.toNatClampNeg 2, [], [], [])]) (fun C1000070 => if q_ckd C1000070 x0 = 12 + 101 then q_o (q_sR C1000070 x0 48 (some (List.length C1000069))) (fun C1000071 => if (2 : Int32) < 0 ∨ 60000000 < Int32.toNatClampNeg 2 then none else (q_o (C1000071 ++ [(21, Int32.toNatClampNeg 2, [], [], [])]) (fun C1000072 => if q_ckd C1000072 x0 = 12 + 101 then q_o (q_sR C1000072 x0 49 (some (List.length C1000071))) (fun C1000073 => if (3072 : Int32) < 0 ∨ 60000000 < Int32.toNatClampNeg 3072 then none else (q_o (C1000073 ++ [(20, Int32.toNatClampNeg 3072, [], [], [])]) (fun C1000074 => if q_ckd C1000074 x0 = 12 + 101 then q_o (q_sR C1000074 x0 51 (some (List.length C1000073))) (fun C1000075 => if (3072 : Int32) < 0 ∨ 60000000 < Int32.toNatClampNeg 3072 then none else (q_o (C1000075 ++ [(20, Int32.toNatClampNeg 3072, [], [], [])]) (fun C1000076 => if q_ckd C1000076 x0 = 12 + 101 then q_o (q_sR C1000076 x0 52 (some (List.length C1000075))) (fun C1000077 => if (1024 : Int32) < 0 ∨ 60000000 < Int32.toNatClampNeg 1024 then none else (q_o (C1000077 ++ [(21, Int32.toNatClampNeg 1024, [], [], [])]) (fun C1000078 => if q_ckd C1000078 x0 = 12 + 101 then q_o (q_sR C1000078 x0 53 (some (List.length C1000077))) (fun C1000079 => if (1024 : Int32) < 0 ∨ 60000000 < Int32.toNatClampNeg 1024 then none else (q_o (C1000079 ++ [(21, Int32.toNatClampNeg 1024, [], [], [])]) (fun C1000080 => if q_ckd C1000080 x0 = 12 + 101 then q_o (q_sR C1000080 x0 54 (some (List.length C1000079))) (fun C1000081 => if (260 : Int32) < 0 ∨ 60000000 < Int32.toNatClampNeg 260 then none else (q_o (C1000081 ++ [(21, Int32.toNatClampNeg 260, [], [], [])]) (fun C1000082 => if q_ckd C1000082 x0 = 12 + 101 then q_o (q_sR C1000082 x0 55 (some (List.length C1000081))) (fun C1000083 => if (260 : Int32) < 0 ∨ 60000000 < Int32.toNatClampNeg 260 then none else (q_o (C1000083 ++ [(21, Int32.toNatClampNeg 260, [], [], [])]) (fun C1000084 => if q_ckd C1000084 x0 = 12 + 101 then q_o (q_sR C1000084 x0 56 (some (List.length C1000083))) (fun C1000085 => if (260 : Int32) < 0 ∨ 60000000 < Int32.toNatClampNeg 260 then none else (q_o (C1000085 ++ [(21, Int32.toNatClampNeg 260, [], [], [])]) (fun C1000086 => if q_ckd C1000086 x0 = 12 + 101 then q_o (q_sR C1000086 x0 57 (some (List.length C1000085))) (fun C1000087 => if (260 : Int32) < 0 ∨ 60000000 < Int32.toNatClampNeg 260 then none else (q_o (C1000087 ++ [(21, Int32.toNatClampNeg 260, [], [], [])]) (fun C1000088 => if q_ckd C1000088 x0 = 12 + 101 then q_o (q_sR C1000088 x0 58 (some (List.length C1000087))) (fun C1000089 => if (64 : Int32) < 0 ∨ 60000000 < Int32.toNatClampNeg 64 then none else (q_o (C1000089 ++ [(23, Int32.toNatClampNeg 64, [], [], [])]) (fun C1000090 => if q_ckd C1000090 x0 = 12 + 101 then q_o (q_sR C1000090 x0 59 (some (List.length C1000089))) (fun C1000091 => if (128 : Int32) < 0 ∨ 60000000 < Int32.toNatClampNeg 128 then none else (q_o (C1000091 ++ [(22, Int32.toNatClampNeg 128, [], [], [])]) (fun C1000092 => if q_ckd C1000092 x0 = 12 + 101 then q_o (q_sR C1000092 x0 62 (some (List.length C1000091))) (fun C1000093 => if (512 : Int32) < 0 ∨ 60000000 < Int32.toNatClampNeg 512 then none else (q_o (C1000093 ++ [(22, Int32.toNatClampNeg 512, [], [], [])]) (fun C1000094 => if q_ckd C1000094 x0 = 12 + 101 then q_o (q_sR C1000094 x0 63 (some (List.length C1000093))) (fun C1000095 => if (512 : Int32) < 0 ∨ 60000000 < Int32.toNatClampNeg 512 then none else (q_o (C1000095 ++ [(23, Int32.toNatClampNeg 512, [], [], [])]) (fun C1000096 => if q_ckd C1000096 x0 = 12 + 101 then q_o (q_sR C1000096 x0 64 (some (List.length C1000095))) (fun C1000097 => if (3 : Int32) < 0 ∨ 60000000 < Int32.toNatClampNeg 3 then none else (q_o (C1000097 ++ [(23, Int32.toNatClampNeg 3, [], [], [])]) (fun C1000098 => if q_ckd C1000098 x0 = 12 + 101 then q_o (q_sR C1000098 x0 65 (some (List.length C1000097))) (fun C1000099 => if (3072 : Int32) < 0 ∨ 60000000 < Int32.toNatClampNeg 3072 then none else (q_o (C1000099 ++ [(21, Int32.toNatClampNeg 3072, [], [], [])]) (fun C1000100 => if q_ckd C1000100 x0 = 12 + 101 then q_o (q_sR C1000100 x0 66 (some (List.length C1000099))) (fun C1000101 => if q_ckd C1000101 x0 = 12 + 101 then (q_m (q_cR C1000101 x0 49) none (fun o1000102 => if q_ckd C1000101 o1000102 = 21 ∧ ¬ ((0 : Int32) < 0 ∨ q_cln C1000101 o1000102 ≤ Int32.toNatClampNeg 0) then q_o (q_sI C1000101 o1000102 (Int32.toNatClampNeg 0) 256) (fun C1000103 => if q_ckd C1000103 x0 = 12 + 101 then (q_m (q_cR C1000103 x0 9) none (fun o1000104 => q_b1 (X12_word 114 101 103 0 0 0 0) (fun v1000105 => if q_ckd C1000103 o1000104 = 22 ∧ ¬ ((0 : Int32) < 0 ∨ q_cln C1000103 o1000104 ≤ Int32.toNatClampNeg 0) then q_o (q_sJ C1000103 o1000104 (Int32.toNatClampNeg 0) v1000105) (fun C1000107 => if q_ckd C1000107 x0 = 12 + 101 then (q_m (q_cR C1000107 x0 9) none (fun o1000108 => q_b1 (X12_word 119 97 108 115 104 0 0) (fun v1000109 => if q_ckd C1000107 o1000108 = 22 ∧ ¬ ((1 : Int32) < 0 ∨ q_cln C1000107 o1000108 ≤ Int32.toNatClampNeg 1) then q_o (q_sJ C1000107 o1000108 (Int32.toNatClampNeg 1) v1000109) (fun C1000111 => if q_ckd C1000111 x0 = 12 + 101 then (q_m (q_cR C1000111 x0 9) none (fun o1000112 => q_b1 (X12_word 98 105 116 115 0 0 0) (fun v1000113 => if q_ckd C1000111 o1000112 = 22 ∧ ¬ ((2 : Int32) < 0 ∨ q_cln C1000111 o1000112 ≤ Int32.toNatClampNeg 2) then q_o (q_sJ C1000111 o1000112 (Int32.toNatClampNeg 2) v1000113) (fun C1000115 => if q_ckd C1000115 x0 = 12 + 101 then (q_m (q_cR C1000115 x0 9) none (fun o1000116 => q_b1 (X12_word 98 111 116 104 0 0 0) (fun v1000117 => if q_ckd C1000115 o1000116 = 22 ∧ ¬ ((3 : Int32) < 0 ∨ q_cln C1000115 o1000116 ≤ Int32.toNatClampNeg 3) then q_o (q_sJ C1000115 o1000116 (Int32.toNatClampNeg 3) v1000117) (fun C1000119 => if q_ckd C1000119 x0 = 12 + 101 then (q_m (q_cR C1000119 x0 9) none (fun o1000120 => q_b1 (X12_word 104 111 112 0 0 0 0) (fun v1000121 => if q_ckd C1000119 o1000120 = 22 ∧ ¬ ((4 : Int32) < 0 ∨ q_cln C1000119 o1000120 ≤ Int32.toNatClampNeg 4) then q_o (q_sJ C1000119 o1000120 (Int32.toNatClampNeg 4) v1000121) (fun C1000123 => if q_ckd C1000123 x0 = 12 + 101 then (q_m (q_cR C1000123 x0 9) none (fun o1000124 => q_b1 (X12_word 115 101 110 100 0 0 0) (fun v1000125 => if q_ckd C1000123 o1000124 = 22 ∧ ¬ ((5 : Int32) < 0 ∨ q_cln C1000123 o1000124 ≤ Int32.toNatClampNeg 5) then q_o (q_sJ C1000123 o1000124 (Int32.toNatClampNeg 5) v1000125) (fun C1000127 => if q_ckd C1000127 x0 = 12 + 101 then (q_m (q_cR C1000127 x0 9) none (fun o1000128 => q_b1 (X12_word 101 99 104 111 0 0 0) (fun v1000129 => if q_ckd C1000127 o1000128 = 22 ∧ ¬ ((6 : Int32) < 0 ∨ q_cln C1000127 o1000128 ≤ Int32.toNatClampNeg 6) then q_o (q_sJ C1000127 o1000128 (Int32.toNatClampNeg 6) v1000129) (fun C1000131 => if q_ckd C1000131 x0 = 12 + 101 then (q_m (q_cR C1000131 x0 9) none (fun o1000132 => q_b1 (X12_word 106 97 109 0 0 0 0) (fun v1000133 => if q_ckd C1000131 o1000132 = 22 ∧ ¬ ((7 : Int32) < 0 ∨ q_cln C1000131 o1000132 ≤ Int32.toNatClampNeg 7) then q_o (q_sJ C1000131 o1000132 (Int32.toNatClampNeg 7) v1000133) (fun C1000135 => if q_ckd C1000135 x0 = 12 + 101 then (q_m (q_cR C1000135 x0 9) none (fun o1000136 => q_b1 (X12_word 110 111 105 115 101 0 0) (fun v1000137 => if q_ckd C1000135 o1000136 = 22 ∧ ¬ ((8 : Int32) < 0 ∨ q_cln C1000135 o1000136 ≤ Int32.toNatClampNeg 8) then q_o (q_sJ C1000135 o1000136 (Int32.toNatClampNeg 8) v1000137) (fun C1000139 => if q_ckd C1000139 x0 = 12 + 101 then (q_m (q_cR C1000139 x0 9) none (fun o1000140 => q_b1 (X12_word 115 97 109 112 108 101 115) (fun v1000141 => if q_ckd C1000139 o1000140 = 22 ∧ ¬ ((9 : Int32) < 0 ∨ q_cln C1000139 o1000140 ≤ Int32.toNatClampNeg 9) then q_o (q_sJ C1000139 o1000140 (Int32.toNatClampNeg 9) v1000141) (fun C1000143 => if q_ckd C1000143 x0 = 12 + 101 then (q_m (q_cR C1000143 x0 9) none (fun o1000144 => q_b1 (X12_word 100 114 105 102 116 0 0) (fun v1000145 => if q_ckd C1000143 o1000144 = 22 ∧ ¬ ((10 : Int32) < 0 ∨ q_cln C1000143 o1000144 ≤ Int32.toNatClampNeg 10) then q_o (q_sJ C1000143 o1000144 (Int32.toNatClampNeg 10) v1000145) (fun C1000147 => some C1000147) else none))) else none) else none))) else none) else none))) else none) else none))) else none) else none))) else none) else none))) else none) else none))) else none) else none))) else none) else none))) else none) else none))) else none) else none))) else none) else none)) else none) else none))) else none))) else none))) else none))) else none))) else none))) else none))) else none))) else none))) else none))) else none))) else none))) else none))) else none))) else none))) else none))) else none))) else none))) else none))) else none))) else none))) else none))) else none))) else none))) else none))) else none))) else none))) else none))) else none))) else none))) else none))) else none))) else none))) else none))) else none))) else none))) else none))) else none))) else none))) else none))) else none))) else none))) else none))) else none) else none))) else none))) else none))) else none))) else none))) else none))) else none))
theorem ln_X5_init {C C0 : List q_Ce} {x0 : Nat} {x1 : Int32} (h : IX5_init C x0 x1 = some C0) : List.length C0 = List.length C + 1 := by
  unfold IX5_init at h
  obtain ⟨_, h⟩ := q_ini h
  unfold q_o at h
  obtain ⟨_, h⟩ := q_ini' h
  cases h
  simp [q_sR]
theorem ln_X5_put {C C0 : List q_Ce} {x0 : Nat} {x1 : Int32} {x2 : Int64} (h : IX5_put C x0 x1 x2 = some C0) : List.length C0 = List.length C := by
  unfold IX5_put at h
  by_cases c1 : x1 < 0
  · rw [if_pos c1] at h; cases h; rfl
  rw [if_neg c1] at h
  obtain ⟨_, h⟩ := q_ini' h
  obtain ⟨o, _, h⟩ := q_mi h
  obtain ⟨_, h⟩ := q_ini' h
  by_cases c2 : Int32.ofNat (q_cln C o) ≤ x1
  · rw [if_pos c2] at h; cases h; rfl
  rw [if_neg c2] at h
  obtain ⟨_, h⟩ := q_ini' h
  obtain ⟨o2, _, h⟩ := q_mi h
  obtain ⟨_, h⟩ := q_ini' h
  unfold q_o at h
  cases h
  simp [q_sJ]
set_option maxHeartbeats 10000000 in
set_option maxRecDepth 100000 in
theorem iX5_at (l : Launch) (D : q_D) (b : Nat) (C : List q_Ce) (x0 : Nat) (x1 : Int32) (r0 : Int64) (hm : IX5_at C x0 x1 = some r0) : q_Mi l yX5_at cX5_at 2 (some .long) 0 0 D b [.ref (b + x0), .int x1] C (some (.long r0)) C 0 0 := by
  refine q_Mi.of (by decide) (Nat.le_of_ble_eq_true rfl) ?_
  intro p e s m args below meth c ls Y hin hW hl
  have hx := Y.1
  have hb := Y.2.1
  have hown := Y.2.2.2.2.2.1
  have hts := Y.2.2.2.2.2.2.1
  have hs0 : s.heap.size = b + List.length C := hW.2.1
  have hS : va_S (fun q => b ≤ q) s.heap s.heap [] := va_S.rf
  have hl : lv_has ls 2 [(0, .ref (b + x0)), (1, .int x1)] := hl
  unfold IX5_at at hm
  refine lv_iload_n hx hb dX5_at_0 rfl (lv_at hl 1 rfl) ?_
  refine q_ifc hm (fun c1000001 hm => ?_) (fun c1000001 hm => ?_)
  · refine lv_if_lt (tgt := 22) hx hb dX5_at_1 (by decide) (fun _ => ?_) (fun h => absurd c1000001 h)
    refine lv_lconst (v := 0) hx hb dX5_at_22 rfl ?_
    exact j_l Y hW hS hm (Nat.le_of_ble_eq_true rfl) (Nat.le_of_ble_eq_true rfl) dX5_at_23
  refine lv_if_lt (tgt := 22) hx hb dX5_at_1 (by decide) (fun h => absurd h c1000001) (fun _ => ?_)
  refine lv_iload_n hx hb dX5_at_4 rfl (lv_at hl 1 rfl) ?_
  refine lv_aload_n hx hb dX5_at_5 rfl (lv_at hl 0 rfl) ?_
  refine i_getR Y hW hm (by decide) (by decide) cl_5 fl_RX5_13 dX5_at_6 (fun o1000002 hm => ?_)
  refine i_alenJ Y hW hm dX5_at_9 (fun hm => ?_)
  refine q_ifc hm (fun c1000003 hm => ?_) (fun c1000003 hm => ?_)
  · refine lv_icmp_ge (tgt := 22) hx hb dX5_at_10 (by decide) (fun _ => ?_) (fun h => absurd c1000003 h)
    refine lv_lconst (v := 0) hx hb dX5_at_22 rfl ?_
    exact j_l Y hW hS hm (Nat.le_of_ble_eq_true rfl) (Nat.le_of_ble_eq_true rfl) dX5_at_23
  refine lv_icmp_ge (tgt := 22) hx hb dX5_at_10 (by decide) (fun h => absurd h c1000003) (fun _ => ?_)
  refine lv_aload_n hx hb dX5_at_13 rfl (lv_at hl 0 rfl) ?_
  refine i_getR Y hW hm (by decide) (by decide) cl_5 fl_RX5_13 dX5_at_14 (fun o1000004 hm => ?_)
  refine lv_iload_n hx hb dX5_at_17 rfl (lv_at hl 1 rfl) ?_
  refine i_lald Y hW hm dX5_at_18 (fun hm => ?_)
  refine lv_goto (tgt := 23) hx hb dX5_at_19 (by decide) ?_
  exact j_l Y hW hS hm (Nat.le_of_ble_eq_true rfl) (Nat.le_of_ble_eq_true rfl) dX5_at_23
set_option maxHeartbeats 10000000 in
set_option maxRecDepth 100000 in
theorem iX5_put (l : Launch) (D : q_D) (b : Nat) (C : List q_Ce) (x0 : Nat) (x1 : Int32) (x2 : Int64) (C0 : List q_Ce) (hm : IX5_put C x0 x1 x2 = some C0) : q_Mi l yX5_put cX5_put 4 none 0 0 D b [.ref (b + x0), .int x1, .long x2] C none C0 0 0 := by
  refine q_Mi.of (by decide) (Nat.le_of_ble_eq_true rfl) ?_
  intro p e s m args below meth c ls Y hin hW hl
  have hx := Y.1
  have hb := Y.2.1
  have hown := Y.2.2.2.2.2.1
  have hts := Y.2.2.2.2.2.2.1
  have hs0 : s.heap.size = b + List.length C := hW.2.1
  have hS : va_S (fun q => b ≤ q) s.heap s.heap [] := va_S.rf
  have hl : lv_has ls 4 [(0, .ref (b + x0)), (1, .int x1), (2, .long x2)] := hl
  unfold IX5_put at hm
  refine lv_iload_n hx hb dX5_put_0 rfl (lv_at hl 1 rfl) ?_
  refine q_ifc hm (fun c1000001 hm => ?_) (fun c1000001 hm => ?_)
  · refine lv_if_lt (tgt := 20) hx hb dX5_put_1 (by decide) (fun _ => ?_) (fun h => absurd c1000001 h)
    exact j_v Y hW hS hm (Nat.le_of_ble_eq_true rfl) (Nat.le_of_ble_eq_true rfl) dX5_put_20
  refine lv_if_lt (tgt := 20) hx hb dX5_put_1 (by decide) (fun h => absurd h c1000001) (fun _ => ?_)
  refine lv_iload_n hx hb dX5_put_4 rfl (lv_at hl 1 rfl) ?_
  refine lv_aload_n hx hb dX5_put_5 rfl (lv_at hl 0 rfl) ?_
  refine i_getR Y hW hm (by decide) (by decide) cl_5 fl_RX5_13 dX5_put_6 (fun o1000002 hm => ?_)
  refine i_alenJ Y hW hm dX5_put_9 (fun hm => ?_)
  refine q_ifc hm (fun c1000003 hm => ?_) (fun c1000003 hm => ?_)
  · refine lv_icmp_ge (tgt := 20) hx hb dX5_put_10 (by decide) (fun _ => ?_) (fun h => absurd c1000003 h)
    exact j_v Y hW hS hm (Nat.le_of_ble_eq_true rfl) (Nat.le_of_ble_eq_true rfl) dX5_put_20
  refine lv_icmp_ge (tgt := 20) hx hb dX5_put_10 (by decide) (fun h => absurd h c1000003) (fun _ => ?_)
  refine lv_aload_n hx hb dX5_put_13 rfl (lv_at hl 0 rfl) ?_
  refine i_getR Y hW hm (by decide) (by decide) cl_5 fl_RX5_13 dX5_put_14 (fun o1000004 hm => ?_)
  refine lv_iload_n hx hb dX5_put_17 rfl (lv_at hl 1 rfl) ?_
  refine lv_lload_n hx hb dX5_put_18 rfl (lv_at hl 2 rfl) ?_
  refine i_last Y hW hS hm dX5_put_19 (fun C1000005 H locs hl1 hm hW hS => ?_)
  exact j_v Y hW hS hm (Nat.le_of_ble_eq_true rfl) (Nat.le_of_ble_eq_true rfl) dX5_put_20
theorem dX5_init_0 : decode cX5_init 0 = .ok (.aload_n 0, 1) := by decide +kernel
theorem dX5_init_1 : decode cX5_init 1 = .ok (.invokespecial 1, 3) := by decide +kernel
theorem dX5_init_4 : decode cX5_init 4 = .ok (.aload_n 0, 1) := by decide +kernel
theorem dX5_init_5 : decode cX5_init 5 = .ok (.iload_n 1, 1) := by decide +kernel
theorem dX5_init_6 : decode cX5_init 6 = .ok (.iconst 0, 1) := by decide +kernel
theorem dX5_init_7 : decode cX5_init 7 = .ok (.invokestatic 7, 3) := by decide +kernel
theorem dX5_init_10 : decode cX5_init 10 = .ok (.newarray .long, 2) := by decide +kernel
theorem dX5_init_12 : decode cX5_init 12 = .ok (.putfield 13, 3) := by decide +kernel
theorem dX5_init_15 : decode cX5_init 15 = .ok (.return_, 1) := by decide +kernel
set_option maxHeartbeats 10000000 in
set_option maxRecDepth 100000 in
theorem iX5_init (l : Launch) (D : q_D) (b : Nat) (C : List q_Ce) (x0 : Nat) (x1 : Int32) (C0 : List q_Ce) (N : Nat) (hN : Int32.toNatClampNeg (q_max x1 0) = N) (hm : IX5_init C x0 x1 = some C0) : q_Mi l yX5_init cX5_init 2 none 1 21 D b [.ref (b + x0), .int x1] C none C0 1 N := by
  refine q_Mi.of (by decide) (Nat.le_of_ble_eq_true rfl) ?_
  intro p e s m args below meth c ls Y hin hW hl
  have hx := Y.1
  have hb := Y.2.1
  have hown := Y.2.2.2.2.2.1
  have hts := Y.2.2.2.2.2.2.1
  have hs0 : s.heap.size = b + List.length C := hW.2.1
  have hS : va_S (fun q => b ≤ q) s.heap s.heap [] := va_S.rf
  have hl : lv_has ls 2 [(0, .ref (b + x0)), (1, .int x1)] := hl
  unfold IX5_init at hm
  have hin := hin rfl
  refine lv_aload_n hx hb dX5_init_0 rfl (lv_at hl 0 rfl) ?_
  refine W.objInit hx hb hown (hts _ wob_RX5_1) (hts _ woi) (hts _ woc) rfl (hl.1.trans Y.2.2.1.symm) rfl dX5_init_1 (Nat.le_of_ble_eq_true rfl) (Nat.le_of_ble_eq_true rfl) ?_
  refine W.eq (g2 := F0 m 4 ls []) rfl ?_
  refine lv_aload_n hx hb dX5_init_4 rfl (lv_at hl 0 rfl) ?_
  refine lv_iload_n hx hb dX5_init_5 rfl (lv_at hl 1 rfl) ?_
  refine lv_iconst (v := 0) hx hb dX5_init_6 (by decide) ?_
  refine q_mmax (Y.X (C := C)) hl wm_RX5_7 wms_max wmi wmc_max (Nat.le_of_ble_eq_true rfl) (Nat.le_of_ble_eq_true rfl) ⟨(Nat.le_of_ble_eq_true rfl), (Nat.zero_le _)⟩ dX5_init_7 ?_
  refine i_newa Y hW hS hm .long (N := N) (t0 := 2) (by simp) rfl ⟨fun h => rfl, fun h => absurd rfl h⟩ (by decide) rfl (fun _ _ h => h) wa_long hN dX5_init_10 (Nat.le_of_ble_eq_true rfl) (by simp) (fun C1000001 H hl1 hm hW hS => ?_)
  refine i_putR Y hW hS hm (by decide) (by decide) cl_5 gl_RX5_13 hin (fun _ _ _ h _ => by cases h; rfl) rfl (fun _ => rfl) (fun _ => rfl) dX5_init_12 (fun C1000002 H locs hl1 hm hW hS => ?_)
  exact j_v Y hW hS hm (Nat.le_of_ble_eq_true rfl) (by simp) dX5_init_15
theorem dX0_init_0 : decode cX0_init 0 = .ok (.aload_n 0, 1) := by decide +kernel
theorem dX0_init_1 : decode cX0_init 1 = .ok (.invokespecial 3, 3) := by decide +kernel
theorem dX0_init_4 : decode cX0_init 4 = .ok (.aload_n 0, 1) := by decide +kernel
theorem dX0_init_5 : decode cX0_init 5 = .ok (.new 9, 3) := by decide +kernel
theorem dX0_init_8 : decode cX0_init 8 = .ok (.dup, 1) := by decide +kernel
theorem dX0_init_9 : decode cX0_init 9 = .ok (.bipush 127, 2) := by decide +kernel
theorem dX0_init_11 : decode cX0_init 11 = .ok (.invokespecial 11, 3) := by decide +kernel
theorem dX0_init_14 : decode cX0_init 14 = .ok (.putfield 14, 3) := by decide +kernel
theorem dX0_init_17 : decode cX0_init 17 = .ok (.aload_n 0, 1) := by decide +kernel
theorem dX0_init_18 : decode cX0_init 18 = .ok (.iconst 1, 1) := by decide +kernel
theorem dX0_init_19 : decode cX0_init 19 = .ok (.putfield 20, 3) := by decide +kernel
theorem dX0_init_22 : decode cX0_init 22 = .ok (.return_, 1) := by decide +kernel
set_option maxHeartbeats 10000000 in
set_option maxRecDepth 100000 in
theorem iX0_init (l : Launch) (D : q_D) (b : Nat) (C : List q_Ce) (x0 : Nat) (C0 : List q_Ce) (hm : IX0_init C x0 = some C0) : q_Mi l yX0_init cX0_init 1 none 2 42 D b [.ref (b + x0)] C none C0 2 128 := by
  refine q_Mi.of (by decide) (Nat.le_of_ble_eq_true rfl) ?_
  intro p e s m args below meth c ls Y hin hW hl
  have hx := Y.1
  have hb := Y.2.1
  have hown := Y.2.2.2.2.2.1
  have hts := Y.2.2.2.2.2.2.1
  have hs0 : s.heap.size = b + List.length C := hW.2.1
  have hS : va_S (fun q => b ≤ q) s.heap s.heap [] := va_S.rf
  have hl : lv_has ls 1 [(0, .ref (b + x0))] := hl
  unfold IX0_init at hm
  have hin := hin rfl
  refine lv_aload_n hx hb dX0_init_0 rfl (lv_at hl 0 rfl) ?_
  refine W.objInit hx hb hown (hts _ wob_RX0_3) (hts _ woi) (hts _ woc) rfl (hl.1.trans Y.2.2.1.symm) rfl dX0_init_1 (Nat.le_of_ble_eq_true rfl) (Nat.le_of_ble_eq_true rfl) ?_
  refine W.eq (g2 := F0 m 4 ls []) rfl ?_
  refine lv_aload_n hx hb dX0_init_4 rfl (lv_at hl 0 rfl) ?_
  refine i_new Y hW hS hm (by decide) cl_5 df_5 nl_RX0_9 dX0_init_5 (Nat.le_of_ble_eq_true rfl) (Nat.le_of_ble_eq_true rfl) (fun C1000001 H hl1 hm hW hS => ?_)
  refine lv_dup hx hb dX0_init_8 rfl ?_
  refine lv_bipush (v := 127) hx hb dX0_init_9 (by decide) ?_
  obtain ⟨C1000003, hc1000002, hm⟩ := q_b1i hm
  refine i_callI Y hW hS (As := [.int 127]) (rest := [.ref (b + (List.length C)), .ref (b + x0)]) (iX5_init l D b C1000001 (List.length C) 127 C1000003 127 (by decide) hc1000002) yl_X5_init vi_X5_init rfl ml_RX0_11 rfl ⟨(Nat.le_of_ble_eq_true rfl), (Nat.le_of_ble_eq_true rfl)⟩ hl rfl (Nat.le_of_ble_eq_true rfl) dX0_init_11 ⟨(Nat.le_of_ble_eq_true rfl), (Nat.le_of_ble_eq_true rfl)⟩ (fun H locs hW hS => ?_)
  refine i_putR Y hW hS hm (by decide) (by decide) cl_0 gl_RX0_14 hin (fun _ _ _ h _ => by cases h; rfl) rfl (fun _ => rfl) (fun _ => rfl) dX0_init_14 (fun C1000004 H locs hl1 hm hW hS => ?_)
  refine lv_aload_n hx hb dX0_init_17 rfl (lv_at hl 0 rfl) ?_
  refine lv_iconst (v := 1) hx hb dX0_init_18 (by decide) ?_
  refine i_putI Y hW hS hm ff_0_1 cl_0 gl_RX0_20 hin (fun _ _ _ h _ => by cases h; rfl) rfl dX0_init_19 (fun C1000005 H locs hl1 hm hW hS => ?_)
  exact j_v Y hW hS hm (Nat.le_of_ble_eq_true rfl) (Nat.le_of_ble_eq_true rfl) dX0_init_22
theorem dX1_init_0 : decode cX1_init 0 = .ok (.aload_n 0, 1) := by decide +kernel
theorem dX1_init_1 : decode cX1_init 1 = .ok (.invokespecial 3, 3) := by decide +kernel
theorem dX1_init_4 : decode cX1_init 4 = .ok (.aload_n 0, 1) := by decide +kernel
theorem dX1_init_5 : decode cX1_init 5 = .ok (.iconst 2, 1) := by decide +kernel
theorem dX1_init_6 : decode cX1_init 6 = .ok (.putfield 9, 3) := by decide +kernel
theorem dX1_init_9 : decode cX1_init 9 = .ok (.aload_n 0, 1) := by decide +kernel
theorem dX1_init_10 : decode cX1_init 10 = .ok (.iconst 0, 1) := by decide +kernel
theorem dX1_init_11 : decode cX1_init 11 = .ok (.putfield 15, 3) := by decide +kernel
theorem dX1_init_14 : decode cX1_init 14 = .ok (.aload_n 0, 1) := by decide +kernel
theorem dX1_init_15 : decode cX1_init 15 = .ok (.iconst 0, 1) := by decide +kernel
theorem dX1_init_16 : decode cX1_init 16 = .ok (.putfield 18, 3) := by decide +kernel
theorem dX1_init_19 : decode cX1_init 19 = .ok (.return_, 1) := by decide +kernel
set_option maxHeartbeats 10000000 in
set_option maxRecDepth 100000 in
theorem iX1_init (l : Launch) (D : q_D) (b : Nat) (C : List q_Ce) (x0 : Nat) (C0 : List q_Ce) (hm : IX1_init C x0 = some C0) : q_Mi l yX1_init cX1_init 1 none 1 20 D b [.ref (b + x0)] C none C0 0 0 := by
  refine q_Mi.of (by decide) (Nat.le_of_ble_eq_true rfl) ?_
  intro p e s m args below meth c ls Y hin hW hl
  have hx := Y.1
  have hb := Y.2.1
  have hown := Y.2.2.2.2.2.1
  have hts := Y.2.2.2.2.2.2.1
  have hs0 : s.heap.size = b + List.length C := hW.2.1
  have hS : va_S (fun q => b ≤ q) s.heap s.heap [] := va_S.rf
  have hl : lv_has ls 1 [(0, .ref (b + x0))] := hl
  unfold IX1_init at hm
  have hin := hin rfl
  refine lv_aload_n hx hb dX1_init_0 rfl (lv_at hl 0 rfl) ?_
  refine W.objInit hx hb hown (hts _ wob_RX1_3) (hts _ woi) (hts _ woc) rfl (hl.1.trans Y.2.2.1.symm) rfl dX1_init_1 (Nat.le_of_ble_eq_true rfl) (Nat.le_of_ble_eq_true rfl) ?_
  refine W.eq (g2 := F0 m 4 ls []) rfl ?_
  refine lv_aload_n hx hb dX1_init_4 rfl (lv_at hl 0 rfl) ?_
  refine lv_iconst (v := 2) hx hb dX1_init_5 (by decide) ?_
  refine i_putI Y hW hS hm ff_1_0 cl_1 gl_RX1_9 hin (fun _ _ _ h _ => by cases h; rfl) rfl dX1_init_6 (fun C1000001 H locs hl1 hm hW hS => ?_)
  refine lv_aload_n hx hb dX1_init_9 rfl (lv_at hl 0 rfl) ?_
  refine lv_iconst (v := 0) hx hb dX1_init_10 (by decide) ?_
  refine i_putI Y hW hS hm ff_1_1 cl_1 gl_RX1_15 hin (fun _ _ _ h _ => by cases h; rfl) rfl dX1_init_11 (fun C1000002 H locs hl1 hm hW hS => ?_)
  refine lv_aload_n hx hb dX1_init_14 rfl (lv_at hl 0 rfl) ?_
  refine lv_iconst (v := 0) hx hb dX1_init_15 (by decide) ?_
  refine i_putI Y hW hS hm ff_1_2 cl_1 gl_RX1_18 hin (fun _ _ _ h _ => by cases h; rfl) rfl dX1_init_16 (fun C1000003 H locs hl1 hm hW hS => ?_)
  exact j_v Y hW hS hm (Nat.le_of_ble_eq_true rfl) (Nat.le_of_ble_eq_true rfl) dX1_init_19
theorem dX7_init_0 : decode cX7_init 0 = .ok (.aload_n 0, 1) := by decide +kernel
theorem dX7_init_1 : decode cX7_init 1 = .ok (.invokespecial 3, 3) := by decide +kernel
theorem dX7_init_4 : decode cX7_init 4 = .ok (.aload_n 0, 1) := by decide +kernel
theorem dX7_init_5 : decode cX7_init 5 = .ok (.new 9, 3) := by decide +kernel
theorem dX7_init_8 : decode cX7_init 8 = .ok (.dup, 1) := by decide +kernel
theorem dX7_init_9 : decode cX7_init 9 = .ok (.bipush 6, 2) := by decide +kernel
theorem dX7_init_11 : decode cX7_init 11 = .ok (.invokespecial 11, 3) := by decide +kernel
theorem dX7_init_14 : decode cX7_init 14 = .ok (.putfield 14, 3) := by decide +kernel
theorem dX7_init_17 : decode cX7_init 17 = .ok (.aload_n 0, 1) := by decide +kernel
theorem dX7_init_18 : decode cX7_init 18 = .ok (.new 9, 3) := by decide +kernel
theorem dX7_init_21 : decode cX7_init 21 = .ok (.dup, 1) := by decide +kernel
theorem dX7_init_22 : decode cX7_init 22 = .ok (.bipush 6, 2) := by decide +kernel
theorem dX7_init_24 : decode cX7_init 24 = .ok (.invokespecial 11, 3) := by decide +kernel
theorem dX7_init_27 : decode cX7_init 27 = .ok (.putfield 20, 3) := by decide +kernel
theorem dX7_init_30 : decode cX7_init 30 = .ok (.aload_n 0, 1) := by decide +kernel
theorem dX7_init_31 : decode cX7_init 31 = .ok (.aconst_null, 1) := by decide +kernel
theorem dX7_init_32 : decode cX7_init 32 = .ok (.putfield 23, 3) := by decide +kernel
theorem dX7_init_35 : decode cX7_init 35 = .ok (.aload_n 0, 1) := by decide +kernel
theorem dX7_init_36 : decode cX7_init 36 = .ok (.iconst 0, 1) := by decide +kernel
theorem dX7_init_37 : decode cX7_init 37 = .ok (.putfield 27, 3) := by decide +kernel
theorem dX7_init_40 : decode cX7_init 40 = .ok (.aload_n 0, 1) := by decide +kernel
theorem dX7_init_41 : decode cX7_init 41 = .ok (.iconst 1, 1) := by decide +kernel
theorem dX7_init_42 : decode cX7_init 42 = .ok (.putfield 31, 3) := by decide +kernel
theorem dX7_init_45 : decode cX7_init 45 = .ok (.aload_n 0, 1) := by decide +kernel
theorem dX7_init_46 : decode cX7_init 46 = .ok (.iconst 0, 1) := by decide +kernel
theorem dX7_init_47 : decode cX7_init 47 = .ok (.putfield 34, 3) := by decide +kernel
theorem dX7_init_50 : decode cX7_init 50 = .ok (.aload_n 0, 1) := by decide +kernel
theorem dX7_init_51 : decode cX7_init 51 = .ok (.iconst 0, 1) := by decide +kernel
theorem dX7_init_52 : decode cX7_init 52 = .ok (.putfield 37, 3) := by decide +kernel
theorem dX7_init_55 : decode cX7_init 55 = .ok (.aload_n 0, 1) := by decide +kernel
theorem dX7_init_56 : decode cX7_init 56 = .ok (.iconst 0, 1) := by decide +kernel
theorem dX7_init_57 : decode cX7_init 57 = .ok (.putfield 40, 3) := by decide +kernel
theorem dX7_init_60 : decode cX7_init 60 = .ok (.aload_n 0, 1) := by decide +kernel
theorem dX7_init_61 : decode cX7_init 61 = .ok (.iconst 0, 1) := by decide +kernel
theorem dX7_init_62 : decode cX7_init 62 = .ok (.putfield 43, 3) := by decide +kernel
theorem dX7_init_65 : decode cX7_init 65 = .ok (.return_, 1) := by decide +kernel
set_option maxHeartbeats 10000000 in
set_option maxRecDepth 100000 in
theorem iX7_init (l : Launch) (D : q_D) (b : Nat) (C : List q_Ce) (x0 : Nat) (C0 : List q_Ce) (hm : IX7_init C x0 = some C0) : q_Mi l yX7_init cX7_init 1 none 2 42 D b [.ref (b + x0)] C none C0 4 14 := by
  refine q_Mi.of (by decide) (Nat.le_of_ble_eq_true rfl) ?_
  intro p e s m args below meth c ls Y hin hW hl
  have hx := Y.1
  have hb := Y.2.1
  have hown := Y.2.2.2.2.2.1
  have hts := Y.2.2.2.2.2.2.1
  have hs0 : s.heap.size = b + List.length C := hW.2.1
  have hS : va_S (fun q => b ≤ q) s.heap s.heap [] := va_S.rf
  have hl : lv_has ls 1 [(0, .ref (b + x0))] := hl
  unfold IX7_init at hm
  have hin := hin rfl
  refine lv_aload_n hx hb dX7_init_0 rfl (lv_at hl 0 rfl) ?_
  refine W.objInit hx hb hown (hts _ wob_RX7_3) (hts _ woi) (hts _ woc) rfl (hl.1.trans Y.2.2.1.symm) rfl dX7_init_1 (Nat.le_of_ble_eq_true rfl) (Nat.le_of_ble_eq_true rfl) ?_
  refine W.eq (g2 := F0 m 4 ls []) rfl ?_
  refine lv_aload_n hx hb dX7_init_4 rfl (lv_at hl 0 rfl) ?_
  refine i_new Y hW hS hm (by decide) cl_5 df_5 nl_RX7_9 dX7_init_5 (Nat.le_of_ble_eq_true rfl) (Nat.le_of_ble_eq_true rfl) (fun C1000001 H hl1 hm hW hS => ?_)
  refine lv_dup hx hb dX7_init_8 rfl ?_
  refine lv_bipush (v := 6) hx hb dX7_init_9 (by decide) ?_
  obtain ⟨C1000003, hc1000002, hm⟩ := q_b1i hm
  refine i_callI Y hW hS (As := [.int 6]) (rest := [.ref (b + (List.length C)), .ref (b + x0)]) (iX5_init l D b C1000001 (List.length C) 6 C1000003 6 (by decide) hc1000002) yl_X5_init vi_X5_init rfl ml_RX7_11 rfl ⟨(Nat.le_of_ble_eq_true rfl), (Nat.le_of_ble_eq_true rfl)⟩ hl rfl (Nat.le_of_ble_eq_true rfl) dX7_init_11 ⟨(Nat.le_of_ble_eq_true rfl), (Nat.le_of_ble_eq_true rfl)⟩ (fun H locs hW hS => ?_)
  refine i_putR Y hW hS hm (by decide) (by decide) cl_7 gl_RX7_14 hin (fun _ _ _ h _ => by cases h; rfl) rfl (fun _ => rfl) (fun _ => rfl) dX7_init_14 (fun C1000004 H locs hl1 hm hW hS => ?_)
  refine lv_aload_n hx hb dX7_init_17 rfl (lv_at hl 0 rfl) ?_
  refine i_new Y hW hS hm (by decide) cl_5 df_5 nl_RX7_9 dX7_init_18 (Nat.le_of_ble_eq_true rfl) (Nat.le_of_ble_eq_true rfl) (fun C1000005 H hl1 hm hW hS => ?_)
  refine lv_dup hx hb dX7_init_21 rfl ?_
  refine lv_bipush (v := 6) hx hb dX7_init_22 (by decide) ?_
  obtain ⟨C1000007, hc1000006, hm⟩ := q_b1i hm
  refine i_callI Y hW hS (As := [.int 6]) (rest := [.ref (b + (List.length C1000004)), .ref (b + x0)]) (iX5_init l D b C1000005 (List.length C1000004) 6 C1000007 6 (by decide) hc1000006) yl_X5_init vi_X5_init rfl ml_RX7_11 rfl ⟨(Nat.le_of_ble_eq_true rfl), (Nat.le_of_ble_eq_true rfl)⟩ hl rfl (Nat.le_of_ble_eq_true rfl) dX7_init_24 ⟨(Nat.le_of_ble_eq_true rfl), (Nat.le_of_ble_eq_true rfl)⟩ (fun H locs hW hS => ?_)
  refine i_putR Y hW hS hm (by decide) (by decide) cl_7 gl_RX7_20 hin (fun _ _ _ h _ => by cases h; rfl) rfl (fun _ => rfl) (fun _ => rfl) dX7_init_27 (fun C1000008 H locs hl1 hm hW hS => ?_)
  refine lv_aload_n hx hb dX7_init_30 rfl (lv_at hl 0 rfl) ?_
  refine lv_null hx hb dX7_init_31 ?_
  refine i_putN Y hW hS hm (by decide) (by decide) cl_7 gl_RX7_23 hin (fun _ _ _ h _ => by cases h; rfl) rfl rfl rfl dX7_init_32 (fun C1000009 H locs hl1 hm hW hS => ?_)
  refine lv_aload_n hx hb dX7_init_35 rfl (lv_at hl 0 rfl) ?_
  refine lv_iconst (v := 0) hx hb dX7_init_36 (by decide) ?_
  refine i_putI Y hW hS hm ff_7_3 cl_7 gl_RX7_27 hin (fun _ _ _ h _ => by cases h; rfl) rfl dX7_init_37 (fun C1000010 H locs hl1 hm hW hS => ?_)
  refine lv_aload_n hx hb dX7_init_40 rfl (lv_at hl 0 rfl) ?_
  refine lv_iconst (v := 1) hx hb dX7_init_41 (by decide) ?_
  refine i_putI Y hW hS hm ff_7_4 cl_7 gl_RX7_31 hin (fun _ _ _ h _ => by cases h; rfl) rfl dX7_init_42 (fun C1000011 H locs hl1 hm hW hS => ?_)
  refine lv_aload_n hx hb dX7_init_45 rfl (lv_at hl 0 rfl) ?_
  refine lv_iconst (v := 0) hx hb dX7_init_46 (by decide) ?_
  refine i_putI Y hW hS hm ff_7_5 cl_7 gl_RX7_34 hin (fun _ _ _ h _ => by cases h; rfl) rfl dX7_init_47 (fun C1000012 H locs hl1 hm hW hS => ?_)
  refine lv_aload_n hx hb dX7_init_50 rfl (lv_at hl 0 rfl) ?_
  refine lv_iconst (v := 0) hx hb dX7_init_51 (by decide) ?_
  refine i_putI Y hW hS hm ff_7_6 cl_7 gl_RX7_37 hin (fun _ _ _ h _ => by cases h; rfl) rfl dX7_init_52 (fun C1000013 H locs hl1 hm hW hS => ?_)
  refine lv_aload_n hx hb dX7_init_55 rfl (lv_at hl 0 rfl) ?_
  refine lv_iconst (v := 0) hx hb dX7_init_56 (by decide) ?_
  refine i_putI Y hW hS hm ff_7_7 cl_7 gl_RX7_40 hin (fun _ _ _ h _ => by cases h; rfl) rfl dX7_init_57 (fun C1000014 H locs hl1 hm hW hS => ?_)
  refine lv_aload_n hx hb dX7_init_60 rfl (lv_at hl 0 rfl) ?_
  refine lv_iconst (v := 0) hx hb dX7_init_61 (by decide) ?_
  refine i_putI Y hW hS hm ff_7_8 cl_7 gl_RX7_43 hin (fun _ _ _ h _ => by cases h; rfl) rfl dX7_init_62 (fun C1000015 H locs hl1 hm hW hS => ?_)
  exact j_v Y hW hS hm (Nat.le_of_ble_eq_true rfl) (Nat.le_of_ble_eq_true rfl) dX7_init_65
theorem dX8_init_0 : decode cX8_init 0 = .ok (.aload_n 0, 1) := by decide +kernel
theorem dX8_init_1 : decode cX8_init 1 = .ok (.invokespecial 3, 3) := by decide +kernel
theorem dX8_init_4 : decode cX8_init 4 = .ok (.aload_n 0, 1) := by decide +kernel
theorem dX8_init_5 : decode cX8_init 5 = .ok (.new 9, 3) := by decide +kernel
theorem dX8_init_8 : decode cX8_init 8 = .ok (.dup, 1) := by decide +kernel
theorem dX8_init_9 : decode cX8_init 9 = .ok (.sipush 512, 3) := by decide +kernel
theorem dX8_init_12 : decode cX8_init 12 = .ok (.invokespecial 11, 3) := by decide +kernel
theorem dX8_init_15 : decode cX8_init 15 = .ok (.putfield 14, 3) := by decide +kernel
theorem dX8_init_18 : decode cX8_init 18 = .ok (.aload_n 0, 1) := by decide +kernel
theorem dX8_init_19 : decode cX8_init 19 = .ok (.new 9, 3) := by decide +kernel
theorem dX8_init_22 : decode cX8_init 22 = .ok (.dup, 1) := by decide +kernel
theorem dX8_init_23 : decode cX8_init 23 = .ok (.sipush 512, 3) := by decide +kernel
theorem dX8_init_26 : decode cX8_init 26 = .ok (.invokespecial 11, 3) := by decide +kernel
theorem dX8_init_29 : decode cX8_init 29 = .ok (.putfield 20, 3) := by decide +kernel
theorem dX8_init_32 : decode cX8_init 32 = .ok (.aload_n 0, 1) := by decide +kernel
theorem dX8_init_33 : decode cX8_init 33 = .ok (.sipush 256, 3) := by decide +kernel
theorem dX8_init_36 : decode cX8_init 36 = .ok (.putfield 23, 3) := by decide +kernel
theorem dX8_init_39 : decode cX8_init 39 = .ok (.return_, 1) := by decide +kernel
set_option maxHeartbeats 10000000 in
set_option maxRecDepth 100000 in
theorem iX8_init (l : Launch) (D : q_D) (b : Nat) (C : List q_Ce) (x0 : Nat) (C0 : List q_Ce) (hm : IX8_init C x0 = some C0) : q_Mi l yX8_init cX8_init 1 none 2 42 D b [.ref (b + x0)] C none C0 4 1026 := by
  refine q_Mi.of (by decide) (Nat.le_of_ble_eq_true rfl) ?_
  intro p e s m args below meth c ls Y hin hW hl
  have hx := Y.1
  have hb := Y.2.1
  have hown := Y.2.2.2.2.2.1
  have hts := Y.2.2.2.2.2.2.1
  have hs0 : s.heap.size = b + List.length C := hW.2.1
  have hS : va_S (fun q => b ≤ q) s.heap s.heap [] := va_S.rf
  have hl : lv_has ls 1 [(0, .ref (b + x0))] := hl
  unfold IX8_init at hm
  have hin := hin rfl
  refine lv_aload_n hx hb dX8_init_0 rfl (lv_at hl 0 rfl) ?_
  refine W.objInit hx hb hown (hts _ wob_RX8_3) (hts _ woi) (hts _ woc) rfl (hl.1.trans Y.2.2.1.symm) rfl dX8_init_1 (Nat.le_of_ble_eq_true rfl) (Nat.le_of_ble_eq_true rfl) ?_
  refine W.eq (g2 := F0 m 4 ls []) rfl ?_
  refine lv_aload_n hx hb dX8_init_4 rfl (lv_at hl 0 rfl) ?_
  refine i_new Y hW hS hm (by decide) cl_5 df_5 nl_RX8_9 dX8_init_5 (Nat.le_of_ble_eq_true rfl) (Nat.le_of_ble_eq_true rfl) (fun C1000001 H hl1 hm hW hS => ?_)
  refine lv_dup hx hb dX8_init_8 rfl ?_
  refine lv_sipush (v := 512) hx hb dX8_init_9 (by decide) ?_
  obtain ⟨C1000003, hc1000002, hm⟩ := q_b1i hm
  refine i_callI Y hW hS (As := [.int 512]) (rest := [.ref (b + (List.length C)), .ref (b + x0)]) (iX5_init l D b C1000001 (List.length C) 512 C1000003 512 (by decide) hc1000002) yl_X5_init vi_X5_init rfl ml_RX8_11 rfl ⟨(Nat.le_of_ble_eq_true rfl), (Nat.le_of_ble_eq_true rfl)⟩ hl rfl (Nat.le_of_ble_eq_true rfl) dX8_init_12 ⟨(Nat.le_of_ble_eq_true rfl), (Nat.le_of_ble_eq_true rfl)⟩ (fun H locs hW hS => ?_)
  refine i_putR Y hW hS hm (by decide) (by decide) cl_8 gl_RX8_14 hin (fun _ _ _ h _ => by cases h; rfl) rfl (fun _ => rfl) (fun _ => rfl) dX8_init_15 (fun C1000004 H locs hl1 hm hW hS => ?_)
  refine lv_aload_n hx hb dX8_init_18 rfl (lv_at hl 0 rfl) ?_
  refine i_new Y hW hS hm (by decide) cl_5 df_5 nl_RX8_9 dX8_init_19 (Nat.le_of_ble_eq_true rfl) (Nat.le_of_ble_eq_true rfl) (fun C1000005 H hl1 hm hW hS => ?_)
  refine lv_dup hx hb dX8_init_22 rfl ?_
  refine lv_sipush (v := 512) hx hb dX8_init_23 (by decide) ?_
  obtain ⟨C1000007, hc1000006, hm⟩ := q_b1i hm
  refine i_callI Y hW hS (As := [.int 512]) (rest := [.ref (b + (List.length C1000004)), .ref (b + x0)]) (iX5_init l D b C1000005 (List.length C1000004) 512 C1000007 512 (by decide) hc1000006) yl_X5_init vi_X5_init rfl ml_RX8_11 rfl ⟨(Nat.le_of_ble_eq_true rfl), (Nat.le_of_ble_eq_true rfl)⟩ hl rfl (Nat.le_of_ble_eq_true rfl) dX8_init_26 ⟨(Nat.le_of_ble_eq_true rfl), (Nat.le_of_ble_eq_true rfl)⟩ (fun H locs hW hS => ?_)
  refine i_putR Y hW hS hm (by decide) (by decide) cl_8 gl_RX8_20 hin (fun _ _ _ h _ => by cases h; rfl) rfl (fun _ => rfl) (fun _ => rfl) dX8_init_29 (fun C1000008 H locs hl1 hm hW hS => ?_)
  refine lv_aload_n hx hb dX8_init_32 rfl (lv_at hl 0 rfl) ?_
  refine lv_sipush (v := 256) hx hb dX8_init_33 (by decide) ?_
  refine i_putI Y hW hS hm ff_8_2 cl_8 gl_RX8_23 hin (fun _ _ _ h _ => by cases h; rfl) rfl dX8_init_36 (fun C1000009 H locs hl1 hm hW hS => ?_)
  exact j_v Y hW hS hm (Nat.le_of_ble_eq_true rfl) (Nat.le_of_ble_eq_true rfl) dX8_init_39
theorem dX2_init_0 : decode cX2_init 0 = .ok (.aload_n 0, 1) := by decide +kernel
theorem dX2_init_1 : decode cX2_init 1 = .ok (.invokespecial 3, 3) := by decide +kernel
theorem dX2_init_4 : decode cX2_init 4 = .ok (.aload_n 0, 1) := by decide +kernel
theorem dX2_init_5 : decode cX2_init 5 = .ok (.new 9, 3) := by decide +kernel
theorem dX2_init_8 : decode cX2_init 8 = .ok (.dup, 1) := by decide +kernel
theorem dX2_init_9 : decode cX2_init 9 = .ok (.bipush 8, 2) := by decide +kernel
theorem dX2_init_11 : decode cX2_init 11 = .ok (.invokespecial 11, 3) := by decide +kernel
theorem dX2_init_14 : decode cX2_init 14 = .ok (.putfield 14, 3) := by decide +kernel
theorem dX2_init_17 : decode cX2_init 17 = .ok (.aload_n 0, 1) := by decide +kernel
theorem dX2_init_18 : decode cX2_init 18 = .ok (.new 9, 3) := by decide +kernel
theorem dX2_init_21 : decode cX2_init 21 = .ok (.dup, 1) := by decide +kernel
theorem dX2_init_22 : decode cX2_init 22 = .ok (.sipush 128, 3) := by decide +kernel
theorem dX2_init_25 : decode cX2_init 25 = .ok (.invokespecial 11, 3) := by decide +kernel
theorem dX2_init_28 : decode cX2_init 28 = .ok (.putfield 20, 3) := by decide +kernel
theorem dX2_init_31 : decode cX2_init 31 = .ok (.aload_n 0, 1) := by decide +kernel
theorem dX2_init_32 : decode cX2_init 32 = .ok (.new 9, 3) := by decide +kernel
theorem dX2_init_35 : decode cX2_init 35 = .ok (.dup, 1) := by decide +kernel
theorem dX2_init_36 : decode cX2_init 36 = .ok (.sipush 128, 3) := by decide +kernel
theorem dX2_init_39 : decode cX2_init 39 = .ok (.invokespecial 11, 3) := by decide +kernel
theorem dX2_init_42 : decode cX2_init 42 = .ok (.putfield 23, 3) := by decide +kernel
theorem dX2_init_45 : decode cX2_init 45 = .ok (.aload_n 0, 1) := by decide +kernel
theorem dX2_init_46 : decode cX2_init 46 = .ok (.new 9, 3) := by decide +kernel
theorem dX2_init_49 : decode cX2_init 49 = .ok (.dup, 1) := by decide +kernel
theorem dX2_init_50 : decode cX2_init 50 = .ok (.sipush 128, 3) := by decide +kernel
theorem dX2_init_53 : decode cX2_init 53 = .ok (.invokespecial 11, 3) := by decide +kernel
theorem dX2_init_56 : decode cX2_init 56 = .ok (.putfield 26, 3) := by decide +kernel
theorem dX2_init_59 : decode cX2_init 59 = .ok (.return_, 1) := by decide +kernel
set_option maxHeartbeats 10000000 in
set_option maxRecDepth 100000 in
theorem iX2_init (l : Launch) (D : q_D) (b : Nat) (C : List q_Ce) (x0 : Nat) (C0 : List q_Ce) (hm : IX2_init C x0 = some C0) : q_Mi l yX2_init cX2_init 1 none 2 42 D b [.ref (b + x0)] C none C0 8 396 := by
  refine q_Mi.of (by decide) (Nat.le_of_ble_eq_true rfl) ?_
  intro p e s m args below meth c ls Y hin hW hl
  have hx := Y.1
  have hb := Y.2.1
  have hown := Y.2.2.2.2.2.1
  have hts := Y.2.2.2.2.2.2.1
  have hs0 : s.heap.size = b + List.length C := hW.2.1
  have hS : va_S (fun q => b ≤ q) s.heap s.heap [] := va_S.rf
  have hl : lv_has ls 1 [(0, .ref (b + x0))] := hl
  unfold IX2_init at hm
  have hin := hin rfl
  refine lv_aload_n hx hb dX2_init_0 rfl (lv_at hl 0 rfl) ?_
  refine W.objInit hx hb hown (hts _ wob_RX2_3) (hts _ woi) (hts _ woc) rfl (hl.1.trans Y.2.2.1.symm) rfl dX2_init_1 (Nat.le_of_ble_eq_true rfl) (Nat.le_of_ble_eq_true rfl) ?_
  refine W.eq (g2 := F0 m 4 ls []) rfl ?_
  refine lv_aload_n hx hb dX2_init_4 rfl (lv_at hl 0 rfl) ?_
  refine i_new Y hW hS hm (by decide) cl_5 df_5 nl_RX2_9 dX2_init_5 (Nat.le_of_ble_eq_true rfl) (Nat.le_of_ble_eq_true rfl) (fun C1000001 H hl1 hm hW hS => ?_)
  refine lv_dup hx hb dX2_init_8 rfl ?_
  refine lv_bipush (v := 8) hx hb dX2_init_9 (by decide) ?_
  obtain ⟨C1000003, hc1000002, hm⟩ := q_b1i hm
  refine i_callI Y hW hS (As := [.int 8]) (rest := [.ref (b + (List.length C)), .ref (b + x0)]) (iX5_init l D b C1000001 (List.length C) 8 C1000003 8 (by decide) hc1000002) yl_X5_init vi_X5_init rfl ml_RX2_11 rfl ⟨(Nat.le_of_ble_eq_true rfl), (Nat.le_of_ble_eq_true rfl)⟩ hl rfl (Nat.le_of_ble_eq_true rfl) dX2_init_11 ⟨(Nat.le_of_ble_eq_true rfl), (Nat.le_of_ble_eq_true rfl)⟩ (fun H locs hW hS => ?_)
  refine i_putR Y hW hS hm (by decide) (by decide) cl_2 gl_RX2_14 hin (fun _ _ _ h _ => by cases h; rfl) rfl (fun _ => rfl) (fun _ => rfl) dX2_init_14 (fun C1000004 H locs hl1 hm hW hS => ?_)
  refine lv_aload_n hx hb dX2_init_17 rfl (lv_at hl 0 rfl) ?_
  refine i_new Y hW hS hm (by decide) cl_5 df_5 nl_RX2_9 dX2_init_18 (Nat.le_of_ble_eq_true rfl) (Nat.le_of_ble_eq_true rfl) (fun C1000005 H hl1 hm hW hS => ?_)
  refine lv_dup hx hb dX2_init_21 rfl ?_
  refine lv_sipush (v := 128) hx hb dX2_init_22 (by decide) ?_
  obtain ⟨C1000007, hc1000006, hm⟩ := q_b1i hm
  refine i_callI Y hW hS (As := [.int 128]) (rest := [.ref (b + (List.length C1000004)), .ref (b + x0)]) (iX5_init l D b C1000005 (List.length C1000004) 128 C1000007 128 (by decide) hc1000006) yl_X5_init vi_X5_init rfl ml_RX2_11 rfl ⟨(Nat.le_of_ble_eq_true rfl), (Nat.le_of_ble_eq_true rfl)⟩ hl rfl (Nat.le_of_ble_eq_true rfl) dX2_init_25 ⟨(Nat.le_of_ble_eq_true rfl), (Nat.le_of_ble_eq_true rfl)⟩ (fun H locs hW hS => ?_)
  refine i_putR Y hW hS hm (by decide) (by decide) cl_2 gl_RX2_20 hin (fun _ _ _ h _ => by cases h; rfl) rfl (fun _ => rfl) (fun _ => rfl) dX2_init_28 (fun C1000008 H locs hl1 hm hW hS => ?_)
  refine lv_aload_n hx hb dX2_init_31 rfl (lv_at hl 0 rfl) ?_
  refine i_new Y hW hS hm (by decide) cl_5 df_5 nl_RX2_9 dX2_init_32 (Nat.le_of_ble_eq_true rfl) (Nat.le_of_ble_eq_true rfl) (fun C1000009 H hl1 hm hW hS => ?_)
  refine lv_dup hx hb dX2_init_35 rfl ?_
  refine lv_sipush (v := 128) hx hb dX2_init_36 (by decide) ?_
  obtain ⟨C1000011, hc1000010, hm⟩ := q_b1i hm
  refine i_callI Y hW hS (As := [.int 128]) (rest := [.ref (b + (List.length C1000008)), .ref (b + x0)]) (iX5_init l D b C1000009 (List.length C1000008) 128 C1000011 128 (by decide) hc1000010) yl_X5_init vi_X5_init rfl ml_RX2_11 rfl ⟨(Nat.le_of_ble_eq_true rfl), (Nat.le_of_ble_eq_true rfl)⟩ hl rfl (Nat.le_of_ble_eq_true rfl) dX2_init_39 ⟨(Nat.le_of_ble_eq_true rfl), (Nat.le_of_ble_eq_true rfl)⟩ (fun H locs hW hS => ?_)
  refine i_putR Y hW hS hm (by decide) (by decide) cl_2 gl_RX2_23 hin (fun _ _ _ h _ => by cases h; rfl) rfl (fun _ => rfl) (fun _ => rfl) dX2_init_42 (fun C1000012 H locs hl1 hm hW hS => ?_)
  refine lv_aload_n hx hb dX2_init_45 rfl (lv_at hl 0 rfl) ?_
  refine i_new Y hW hS hm (by decide) cl_5 df_5 nl_RX2_9 dX2_init_46 (Nat.le_of_ble_eq_true rfl) (Nat.le_of_ble_eq_true rfl) (fun C1000013 H hl1 hm hW hS => ?_)
  refine lv_dup hx hb dX2_init_49 rfl ?_
  refine lv_sipush (v := 128) hx hb dX2_init_50 (by decide) ?_
  obtain ⟨C1000015, hc1000014, hm⟩ := q_b1i hm
  refine i_callI Y hW hS (As := [.int 128]) (rest := [.ref (b + (List.length C1000012)), .ref (b + x0)]) (iX5_init l D b C1000013 (List.length C1000012) 128 C1000015 128 (by decide) hc1000014) yl_X5_init vi_X5_init rfl ml_RX2_11 rfl ⟨(Nat.le_of_ble_eq_true rfl), (Nat.le_of_ble_eq_true rfl)⟩ hl rfl (Nat.le_of_ble_eq_true rfl) dX2_init_53 ⟨(Nat.le_of_ble_eq_true rfl), (Nat.le_of_ble_eq_true rfl)⟩ (fun H locs hW hS => ?_)
  refine i_putR Y hW hS hm (by decide) (by decide) cl_2 gl_RX2_26 hin (fun _ _ _ h _ => by cases h; rfl) rfl (fun _ => rfl) (fun _ => rfl) dX2_init_56 (fun C1000016 H locs hl1 hm hW hS => ?_)
  exact j_v Y hW hS hm (Nat.le_of_ble_eq_true rfl) (Nat.le_of_ble_eq_true rfl) dX2_init_59
theorem dX6_init_0 : decode cX6_init 0 = .ok (.aload_n 0, 1) := by decide +kernel
theorem dX6_init_1 : decode cX6_init 1 = .ok (.invokespecial 3, 3) := by decide +kernel
theorem dX6_init_4 : decode cX6_init 4 = .ok (.aload_n 0, 1) := by decide +kernel
theorem dX6_init_5 : decode cX6_init 5 = .ok (.new 9, 3) := by decide +kernel
theorem dX6_init_8 : decode cX6_init 8 = .ok (.dup, 1) := by decide +kernel
theorem dX6_init_9 : decode cX6_init 9 = .ok (.bipush 127, 2) := by decide +kernel
theorem dX6_init_11 : decode cX6_init 11 = .ok (.invokespecial 11, 3) := by decide +kernel
theorem dX6_init_14 : decode cX6_init 14 = .ok (.putfield 14, 3) := by decide +kernel
theorem dX6_init_17 : decode cX6_init 17 = .ok (.aload_n 0, 1) := by decide +kernel
theorem dX6_init_18 : decode cX6_init 18 = .ok (.new 9, 3) := by decide +kernel
theorem dX6_init_21 : decode cX6_init 21 = .ok (.dup, 1) := by decide +kernel
theorem dX6_init_22 : decode cX6_init 22 = .ok (.bipush 127, 2) := by decide +kernel
theorem dX6_init_24 : decode cX6_init 24 = .ok (.invokespecial 11, 3) := by decide +kernel
theorem dX6_init_27 : decode cX6_init 27 = .ok (.putfield 20, 3) := by decide +kernel
theorem dX6_init_30 : decode cX6_init 30 = .ok (.aload_n 0, 1) := by decide +kernel
theorem dX6_init_31 : decode cX6_init 31 = .ok (.new 9, 3) := by decide +kernel
theorem dX6_init_34 : decode cX6_init 34 = .ok (.dup, 1) := by decide +kernel
theorem dX6_init_35 : decode cX6_init 35 = .ok (.sipush 508, 3) := by decide +kernel
theorem dX6_init_38 : decode cX6_init 38 = .ok (.invokespecial 11, 3) := by decide +kernel
theorem dX6_init_41 : decode cX6_init 41 = .ok (.putfield 23, 3) := by decide +kernel
theorem dX6_init_44 : decode cX6_init 44 = .ok (.aload_n 0, 1) := by decide +kernel
theorem dX6_init_45 : decode cX6_init 45 = .ok (.iconst 1, 1) := by decide +kernel
theorem dX6_init_46 : decode cX6_init 46 = .ok (.putfield 26, 3) := by decide +kernel
theorem dX6_init_49 : decode cX6_init 49 = .ok (.return_, 1) := by decide +kernel
set_option maxHeartbeats 10000000 in
set_option maxRecDepth 100000 in
theorem iX6_init (l : Launch) (D : q_D) (b : Nat) (C : List q_Ce) (x0 : Nat) (C0 : List q_Ce) (hm : IX6_init C x0 = some C0) : q_Mi l yX6_init cX6_init 1 none 2 42 D b [.ref (b + x0)] C none C0 6 765 := by
  refine q_Mi.of (by decide) (Nat.le_of_ble_eq_true rfl) ?_
  intro p e s m args below meth c ls Y hin hW hl
  have hx := Y.1
  have hb := Y.2.1
  have hown := Y.2.2.2.2.2.1
  have hts := Y.2.2.2.2.2.2.1
  have hs0 : s.heap.size = b + List.length C := hW.2.1
  have hS : va_S (fun q => b ≤ q) s.heap s.heap [] := va_S.rf
  have hl : lv_has ls 1 [(0, .ref (b + x0))] := hl
  unfold IX6_init at hm
  have hin := hin rfl
  refine lv_aload_n hx hb dX6_init_0 rfl (lv_at hl 0 rfl) ?_
  refine W.objInit hx hb hown (hts _ wob_RX6_3) (hts _ woi) (hts _ woc) rfl (hl.1.trans Y.2.2.1.symm) rfl dX6_init_1 (Nat.le_of_ble_eq_true rfl) (Nat.le_of_ble_eq_true rfl) ?_
  refine W.eq (g2 := F0 m 4 ls []) rfl ?_
  refine lv_aload_n hx hb dX6_init_4 rfl (lv_at hl 0 rfl) ?_
  refine i_new Y hW hS hm (by decide) cl_5 df_5 nl_RX6_9 dX6_init_5 (Nat.le_of_ble_eq_true rfl) (Nat.le_of_ble_eq_true rfl) (fun C1000001 H hl1 hm hW hS => ?_)
  refine lv_dup hx hb dX6_init_8 rfl ?_
  refine lv_bipush (v := 127) hx hb dX6_init_9 (by decide) ?_
  obtain ⟨C1000003, hc1000002, hm⟩ := q_b1i hm
  refine i_callI Y hW hS (As := [.int 127]) (rest := [.ref (b + (List.length C)), .ref (b + x0)]) (iX5_init l D b C1000001 (List.length C) 127 C1000003 127 (by decide) hc1000002) yl_X5_init vi_X5_init rfl ml_RX6_11 rfl ⟨(Nat.le_of_ble_eq_true rfl), (Nat.le_of_ble_eq_true rfl)⟩ hl rfl (Nat.le_of_ble_eq_true rfl) dX6_init_11 ⟨(Nat.le_of_ble_eq_true rfl), (Nat.le_of_ble_eq_true rfl)⟩ (fun H locs hW hS => ?_)
  refine i_putR Y hW hS hm (by decide) (by decide) cl_6 gl_RX6_14 hin (fun _ _ _ h _ => by cases h; rfl) rfl (fun _ => rfl) (fun _ => rfl) dX6_init_14 (fun C1000004 H locs hl1 hm hW hS => ?_)
  refine lv_aload_n hx hb dX6_init_17 rfl (lv_at hl 0 rfl) ?_
  refine i_new Y hW hS hm (by decide) cl_5 df_5 nl_RX6_9 dX6_init_18 (Nat.le_of_ble_eq_true rfl) (Nat.le_of_ble_eq_true rfl) (fun C1000005 H hl1 hm hW hS => ?_)
  refine lv_dup hx hb dX6_init_21 rfl ?_
  refine lv_bipush (v := 127) hx hb dX6_init_22 (by decide) ?_
  obtain ⟨C1000007, hc1000006, hm⟩ := q_b1i hm
  refine i_callI Y hW hS (As := [.int 127]) (rest := [.ref (b + (List.length C1000004)), .ref (b + x0)]) (iX5_init l D b C1000005 (List.length C1000004) 127 C1000007 127 (by decide) hc1000006) yl_X5_init vi_X5_init rfl ml_RX6_11 rfl ⟨(Nat.le_of_ble_eq_true rfl), (Nat.le_of_ble_eq_true rfl)⟩ hl rfl (Nat.le_of_ble_eq_true rfl) dX6_init_24 ⟨(Nat.le_of_ble_eq_true rfl), (Nat.le_of_ble_eq_true rfl)⟩ (fun H locs hW hS => ?_)
  refine i_putR Y hW hS hm (by decide) (by decide) cl_6 gl_RX6_20 hin (fun _ _ _ h _ => by cases h; rfl) rfl (fun _ => rfl) (fun _ => rfl) dX6_init_27 (fun C1000008 H locs hl1 hm hW hS => ?_)
  refine lv_aload_n hx hb dX6_init_30 rfl (lv_at hl 0 rfl) ?_
  refine i_new Y hW hS hm (by decide) cl_5 df_5 nl_RX6_9 dX6_init_31 (Nat.le_of_ble_eq_true rfl) (Nat.le_of_ble_eq_true rfl) (fun C1000009 H hl1 hm hW hS => ?_)
  refine lv_dup hx hb dX6_init_34 rfl ?_
  refine lv_sipush (v := 508) hx hb dX6_init_35 (by decide) ?_
  obtain ⟨C1000011, hc1000010, hm⟩ := q_b1i hm
  refine i_callI Y hW hS (As := [.int 508]) (rest := [.ref (b + (List.length C1000008)), .ref (b + x0)]) (iX5_init l D b C1000009 (List.length C1000008) 508 C1000011 508 (by decide) hc1000010) yl_X5_init vi_X5_init rfl ml_RX6_11 rfl ⟨(Nat.le_of_ble_eq_true rfl), (Nat.le_of_ble_eq_true rfl)⟩ hl rfl (Nat.le_of_ble_eq_true rfl) dX6_init_38 ⟨(Nat.le_of_ble_eq_true rfl), (Nat.le_of_ble_eq_true rfl)⟩ (fun H locs hW hS => ?_)
  refine i_putR Y hW hS hm (by decide) (by decide) cl_6 gl_RX6_23 hin (fun _ _ _ h _ => by cases h; rfl) rfl (fun _ => rfl) (fun _ => rfl) dX6_init_41 (fun C1000012 H locs hl1 hm hW hS => ?_)
  refine lv_aload_n hx hb dX6_init_44 rfl (lv_at hl 0 rfl) ?_
  refine lv_iconst (v := 1) hx hb dX6_init_45 (by decide) ?_
  refine i_putI Y hW hS hm ff_6_3 cl_6 gl_RX6_26 hin (fun _ _ _ h _ => by cases h; rfl) rfl dX6_init_46 (fun C1000013 H locs hl1 hm hW hS => ?_)
  exact j_v Y hW hS hm (Nat.le_of_ble_eq_true rfl) (Nat.le_of_ble_eq_true rfl) dX6_init_49
theorem dX9_init_0 : decode cX9_init 0 = .ok (.aload_n 0, 1) := by decide +kernel
theorem dX9_init_1 : decode cX9_init 1 = .ok (.invokespecial 3, 3) := by decide +kernel
theorem dX9_init_4 : decode cX9_init 4 = .ok (.aload_n 0, 1) := by decide +kernel
theorem dX9_init_5 : decode cX9_init 5 = .ok (.new 9, 3) := by decide +kernel
theorem dX9_init_8 : decode cX9_init 8 = .ok (.dup, 1) := by decide +kernel
theorem dX9_init_9 : decode cX9_init 9 = .ok (.sipush 2000, 3) := by decide +kernel
theorem dX9_init_12 : decode cX9_init 12 = .ok (.invokespecial 11, 3) := by decide +kernel
theorem dX9_init_15 : decode cX9_init 15 = .ok (.putfield 14, 3) := by decide +kernel
theorem dX9_init_18 : decode cX9_init 18 = .ok (.aload_n 0, 1) := by decide +kernel
theorem dX9_init_19 : decode cX9_init 19 = .ok (.new 9, 3) := by decide +kernel
theorem dX9_init_22 : decode cX9_init 22 = .ok (.dup, 1) := by decide +kernel
theorem dX9_init_23 : decode cX9_init 23 = .ok (.sipush 401, 3) := by decide +kernel
theorem dX9_init_26 : decode cX9_init 26 = .ok (.invokespecial 11, 3) := by decide +kernel
theorem dX9_init_29 : decode cX9_init 29 = .ok (.putfield 20, 3) := by decide +kernel
theorem dX9_init_32 : decode cX9_init 32 = .ok (.aload_n 0, 1) := by decide +kernel
theorem dX9_init_33 : decode cX9_init 33 = .ok (.new 9, 3) := by decide +kernel
theorem dX9_init_36 : decode cX9_init 36 = .ok (.dup, 1) := by decide +kernel
theorem dX9_init_37 : decode cX9_init 37 = .ok (.sipush 401, 3) := by decide +kernel
theorem dX9_init_40 : decode cX9_init 40 = .ok (.invokespecial 11, 3) := by decide +kernel
theorem dX9_init_43 : decode cX9_init 43 = .ok (.putfield 23, 3) := by decide +kernel
theorem dX9_init_46 : decode cX9_init 46 = .ok (.aload_n 0, 1) := by decide +kernel
theorem dX9_init_47 : decode cX9_init 47 = .ok (.new 9, 3) := by decide +kernel
theorem dX9_init_50 : decode cX9_init 50 = .ok (.dup, 1) := by decide +kernel
theorem dX9_init_51 : decode cX9_init 51 = .ok (.sipush 401, 3) := by decide +kernel
theorem dX9_init_54 : decode cX9_init 54 = .ok (.invokespecial 11, 3) := by decide +kernel
theorem dX9_init_57 : decode cX9_init 57 = .ok (.putfield 26, 3) := by decide +kernel
theorem dX9_init_60 : decode cX9_init 60 = .ok (.aload_n 0, 1) := by decide +kernel
theorem dX9_init_61 : decode cX9_init 61 = .ok (.new 9, 3) := by decide +kernel
theorem dX9_init_64 : decode cX9_init 64 = .ok (.dup, 1) := by decide +kernel
theorem dX9_init_65 : decode cX9_init 65 = .ok (.bipush 11, 2) := by decide +kernel
theorem dX9_init_67 : decode cX9_init 67 = .ok (.invokespecial 11, 3) := by decide +kernel
theorem dX9_init_70 : decode cX9_init 70 = .ok (.putfield 29, 3) := by decide +kernel
theorem dX9_init_73 : decode cX9_init 73 = .ok (.aload_n 0, 1) := by decide +kernel
theorem dX9_init_74 : decode cX9_init 74 = .ok (.new 9, 3) := by decide +kernel
theorem dX9_init_77 : decode cX9_init 77 = .ok (.dup, 1) := by decide +kernel
theorem dX9_init_78 : decode cX9_init 78 = .ok (.bipush 8, 2) := by decide +kernel
theorem dX9_init_80 : decode cX9_init 80 = .ok (.invokespecial 11, 3) := by decide +kernel
theorem dX9_init_83 : decode cX9_init 83 = .ok (.putfield 32, 3) := by decide +kernel
theorem dX9_init_86 : decode cX9_init 86 = .ok (.aload_n 0, 1) := by decide +kernel
theorem dX9_init_87 : decode cX9_init 87 = .ok (.iconst 0, 1) := by decide +kernel
theorem dX9_init_88 : decode cX9_init 88 = .ok (.putfield 35, 3) := by decide +kernel
theorem dX9_init_91 : decode cX9_init 91 = .ok (.aload_n 0, 1) := by decide +kernel
theorem dX9_init_92 : decode cX9_init 92 = .ok (.iconst 0, 1) := by decide +kernel
theorem dX9_init_93 : decode cX9_init 93 = .ok (.putfield 39, 3) := by decide +kernel
theorem dX9_init_96 : decode cX9_init 96 = .ok (.aload_n 0, 1) := by decide +kernel
theorem dX9_init_97 : decode cX9_init 97 = .ok (.iconst 0, 1) := by decide +kernel
theorem dX9_init_98 : decode cX9_init 98 = .ok (.putfield 42, 3) := by decide +kernel
theorem dX9_init_101 : decode cX9_init 101 = .ok (.aload_n 0, 1) := by decide +kernel
theorem dX9_init_102 : decode cX9_init 102 = .ok (.iconst (-1), 1) := by decide +kernel
theorem dX9_init_103 : decode cX9_init 103 = .ok (.putfield 45, 3) := by decide +kernel
theorem dX9_init_106 : decode cX9_init 106 = .ok (.iconst 0, 1) := by decide +kernel
theorem dX9_init_107 : decode cX9_init 107 = .ok (.istore_n 1, 1) := by decide +kernel
theorem dX9_init_108 : decode cX9_init 108 = .ok (.iconst 0, 1) := by decide +kernel
theorem dX9_init_109 : decode cX9_init 109 = .ok (.istore_n 2, 1) := by decide +kernel
theorem dX9_init_110 : decode cX9_init 110 = .ok (.iload_n 2, 1) := by decide +kernel
theorem dX9_init_111 : decode cX9_init 111 = .ok (.ldc 48, 2) := by decide +kernel
theorem dX9_init_113 : decode cX9_init 113 = .ok (.invokevirtual 50, 3) := by decide +kernel
theorem dX9_init_116 : decode cX9_init 116 = .ok (.if_icmp .ge 51, 3) := by decide +kernel
theorem dX9_init_119 : decode cX9_init 119 = .ok (.ldc 48, 2) := by decide +kernel
theorem dX9_init_121 : decode cX9_init 121 = .ok (.iload_n 2, 1) := by decide +kernel
theorem dX9_init_122 : decode cX9_init 122 = .ok (.invokevirtual 55, 3) := by decide +kernel
theorem dX9_init_125 : decode cX9_init 125 = .ok (.bipush 32, 2) := by decide +kernel
theorem dX9_init_127 : decode cX9_init 127 = .ok (.if_icmp .ne 9, 3) := by decide +kernel
theorem dX9_init_130 : decode cX9_init 130 = .ok (.iinc 1 1, 3) := by decide +kernel
theorem dX9_init_133 : decode cX9_init 133 = .ok (.goto 28, 3) := by decide +kernel
theorem dX9_init_136 : decode cX9_init 136 = .ok (.aload_n 0, 1) := by decide +kernel
theorem dX9_init_137 : decode cX9_init 137 = .ok (.getfield 29, 3) := by decide +kernel
theorem dX9_init_140 : decode cX9_init 140 = .ok (.iload_n 1, 1) := by decide +kernel
theorem dX9_init_141 : decode cX9_init 141 = .ok (.aload_n 0, 1) := by decide +kernel
theorem dX9_init_142 : decode cX9_init 142 = .ok (.getfield 29, 3) := by decide +kernel
theorem dX9_init_145 : decode cX9_init 145 = .ok (.iload_n 1, 1) := by decide +kernel
theorem dX9_init_146 : decode cX9_init 146 = .ok (.invokevirtual 59, 3) := by decide +kernel
theorem dX9_init_149 : decode cX9_init 149 = .ok (.ldc 48, 2) := by decide +kernel
theorem dX9_init_151 : decode cX9_init 151 = .ok (.iload_n 2, 1) := by decide +kernel
theorem dX9_init_152 : decode cX9_init 152 = .ok (.invokevirtual 55, 3) := by decide +kernel
theorem dX9_init_155 : decode cX9_init 155 = .ok (.invokestatic 62, 3) := by decide +kernel
theorem dX9_init_158 : decode cX9_init 158 = .ok (.invokevirtual 66, 3) := by decide +kernel
theorem dX9_init_161 : decode cX9_init 161 = .ok (.iinc 2 1, 3) := by decide +kernel
theorem dX9_init_164 : decode cX9_init 164 = .ok (.goto (-54), 3) := by decide +kernel
theorem dX9_init_167 : decode cX9_init 167 = .ok (.return_, 1) := by decide +kernel
set_option maxHeartbeats 10000000 in
set_option maxRecDepth 100000 in
theorem iX9_init (l : Launch) (D : q_D) (b : Nat) (C : List q_Ce) (x0 : Nat) (C0 : List q_Ce) (hm : IX9_init C x0 = some C0) : q_Mi l yX9_init cX9_init 3 none 4 103 D b [.ref (b + x0)] C none C0 12 3228 := by
  refine q_Mi.of (by decide) (Nat.le_of_ble_eq_true rfl) ?_
  intro p e s m args below meth c ls Y hin hW hl
  have hx := Y.1
  have hb := Y.2.1
  have hown := Y.2.2.2.2.2.1
  have hts := Y.2.2.2.2.2.2.1
  have hs0 : s.heap.size = b + List.length C := hW.2.1
  have hS : va_S (fun q => b ≤ q) s.heap s.heap [] := va_S.rf
  have hl : lv_has ls 3 [(0, .ref (b + x0))] := hl
  unfold IX9_init at hm
  have hin := hin rfl
  have hn : List.length C = List.length C + 0 := rfl
  have hB110 : ∀ (n_110 : Nat) (x0_110 : Nat) (x1_110 : Int32) (x2_110 : Int32) (C1 : List q_Ce) (hn : List.length C1 = List.length C + 12) (H : Heap) (locs : List Loc) (ls : Array Slot) (hm : IX9_init_b110 n_110 x0_110 x1_110 x2_110 C1 = some C0) (hW : q_CW D b C1 H) (hS : va_S (fun q => b ≤ q) s.heap H locs) (hl : lv_has ls 3 [(0, .ref (b + x0_110)), (1, .int x1_110), (2, .int x2_110)]), W p l e { frames := 4, cells := 12, slots := 3228, locals := 103 } s m args below meth c H locs 12 3228 (MQ below (q_Q none (q_CW D b C0) (fun q => b ≤ q)) args s 12 3228 (fun q => b ≤ q)) (F0 m 110 ls []) := by
    intro n_110
    induction n_110 with
    | zero => intro x0_110 x1_110 x2_110 C1 hn H locs ls hm hW hS hl; cases hm
    | succ n_110 ih110 =>
      have hB161 : ∀ (x0_161 : Nat) (x1_161 : Int32) (x2_161 : Int32) (C1 : List q_Ce) (hn : List.length C1 = List.length C + 12) (H : Heap) (locs : List Loc) (ls : Array Slot) (hm : IX9_init_b161 (IX9_init_b110 n_110) x0_161 x1_161 x2_161 C1 = some C0) (hW : q_CW D b C1 H) (hS : va_S (fun q => b ≤ q) s.heap H locs) (hl : lv_has ls 3 [(0, .ref (b + x0_161)), (1, .int x1_161), (2, .int x2_161)]), W p l e { frames := 4, cells := 12, slots := 3228, locals := 103 } s m args below meth c H locs 12 3228 (MQ below (q_Q none (q_CW D b C0) (fun q => b ≤ q)) args s 12 3228 (fun q => b ≤ q)) (F0 m 161 ls []) := by
        intro x0_161 x1_161 x2_161 C1 hn H locs ls hm hW hS hl
        unfold IX9_init_b161 at hm
        refine lv_iinc (v := (x2_161 + 1)) (lv' := [(2, .int (x2_161 + 1)), (0, .ref (b + x0_161)), (1, .int x1_161)]) hx hb dX9_init_161 hl (k := 2) rfl rfl (by decide) rfl (fun ls hl => ?_)
        refine lv_goto (tgt := 110) hx hb dX9_init_164 (by decide) ?_
        exact ih110 x0_161 x1_161 (x2_161 + 1) C1 hn _ _ _ hm hW hS (lv_sub hl [1, 2, 0] rfl)
      intro x0_110 x1_110 x2_110 C1 hn H locs ls hm hW hS hl
      rw [IX9_init_b110] at hm
      refine lv_iload_n hx hb dX9_init_110 rfl (lv_at hl 2 rfl) ?_
      refine q_ldcS (i := 0) (Y.X (C := C1)) (by decide) rfl dX9_init_111 ?_
      refine i_callT0 Y hW hS (by rw [hs0, hn]; exact Nat.add_assoc _ _ _) rfl (show 0 < 9 by decide) (As := []) (rest := [.int x2_110]) (st1 := [.int (q_slen 0), .int x2_110]) (c_slength l D (q_ca b C1) (q_cd b C1) 0 (by decide)) yl_J0_length_8abf5 vl_J0_length_8abf5 ml_RX9_50 rfl ⟨(Nat.le_of_ble_eq_true rfl), (Nat.le_of_ble_eq_true rfl)⟩ hl rfl (Nat.le_of_ble_eq_true rfl) dX9_init_113 ⟨(Nat.le_of_ble_eq_true rfl), (Nat.le_of_ble_eq_true rfl)⟩ rfl (fun H locs hW hS => ?_)
      refine q_ifc hm (fun c110001 hm => ?_) (fun c110001 hm => ?_)
      · refine lv_icmp_ge (tgt := 167) hx hb dX9_init_116 (by decide) (fun _ => ?_) (fun h => absurd c110001 h)
        exact j_v Y hW hS hm (Nat.le_of_ble_eq_true rfl) (Nat.le_of_ble_eq_true rfl) dX9_init_167
      refine lv_icmp_ge (tgt := 167) hx hb dX9_init_116 (by decide) (fun h => absurd h c110001) (fun _ => ?_)
      refine q_ldcS (i := 0) (Y.X (C := C1)) (by decide) rfl dX9_init_119 ?_
      refine lv_iload_n hx hb dX9_init_121 rfl (lv_at hl 2 rfl) ?_
      obtain ⟨c110002, hm⟩ := q_ini hm
      refine i_callT0 Y hW hS (by rw [hs0, hn]; exact Nat.add_assoc _ _ _) rfl (show 0 < 9 by decide) (As := [.int x2_110]) (rest := []) (st1 := [.int (q_sch 0 x2_110)]) (c_scharAt l D (q_ca b C1) (q_cd b C1) 0 (by decide) x2_110 c110002) yl_J0_charAt_5068e vl_J0_charAt_5068e ml_RX9_55 rfl ⟨(Nat.le_of_ble_eq_true rfl), (Nat.le_of_ble_eq_true rfl)⟩ hl rfl (Nat.le_of_ble_eq_true rfl) dX9_init_122 ⟨(Nat.le_of_ble_eq_true rfl), (Nat.le_of_ble_eq_true rfl)⟩ rfl (fun H locs hW hS => ?_)
      refine lv_bipush (v := 32) hx hb dX9_init_125 (by decide) ?_
      refine q_ifc hm (fun c110003 hm => ?_) (fun c110003 hm => ?_)
      · refine lv_icmp_ne (tgt := 136) hx hb dX9_init_127 (by decide) (fun h => absurd c110003 h) (fun _ => ?_)
        refine lv_iinc (v := (x1_110 + 1)) (lv' := [(1, .int (x1_110 + 1)), (0, .ref (b + x0_110)), (2, .int x2_110)]) hx hb dX9_init_130 hl (k := 1) rfl rfl (by decide) rfl (fun ls hl => ?_)
        refine lv_goto (tgt := 161) hx hb dX9_init_133 (by decide) ?_
        exact hB161 x0_110 (x1_110 + 1) x2_110 C1 hn _ _ _ hm hW hS (lv_sub hl [1, 0, 2] rfl)
      refine lv_icmp_ne (tgt := 136) hx hb dX9_init_127 (by decide) (fun _ => ?_) (fun h => absurd h c110003)
      refine lv_aload_n hx hb dX9_init_136 rfl (lv_at hl 0 rfl) ?_
      refine i_getR Y hW hm (by decide) (by decide) cl_9 fl_RX9_29 dX9_init_137 (fun o110004 hm => ?_)
      refine lv_iload_n hx hb dX9_init_140 rfl (lv_at hl 1 rfl) ?_
      refine lv_aload_n hx hb dX9_init_141 rfl (lv_at hl 0 rfl) ?_
      refine i_getR Y hW hm (by decide) (by decide) cl_9 fl_RX9_29 dX9_init_142 (fun o110005 hm => ?_)
      refine lv_iload_n hx hb dX9_init_145 rfl (lv_at hl 1 rfl) ?_
      obtain ⟨kc110007, hm⟩ := q_ini' hm
      obtain ⟨v110008, hc110006, hm⟩ := q_b1i hm
      refine i_callV Y hW hS (As := [.int x1_110]) (rest := [.int x1_110, .ref (b + o110004)]) (st1 := [.long v110008, .int x1_110, .ref (b + o110004)]) (iX5_at l D b C1 o110005 x1_110 v110008 hc110006) yl_X5_at vl_X5_at ml_RX9_59 (ci := 5) rfl kc110007 (by decide) rfl ⟨(Nat.le_of_ble_eq_true rfl), (Nat.le_of_ble_eq_true rfl)⟩ hl rfl (Nat.le_of_ble_eq_true rfl) dX9_init_146 ⟨(Nat.le_of_ble_eq_true rfl), (Nat.le_of_ble_eq_true rfl)⟩ rfl (fun H locs hW hS => ?_)
      refine q_ldcS (i := 0) (Y.X (C := C1)) (by decide) rfl dX9_init_149 ?_
      refine lv_iload_n hx hb dX9_init_151 rfl (lv_at hl 2 rfl) ?_
      obtain ⟨c110009, hm⟩ := q_ini hm
      refine i_callT0 Y hW hS (by rw [hs0, hn]; exact Nat.add_assoc _ _ _) rfl (show 0 < 9 by decide) (As := [.int x2_110]) (rest := [.long v110008, .int x1_110, .ref (b + o110004)]) (st1 := [.int (q_sch 0 x2_110), .long v110008, .int x1_110, .ref (b + o110004)]) (c_scharAt l D (q_ca b C1) (q_cd b C1) 0 (by decide) x2_110 c110009) yl_J0_charAt_5068e vl_J0_charAt_5068e ml_RX9_55 rfl ⟨(Nat.le_of_ble_eq_true rfl), (Nat.le_of_ble_eq_true rfl)⟩ hl rfl (Nat.le_of_ble_eq_true rfl) dX9_init_152 ⟨(Nat.le_of_ble_eq_true rfl), (Nat.le_of_ble_eq_true rfl)⟩ rfl (fun H locs hW hS => ?_)
      obtain ⟨v110010, hc110011, hm⟩ := q_b1i hm
      refine i_callS0 Y hW hS (by rw [hs0, hn]; exact Nat.add_assoc _ _ _) (As := [.long v110008, .int (q_sch 0 x2_110)]) (rest := [.int x1_110, .ref (b + o110004)]) (st1 := [.long v110010, .int x1_110, .ref (b + o110004)]) (c_X9_withLetter l D (q_ca b C1) (q_cd b C1) v110008 (q_sch 0 x2_110) v110010 hc110011) yl_X9_withLetter sl_X9_withLetter ml_RX9_62 rfl ⟨(Nat.le_of_ble_eq_true rfl), (Nat.le_of_ble_eq_true rfl)⟩ hl rfl (Nat.le_of_ble_eq_true rfl) dX9_init_155 ⟨(Nat.le_of_ble_eq_true rfl), (Nat.le_of_ble_eq_true rfl)⟩ rfl (fun H locs hW hS => ?_)
      obtain ⟨kc110013, hm⟩ := q_ini' hm
      obtain ⟨C110014, hc110012, hm⟩ := q_b1i hm
      refine i_callV Y hW hS (As := [.int x1_110, .long v110010]) (rest := []) (st1 := []) (iX5_put l D b C1 o110004 x1_110 v110010 C110014 hc110012) yl_X5_put vl_X5_put ml_RX9_66 (ci := 5) rfl kc110013 (by decide) rfl ⟨(Nat.le_of_ble_eq_true rfl), (Nat.le_of_ble_eq_true rfl)⟩ hl rfl (Nat.le_of_ble_eq_true rfl) dX9_init_158 ⟨(Nat.le_of_ble_eq_true rfl), (Nat.le_of_ble_eq_true rfl)⟩ rfl (fun H locs hW hS => ?_)
      have hl1 := ln_X5_put hc110012
      have hn : List.length C110014 = List.length C + 12 := hl1.trans hn
      exact hB161 x0_110 x1_110 x2_110 C110014 hn _ _ _ hm hW hS (lv_sub hl [0, 1, 2] rfl)
  refine lv_aload_n hx hb dX9_init_0 rfl (lv_at hl 0 rfl) ?_
  refine W.objInit hx hb hown (hts _ wob_RX9_3) (hts _ woi) (hts _ woc) rfl (hl.1.trans Y.2.2.1.symm) rfl dX9_init_1 (Nat.le_of_ble_eq_true rfl) (Nat.le_of_ble_eq_true rfl) ?_
  refine W.eq (g2 := F0 m 4 ls []) rfl ?_
  refine lv_aload_n hx hb dX9_init_4 rfl (lv_at hl 0 rfl) ?_
  refine i_new Y hW hS hm (by decide) cl_5 df_5 nl_RX9_9 dX9_init_5 (Nat.le_of_ble_eq_true rfl) (Nat.le_of_ble_eq_true rfl) (fun C1000001 H hl1 hm hW hS => ?_)
  have hn : List.length C1000001 = List.length C + 1 := hl1.trans (congrArg (· + 1) hn)
  refine lv_dup hx hb dX9_init_8 rfl ?_
  refine lv_sipush (v := 2000) hx hb dX9_init_9 (by decide) ?_
  obtain ⟨C1000003, hc1000002, hm⟩ := q_b1i hm
  refine i_callI Y hW hS (As := [.int 2000]) (rest := [.ref (b + (List.length C)), .ref (b + x0)]) (iX5_init l D b C1000001 (List.length C) 2000 C1000003 2000 (by decide) hc1000002) yl_X5_init vi_X5_init rfl ml_RX9_11 rfl ⟨(Nat.le_of_ble_eq_true rfl), (Nat.le_of_ble_eq_true rfl)⟩ hl rfl (Nat.le_of_ble_eq_true rfl) dX9_init_12 ⟨(Nat.le_of_ble_eq_true rfl), (Nat.le_of_ble_eq_true rfl)⟩ (fun H locs hW hS => ?_)
  have hl1 := ln_X5_init hc1000002
  have hn : List.length C1000003 = List.length C + 2 := hl1.trans (congrArg (· + 1) hn)
  refine i_putR Y hW hS hm (by decide) (by decide) cl_9 gl_RX9_14 hin (fun _ _ _ h _ => by cases h; rfl) rfl (fun _ => rfl) (fun _ => rfl) dX9_init_15 (fun C1000004 H locs hl1 hm hW hS => ?_)
  have hn : List.length C1000004 = List.length C + 2 := hl1.trans hn
  refine lv_aload_n hx hb dX9_init_18 rfl (lv_at hl 0 rfl) ?_
  refine i_new Y hW hS hm (by decide) cl_5 df_5 nl_RX9_9 dX9_init_19 (Nat.le_of_ble_eq_true rfl) (Nat.le_of_ble_eq_true rfl) (fun C1000005 H hl1 hm hW hS => ?_)
  have hn : List.length C1000005 = List.length C + 3 := hl1.trans (congrArg (· + 1) hn)
  refine lv_dup hx hb dX9_init_22 rfl ?_
  refine lv_sipush (v := 401) hx hb dX9_init_23 (by decide) ?_
  obtain ⟨C1000007, hc1000006, hm⟩ := q_b1i hm
  refine i_callI Y hW hS (As := [.int 401]) (rest := [.ref (b + (List.length C1000004)), .ref (b + x0)]) (iX5_init l D b C1000005 (List.length C1000004) 401 C1000007 401 (by decide) hc1000006) yl_X5_init vi_X5_init rfl ml_RX9_11 rfl ⟨(Nat.le_of_ble_eq_true rfl), (Nat.le_of_ble_eq_true rfl)⟩ hl rfl (Nat.le_of_ble_eq_true rfl) dX9_init_26 ⟨(Nat.le_of_ble_eq_true rfl), (Nat.le_of_ble_eq_true rfl)⟩ (fun H locs hW hS => ?_)
  have hl1 := ln_X5_init hc1000006
  have hn : List.length C1000007 = List.length C + 4 := hl1.trans (congrArg (· + 1) hn)
  refine i_putR Y hW hS hm (by decide) (by decide) cl_9 gl_RX9_20 hin (fun _ _ _ h _ => by cases h; rfl) rfl (fun _ => rfl) (fun _ => rfl) dX9_init_29 (fun C1000008 H locs hl1 hm hW hS => ?_)
  have hn : List.length C1000008 = List.length C + 4 := hl1.trans hn
  refine lv_aload_n hx hb dX9_init_32 rfl (lv_at hl 0 rfl) ?_
  refine i_new Y hW hS hm (by decide) cl_5 df_5 nl_RX9_9 dX9_init_33 (Nat.le_of_ble_eq_true rfl) (Nat.le_of_ble_eq_true rfl) (fun C1000009 H hl1 hm hW hS => ?_)
  have hn : List.length C1000009 = List.length C + 5 := hl1.trans (congrArg (· + 1) hn)
  refine lv_dup hx hb dX9_init_36 rfl ?_
  refine lv_sipush (v := 401) hx hb dX9_init_37 (by decide) ?_
  obtain ⟨C1000011, hc1000010, hm⟩ := q_b1i hm
  refine i_callI Y hW hS (As := [.int 401]) (rest := [.ref (b + (List.length C1000008)), .ref (b + x0)]) (iX5_init l D b C1000009 (List.length C1000008) 401 C1000011 401 (by decide) hc1000010) yl_X5_init vi_X5_init rfl ml_RX9_11 rfl ⟨(Nat.le_of_ble_eq_true rfl), (Nat.le_of_ble_eq_true rfl)⟩ hl rfl (Nat.le_of_ble_eq_true rfl) dX9_init_40 ⟨(Nat.le_of_ble_eq_true rfl), (Nat.le_of_ble_eq_true rfl)⟩ (fun H locs hW hS => ?_)
  have hl1 := ln_X5_init hc1000010
  have hn : List.length C1000011 = List.length C + 6 := hl1.trans (congrArg (· + 1) hn)
  refine i_putR Y hW hS hm (by decide) (by decide) cl_9 gl_RX9_23 hin (fun _ _ _ h _ => by cases h; rfl) rfl (fun _ => rfl) (fun _ => rfl) dX9_init_43 (fun C1000012 H locs hl1 hm hW hS => ?_)
  have hn : List.length C1000012 = List.length C + 6 := hl1.trans hn
  refine lv_aload_n hx hb dX9_init_46 rfl (lv_at hl 0 rfl) ?_
  refine i_new Y hW hS hm (by decide) cl_5 df_5 nl_RX9_9 dX9_init_47 (Nat.le_of_ble_eq_true rfl) (Nat.le_of_ble_eq_true rfl) (fun C1000013 H hl1 hm hW hS => ?_)
  have hn : List.length C1000013 = List.length C + 7 := hl1.trans (congrArg (· + 1) hn)
  refine lv_dup hx hb dX9_init_50 rfl ?_
  refine lv_sipush (v := 401) hx hb dX9_init_51 (by decide) ?_
  obtain ⟨C1000015, hc1000014, hm⟩ := q_b1i hm
  refine i_callI Y hW hS (As := [.int 401]) (rest := [.ref (b + (List.length C1000012)), .ref (b + x0)]) (iX5_init l D b C1000013 (List.length C1000012) 401 C1000015 401 (by decide) hc1000014) yl_X5_init vi_X5_init rfl ml_RX9_11 rfl ⟨(Nat.le_of_ble_eq_true rfl), (Nat.le_of_ble_eq_true rfl)⟩ hl rfl (Nat.le_of_ble_eq_true rfl) dX9_init_54 ⟨(Nat.le_of_ble_eq_true rfl), (Nat.le_of_ble_eq_true rfl)⟩ (fun H locs hW hS => ?_)
  have hl1 := ln_X5_init hc1000014
  have hn : List.length C1000015 = List.length C + 8 := hl1.trans (congrArg (· + 1) hn)
  refine i_putR Y hW hS hm (by decide) (by decide) cl_9 gl_RX9_26 hin (fun _ _ _ h _ => by cases h; rfl) rfl (fun _ => rfl) (fun _ => rfl) dX9_init_57 (fun C1000016 H locs hl1 hm hW hS => ?_)
  have hn : List.length C1000016 = List.length C + 8 := hl1.trans hn
  refine lv_aload_n hx hb dX9_init_60 rfl (lv_at hl 0 rfl) ?_
  refine i_new Y hW hS hm (by decide) cl_5 df_5 nl_RX9_9 dX9_init_61 (Nat.le_of_ble_eq_true rfl) (Nat.le_of_ble_eq_true rfl) (fun C1000017 H hl1 hm hW hS => ?_)
  have hn : List.length C1000017 = List.length C + 9 := hl1.trans (congrArg (· + 1) hn)
  refine lv_dup hx hb dX9_init_64 rfl ?_
  refine lv_bipush (v := 11) hx hb dX9_init_65 (by decide) ?_
  obtain ⟨C1000019, hc1000018, hm⟩ := q_b1i hm
  refine i_callI Y hW hS (As := [.int 11]) (rest := [.ref (b + (List.length C1000016)), .ref (b + x0)]) (iX5_init l D b C1000017 (List.length C1000016) 11 C1000019 11 (by decide) hc1000018) yl_X5_init vi_X5_init rfl ml_RX9_11 rfl ⟨(Nat.le_of_ble_eq_true rfl), (Nat.le_of_ble_eq_true rfl)⟩ hl rfl (Nat.le_of_ble_eq_true rfl) dX9_init_67 ⟨(Nat.le_of_ble_eq_true rfl), (Nat.le_of_ble_eq_true rfl)⟩ (fun H locs hW hS => ?_)
  have hl1 := ln_X5_init hc1000018
  have hn : List.length C1000019 = List.length C + 10 := hl1.trans (congrArg (· + 1) hn)
  refine i_putR Y hW hS hm (by decide) (by decide) cl_9 gl_RX9_29 hin (fun _ _ _ h _ => by cases h; rfl) rfl (fun _ => rfl) (fun _ => rfl) dX9_init_70 (fun C1000020 H locs hl1 hm hW hS => ?_)
  have hn : List.length C1000020 = List.length C + 10 := hl1.trans hn
  refine lv_aload_n hx hb dX9_init_73 rfl (lv_at hl 0 rfl) ?_
  refine i_new Y hW hS hm (by decide) cl_5 df_5 nl_RX9_9 dX9_init_74 (Nat.le_of_ble_eq_true rfl) (Nat.le_of_ble_eq_true rfl) (fun C1000021 H hl1 hm hW hS => ?_)
  have hn : List.length C1000021 = List.length C + 11 := hl1.trans (congrArg (· + 1) hn)
  refine lv_dup hx hb dX9_init_77 rfl ?_
  refine lv_bipush (v := 8) hx hb dX9_init_78 (by decide) ?_
  obtain ⟨C1000023, hc1000022, hm⟩ := q_b1i hm
  refine i_callI Y hW hS (As := [.int 8]) (rest := [.ref (b + (List.length C1000020)), .ref (b + x0)]) (iX5_init l D b C1000021 (List.length C1000020) 8 C1000023 8 (by decide) hc1000022) yl_X5_init vi_X5_init rfl ml_RX9_11 rfl ⟨(Nat.le_of_ble_eq_true rfl), (Nat.le_of_ble_eq_true rfl)⟩ hl rfl (Nat.le_of_ble_eq_true rfl) dX9_init_80 ⟨(Nat.le_of_ble_eq_true rfl), (Nat.le_of_ble_eq_true rfl)⟩ (fun H locs hW hS => ?_)
  have hl1 := ln_X5_init hc1000022
  have hn : List.length C1000023 = List.length C + 12 := hl1.trans (congrArg (· + 1) hn)
  refine i_putR Y hW hS hm (by decide) (by decide) cl_9 gl_RX9_32 hin (fun _ _ _ h _ => by cases h; rfl) rfl (fun _ => rfl) (fun _ => rfl) dX9_init_83 (fun C1000024 H locs hl1 hm hW hS => ?_)
  have hn : List.length C1000024 = List.length C + 12 := hl1.trans hn
  refine lv_aload_n hx hb dX9_init_86 rfl (lv_at hl 0 rfl) ?_
  refine lv_iconst (v := 0) hx hb dX9_init_87 (by decide) ?_
  refine i_putI Y hW hS hm ff_9_6 cl_9 gl_RX9_35 hin (fun _ _ _ h _ => by cases h; rfl) rfl dX9_init_88 (fun C1000025 H locs hl1 hm hW hS => ?_)
  have hn : List.length C1000025 = List.length C + 12 := hl1.trans hn
  refine lv_aload_n hx hb dX9_init_91 rfl (lv_at hl 0 rfl) ?_
  refine lv_iconst (v := 0) hx hb dX9_init_92 (by decide) ?_
  refine i_putI Y hW hS hm ff_9_7 cl_9 gl_RX9_39 hin (fun _ _ _ h _ => by cases h; rfl) rfl dX9_init_93 (fun C1000026 H locs hl1 hm hW hS => ?_)
  have hn : List.length C1000026 = List.length C + 12 := hl1.trans hn
  refine lv_aload_n hx hb dX9_init_96 rfl (lv_at hl 0 rfl) ?_
  refine lv_iconst (v := 0) hx hb dX9_init_97 (by decide) ?_
  refine i_putI Y hW hS hm ff_9_8 cl_9 gl_RX9_42 hin (fun _ _ _ h _ => by cases h; rfl) rfl dX9_init_98 (fun C1000027 H locs hl1 hm hW hS => ?_)
  have hn : List.length C1000027 = List.length C + 12 := hl1.trans hn
  refine lv_aload_n hx hb dX9_init_101 rfl (lv_at hl 0 rfl) ?_
  refine lv_iconst (v := (-1)) hx hb dX9_init_102 (by decide) ?_
  refine i_putI Y hW hS hm ff_9_9 cl_9 gl_RX9_45 hin (fun _ _ _ h _ => by cases h; rfl) rfl dX9_init_103 (fun C1000028 H locs hl1 hm hW hS => ?_)
  have hn : List.length C1000028 = List.length C + 12 := hl1.trans hn
  refine lv_iconst (v := 0) hx hb dX9_init_106 (by decide) ?_
  refine lv_istore_n (i := 1) (lv' := [(1, .int 0), (0, .ref (b + x0))]) hx hb dX9_init_107 rfl hl (by decide) rfl (fun ls hl => ?_)
  refine lv_iconst (v := 0) hx hb dX9_init_108 (by decide) ?_
  refine lv_istore_n (i := 2) (lv' := [(2, .int 0), (1, .int 0), (0, .ref (b + x0))]) hx hb dX9_init_109 rfl hl (by decide) rfl (fun ls hl => ?_)
  exact hB110 q_FU x0 0 0 C1000028 hn _ _ _ hm hW hS (lv_sub hl [2, 1, 0] rfl)
theorem dX3_init_0 : decode cX3_init 0 = .ok (.aload_n 0, 1) := by decide +kernel
theorem dX3_init_1 : decode cX3_init 1 = .ok (.invokespecial 3, 3) := by decide +kernel
theorem dX3_init_4 : decode cX3_init 4 = .ok (.aload_n 0, 1) := by decide +kernel
theorem dX3_init_5 : decode cX3_init 5 = .ok (.new 9, 3) := by decide +kernel
theorem dX3_init_8 : decode cX3_init 8 = .ok (.dup, 1) := by decide +kernel
theorem dX3_init_9 : decode cX3_init 9 = .ok (.invokespecial 11, 3) := by decide +kernel
theorem dX3_init_12 : decode cX3_init 12 = .ok (.putfield 12, 3) := by decide +kernel
theorem dX3_init_15 : decode cX3_init 15 = .ok (.aload_n 0, 1) := by decide +kernel
theorem dX3_init_16 : decode cX3_init 16 = .ok (.new 18, 3) := by decide +kernel
theorem dX3_init_19 : decode cX3_init 19 = .ok (.dup, 1) := by decide +kernel
theorem dX3_init_20 : decode cX3_init 20 = .ok (.bipush 20, 2) := by decide +kernel
theorem dX3_init_22 : decode cX3_init 22 = .ok (.invokespecial 20, 3) := by decide +kernel
theorem dX3_init_25 : decode cX3_init 25 = .ok (.putfield 23, 3) := by decide +kernel
theorem dX3_init_28 : decode cX3_init 28 = .ok (.aload_n 0, 1) := by decide +kernel
theorem dX3_init_29 : decode cX3_init 29 = .ok (.new 18, 3) := by decide +kernel
theorem dX3_init_32 : decode cX3_init 32 = .ok (.dup, 1) := by decide +kernel
theorem dX3_init_33 : decode cX3_init 33 = .ok (.bipush 20, 2) := by decide +kernel
theorem dX3_init_35 : decode cX3_init 35 = .ok (.invokespecial 20, 3) := by decide +kernel
theorem dX3_init_38 : decode cX3_init 38 = .ok (.putfield 27, 3) := by decide +kernel
theorem dX3_init_41 : decode cX3_init 41 = .ok (.aload_n 0, 1) := by decide +kernel
theorem dX3_init_42 : decode cX3_init 42 = .ok (.new 18, 3) := by decide +kernel
theorem dX3_init_45 : decode cX3_init 45 = .ok (.dup, 1) := by decide +kernel
theorem dX3_init_46 : decode cX3_init 46 = .ok (.bipush 20, 2) := by decide +kernel
theorem dX3_init_48 : decode cX3_init 48 = .ok (.invokespecial 20, 3) := by decide +kernel
theorem dX3_init_51 : decode cX3_init 51 = .ok (.putfield 30, 3) := by decide +kernel
theorem dX3_init_54 : decode cX3_init 54 = .ok (.aload_n 0, 1) := by decide +kernel
theorem dX3_init_55 : decode cX3_init 55 = .ok (.iconst 0, 1) := by decide +kernel
theorem dX3_init_56 : decode cX3_init 56 = .ok (.putfield 33, 3) := by decide +kernel
theorem dX3_init_59 : decode cX3_init 59 = .ok (.aload_n 0, 1) := by decide +kernel
theorem dX3_init_60 : decode cX3_init 60 = .ok (.iconst 0, 1) := by decide +kernel
theorem dX3_init_61 : decode cX3_init 61 = .ok (.putfield 37, 3) := by decide +kernel
theorem dX3_init_64 : decode cX3_init 64 = .ok (.aload_n 0, 1) := by decide +kernel
theorem dX3_init_65 : decode cX3_init 65 = .ok (.iconst 0, 1) := by decide +kernel
theorem dX3_init_66 : decode cX3_init 66 = .ok (.putfield 40, 3) := by decide +kernel
theorem dX3_init_69 : decode cX3_init 69 = .ok (.aload_n 0, 1) := by decide +kernel
theorem dX3_init_70 : decode cX3_init 70 = .ok (.iconst (-1), 1) := by decide +kernel
theorem dX3_init_71 : decode cX3_init 71 = .ok (.putfield 43, 3) := by decide +kernel
theorem dX3_init_74 : decode cX3_init 74 = .ok (.return_, 1) := by decide +kernel
set_option maxHeartbeats 10000000 in
set_option maxRecDepth 100000 in
theorem iX3_init (l : Launch) (D : q_D) (b : Nat) (C : List q_Ce) (x0 : Nat) (C0 : List q_Ce) (hm : IX3_init C x0 = some C0) : q_Mi l yX3_init cX3_init 1 none 5 125 D b [.ref (b + x0)] C none C0 19 3301 := by
  refine q_Mi.of (by decide) (Nat.le_of_ble_eq_true rfl) ?_
  intro p e s m args below meth c ls Y hin hW hl
  have hx := Y.1
  have hb := Y.2.1
  have hown := Y.2.2.2.2.2.1
  have hts := Y.2.2.2.2.2.2.1
  have hs0 : s.heap.size = b + List.length C := hW.2.1
  have hS : va_S (fun q => b ≤ q) s.heap s.heap [] := va_S.rf
  have hl : lv_has ls 1 [(0, .ref (b + x0))] := hl
  unfold IX3_init at hm
  have hin := hin rfl
  refine lv_aload_n hx hb dX3_init_0 rfl (lv_at hl 0 rfl) ?_
  refine W.objInit hx hb hown (hts _ wob_RX3_3) (hts _ woi) (hts _ woc) rfl (hl.1.trans Y.2.2.1.symm) rfl dX3_init_1 (Nat.le_of_ble_eq_true rfl) (Nat.le_of_ble_eq_true rfl) ?_
  refine W.eq (g2 := F0 m 4 ls []) rfl ?_
  refine lv_aload_n hx hb dX3_init_4 rfl (lv_at hl 0 rfl) ?_
  refine i_new Y hW hS hm (by decide) cl_9 df_9 nl_RX3_9 dX3_init_5 (Nat.le_of_ble_eq_true rfl) (Nat.le_of_ble_eq_true rfl) (fun C1000001 H hl1 hm hW hS => ?_)
  refine lv_dup hx hb dX3_init_8 rfl ?_
  obtain ⟨C1000003, hc1000002, hm⟩ := q_b1i hm
  refine i_callI Y hW hS (As := []) (rest := [.ref (b + (List.length C)), .ref (b + x0)]) (iX9_init l D b C1000001 (List.length C) C1000003 hc1000002) yl_X9_init vi_X9_init rfl ml_RX3_11 rfl ⟨(Nat.le_of_ble_eq_true rfl), (Nat.le_of_ble_eq_true rfl)⟩ hl rfl (Nat.le_of_ble_eq_true rfl) dX3_init_9 ⟨(Nat.le_of_ble_eq_true rfl), (Nat.le_of_ble_eq_true rfl)⟩ (fun H locs hW hS => ?_)
  refine i_putR Y hW hS hm (by decide) (by decide) cl_3 gl_RX3_12 hin (fun _ _ _ h _ => by cases h; rfl) rfl (fun _ => rfl) (fun _ => rfl) dX3_init_12 (fun C1000004 H locs hl1 hm hW hS => ?_)
  refine lv_aload_n hx hb dX3_init_15 rfl (lv_at hl 0 rfl) ?_
  refine i_new Y hW hS hm (by decide) cl_5 df_5 nl_RX3_18 dX3_init_16 (Nat.le_of_ble_eq_true rfl) (Nat.le_of_ble_eq_true rfl) (fun C1000005 H hl1 hm hW hS => ?_)
  refine lv_dup hx hb dX3_init_19 rfl ?_
  refine lv_bipush (v := 20) hx hb dX3_init_20 (by decide) ?_
  obtain ⟨C1000007, hc1000006, hm⟩ := q_b1i hm
  refine i_callI Y hW hS (As := [.int 20]) (rest := [.ref (b + (List.length C1000004)), .ref (b + x0)]) (iX5_init l D b C1000005 (List.length C1000004) 20 C1000007 20 (by decide) hc1000006) yl_X5_init vi_X5_init rfl ml_RX3_20 rfl ⟨(Nat.le_of_ble_eq_true rfl), (Nat.le_of_ble_eq_true rfl)⟩ hl rfl (Nat.le_of_ble_eq_true rfl) dX3_init_22 ⟨(Nat.le_of_ble_eq_true rfl), (Nat.le_of_ble_eq_true rfl)⟩ (fun H locs hW hS => ?_)
  refine i_putR Y hW hS hm (by decide) (by decide) cl_3 gl_RX3_23 hin (fun _ _ _ h _ => by cases h; rfl) rfl (fun _ => rfl) (fun _ => rfl) dX3_init_25 (fun C1000008 H locs hl1 hm hW hS => ?_)
  refine lv_aload_n hx hb dX3_init_28 rfl (lv_at hl 0 rfl) ?_
  refine i_new Y hW hS hm (by decide) cl_5 df_5 nl_RX3_18 dX3_init_29 (Nat.le_of_ble_eq_true rfl) (Nat.le_of_ble_eq_true rfl) (fun C1000009 H hl1 hm hW hS => ?_)
  refine lv_dup hx hb dX3_init_32 rfl ?_
  refine lv_bipush (v := 20) hx hb dX3_init_33 (by decide) ?_
  obtain ⟨C1000011, hc1000010, hm⟩ := q_b1i hm
  refine i_callI Y hW hS (As := [.int 20]) (rest := [.ref (b + (List.length C1000008)), .ref (b + x0)]) (iX5_init l D b C1000009 (List.length C1000008) 20 C1000011 20 (by decide) hc1000010) yl_X5_init vi_X5_init rfl ml_RX3_20 rfl ⟨(Nat.le_of_ble_eq_true rfl), (Nat.le_of_ble_eq_true rfl)⟩ hl rfl (Nat.le_of_ble_eq_true rfl) dX3_init_35 ⟨(Nat.le_of_ble_eq_true rfl), (Nat.le_of_ble_eq_true rfl)⟩ (fun H locs hW hS => ?_)
  refine i_putR Y hW hS hm (by decide) (by decide) cl_3 gl_RX3_27 hin (fun _ _ _ h _ => by cases h; rfl) rfl (fun _ => rfl) (fun _ => rfl) dX3_init_38 (fun C1000012 H locs hl1 hm hW hS => ?_)
  refine lv_aload_n hx hb dX3_init_41 rfl (lv_at hl 0 rfl) ?_
  refine i_new Y hW hS hm (by decide) cl_5 df_5 nl_RX3_18 dX3_init_42 (Nat.le_of_ble_eq_true rfl) (Nat.le_of_ble_eq_true rfl) (fun C1000013 H hl1 hm hW hS => ?_)
  refine lv_dup hx hb dX3_init_45 rfl ?_
  refine lv_bipush (v := 20) hx hb dX3_init_46 (by decide) ?_
  obtain ⟨C1000015, hc1000014, hm⟩ := q_b1i hm
  refine i_callI Y hW hS (As := [.int 20]) (rest := [.ref (b + (List.length C1000012)), .ref (b + x0)]) (iX5_init l D b C1000013 (List.length C1000012) 20 C1000015 20 (by decide) hc1000014) yl_X5_init vi_X5_init rfl ml_RX3_20 rfl ⟨(Nat.le_of_ble_eq_true rfl), (Nat.le_of_ble_eq_true rfl)⟩ hl rfl (Nat.le_of_ble_eq_true rfl) dX3_init_48 ⟨(Nat.le_of_ble_eq_true rfl), (Nat.le_of_ble_eq_true rfl)⟩ (fun H locs hW hS => ?_)
  refine i_putR Y hW hS hm (by decide) (by decide) cl_3 gl_RX3_30 hin (fun _ _ _ h _ => by cases h; rfl) rfl (fun _ => rfl) (fun _ => rfl) dX3_init_51 (fun C1000016 H locs hl1 hm hW hS => ?_)
  refine lv_aload_n hx hb dX3_init_54 rfl (lv_at hl 0 rfl) ?_
  refine lv_iconst (v := 0) hx hb dX3_init_55 (by decide) ?_
  refine i_putI Y hW hS hm ff_3_4 cl_3 gl_RX3_33 hin (fun _ _ _ h _ => by cases h; rfl) rfl dX3_init_56 (fun C1000017 H locs hl1 hm hW hS => ?_)
  refine lv_aload_n hx hb dX3_init_59 rfl (lv_at hl 0 rfl) ?_
  refine lv_iconst (v := 0) hx hb dX3_init_60 (by decide) ?_
  refine i_putI Y hW hS hm ff_3_5 cl_3 gl_RX3_37 hin (fun _ _ _ h _ => by cases h; rfl) rfl dX3_init_61 (fun C1000018 H locs hl1 hm hW hS => ?_)
  refine lv_aload_n hx hb dX3_init_64 rfl (lv_at hl 0 rfl) ?_
  refine lv_iconst (v := 0) hx hb dX3_init_65 (by decide) ?_
  refine i_putI Y hW hS hm ff_3_6 cl_3 gl_RX3_40 hin (fun _ _ _ h _ => by cases h; rfl) rfl dX3_init_66 (fun C1000019 H locs hl1 hm hW hS => ?_)
  refine lv_aload_n hx hb dX3_init_69 rfl (lv_at hl 0 rfl) ?_
  refine lv_iconst (v := (-1)) hx hb dX3_init_70 (by decide) ?_
  refine i_putI Y hW hS hm ff_3_7 cl_3 gl_RX3_43 hin (fun _ _ _ h _ => by cases h; rfl) rfl dX3_init_71 (fun C1000020 H locs hl1 hm hW hS => ?_)
  exact j_v Y hW hS hm (Nat.le_of_ble_eq_true rfl) (Nat.le_of_ble_eq_true rfl) dX3_init_74
