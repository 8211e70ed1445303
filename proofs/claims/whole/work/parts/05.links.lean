/-! the words that the walks use, by their places -/
theorem q_t1 : ∀ w ∈ tables_1_1, w ∈ lw_tbl := fun w h => List.mem_append_right _ (List.mem_append_left _ h)
theorem q_t2 : ∀ w ∈ tables_1_2, w ∈ lw_tbl := fun w h => List.mem_append_right _ (List.mem_append_right _ (List.mem_append_left _ h))
theorem q_t3 : ∀ w ∈ tables_1_3, w ∈ lw_tbl := fun w h => List.mem_append_right _ (List.mem_append_right _ (List.mem_append_right _ (List.mem_append_left _ h)))
theorem q_t4 : ∀ w ∈ tables_1_4, w ∈ lw_tbl := fun w h => List.mem_append_right _ (List.mem_append_right _ (List.mem_append_right _ (List.mem_append_right _ (List.mem_append_left _ h))))
theorem q_t5 : ∀ w ∈ tables_1_5, w ∈ lw_tbl := fun w h => List.mem_append_right _ (List.mem_append_right _ (List.mem_append_right _ (List.mem_append_right _ (List.mem_append_right _ (List.mem_append_left _ h)))))
theorem q_t6 : ∀ w ∈ tables_1_6, w ∈ lw_tbl := fun w h => List.mem_append_right _ (List.mem_append_right _ (List.mem_append_right _ (List.mem_append_right _ (List.mem_append_right _ (List.mem_append_right _ (List.mem_append_left _ h))))))
theorem q_t7 : ∀ w ∈ tables_1_7, w ∈ lw_tbl := fun w h => List.mem_append_right _ (List.mem_append_right _ (List.mem_append_right _ (List.mem_append_right _ (List.mem_append_right _ (List.mem_append_right _ (List.mem_append_right _ (List.mem_append_left _ h)))))))
theorem q_t8 : ∀ w ∈ tables_1_8, w ∈ lw_tbl := fun w h => List.mem_append_right _ (List.mem_append_right _ (List.mem_append_right _ (List.mem_append_right _ (List.mem_append_right _ (List.mem_append_right _ (List.mem_append_right _ (List.mem_append_right _ (List.mem_append_left _ h))))))))
theorem q_t9 : ∀ w ∈ tables_1_9, w ∈ lw_tbl := fun w h => List.mem_append_right _ (List.mem_append_right _ (List.mem_append_right _ (List.mem_append_right _ (List.mem_append_right _ (List.mem_append_right _ (List.mem_append_right _ (List.mem_append_right _ (List.mem_append_right _ (h)))))))))
theorem q_tp : ∀ w ∈ k2_sels lw_privs, w ∈ lw_tbl := fun w h => List.mem_append_left _ h
theorem q_ks {al : q_Al} {a k : Nat} (h : al.1 a = k) : ∀ b, some a = some b → al.1 b = k := fun b hb => by cases hb; exact h
theorem q_kn {al : q_Al} {k : Nat} : ∀ b, (none : Option Nat) = some b → al.1 b = k := fun b hb => by cases hb
theorem ff_0_0 : q_ff 0 0 3 6 := ⟨by decide, rfl, rfl⟩
theorem ff_0_1 : q_ff 0 1 0 0 := ⟨by decide, rfl, rfl⟩
theorem cl_0 : q_Cl 0 tyX0 := ⟨_, _, _, rfl, (fun w hw => q_mem ((show ∀ w ∈ wsX00, w ∈ lw_tbl by decide +kernel) w hw) ((show ∀ w ∈ wsX00, goodWord w = true by decide +kernel) w hw)), tyX0_ok, nmX0⟩
theorem ff_1_0 : q_ff 1 0 0 0 := ⟨by decide, rfl, rfl⟩
theorem ff_1_1 : q_ff 1 1 0 0 := ⟨by decide, rfl, rfl⟩
theorem ff_1_2 : q_ff 1 2 0 0 := ⟨by decide, rfl, rfl⟩
theorem cl_1 : q_Cl 1 tyX1 := ⟨_, _, _, rfl, (fun w hw => q_mem ((show ∀ w ∈ wsX10, w ∈ lw_tbl by decide +kernel) w hw) ((show ∀ w ∈ wsX10, goodWord w = true by decide +kernel) w hw)), tyX1_ok, nmX1⟩
theorem ff_2_0 : q_ff 2 0 3 6 := ⟨by decide, rfl, rfl⟩
theorem ff_2_1 : q_ff 2 1 3 6 := ⟨by decide, rfl, rfl⟩
theorem ff_2_2 : q_ff 2 2 3 6 := ⟨by decide, rfl, rfl⟩
theorem ff_2_3 : q_ff 2 3 3 6 := ⟨by decide, rfl, rfl⟩
theorem cl_2 : q_Cl 2 tyX2 := ⟨_, _, _, rfl, (fun w hw => q_mem ((show ∀ w ∈ wsX20, w ∈ lw_tbl by decide +kernel) w hw) ((show ∀ w ∈ wsX20, goodWord w = true by decide +kernel) w hw)), tyX2_ok, nmX2⟩
theorem ff_3_0 : q_ff 3 0 3 10 := ⟨by decide, rfl, rfl⟩
theorem ff_3_1 : q_ff 3 1 3 6 := ⟨by decide, rfl, rfl⟩
theorem ff_3_2 : q_ff 3 2 3 6 := ⟨by decide, rfl, rfl⟩
theorem ff_3_3 : q_ff 3 3 3 6 := ⟨by decide, rfl, rfl⟩
theorem ff_3_4 : q_ff 3 4 0 0 := ⟨by decide, rfl, rfl⟩
theorem ff_3_5 : q_ff 3 5 0 0 := ⟨by decide, rfl, rfl⟩
theorem ff_3_6 : q_ff 3 6 0 0 := ⟨by decide, rfl, rfl⟩
theorem ff_3_7 : q_ff 3 7 0 0 := ⟨by decide, rfl, rfl⟩
theorem cl_3 : q_Cl 3 tyX3 := ⟨_, _, _, rfl, (fun w hw => q_mem ((show ∀ w ∈ wsX30, w ∈ lw_tbl by decide +kernel) w hw) ((show ∀ w ∈ wsX30, goodWord w = true by decide +kernel) w hw)), tyX3_ok, nmX3⟩
theorem ff_4_0 : q_ff 4 0 3 6 := ⟨by decide, rfl, rfl⟩
theorem ff_4_1 : q_ff 4 1 3 9 := ⟨by decide, rfl, rfl⟩
theorem ff_4_2 : q_ff 4 2 3 35 := ⟨by decide, rfl, rfl⟩
theorem ff_4_3 : q_ff 4 3 3 35 := ⟨by decide, rfl, rfl⟩
theorem ff_4_4 : q_ff 4 4 0 0 := ⟨by decide, rfl, rfl⟩
theorem ff_4_5 : q_ff 4 5 0 0 := ⟨by decide, rfl, rfl⟩
theorem cl_4 : q_Cl 4 tyX4 := ⟨_, _, _, rfl, (fun w hw => q_mem ((show ∀ w ∈ wsX40, w ∈ lw_tbl by decide +kernel) w hw) ((show ∀ w ∈ wsX40, goodWord w = true by decide +kernel) w hw)), tyX4_ok, nmX4⟩
theorem ff_5_0 : q_ff 5 0 3 22 := ⟨by decide, rfl, rfl⟩
theorem cl_5 : q_Cl 5 tyX5 := ⟨_, _, _, rfl, (fun w hw => q_mem ((show ∀ w ∈ wsX50, w ∈ lw_tbl by decide +kernel) w hw) ((show ∀ w ∈ wsX50, goodWord w = true by decide +kernel) w hw)), tyX5_ok, nmX5⟩
theorem ff_6_0 : q_ff 6 0 3 6 := ⟨by decide, rfl, rfl⟩
theorem ff_6_1 : q_ff 6 1 3 6 := ⟨by decide, rfl, rfl⟩
theorem ff_6_2 : q_ff 6 2 3 6 := ⟨by decide, rfl, rfl⟩
theorem ff_6_3 : q_ff 6 3 0 0 := ⟨by decide, rfl, rfl⟩
theorem cl_6 : q_Cl 6 tyX6 := ⟨_, _, _, rfl, (fun w hw => q_mem ((show ∀ w ∈ wsX60, w ∈ lw_tbl by decide +kernel) w hw) ((show ∀ w ∈ wsX60, goodWord w = true by decide +kernel) w hw)), tyX6_ok, nmX6⟩
theorem ff_7_0 : q_ff 7 0 3 6 := ⟨by decide, rfl, rfl⟩
theorem ff_7_1 : q_ff 7 1 3 6 := ⟨by decide, rfl, rfl⟩
theorem ff_7_2 : q_ff 7 2 2 1 := ⟨by decide, rfl, rfl⟩
theorem ff_7_3 : q_ff 7 3 0 0 := ⟨by decide, rfl, rfl⟩
theorem ff_7_4 : q_ff 7 4 0 0 := ⟨by decide, rfl, rfl⟩
theorem ff_7_5 : q_ff 7 5 0 0 := ⟨by decide, rfl, rfl⟩
theorem ff_7_6 : q_ff 7 6 0 0 := ⟨by decide, rfl, rfl⟩
theorem ff_7_7 : q_ff 7 7 0 0 := ⟨by decide, rfl, rfl⟩
theorem ff_7_8 : q_ff 7 8 0 0 := ⟨by decide, rfl, rfl⟩
theorem cl_7 : q_Cl 7 tyX7 := ⟨_, _, _, rfl, (fun w hw => q_mem ((show ∀ w ∈ wsX70, w ∈ lw_tbl by decide +kernel) w hw) ((show ∀ w ∈ wsX70, goodWord w = true by decide +kernel) w hw)), tyX7_ok, nmX7⟩
theorem ff_8_0 : q_ff 8 0 3 6 := ⟨by decide, rfl, rfl⟩
theorem ff_8_1 : q_ff 8 1 3 6 := ⟨by decide, rfl, rfl⟩
theorem ff_8_2 : q_ff 8 2 0 0 := ⟨by decide, rfl, rfl⟩
theorem cl_8 : q_Cl 8 tyX8 := ⟨_, _, _, rfl, (fun w hw => q_mem ((show ∀ w ∈ wsX80, w ∈ lw_tbl by decide +kernel) w hw) ((show ∀ w ∈ wsX80, goodWord w = true by decide +kernel) w hw)), tyX8_ok, nmX8⟩
theorem ff_9_0 : q_ff 9 0 3 6 := ⟨by decide, rfl, rfl⟩
theorem ff_9_1 : q_ff 9 1 3 6 := ⟨by decide, rfl, rfl⟩
theorem ff_9_2 : q_ff 9 2 3 6 := ⟨by decide, rfl, rfl⟩
theorem ff_9_3 : q_ff 9 3 3 6 := ⟨by decide, rfl, rfl⟩
theorem ff_9_4 : q_ff 9 4 3 6 := ⟨by decide, rfl, rfl⟩
theorem ff_9_5 : q_ff 9 5 3 6 := ⟨by decide, rfl, rfl⟩
theorem ff_9_6 : q_ff 9 6 0 0 := ⟨by decide, rfl, rfl⟩
theorem ff_9_7 : q_ff 9 7 0 0 := ⟨by decide, rfl, rfl⟩
theorem ff_9_8 : q_ff 9 8 0 0 := ⟨by decide, rfl, rfl⟩
theorem ff_9_9 : q_ff 9 9 0 0 := ⟨by decide, rfl, rfl⟩
theorem cl_9 : q_Cl 9 tyX9 := ⟨_, _, _, rfl, (fun w hw => q_mem ((show ∀ w ∈ wsX90, w ∈ lw_tbl by decide +kernel) w hw) ((show ∀ w ∈ wsX90, goodWord w = true by decide +kernel) w hw)), tyX9_ok, nmX9⟩
theorem ff_10_0 : q_ff 10 0 3 30 := ⟨by decide, rfl, rfl⟩
theorem ff_10_1 : q_ff 10 1 3 31 := ⟨by decide, rfl, rfl⟩
theorem ff_10_2 : q_ff 10 2 3 37 := ⟨by decide, rfl, rfl⟩
theorem ff_10_3 : q_ff 10 3 3 6 := ⟨by decide, rfl, rfl⟩
theorem ff_10_4 : q_ff 10 4 3 6 := ⟨by decide, rfl, rfl⟩
theorem ff_10_5 : q_ff 10 5 3 6 := ⟨by decide, rfl, rfl⟩
theorem ff_10_6 : q_ff 10 6 3 6 := ⟨by decide, rfl, rfl⟩
theorem ff_10_7 : q_ff 10 7 0 0 := ⟨by decide, rfl, rfl⟩
theorem ff_10_8 : q_ff 10 8 0 0 := ⟨by decide, rfl, rfl⟩
theorem ff_10_9 : q_ff 10 9 0 0 := ⟨by decide, rfl, rfl⟩
theorem ff_10_10 : q_ff 10 10 0 0 := ⟨by decide, rfl, rfl⟩
theorem ff_10_11 : q_ff 10 11 0 0 := ⟨by decide, rfl, rfl⟩
theorem ff_10_12 : q_ff 10 12 0 0 := ⟨by decide, rfl, rfl⟩
theorem ff_10_13 : q_ff 10 13 0 0 := ⟨by decide, rfl, rfl⟩
theorem ff_10_14 : q_ff 10 14 0 0 := ⟨by decide, rfl, rfl⟩
theorem cl_10 : q_Cl 10 tyX10 := ⟨_, _, _, rfl, (fun w hw => q_mem ((show ∀ w ∈ wsX100, w ∈ lw_tbl by decide +kernel) w hw) ((show ∀ w ∈ wsX100, goodWord w = true by decide +kernel) w hw)), tyX10_ok, nmX10⟩
theorem ff_11_0 : q_ff 11 0 3 4 := ⟨by decide, rfl, rfl⟩
theorem ff_11_1 : q_ff 11 1 3 9 := ⟨by decide, rfl, rfl⟩
theorem ff_11_2 : q_ff 11 2 3 38 := ⟨by decide, rfl, rfl⟩
theorem ff_11_3 : q_ff 11 3 3 3 := ⟨by decide, rfl, rfl⟩
theorem ff_11_4 : q_ff 11 4 3 7 := ⟨by decide, rfl, rfl⟩
theorem ff_11_5 : q_ff 11 5 3 5 := ⟨by decide, rfl, rfl⟩
theorem ff_11_6 : q_ff 11 6 2 11 := ⟨by decide, rfl, rfl⟩
theorem ff_11_7 : q_ff 11 7 2 11 := ⟨by decide, rfl, rfl⟩
theorem ff_11_8 : q_ff 11 8 0 0 := ⟨by decide, rfl, rfl⟩
theorem ff_11_9 : q_ff 11 9 0 0 := ⟨by decide, rfl, rfl⟩
theorem cl_11 : q_Cl 11 tyX11 := ⟨_, _, _, rfl, (fun w hw => q_mem ((show ∀ w ∈ wsX110, w ∈ lw_tbl by decide +kernel) w hw) ((show ∀ w ∈ wsX110, goodWord w = true by decide +kernel) w hw)), tyX11_ok, nmX11⟩
theorem ff_12_0 : q_ff 12 0 0 0 := ⟨by decide, rfl, rfl⟩
theorem ff_12_1 : q_ff 12 1 3 20 := ⟨by decide, rfl, rfl⟩
theorem ff_12_2 : q_ff 12 2 0 0 := ⟨by decide, rfl, rfl⟩
theorem ff_12_3 : q_ff 12 3 3 20 := ⟨by decide, rfl, rfl⟩
theorem ff_12_4 : q_ff 12 4 0 0 := ⟨by decide, rfl, rfl⟩
theorem ff_12_5 : q_ff 12 5 3 21 := ⟨by decide, rfl, rfl⟩
theorem ff_12_6 : q_ff 12 6 3 21 := ⟨by decide, rfl, rfl⟩
theorem ff_12_7 : q_ff 12 7 3 21 := ⟨by decide, rfl, rfl⟩
theorem ff_12_8 : q_ff 12 8 3 22 := ⟨by decide, rfl, rfl⟩
theorem ff_12_9 : q_ff 12 9 3 22 := ⟨by decide, rfl, rfl⟩
theorem ff_12_10 : q_ff 12 10 0 0 := ⟨by decide, rfl, rfl⟩
theorem ff_12_11 : q_ff 12 11 0 0 := ⟨by decide, rfl, rfl⟩
theorem ff_12_12 : q_ff 12 12 0 0 := ⟨by decide, rfl, rfl⟩
theorem ff_12_13 : q_ff 12 13 0 0 := ⟨by decide, rfl, rfl⟩
theorem ff_12_14 : q_ff 12 14 0 0 := ⟨by decide, rfl, rfl⟩
theorem ff_12_15 : q_ff 12 15 0 0 := ⟨by decide, rfl, rfl⟩
theorem ff_12_16 : q_ff 12 16 0 0 := ⟨by decide, rfl, rfl⟩
theorem ff_12_17 : q_ff 12 17 0 0 := ⟨by decide, rfl, rfl⟩
theorem ff_12_18 : q_ff 12 18 0 0 := ⟨by decide, rfl, rfl⟩
theorem ff_12_19 : q_ff 12 19 0 0 := ⟨by decide, rfl, rfl⟩
theorem ff_12_20 : q_ff 12 20 0 0 := ⟨by decide, rfl, rfl⟩
theorem ff_12_21 : q_ff 12 21 3 22 := ⟨by decide, rfl, rfl⟩
theorem ff_12_22 : q_ff 12 22 3 21 := ⟨by decide, rfl, rfl⟩
theorem ff_12_23 : q_ff 12 23 3 21 := ⟨by decide, rfl, rfl⟩
theorem ff_12_24 : q_ff 12 24 3 21 := ⟨by decide, rfl, rfl⟩
theorem ff_12_25 : q_ff 12 25 3 21 := ⟨by decide, rfl, rfl⟩
theorem ff_12_26 : q_ff 12 26 3 21 := ⟨by decide, rfl, rfl⟩
theorem ff_12_27 : q_ff 12 27 3 21 := ⟨by decide, rfl, rfl⟩
theorem ff_12_28 : q_ff 12 28 3 21 := ⟨by decide, rfl, rfl⟩
theorem ff_12_29 : q_ff 12 29 3 21 := ⟨by decide, rfl, rfl⟩
theorem ff_12_30 : q_ff 12 30 3 21 := ⟨by decide, rfl, rfl⟩
theorem ff_12_31 : q_ff 12 31 3 21 := ⟨by decide, rfl, rfl⟩
theorem ff_12_32 : q_ff 12 32 3 21 := ⟨by decide, rfl, rfl⟩
theorem ff_12_33 : q_ff 12 33 3 21 := ⟨by decide, rfl, rfl⟩
theorem ff_12_34 : q_ff 12 34 3 21 := ⟨by decide, rfl, rfl⟩
theorem ff_12_35 : q_ff 12 35 3 21 := ⟨by decide, rfl, rfl⟩
theorem ff_12_36 : q_ff 12 36 3 21 := ⟨by decide, rfl, rfl⟩
theorem ff_12_37 : q_ff 12 37 3 21 := ⟨by decide, rfl, rfl⟩
theorem ff_12_38 : q_ff 12 38 3 21 := ⟨by decide, rfl, rfl⟩
theorem ff_12_39 : q_ff 12 39 3 21 := ⟨by decide, rfl, rfl⟩
theorem ff_12_40 : q_ff 12 40 3 21 := ⟨by decide, rfl, rfl⟩
theorem ff_12_41 : q_ff 12 41 3 21 := ⟨by decide, rfl, rfl⟩
theorem ff_12_42 : q_ff 12 42 3 21 := ⟨by decide, rfl, rfl⟩
theorem ff_12_43 : q_ff 12 43 3 21 := ⟨by decide, rfl, rfl⟩
theorem ff_12_44 : q_ff 12 44 3 21 := ⟨by decide, rfl, rfl⟩
theorem ff_12_45 : q_ff 12 45 3 21 := ⟨by decide, rfl, rfl⟩
theorem ff_12_46 : q_ff 12 46 3 21 := ⟨by decide, rfl, rfl⟩
theorem ff_12_47 : q_ff 12 47 3 21 := ⟨by decide, rfl, rfl⟩
theorem ff_12_48 : q_ff 12 48 3 21 := ⟨by decide, rfl, rfl⟩
theorem ff_12_49 : q_ff 12 49 3 21 := ⟨by decide, rfl, rfl⟩
theorem ff_12_50 : q_ff 12 50 0 0 := ⟨by decide, rfl, rfl⟩
theorem ff_12_51 : q_ff 12 51 3 20 := ⟨by decide, rfl, rfl⟩
theorem ff_12_52 : q_ff 12 52 3 20 := ⟨by decide, rfl, rfl⟩
theorem ff_12_53 : q_ff 12 53 3 21 := ⟨by decide, rfl, rfl⟩
theorem ff_12_54 : q_ff 12 54 3 21 := ⟨by decide, rfl, rfl⟩
theorem ff_12_55 : q_ff 12 55 3 21 := ⟨by decide, rfl, rfl⟩
theorem ff_12_56 : q_ff 12 56 3 21 := ⟨by decide, rfl, rfl⟩
theorem ff_12_57 : q_ff 12 57 3 21 := ⟨by decide, rfl, rfl⟩
theorem ff_12_58 : q_ff 12 58 3 21 := ⟨by decide, rfl, rfl⟩
theorem ff_12_59 : q_ff 12 59 3 23 := ⟨by decide, rfl, rfl⟩
theorem ff_12_60 : q_ff 12 60 0 0 := ⟨by decide, rfl, rfl⟩
theorem ff_12_61 : q_ff 12 61 0 0 := ⟨by decide, rfl, rfl⟩
theorem ff_12_62 : q_ff 12 62 3 22 := ⟨by decide, rfl, rfl⟩
theorem ff_12_63 : q_ff 12 63 3 22 := ⟨by decide, rfl, rfl⟩
theorem ff_12_64 : q_ff 12 64 3 23 := ⟨by decide, rfl, rfl⟩
theorem ff_12_65 : q_ff 12 65 3 23 := ⟨by decide, rfl, rfl⟩
theorem ff_12_66 : q_ff 12 66 3 21 := ⟨by decide, rfl, rfl⟩
theorem cl_12 : q_Cl 12 tyX12 := ⟨_, _, _, rfl, (fun w hw => q_mem ((show ∀ w ∈ wsX120, w ∈ lw_tbl by decide +kernel) w hw) ((show ∀ w ∈ wsX120, goodWord w = true by decide +kernel) w hw)), tyX12_ok, nmX12⟩
theorem fl_RX5_13 : q_Fl RX5 13 5 0 := ⟨RX5, TX5, 1, rfl, by decide, rfl, rfl, Or.inl (q_mem (q_t1 _ (List.mem_of_getElem? (i := 49) (by decide +kernel))) rfl)⟩
theorem fl_RX9_14 : q_Fl RX9 14 9 0 := ⟨RX9, TX9, 10, rfl, by decide, rfl, rfl, Or.inl (q_mem (q_t1 _ (List.mem_of_getElem? (i := 116) (by decide +kernel))) rfl)⟩
theorem fl_RX9_20 : q_Fl RX9 20 9 1 := ⟨RX9, TX9, 10, rfl, by decide, rfl, rfl, Or.inl (q_mem (q_t1 _ (List.mem_of_getElem? (i := 117) (by decide +kernel))) rfl)⟩
theorem fl_RX3_209 : q_Fl RX3 209 9 1 := ⟨RX9, TX9, 10, rfl, by decide, rfl, rfl, Or.inr ⟨RX11, (q_memN (q_t1 _ (List.mem_of_getElem? (i := 118) (by decide +kernel))) rfl)⟩⟩
theorem fl_RX9_23 : q_Fl RX9 23 9 2 := ⟨RX9, TX9, 10, rfl, by decide, rfl, rfl, Or.inl (q_mem (q_t1 _ (List.mem_of_getElem? (i := 119) (by decide +kernel))) rfl)⟩
theorem fl_RX3_109 : q_Fl RX3 109 9 2 := ⟨RX9, TX9, 10, rfl, by decide, rfl, rfl, Or.inr ⟨RX11, (q_memN (q_t1 _ (List.mem_of_getElem? (i := 120) (by decide +kernel))) rfl)⟩⟩
theorem fl_RX9_26 : q_Fl RX9 26 9 3 := ⟨RX9, TX9, 10, rfl, by decide, rfl, rfl, Or.inl (q_mem (q_t1 _ (List.mem_of_getElem? (i := 121) (by decide +kernel))) rfl)⟩
theorem fl_RX3_57 : q_Fl RX3 57 9 3 := ⟨RX9, TX9, 10, rfl, by decide, rfl, rfl, Or.inr ⟨RX11, (q_memN (q_t1 _ (List.mem_of_getElem? (i := 122) (by decide +kernel))) rfl)⟩⟩
theorem fl_RX9_29 : q_Fl RX9 29 9 4 := ⟨RX9, TX9, 10, rfl, by decide, rfl, rfl, Or.inl (q_mem (q_t1 _ (List.mem_of_getElem? (i := 123) (by decide +kernel))) rfl)⟩
theorem fl_RX9_32 : q_Fl RX9 32 9 5 := ⟨RX9, TX9, 10, rfl, by decide, rfl, rfl, Or.inl (q_mem (q_t1 _ (List.mem_of_getElem? (i := 124) (by decide +kernel))) rfl)⟩
theorem fl_RX9_35 : q_Fl RX9 35 9 6 := ⟨RX9, TX9, 10, rfl, by decide, rfl, rfl, Or.inl (q_mem (q_t1 _ (List.mem_of_getElem? (i := 125) (by decide +kernel))) rfl)⟩
theorem fl_RX11_69 : q_Fl RX11 69 9 6 := ⟨RX9, TX9, 10, rfl, by decide, rfl, rfl, Or.inr ⟨RX11, (q_memN (q_t1 _ (List.mem_of_getElem? (i := 126) (by decide +kernel))) rfl)⟩⟩
theorem fl_RX9_39 : q_Fl RX9 39 9 7 := ⟨RX9, TX9, 10, rfl, by decide, rfl, rfl, Or.inl (q_mem (q_t1 _ (List.mem_of_getElem? (i := 127) (by decide +kernel))) rfl)⟩
theorem fl_RX3_56 : q_Fl RX3 56 9 7 := ⟨RX9, TX9, 10, rfl, by decide, rfl, rfl, Or.inr ⟨RX11, (q_memN (q_t1 _ (List.mem_of_getElem? (i := 128) (by decide +kernel))) rfl)⟩⟩
theorem fl_RX9_42 : q_Fl RX9 42 9 8 := ⟨RX9, TX9, 10, rfl, by decide, rfl, rfl, Or.inl (q_mem (q_t1 _ (List.mem_of_getElem? (i := 129) (by decide +kernel))) rfl)⟩
theorem fl_RX9_45 : q_Fl RX9 45 9 9 := ⟨RX9, TX9, 10, rfl, by decide, rfl, rfl, Or.inl (q_mem (q_t1 _ (List.mem_of_getElem? (i := 130) (by decide +kernel))) rfl)⟩
theorem fl_RX3_55 : q_Fl RX3 55 9 9 := ⟨RX9, TX9, 10, rfl, by decide, rfl, rfl, Or.inr ⟨RX11, (q_memN (q_t1 _ (List.mem_of_getElem? (i := 131) (by decide +kernel))) rfl)⟩⟩
theorem fl_RX3_12 : q_Fl RX3 12 3 0 := ⟨RX3, TX3, 8, rfl, by decide, rfl, rfl, Or.inl (q_mem (q_t1 _ (List.mem_of_getElem? (i := 156) (by decide +kernel))) rfl)⟩
theorem fl_RX11_65 : q_Fl RX11 65 3 0 := ⟨RX3, TX3, 8, rfl, by decide, rfl, rfl, Or.inr ⟨RX11, (q_memN (q_t1 _ (List.mem_of_getElem? (i := 157) (by decide +kernel))) rfl)⟩⟩
theorem fl_RX3_23 : q_Fl RX3 23 3 1 := ⟨RX3, TX3, 8, rfl, by decide, rfl, rfl, Or.inl (q_mem (q_t1 _ (List.mem_of_getElem? (i := 158) (by decide +kernel))) rfl)⟩
theorem fl_RX3_27 : q_Fl RX3 27 3 2 := ⟨RX3, TX3, 8, rfl, by decide, rfl, rfl, Or.inl (q_mem (q_t1 _ (List.mem_of_getElem? (i := 159) (by decide +kernel))) rfl)⟩
theorem fl_RX3_30 : q_Fl RX3 30 3 3 := ⟨RX3, TX3, 8, rfl, by decide, rfl, rfl, Or.inl (q_mem (q_t1 _ (List.mem_of_getElem? (i := 160) (by decide +kernel))) rfl)⟩
theorem fl_RX3_33 : q_Fl RX3 33 3 4 := ⟨RX3, TX3, 8, rfl, by decide, rfl, rfl, Or.inl (q_mem (q_t1 _ (List.mem_of_getElem? (i := 161) (by decide +kernel))) rfl)⟩
theorem fl_RX3_37 : q_Fl RX3 37 3 5 := ⟨RX3, TX3, 8, rfl, by decide, rfl, rfl, Or.inl (q_mem (q_t1 _ (List.mem_of_getElem? (i := 162) (by decide +kernel))) rfl)⟩
theorem fl_RX3_40 : q_Fl RX3 40 3 6 := ⟨RX3, TX3, 8, rfl, by decide, rfl, rfl, Or.inl (q_mem (q_t1 _ (List.mem_of_getElem? (i := 163) (by decide +kernel))) rfl)⟩
theorem fl_RX3_43 : q_Fl RX3 43 3 7 := ⟨RX3, TX3, 8, rfl, by decide, rfl, rfl, Or.inl (q_mem (q_t1 _ (List.mem_of_getElem? (i := 164) (by decide +kernel))) rfl)⟩
theorem fl_RX11_82 : q_Fl RX11 82 3 7 := ⟨RX3, TX3, 8, rfl, by decide, rfl, rfl, Or.inr ⟨RX11, (q_memN (q_t1 _ (List.mem_of_getElem? (i := 165) (by decide +kernel))) rfl)⟩⟩
theorem fl_RX8_14 : q_Fl RX8 14 8 0 := ⟨RX8, TX8, 3, rfl, by decide, rfl, rfl, Or.inl (q_mem (q_t1 _ (List.mem_of_getElem? (i := 191) (by decide +kernel))) rfl)⟩
theorem fl_RX8_20 : q_Fl RX8 20 8 1 := ⟨RX8, TX8, 3, rfl, by decide, rfl, rfl, Or.inl (q_mem (q_t1 _ (List.mem_of_getElem? (i := 192) (by decide +kernel))) rfl)⟩
theorem fl_RX8_23 : q_Fl RX8 23 8 2 := ⟨RX8, TX8, 3, rfl, by decide, rfl, rfl, Or.inl (q_mem (q_t1 _ (List.mem_of_getElem? (i := 193) (by decide +kernel))) rfl)⟩
theorem fl_RX4_44 : q_Fl RX4 44 8 2 := ⟨RX8, TX8, 3, rfl, by decide, rfl, rfl, Or.inr ⟨RX11, (q_memN (q_t1 _ (List.mem_of_getElem? (i := 194) (by decide +kernel))) rfl)⟩⟩
theorem fl_RX6_48 : q_Fl RX6 48 8 2 := ⟨RX8, TX8, 3, rfl, by decide, rfl, rfl, Or.inr ⟨RX11, (q_memN (q_t1 _ (List.mem_of_getElem? (i := 195) (by decide +kernel))) rfl)⟩⟩
theorem fl_RX2_14 : q_Fl RX2 14 2 0 := ⟨RX2, TX2, 4, rfl, by decide, rfl, rfl, Or.inl (q_mem (q_t1 _ (List.mem_of_getElem? (i := 212) (by decide +kernel))) rfl)⟩
theorem fl_RX2_20 : q_Fl RX2 20 2 1 := ⟨RX2, TX2, 4, rfl, by decide, rfl, rfl, Or.inl (q_mem (q_t1 _ (List.mem_of_getElem? (i := 213) (by decide +kernel))) rfl)⟩
theorem fl_RX2_23 : q_Fl RX2 23 2 2 := ⟨RX2, TX2, 4, rfl, by decide, rfl, rfl, Or.inl (q_mem (q_t1 _ (List.mem_of_getElem? (i := 214) (by decide +kernel))) rfl)⟩
theorem fl_RX2_26 : q_Fl RX2 26 2 3 := ⟨RX2, TX2, 4, rfl, by decide, rfl, rfl, Or.inl (q_mem (q_t1 _ (List.mem_of_getElem? (i := 215) (by decide +kernel))) rfl)⟩
theorem fl_RX6_14 : q_Fl RX6 14 6 0 := ⟨RX6, TX6, 4, rfl, by decide, rfl, rfl, Or.inl (q_mem (q_t1 _ (List.mem_of_getElem? (i := 233) (by decide +kernel))) rfl)⟩
theorem fl_RX6_20 : q_Fl RX6 20 6 1 := ⟨RX6, TX6, 4, rfl, by decide, rfl, rfl, Or.inl (q_mem (q_t1 _ (List.mem_of_getElem? (i := 234) (by decide +kernel))) rfl)⟩
theorem fl_RX6_23 : q_Fl RX6 23 6 2 := ⟨RX6, TX6, 4, rfl, by decide, rfl, rfl, Or.inl (q_mem (q_t1 _ (List.mem_of_getElem? (i := 235) (by decide +kernel))) rfl)⟩
theorem fl_RX6_26 : q_Fl RX6 26 6 3 := ⟨RX6, TX6, 4, rfl, by decide, rfl, rfl, Or.inl (q_mem (q_t1 _ (List.mem_of_getElem? (i := 236) (by decide +kernel))) rfl)⟩
theorem fl_RX4_14 : q_Fl RX4 14 4 0 := ⟨RX4, TX4, 6, rfl, by decide, rfl, rfl, Or.inl (q_mem (q_t2 _ (List.mem_of_getElem? (i := 17) (by decide +kernel))) rfl)⟩
theorem fl_RX4_23 : q_Fl RX4 23 4 1 := ⟨RX4, TX4, 6, rfl, by decide, rfl, rfl, Or.inl (q_mem (q_t2 _ (List.mem_of_getElem? (i := 18) (by decide +kernel))) rfl)⟩
theorem fl_RX4_27 : q_Fl RX4 27 4 2 := ⟨RX4, TX4, 6, rfl, by decide, rfl, rfl, Or.inl (q_mem (q_t2 _ (List.mem_of_getElem? (i := 19) (by decide +kernel))) rfl)⟩
theorem fl_RX4_31 : q_Fl RX4 31 4 3 := ⟨RX4, TX4, 6, rfl, by decide, rfl, rfl, Or.inl (q_mem (q_t2 _ (List.mem_of_getElem? (i := 20) (by decide +kernel))) rfl)⟩
theorem fl_RX4_34 : q_Fl RX4 34 4 4 := ⟨RX4, TX4, 6, rfl, by decide, rfl, rfl, Or.inl (q_mem (q_t2 _ (List.mem_of_getElem? (i := 21) (by decide +kernel))) rfl)⟩
theorem fl_RX11_258 : q_Fl RX11 258 4 4 := ⟨RX4, TX4, 6, rfl, by decide, rfl, rfl, Or.inr ⟨RX11, (q_memN (q_t2 _ (List.mem_of_getElem? (i := 22) (by decide +kernel))) rfl)⟩⟩
theorem fl_RX4_38 : q_Fl RX4 38 4 5 := ⟨RX4, TX4, 6, rfl, by decide, rfl, rfl, Or.inl (q_mem (q_t2 _ (List.mem_of_getElem? (i := 23) (by decide +kernel))) rfl)⟩
theorem fl_RX11_261 : q_Fl RX11 261 4 5 := ⟨RX4, TX4, 6, rfl, by decide, rfl, rfl, Or.inr ⟨RX11, (q_memN (q_t2 _ (List.mem_of_getElem? (i := 24) (by decide +kernel))) rfl)⟩⟩
theorem fl_RX0_14 : q_Fl RX0 14 0 0 := ⟨RX0, TX0, 2, rfl, by decide, rfl, rfl, Or.inl (q_mem (q_t2 _ (List.mem_of_getElem? (i := 59) (by decide +kernel))) rfl)⟩
theorem fl_RX0_20 : q_Fl RX0 20 0 1 := ⟨RX0, TX0, 2, rfl, by decide, rfl, rfl, Or.inl (q_mem (q_t2 _ (List.mem_of_getElem? (i := 60) (by decide +kernel))) rfl)⟩
theorem fl_RX6_30 : q_Fl RX6 30 0 1 := ⟨RX0, TX0, 2, rfl, by decide, rfl, rfl, Or.inr ⟨RX11, (q_memN (q_t2 _ (List.mem_of_getElem? (i := 61) (by decide +kernel))) rfl)⟩⟩
theorem fl_RX7_50 : q_Fl RX7 50 0 1 := ⟨RX0, TX0, 2, rfl, by decide, rfl, rfl, Or.inr ⟨RX11, (q_memN (q_t2 _ (List.mem_of_getElem? (i := 62) (by decide +kernel))) rfl)⟩⟩
theorem fl_RX2_87 : q_Fl RX2 87 0 1 := ⟨RX0, TX0, 2, rfl, by decide, rfl, rfl, Or.inr ⟨RX11, (q_memN (q_t2 _ (List.mem_of_getElem? (i := 63) (by decide +kernel))) rfl)⟩⟩
theorem fl_RX11_91 : q_Fl RX11 91 0 1 := ⟨RX0, TX0, 2, rfl, by decide, rfl, rfl, Or.inr ⟨RX11, (q_memN (q_t2 _ (List.mem_of_getElem? (i := 64) (by decide +kernel))) rfl)⟩⟩
theorem fl_RX3_157 : q_Fl RX3 157 0 1 := ⟨RX0, TX0, 2, rfl, by decide, rfl, rfl, Or.inr ⟨RX11, (q_memN (q_t2 _ (List.mem_of_getElem? (i := 65) (by decide +kernel))) rfl)⟩⟩
theorem fl_RX1_9 : q_Fl RX1 9 1 0 := ⟨RX1, TX1, 3, rfl, by decide, rfl, rfl, Or.inl (q_mem (q_t2 _ (List.mem_of_getElem? (i := 76) (by decide +kernel))) rfl)⟩
theorem fl_RX11_330 : q_Fl RX11 330 1 0 := ⟨RX1, TX1, 3, rfl, by decide, rfl, rfl, Or.inr ⟨RX11, (q_memN (q_t2 _ (List.mem_of_getElem? (i := 77) (by decide +kernel))) rfl)⟩⟩
theorem fl_RX1_15 : q_Fl RX1 15 1 1 := ⟨RX1, TX1, 3, rfl, by decide, rfl, rfl, Or.inl (q_mem (q_t2 _ (List.mem_of_getElem? (i := 78) (by decide +kernel))) rfl)⟩
theorem fl_RX1_18 : q_Fl RX1 18 1 2 := ⟨RX1, TX1, 3, rfl, by decide, rfl, rfl, Or.inl (q_mem (q_t2 _ (List.mem_of_getElem? (i := 79) (by decide +kernel))) rfl)⟩
theorem fl_RX7_14 : q_Fl RX7 14 7 0 := ⟨RX7, TX7, 9, rfl, by decide, rfl, rfl, Or.inl (q_mem (q_t2 _ (List.mem_of_getElem? (i := 94) (by decide +kernel))) rfl)⟩
theorem fl_RX4_91 : q_Fl RX4 91 7 0 := ⟨RX7, TX7, 9, rfl, by decide, rfl, rfl, Or.inr ⟨RX11, (q_memN (q_t2 _ (List.mem_of_getElem? (i := 95) (by decide +kernel))) rfl)⟩⟩
theorem fl_RX8_101 : q_Fl RX8 101 7 0 := ⟨RX7, TX7, 9, rfl, by decide, rfl, rfl, Or.inr ⟨RX11, (q_memN (q_t2 _ (List.mem_of_getElem? (i := 96) (by decide +kernel))) rfl)⟩⟩
theorem fl_RX7_20 : q_Fl RX7 20 7 1 := ⟨RX7, TX7, 9, rfl, by decide, rfl, rfl, Or.inl (q_mem (q_t2 _ (List.mem_of_getElem? (i := 97) (by decide +kernel))) rfl)⟩
theorem fl_RX4_97 : q_Fl RX4 97 7 1 := ⟨RX7, TX7, 9, rfl, by decide, rfl, rfl, Or.inr ⟨RX11, (q_memN (q_t2 _ (List.mem_of_getElem? (i := 98) (by decide +kernel))) rfl)⟩⟩
theorem fl_RX8_107 : q_Fl RX8 107 7 1 := ⟨RX7, TX7, 9, rfl, by decide, rfl, rfl, Or.inr ⟨RX11, (q_memN (q_t2 _ (List.mem_of_getElem? (i := 99) (by decide +kernel))) rfl)⟩⟩
theorem fl_RX7_23 : q_Fl RX7 23 7 2 := ⟨RX7, TX7, 9, rfl, by decide, rfl, rfl, Or.inl (q_mem (q_t2 _ (List.mem_of_getElem? (i := 100) (by decide +kernel))) rfl)⟩
theorem fl_RX3_185 : q_Fl RX3 185 7 2 := ⟨RX7, TX7, 9, rfl, by decide, rfl, rfl, Or.inr ⟨RX11, (q_memN (q_t2 _ (List.mem_of_getElem? (i := 101) (by decide +kernel))) rfl)⟩⟩
theorem fl_RX11_285 : q_Fl RX11 285 7 2 := ⟨RX7, TX7, 9, rfl, by decide, rfl, rfl, Or.inr ⟨RX11, (q_memN (q_t2 _ (List.mem_of_getElem? (i := 102) (by decide +kernel))) rfl)⟩⟩
theorem fl_RX7_27 : q_Fl RX7 27 7 3 := ⟨RX7, TX7, 9, rfl, by decide, rfl, rfl, Or.inl (q_mem (q_t2 _ (List.mem_of_getElem? (i := 103) (by decide +kernel))) rfl)⟩
theorem fl_RX4_88 : q_Fl RX4 88 7 3 := ⟨RX7, TX7, 9, rfl, by decide, rfl, rfl, Or.inr ⟨RX11, (q_memN (q_t2 _ (List.mem_of_getElem? (i := 104) (by decide +kernel))) rfl)⟩⟩
theorem fl_RX8_98 : q_Fl RX8 98 7 3 := ⟨RX7, TX7, 9, rfl, by decide, rfl, rfl, Or.inr ⟨RX11, (q_memN (q_t2 _ (List.mem_of_getElem? (i := 105) (by decide +kernel))) rfl)⟩⟩
theorem fl_RX3_191 : q_Fl RX3 191 7 3 := ⟨RX7, TX7, 9, rfl, by decide, rfl, rfl, Or.inr ⟨RX11, (q_memN (q_t2 _ (List.mem_of_getElem? (i := 106) (by decide +kernel))) rfl)⟩⟩
theorem fl_RX7_31 : q_Fl RX7 31 7 4 := ⟨RX7, TX7, 9, rfl, by decide, rfl, rfl, Or.inl (q_mem (q_t2 _ (List.mem_of_getElem? (i := 107) (by decide +kernel))) rfl)⟩
theorem fl_RX4_85 : q_Fl RX4 85 7 4 := ⟨RX7, TX7, 9, rfl, by decide, rfl, rfl, Or.inr ⟨RX11, (q_memN (q_t2 _ (List.mem_of_getElem? (i := 108) (by decide +kernel))) rfl)⟩⟩
theorem fl_RX8_92 : q_Fl RX8 92 7 4 := ⟨RX7, TX7, 9, rfl, by decide, rfl, rfl, Or.inr ⟨RX11, (q_memN (q_t2 _ (List.mem_of_getElem? (i := 109) (by decide +kernel))) rfl)⟩⟩
theorem fl_RX3_194 : q_Fl RX3 194 7 4 := ⟨RX7, TX7, 9, rfl, by decide, rfl, rfl, Or.inr ⟨RX11, (q_memN (q_t2 _ (List.mem_of_getElem? (i := 110) (by decide +kernel))) rfl)⟩⟩
theorem fl_RX11_158 : q_Fl RX11 158 7 4 := ⟨RX7, TX7, 9, rfl, by decide, rfl, rfl, Or.inr ⟨RX11, (q_memN (q_t2 _ (List.mem_of_getElem? (i := 111) (by decide +kernel))) rfl)⟩⟩
theorem fl_RX7_34 : q_Fl RX7 34 7 5 := ⟨RX7, TX7, 9, rfl, by decide, rfl, rfl, Or.inl (q_mem (q_t2 _ (List.mem_of_getElem? (i := 112) (by decide +kernel))) rfl)⟩
theorem fl_RX3_197 : q_Fl RX3 197 7 5 := ⟨RX7, TX7, 9, rfl, by decide, rfl, rfl, Or.inr ⟨RX11, (q_memN (q_t2 _ (List.mem_of_getElem? (i := 113) (by decide +kernel))) rfl)⟩⟩
theorem fl_RX11_289 : q_Fl RX11 289 7 5 := ⟨RX7, TX7, 9, rfl, by decide, rfl, rfl, Or.inr ⟨RX11, (q_memN (q_t2 _ (List.mem_of_getElem? (i := 114) (by decide +kernel))) rfl)⟩⟩
theorem fl_RX7_37 : q_Fl RX7 37 7 6 := ⟨RX7, TX7, 9, rfl, by decide, rfl, rfl, Or.inl (q_mem (q_t2 _ (List.mem_of_getElem? (i := 115) (by decide +kernel))) rfl)⟩
theorem fl_RX3_200 : q_Fl RX3 200 7 6 := ⟨RX7, TX7, 9, rfl, by decide, rfl, rfl, Or.inr ⟨RX11, (q_memN (q_t2 _ (List.mem_of_getElem? (i := 116) (by decide +kernel))) rfl)⟩⟩
theorem fl_RX11_292 : q_Fl RX11 292 7 6 := ⟨RX7, TX7, 9, rfl, by decide, rfl, rfl, Or.inr ⟨RX11, (q_memN (q_t2 _ (List.mem_of_getElem? (i := 117) (by decide +kernel))) rfl)⟩⟩
theorem fl_RX7_40 : q_Fl RX7 40 7 7 := ⟨RX7, TX7, 9, rfl, by decide, rfl, rfl, Or.inl (q_mem (q_t2 _ (List.mem_of_getElem? (i := 118) (by decide +kernel))) rfl)⟩
theorem fl_RX3_203 : q_Fl RX3 203 7 7 := ⟨RX7, TX7, 9, rfl, by decide, rfl, rfl, Or.inr ⟨RX11, (q_memN (q_t2 _ (List.mem_of_getElem? (i := 119) (by decide +kernel))) rfl)⟩⟩
theorem fl_RX7_43 : q_Fl RX7 43 7 8 := ⟨RX7, TX7, 9, rfl, by decide, rfl, rfl, Or.inl (q_mem (q_t2 _ (List.mem_of_getElem? (i := 120) (by decide +kernel))) rfl)⟩
theorem fl_RX3_206 : q_Fl RX3 206 7 8 := ⟨RX7, TX7, 9, rfl, by decide, rfl, rfl, Or.inr ⟨RX11, (q_memN (q_t2 _ (List.mem_of_getElem? (i := 121) (by decide +kernel))) rfl)⟩⟩
theorem fl_RX10_11 : q_Fl RX10 11 10 0 := ⟨RX10, TX10, 15, rfl, by decide, rfl, rfl, Or.inl (q_mem (q_t2 _ (List.mem_of_getElem? (i := 141) (by decide +kernel))) rfl)⟩
theorem fl_RX10_19 : q_Fl RX10 19 10 1 := ⟨RX10, TX10, 15, rfl, by decide, rfl, rfl, Or.inl (q_mem (q_t2 _ (List.mem_of_getElem? (i := 142) (by decide +kernel))) rfl)⟩
theorem fl_RX10_25 : q_Fl RX10 25 10 2 := ⟨RX10, TX10, 15, rfl, by decide, rfl, rfl, Or.inl (q_mem (q_t2 _ (List.mem_of_getElem? (i := 143) (by decide +kernel))) rfl)⟩
theorem fl_RX10_34 : q_Fl RX10 34 10 3 := ⟨RX10, TX10, 15, rfl, by decide, rfl, rfl, Or.inl (q_mem (q_t2 _ (List.mem_of_getElem? (i := 144) (by decide +kernel))) rfl)⟩
theorem fl_RX8_122 : q_Fl RX8 122 10 3 := ⟨RX10, TX10, 15, rfl, by decide, rfl, rfl, Or.inr ⟨RX11, (q_memN (q_t2 _ (List.mem_of_getElem? (i := 145) (by decide +kernel))) rfl)⟩⟩
theorem fl_RX10_38 : q_Fl RX10 38 10 4 := ⟨RX10, TX10, 15, rfl, by decide, rfl, rfl, Or.inl (q_mem (q_t2 _ (List.mem_of_getElem? (i := 146) (by decide +kernel))) rfl)⟩
theorem fl_RX8_113 : q_Fl RX8 113 10 4 := ⟨RX10, TX10, 15, rfl, by decide, rfl, rfl, Or.inr ⟨RX11, (q_memN (q_t2 _ (List.mem_of_getElem? (i := 147) (by decide +kernel))) rfl)⟩⟩
theorem fl_RX10_41 : q_Fl RX10 41 10 5 := ⟨RX10, TX10, 15, rfl, by decide, rfl, rfl, Or.inl (q_mem (q_t2 _ (List.mem_of_getElem? (i := 148) (by decide +kernel))) rfl)⟩
theorem fl_RX8_125 : q_Fl RX8 125 10 5 := ⟨RX10, TX10, 15, rfl, by decide, rfl, rfl, Or.inr ⟨RX11, (q_memN (q_t2 _ (List.mem_of_getElem? (i := 149) (by decide +kernel))) rfl)⟩⟩
theorem fl_RX10_44 : q_Fl RX10 44 10 6 := ⟨RX10, TX10, 15, rfl, by decide, rfl, rfl, Or.inl (q_mem (q_t2 _ (List.mem_of_getElem? (i := 150) (by decide +kernel))) rfl)⟩
theorem fl_RX8_110 : q_Fl RX8 110 10 6 := ⟨RX10, TX10, 15, rfl, by decide, rfl, rfl, Or.inr ⟨RX11, (q_memN (q_t2 _ (List.mem_of_getElem? (i := 151) (by decide +kernel))) rfl)⟩⟩
theorem fl_RX10_47 : q_Fl RX10 47 10 7 := ⟨RX10, TX10, 15, rfl, by decide, rfl, rfl, Or.inl (q_mem (q_t2 _ (List.mem_of_getElem? (i := 152) (by decide +kernel))) rfl)⟩
theorem fl_RX2_32 : q_Fl RX2 32 10 7 := ⟨RX10, TX10, 15, rfl, by decide, rfl, rfl, Or.inr ⟨RX11, (q_memN (q_t2 _ (List.mem_of_getElem? (i := 153) (by decide +kernel))) rfl)⟩⟩
theorem fl_RX3_131 : q_Fl RX3 131 10 7 := ⟨RX10, TX10, 15, rfl, by decide, rfl, rfl, Or.inr ⟨RX11, (q_memN (q_t2 _ (List.mem_of_getElem? (i := 154) (by decide +kernel))) rfl)⟩⟩
theorem fl_RX11_362 : q_Fl RX11 362 10 7 := ⟨RX10, TX10, 15, rfl, by decide, rfl, rfl, Or.inr ⟨RX11, (q_memN (q_t2 _ (List.mem_of_getElem? (i := 155) (by decide +kernel))) rfl)⟩⟩
theorem fl_RX10_51 : q_Fl RX10 51 10 8 := ⟨RX10, TX10, 15, rfl, by decide, rfl, rfl, Or.inl (q_mem (q_t2 _ (List.mem_of_getElem? (i := 156) (by decide +kernel))) rfl)⟩
theorem fl_RX3_164 : q_Fl RX3 164 10 8 := ⟨RX10, TX10, 15, rfl, by decide, rfl, rfl, Or.inr ⟨RX11, (q_memN (q_t2 _ (List.mem_of_getElem? (i := 157) (by decide +kernel))) rfl)⟩⟩
theorem fl_RX11_342 : q_Fl RX11 342 10 8 := ⟨RX10, TX10, 15, rfl, by decide, rfl, rfl, Or.inr ⟨RX11, (q_memN (q_t2 _ (List.mem_of_getElem? (i := 158) (by decide +kernel))) rfl)⟩⟩
theorem fl_RX10_54 : q_Fl RX10 54 10 9 := ⟨RX10, TX10, 15, rfl, by decide, rfl, rfl, Or.inl (q_mem (q_t2 _ (List.mem_of_getElem? (i := 159) (by decide +kernel))) rfl)⟩
theorem fl_RX8_45 : q_Fl RX8 45 10 9 := ⟨RX10, TX10, 15, rfl, by decide, rfl, rfl, Or.inr ⟨RX11, (q_memN (q_t2 _ (List.mem_of_getElem? (i := 160) (by decide +kernel))) rfl)⟩⟩
theorem fl_RX4_118 : q_Fl RX4 118 10 9 := ⟨RX10, TX10, 15, rfl, by decide, rfl, rfl, Or.inr ⟨RX11, (q_memN (q_t2 _ (List.mem_of_getElem? (i := 161) (by decide +kernel))) rfl)⟩⟩
theorem fl_RX3_178 : q_Fl RX3 178 10 9 := ⟨RX10, TX10, 15, rfl, by decide, rfl, rfl, Or.inr ⟨RX11, (q_memN (q_t2 _ (List.mem_of_getElem? (i := 162) (by decide +kernel))) rfl)⟩⟩
theorem fl_RX11_268 : q_Fl RX11 268 10 9 := ⟨RX10, TX10, 15, rfl, by decide, rfl, rfl, Or.inr ⟨RX11, (q_memN (q_t2 _ (List.mem_of_getElem? (i := 163) (by decide +kernel))) rfl)⟩⟩
theorem fl_RX10_57 : q_Fl RX10 57 10 10 := ⟨RX10, TX10, 15, rfl, by decide, rfl, rfl, Or.inl (q_mem (q_t2 _ (List.mem_of_getElem? (i := 164) (by decide +kernel))) rfl)⟩
theorem fl_RX3_223 : q_Fl RX3 223 10 10 := ⟨RX10, TX10, 15, rfl, by decide, rfl, rfl, Or.inr ⟨RX11, (q_memN (q_t2 _ (List.mem_of_getElem? (i := 165) (by decide +kernel))) rfl)⟩⟩
theorem fl_RX11_365 : q_Fl RX11 365 10 10 := ⟨RX10, TX10, 15, rfl, by decide, rfl, rfl, Or.inr ⟨RX11, (q_memN (q_t2 _ (List.mem_of_getElem? (i := 166) (by decide +kernel))) rfl)⟩⟩
theorem fl_RX10_60 : q_Fl RX10 60 10 11 := ⟨RX10, TX10, 15, rfl, by decide, rfl, rfl, Or.inl (q_mem (q_t2 _ (List.mem_of_getElem? (i := 167) (by decide +kernel))) rfl)⟩
theorem fl_RX8_56 : q_Fl RX8 56 10 11 := ⟨RX10, TX10, 15, rfl, by decide, rfl, rfl, Or.inr ⟨RX11, (q_memN (q_t2 _ (List.mem_of_getElem? (i := 168) (by decide +kernel))) rfl)⟩⟩
theorem fl_RX11_368 : q_Fl RX11 368 10 11 := ⟨RX10, TX10, 15, rfl, by decide, rfl, rfl, Or.inr ⟨RX11, (q_memN (q_t2 _ (List.mem_of_getElem? (i := 169) (by decide +kernel))) rfl)⟩⟩
theorem fl_RX10_63 : q_Fl RX10 63 10 12 := ⟨RX10, TX10, 15, rfl, by decide, rfl, rfl, Or.inl (q_mem (q_t2 _ (List.mem_of_getElem? (i := 170) (by decide +kernel))) rfl)⟩
theorem fl_RX3_103 : q_Fl RX3 103 10 12 := ⟨RX10, TX10, 15, rfl, by decide, rfl, rfl, Or.inr ⟨RX11, (q_memN (q_t2 _ (List.mem_of_getElem? (i := 171) (by decide +kernel))) rfl)⟩⟩
theorem fl_RX8_39 : q_Fl RX8 39 10 12 := ⟨RX10, TX10, 15, rfl, by decide, rfl, rfl, Or.inr ⟨RX11, (q_memN (q_t2 _ (List.mem_of_getElem? (i := 172) (by decide +kernel))) rfl)⟩⟩
theorem fl_RX11_175 : q_Fl RX11 175 10 12 := ⟨RX10, TX10, 15, rfl, by decide, rfl, rfl, Or.inr ⟨RX11, (q_memN (q_t2 _ (List.mem_of_getElem? (i := 173) (by decide +kernel))) rfl)⟩⟩
theorem fl_RX10_66 : q_Fl RX10 66 10 13 := ⟨RX10, TX10, 15, rfl, by decide, rfl, rfl, Or.inl (q_mem (q_t2 _ (List.mem_of_getElem? (i := 174) (by decide +kernel))) rfl)⟩
theorem fl_RX3_97 : q_Fl RX3 97 10 13 := ⟨RX10, TX10, 15, rfl, by decide, rfl, rfl, Or.inr ⟨RX11, (q_memN (q_t2 _ (List.mem_of_getElem? (i := 175) (by decide +kernel))) rfl)⟩⟩
theorem fl_RX8_63 : q_Fl RX8 63 10 13 := ⟨RX10, TX10, 15, rfl, by decide, rfl, rfl, Or.inr ⟨RX11, (q_memN (q_t2 _ (List.mem_of_getElem? (i := 176) (by decide +kernel))) rfl)⟩⟩
theorem fl_RX11_371 : q_Fl RX11 371 10 13 := ⟨RX10, TX10, 15, rfl, by decide, rfl, rfl, Or.inr ⟨RX11, (q_memN (q_t2 _ (List.mem_of_getElem? (i := 177) (by decide +kernel))) rfl)⟩⟩
theorem fl_RX10_69 : q_Fl RX10 69 10 14 := ⟨RX10, TX10, 15, rfl, by decide, rfl, rfl, Or.inl (q_mem (q_t2 _ (List.mem_of_getElem? (i := 178) (by decide +kernel))) rfl)⟩
theorem fl_RX3_100 : q_Fl RX3 100 10 14 := ⟨RX10, TX10, 15, rfl, by decide, rfl, rfl, Or.inr ⟨RX11, (q_memN (q_t2 _ (List.mem_of_getElem? (i := 179) (by decide +kernel))) rfl)⟩⟩
theorem fl_RX8_66 : q_Fl RX8 66 10 14 := ⟨RX10, TX10, 15, rfl, by decide, rfl, rfl, Or.inr ⟨RX11, (q_memN (q_t2 _ (List.mem_of_getElem? (i := 180) (by decide +kernel))) rfl)⟩⟩
theorem fl_RX11_10 : q_Fl RX11 10 11 0 := ⟨RX11, TX11, 10, rfl, by decide, rfl, rfl, Or.inl (q_mem (q_t2 _ (List.mem_of_getElem? (i := 212) (by decide +kernel))) rfl)⟩
theorem fl_RX11_19 : q_Fl RX11 19 11 1 := ⟨RX11, TX11, 10, rfl, by decide, rfl, rfl, Or.inl (q_mem (q_t2 _ (List.mem_of_getElem? (i := 213) (by decide +kernel))) rfl)⟩
theorem fl_RX11_23 : q_Fl RX11 23 11 2 := ⟨RX11, TX11, 10, rfl, by decide, rfl, rfl, Or.inl (q_mem (q_t2 _ (List.mem_of_getElem? (i := 214) (by decide +kernel))) rfl)⟩
theorem fl_RX11_30 : q_Fl RX11 30 11 3 := ⟨RX11, TX11, 10, rfl, by decide, rfl, rfl, Or.inl (q_mem (q_t2 _ (List.mem_of_getElem? (i := 215) (by decide +kernel))) rfl)⟩
theorem fl_RX11_37 : q_Fl RX11 37 11 4 := ⟨RX11, TX11, 10, rfl, by decide, rfl, rfl, Or.inl (q_mem (q_t2 _ (List.mem_of_getElem? (i := 216) (by decide +kernel))) rfl)⟩
theorem fl_RX11_44 : q_Fl RX11 44 11 5 := ⟨RX11, TX11, 10, rfl, by decide, rfl, rfl, Or.inl (q_mem (q_t2 _ (List.mem_of_getElem? (i := 217) (by decide +kernel))) rfl)⟩
theorem fl_RX11_51 : q_Fl RX11 51 11 6 := ⟨RX11, TX11, 10, rfl, by decide, rfl, rfl, Or.inl (q_mem (q_t2 _ (List.mem_of_getElem? (i := 218) (by decide +kernel))) rfl)⟩
theorem fl_RX11_55 : q_Fl RX11 55 11 7 := ⟨RX11, TX11, 10, rfl, by decide, rfl, rfl, Or.inl (q_mem (q_t2 _ (List.mem_of_getElem? (i := 219) (by decide +kernel))) rfl)⟩
theorem fl_RX11_58 : q_Fl RX11 58 11 8 := ⟨RX11, TX11, 10, rfl, by decide, rfl, rfl, Or.inl (q_mem (q_t2 _ (List.mem_of_getElem? (i := 220) (by decide +kernel))) rfl)⟩
theorem fl_RX11_62 : q_Fl RX11 62 11 9 := ⟨RX11, TX11, 10, rfl, by decide, rfl, rfl, Or.inl (q_mem (q_t2 _ (List.mem_of_getElem? (i := 221) (by decide +kernel))) rfl)⟩
theorem fl_RX12_13 : q_Fl RX12 13 12 1 := ⟨RX12, TX12, 67, rfl, by decide, rfl, rfl, Or.inl (q_mem (q_t6 _ (List.mem_of_getElem? (i := 143) (by decide +kernel))) rfl)⟩
theorem fl_RX12_174 : q_Fl RX12 174 12 2 := ⟨RX12, TX12, 67, rfl, by decide, rfl, rfl, Or.inl (q_mem (q_t6 _ (List.mem_of_getElem? (i := 144) (by decide +kernel))) rfl)⟩
theorem fl_RX12_17 : q_Fl RX12 17 12 3 := ⟨RX12, TX12, 67, rfl, by decide, rfl, rfl, Or.inl (q_mem (q_t6 _ (List.mem_of_getElem? (i := 145) (by decide +kernel))) rfl)⟩
theorem fl_RX12_181 : q_Fl RX12 181 12 4 := ⟨RX12, TX12, 67, rfl, by decide, rfl, rfl, Or.inl (q_mem (q_t6 _ (List.mem_of_getElem? (i := 146) (by decide +kernel))) rfl)⟩
theorem fl_RX12_20 : q_Fl RX12 20 12 5 := ⟨RX12, TX12, 67, rfl, by decide, rfl, rfl, Or.inl (q_mem (q_t6 _ (List.mem_of_getElem? (i := 147) (by decide +kernel))) rfl)⟩
theorem fl_RX12_24 : q_Fl RX12 24 12 6 := ⟨RX12, TX12, 67, rfl, by decide, rfl, rfl, Or.inl (q_mem (q_t6 _ (List.mem_of_getElem? (i := 148) (by decide +kernel))) rfl)⟩
theorem fl_RX12_27 : q_Fl RX12 27 12 7 := ⟨RX12, TX12, 67, rfl, by decide, rfl, rfl, Or.inl (q_mem (q_t6 _ (List.mem_of_getElem? (i := 149) (by decide +kernel))) rfl)⟩
theorem fl_RX12_30 : q_Fl RX12 30 12 8 := ⟨RX12, TX12, 67, rfl, by decide, rfl, rfl, Or.inl (q_mem (q_t6 _ (List.mem_of_getElem? (i := 150) (by decide +kernel))) rfl)⟩
theorem fl_RX12_34 : q_Fl RX12 34 12 9 := ⟨RX12, TX12, 67, rfl, by decide, rfl, rfl, Or.inl (q_mem (q_t6 _ (List.mem_of_getElem? (i := 151) (by decide +kernel))) rfl)⟩
theorem fl_RX12_190 : q_Fl RX12 190 12 10 := ⟨RX12, TX12, 67, rfl, by decide, rfl, rfl, Or.inl (q_mem (q_t6 _ (List.mem_of_getElem? (i := 152) (by decide +kernel))) rfl)⟩
theorem fl_RX12_215 : q_Fl RX12 215 12 11 := ⟨RX12, TX12, 67, rfl, by decide, rfl, rfl, Or.inl (q_mem (q_t6 _ (List.mem_of_getElem? (i := 153) (by decide +kernel))) rfl)⟩
theorem fl_RX12_239 : q_Fl RX12 239 12 12 := ⟨RX12, TX12, 67, rfl, by decide, rfl, rfl, Or.inl (q_mem (q_t6 _ (List.mem_of_getElem? (i := 154) (by decide +kernel))) rfl)⟩
theorem fl_RX12_212 : q_Fl RX12 212 12 13 := ⟨RX12, TX12, 67, rfl, by decide, rfl, rfl, Or.inl (q_mem (q_t6 _ (List.mem_of_getElem? (i := 155) (by decide +kernel))) rfl)⟩
theorem fl_RX12_218 : q_Fl RX12 218 12 14 := ⟨RX12, TX12, 67, rfl, by decide, rfl, rfl, Or.inl (q_mem (q_t6 _ (List.mem_of_getElem? (i := 156) (by decide +kernel))) rfl)⟩
theorem fl_RX12_221 : q_Fl RX12 221 12 15 := ⟨RX12, TX12, 67, rfl, by decide, rfl, rfl, Or.inl (q_mem (q_t6 _ (List.mem_of_getElem? (i := 157) (by decide +kernel))) rfl)⟩
theorem fl_RX12_224 : q_Fl RX12 224 12 16 := ⟨RX12, TX12, 67, rfl, by decide, rfl, rfl, Or.inl (q_mem (q_t6 _ (List.mem_of_getElem? (i := 158) (by decide +kernel))) rfl)⟩
theorem fl_RX12_37 : q_Fl RX12 37 12 17 := ⟨RX12, TX12, 67, rfl, by decide, rfl, rfl, Or.inl (q_mem (q_t6 _ (List.mem_of_getElem? (i := 159) (by decide +kernel))) rfl)⟩
theorem fl_RX12_242 : q_Fl RX12 242 12 18 := ⟨RX12, TX12, 67, rfl, by decide, rfl, rfl, Or.inl (q_mem (q_t6 _ (List.mem_of_getElem? (i := 160) (by decide +kernel))) rfl)⟩
theorem fl_RX12_245 : q_Fl RX12 245 12 19 := ⟨RX12, TX12, 67, rfl, by decide, rfl, rfl, Or.inl (q_mem (q_t6 _ (List.mem_of_getElem? (i := 161) (by decide +kernel))) rfl)⟩
theorem fl_RX12_248 : q_Fl RX12 248 12 20 := ⟨RX12, TX12, 67, rfl, by decide, rfl, rfl, Or.inl (q_mem (q_t6 _ (List.mem_of_getElem? (i := 162) (by decide +kernel))) rfl)⟩
theorem fl_RX12_40 : q_Fl RX12 40 12 21 := ⟨RX12, TX12, 67, rfl, by decide, rfl, rfl, Or.inl (q_mem (q_t6 _ (List.mem_of_getElem? (i := 163) (by decide +kernel))) rfl)⟩
theorem fl_RX12_43 : q_Fl RX12 43 12 22 := ⟨RX12, TX12, 67, rfl, by decide, rfl, rfl, Or.inl (q_mem (q_t6 _ (List.mem_of_getElem? (i := 164) (by decide +kernel))) rfl)⟩
theorem fl_RX12_46 : q_Fl RX12 46 12 23 := ⟨RX12, TX12, 67, rfl, by decide, rfl, rfl, Or.inl (q_mem (q_t6 _ (List.mem_of_getElem? (i := 165) (by decide +kernel))) rfl)⟩
theorem fl_RX12_49 : q_Fl RX12 49 12 24 := ⟨RX12, TX12, 67, rfl, by decide, rfl, rfl, Or.inl (q_mem (q_t6 _ (List.mem_of_getElem? (i := 166) (by decide +kernel))) rfl)⟩
theorem fl_RX12_52 : q_Fl RX12 52 12 25 := ⟨RX12, TX12, 67, rfl, by decide, rfl, rfl, Or.inl (q_mem (q_t6 _ (List.mem_of_getElem? (i := 167) (by decide +kernel))) rfl)⟩
theorem fl_RX12_55 : q_Fl RX12 55 12 26 := ⟨RX12, TX12, 67, rfl, by decide, rfl, rfl, Or.inl (q_mem (q_t6 _ (List.mem_of_getElem? (i := 168) (by decide +kernel))) rfl)⟩
theorem fl_RX12_58 : q_Fl RX12 58 12 27 := ⟨RX12, TX12, 67, rfl, by decide, rfl, rfl, Or.inl (q_mem (q_t6 _ (List.mem_of_getElem? (i := 169) (by decide +kernel))) rfl)⟩
theorem fl_RX12_61 : q_Fl RX12 61 12 28 := ⟨RX12, TX12, 67, rfl, by decide, rfl, rfl, Or.inl (q_mem (q_t6 _ (List.mem_of_getElem? (i := 170) (by decide +kernel))) rfl)⟩
theorem fl_RX12_64 : q_Fl RX12 64 12 29 := ⟨RX12, TX12, 67, rfl, by decide, rfl, rfl, Or.inl (q_mem (q_t6 _ (List.mem_of_getElem? (i := 171) (by decide +kernel))) rfl)⟩
theorem fl_RX12_67 : q_Fl RX12 67 12 30 := ⟨RX12, TX12, 67, rfl, by decide, rfl, rfl, Or.inl (q_mem (q_t6 _ (List.mem_of_getElem? (i := 172) (by decide +kernel))) rfl)⟩
theorem fl_RX12_70 : q_Fl RX12 70 12 31 := ⟨RX12, TX12, 67, rfl, by decide, rfl, rfl, Or.inl (q_mem (q_t6 _ (List.mem_of_getElem? (i := 173) (by decide +kernel))) rfl)⟩
theorem fl_RX12_73 : q_Fl RX12 73 12 32 := ⟨RX12, TX12, 67, rfl, by decide, rfl, rfl, Or.inl (q_mem (q_t6 _ (List.mem_of_getElem? (i := 174) (by decide +kernel))) rfl)⟩
theorem fl_RX12_76 : q_Fl RX12 76 12 33 := ⟨RX12, TX12, 67, rfl, by decide, rfl, rfl, Or.inl (q_mem (q_t6 _ (List.mem_of_getElem? (i := 175) (by decide +kernel))) rfl)⟩
theorem fl_RX12_79 : q_Fl RX12 79 12 34 := ⟨RX12, TX12, 67, rfl, by decide, rfl, rfl, Or.inl (q_mem (q_t6 _ (List.mem_of_getElem? (i := 176) (by decide +kernel))) rfl)⟩
theorem fl_RX12_82 : q_Fl RX12 82 12 35 := ⟨RX12, TX12, 67, rfl, by decide, rfl, rfl, Or.inl (q_mem (q_t6 _ (List.mem_of_getElem? (i := 177) (by decide +kernel))) rfl)⟩
theorem fl_RX12_85 : q_Fl RX12 85 12 36 := ⟨RX12, TX12, 67, rfl, by decide, rfl, rfl, Or.inl (q_mem (q_t6 _ (List.mem_of_getElem? (i := 178) (by decide +kernel))) rfl)⟩
theorem fl_RX12_88 : q_Fl RX12 88 12 37 := ⟨RX12, TX12, 67, rfl, by decide, rfl, rfl, Or.inl (q_mem (q_t6 _ (List.mem_of_getElem? (i := 179) (by decide +kernel))) rfl)⟩
theorem fl_RX12_91 : q_Fl RX12 91 12 38 := ⟨RX12, TX12, 67, rfl, by decide, rfl, rfl, Or.inl (q_mem (q_t6 _ (List.mem_of_getElem? (i := 180) (by decide +kernel))) rfl)⟩
theorem fl_RX12_94 : q_Fl RX12 94 12 39 := ⟨RX12, TX12, 67, rfl, by decide, rfl, rfl, Or.inl (q_mem (q_t6 _ (List.mem_of_getElem? (i := 181) (by decide +kernel))) rfl)⟩
theorem fl_RX12_97 : q_Fl RX12 97 12 40 := ⟨RX12, TX12, 67, rfl, by decide, rfl, rfl, Or.inl (q_mem (q_t6 _ (List.mem_of_getElem? (i := 182) (by decide +kernel))) rfl)⟩
theorem fl_RX12_100 : q_Fl RX12 100 12 41 := ⟨RX12, TX12, 67, rfl, by decide, rfl, rfl, Or.inl (q_mem (q_t6 _ (List.mem_of_getElem? (i := 183) (by decide +kernel))) rfl)⟩
theorem fl_RX12_103 : q_Fl RX12 103 12 42 := ⟨RX12, TX12, 67, rfl, by decide, rfl, rfl, Or.inl (q_mem (q_t6 _ (List.mem_of_getElem? (i := 184) (by decide +kernel))) rfl)⟩
theorem fl_RX12_106 : q_Fl RX12 106 12 43 := ⟨RX12, TX12, 67, rfl, by decide, rfl, rfl, Or.inl (q_mem (q_t6 _ (List.mem_of_getElem? (i := 185) (by decide +kernel))) rfl)⟩
theorem fl_RX12_109 : q_Fl RX12 109 12 44 := ⟨RX12, TX12, 67, rfl, by decide, rfl, rfl, Or.inl (q_mem (q_t6 _ (List.mem_of_getElem? (i := 186) (by decide +kernel))) rfl)⟩
theorem fl_RX12_112 : q_Fl RX12 112 12 45 := ⟨RX12, TX12, 67, rfl, by decide, rfl, rfl, Or.inl (q_mem (q_t6 _ (List.mem_of_getElem? (i := 187) (by decide +kernel))) rfl)⟩
theorem fl_RX12_115 : q_Fl RX12 115 12 46 := ⟨RX12, TX12, 67, rfl, by decide, rfl, rfl, Or.inl (q_mem (q_t6 _ (List.mem_of_getElem? (i := 188) (by decide +kernel))) rfl)⟩
theorem fl_RX12_118 : q_Fl RX12 118 12 47 := ⟨RX12, TX12, 67, rfl, by decide, rfl, rfl, Or.inl (q_mem (q_t6 _ (List.mem_of_getElem? (i := 189) (by decide +kernel))) rfl)⟩
theorem fl_RX12_121 : q_Fl RX12 121 12 48 := ⟨RX12, TX12, 67, rfl, by decide, rfl, rfl, Or.inl (q_mem (q_t6 _ (List.mem_of_getElem? (i := 190) (by decide +kernel))) rfl)⟩
theorem fl_RX12_124 : q_Fl RX12 124 12 49 := ⟨RX12, TX12, 67, rfl, by decide, rfl, rfl, Or.inl (q_mem (q_t6 _ (List.mem_of_getElem? (i := 191) (by decide +kernel))) rfl)⟩
theorem fl_RX12_286 : q_Fl RX12 286 12 50 := ⟨RX12, TX12, 67, rfl, by decide, rfl, rfl, Or.inl (q_mem (q_t6 _ (List.mem_of_getElem? (i := 192) (by decide +kernel))) rfl)⟩
theorem fl_RX12_127 : q_Fl RX12 127 12 51 := ⟨RX12, TX12, 67, rfl, by decide, rfl, rfl, Or.inl (q_mem (q_t6 _ (List.mem_of_getElem? (i := 193) (by decide +kernel))) rfl)⟩
theorem fl_RX12_130 : q_Fl RX12 130 12 52 := ⟨RX12, TX12, 67, rfl, by decide, rfl, rfl, Or.inl (q_mem (q_t6 _ (List.mem_of_getElem? (i := 194) (by decide +kernel))) rfl)⟩
theorem fl_RX12_133 : q_Fl RX12 133 12 53 := ⟨RX12, TX12, 67, rfl, by decide, rfl, rfl, Or.inl (q_mem (q_t6 _ (List.mem_of_getElem? (i := 195) (by decide +kernel))) rfl)⟩
theorem fl_RX12_136 : q_Fl RX12 136 12 54 := ⟨RX12, TX12, 67, rfl, by decide, rfl, rfl, Or.inl (q_mem (q_t6 _ (List.mem_of_getElem? (i := 196) (by decide +kernel))) rfl)⟩
theorem fl_RX12_139 : q_Fl RX12 139 12 55 := ⟨RX12, TX12, 67, rfl, by decide, rfl, rfl, Or.inl (q_mem (q_t6 _ (List.mem_of_getElem? (i := 197) (by decide +kernel))) rfl)⟩
theorem fl_RX12_142 : q_Fl RX12 142 12 56 := ⟨RX12, TX12, 67, rfl, by decide, rfl, rfl, Or.inl (q_mem (q_t6 _ (List.mem_of_getElem? (i := 198) (by decide +kernel))) rfl)⟩
theorem fl_RX12_145 : q_Fl RX12 145 12 57 := ⟨RX12, TX12, 67, rfl, by decide, rfl, rfl, Or.inl (q_mem (q_t6 _ (List.mem_of_getElem? (i := 199) (by decide +kernel))) rfl)⟩
theorem fl_RX12_148 : q_Fl RX12 148 12 58 := ⟨RX12, TX12, 67, rfl, by decide, rfl, rfl, Or.inl (q_mem (q_t6 _ (List.mem_of_getElem? (i := 200) (by decide +kernel))) rfl)⟩
theorem fl_RX12_151 : q_Fl RX12 151 12 59 := ⟨RX12, TX12, 67, rfl, by decide, rfl, rfl, Or.inl (q_mem (q_t6 _ (List.mem_of_getElem? (i := 201) (by decide +kernel))) rfl)⟩
theorem fl_RX12_418 : q_Fl RX12 418 12 60 := ⟨RX12, TX12, 67, rfl, by decide, rfl, rfl, Or.inl (q_mem (q_t6 _ (List.mem_of_getElem? (i := 202) (by decide +kernel))) rfl)⟩
theorem fl_RX12_421 : q_Fl RX12 421 12 61 := ⟨RX12, TX12, 67, rfl, by decide, rfl, rfl, Or.inl (q_mem (q_t6 _ (List.mem_of_getElem? (i := 203) (by decide +kernel))) rfl)⟩
theorem fl_RX12_155 : q_Fl RX12 155 12 62 := ⟨RX12, TX12, 67, rfl, by decide, rfl, rfl, Or.inl (q_mem (q_t6 _ (List.mem_of_getElem? (i := 204) (by decide +kernel))) rfl)⟩
theorem fl_RX12_158 : q_Fl RX12 158 12 63 := ⟨RX12, TX12, 67, rfl, by decide, rfl, rfl, Or.inl (q_mem (q_t6 _ (List.mem_of_getElem? (i := 205) (by decide +kernel))) rfl)⟩
theorem fl_RX12_161 : q_Fl RX12 161 12 64 := ⟨RX12, TX12, 67, rfl, by decide, rfl, rfl, Or.inl (q_mem (q_t6 _ (List.mem_of_getElem? (i := 206) (by decide +kernel))) rfl)⟩
theorem fl_RX12_164 : q_Fl RX12 164 12 65 := ⟨RX12, TX12, 67, rfl, by decide, rfl, rfl, Or.inl (q_mem (q_t6 _ (List.mem_of_getElem? (i := 207) (by decide +kernel))) rfl)⟩
theorem fl_RX12_167 : q_Fl RX12 167 12 66 := ⟨RX12, TX12, 67, rfl, by decide, rfl, rfl, Or.inl (q_mem (q_t6 _ (List.mem_of_getElem? (i := 208) (by decide +kernel))) rfl)⟩
theorem nf_0_1 : ∀ C T N, vwCl[0]? = some (C, T, N) → (T 1).2.2.2 = false := fun C T N h => by cases h; rfl
theorem nf_1_0 : ∀ C T N, vwCl[1]? = some (C, T, N) → (T 0).2.2.2 = false := fun C T N h => by cases h; rfl
theorem nf_1_1 : ∀ C T N, vwCl[1]? = some (C, T, N) → (T 1).2.2.2 = false := fun C T N h => by cases h; rfl
theorem nf_1_2 : ∀ C T N, vwCl[1]? = some (C, T, N) → (T 2).2.2.2 = false := fun C T N h => by cases h; rfl
theorem nf_3_4 : ∀ C T N, vwCl[3]? = some (C, T, N) → (T 4).2.2.2 = false := fun C T N h => by cases h; rfl
theorem nf_3_5 : ∀ C T N, vwCl[3]? = some (C, T, N) → (T 5).2.2.2 = false := fun C T N h => by cases h; rfl
theorem nf_3_6 : ∀ C T N, vwCl[3]? = some (C, T, N) → (T 6).2.2.2 = false := fun C T N h => by cases h; rfl
theorem nf_3_7 : ∀ C T N, vwCl[3]? = some (C, T, N) → (T 7).2.2.2 = false := fun C T N h => by cases h; rfl
theorem nf_4_4 : ∀ C T N, vwCl[4]? = some (C, T, N) → (T 4).2.2.2 = false := fun C T N h => by cases h; rfl
theorem nf_4_5 : ∀ C T N, vwCl[4]? = some (C, T, N) → (T 5).2.2.2 = false := fun C T N h => by cases h; rfl
theorem nf_6_3 : ∀ C T N, vwCl[6]? = some (C, T, N) → (T 3).2.2.2 = false := fun C T N h => by cases h; rfl
theorem nf_7_2 : ∀ C T N, vwCl[7]? = some (C, T, N) → (T 2).2.2.2 = false := fun C T N h => by cases h; rfl
theorem nf_7_3 : ∀ C T N, vwCl[7]? = some (C, T, N) → (T 3).2.2.2 = false := fun C T N h => by cases h; rfl
theorem nf_7_4 : ∀ C T N, vwCl[7]? = some (C, T, N) → (T 4).2.2.2 = false := fun C T N h => by cases h; rfl
theorem nf_7_5 : ∀ C T N, vwCl[7]? = some (C, T, N) → (T 5).2.2.2 = false := fun C T N h => by cases h; rfl
theorem nf_7_6 : ∀ C T N, vwCl[7]? = some (C, T, N) → (T 6).2.2.2 = false := fun C T N h => by cases h; rfl
theorem nf_7_7 : ∀ C T N, vwCl[7]? = some (C, T, N) → (T 7).2.2.2 = false := fun C T N h => by cases h; rfl
theorem nf_7_8 : ∀ C T N, vwCl[7]? = some (C, T, N) → (T 8).2.2.2 = false := fun C T N h => by cases h; rfl
theorem nf_8_2 : ∀ C T N, vwCl[8]? = some (C, T, N) → (T 2).2.2.2 = false := fun C T N h => by cases h; rfl
theorem nf_9_6 : ∀ C T N, vwCl[9]? = some (C, T, N) → (T 6).2.2.2 = false := fun C T N h => by cases h; rfl
theorem nf_9_7 : ∀ C T N, vwCl[9]? = some (C, T, N) → (T 7).2.2.2 = false := fun C T N h => by cases h; rfl
theorem nf_9_8 : ∀ C T N, vwCl[9]? = some (C, T, N) → (T 8).2.2.2 = false := fun C T N h => by cases h; rfl
theorem nf_9_9 : ∀ C T N, vwCl[9]? = some (C, T, N) → (T 9).2.2.2 = false := fun C T N h => by cases h; rfl
theorem nf_10_7 : ∀ C T N, vwCl[10]? = some (C, T, N) → (T 7).2.2.2 = false := fun C T N h => by cases h; rfl
theorem nf_10_8 : ∀ C T N, vwCl[10]? = some (C, T, N) → (T 8).2.2.2 = false := fun C T N h => by cases h; rfl
theorem nf_10_9 : ∀ C T N, vwCl[10]? = some (C, T, N) → (T 9).2.2.2 = false := fun C T N h => by cases h; rfl
theorem nf_10_10 : ∀ C T N, vwCl[10]? = some (C, T, N) → (T 10).2.2.2 = false := fun C T N h => by cases h; rfl
theorem nf_10_11 : ∀ C T N, vwCl[10]? = some (C, T, N) → (T 11).2.2.2 = false := fun C T N h => by cases h; rfl
theorem nf_10_12 : ∀ C T N, vwCl[10]? = some (C, T, N) → (T 12).2.2.2 = false := fun C T N h => by cases h; rfl
theorem nf_10_13 : ∀ C T N, vwCl[10]? = some (C, T, N) → (T 13).2.2.2 = false := fun C T N h => by cases h; rfl
theorem nf_10_14 : ∀ C T N, vwCl[10]? = some (C, T, N) → (T 14).2.2.2 = false := fun C T N h => by cases h; rfl
theorem nf_11_6 : ∀ C T N, vwCl[11]? = some (C, T, N) → (T 6).2.2.2 = false := fun C T N h => by cases h; rfl
theorem nf_11_7 : ∀ C T N, vwCl[11]? = some (C, T, N) → (T 7).2.2.2 = false := fun C T N h => by cases h; rfl
theorem nf_11_8 : ∀ C T N, vwCl[11]? = some (C, T, N) → (T 8).2.2.2 = false := fun C T N h => by cases h; rfl
theorem nf_11_9 : ∀ C T N, vwCl[11]? = some (C, T, N) → (T 9).2.2.2 = false := fun C T N h => by cases h; rfl
theorem nf_12_0 : ∀ C T N, vwCl[12]? = some (C, T, N) → (T 0).2.2.2 = false := fun C T N h => by cases h; rfl
theorem nf_12_2 : ∀ C T N, vwCl[12]? = some (C, T, N) → (T 2).2.2.2 = false := fun C T N h => by cases h; rfl
theorem nf_12_4 : ∀ C T N, vwCl[12]? = some (C, T, N) → (T 4).2.2.2 = false := fun C T N h => by cases h; rfl
theorem nf_12_10 : ∀ C T N, vwCl[12]? = some (C, T, N) → (T 10).2.2.2 = false := fun C T N h => by cases h; rfl
theorem nf_12_11 : ∀ C T N, vwCl[12]? = some (C, T, N) → (T 11).2.2.2 = false := fun C T N h => by cases h; rfl
theorem nf_12_12 : ∀ C T N, vwCl[12]? = some (C, T, N) → (T 12).2.2.2 = false := fun C T N h => by cases h; rfl
theorem nf_12_13 : ∀ C T N, vwCl[12]? = some (C, T, N) → (T 13).2.2.2 = false := fun C T N h => by cases h; rfl
theorem nf_12_14 : ∀ C T N, vwCl[12]? = some (C, T, N) → (T 14).2.2.2 = false := fun C T N h => by cases h; rfl
theorem nf_12_15 : ∀ C T N, vwCl[12]? = some (C, T, N) → (T 15).2.2.2 = false := fun C T N h => by cases h; rfl
theorem nf_12_16 : ∀ C T N, vwCl[12]? = some (C, T, N) → (T 16).2.2.2 = false := fun C T N h => by cases h; rfl
theorem nf_12_17 : ∀ C T N, vwCl[12]? = some (C, T, N) → (T 17).2.2.2 = false := fun C T N h => by cases h; rfl
theorem nf_12_18 : ∀ C T N, vwCl[12]? = some (C, T, N) → (T 18).2.2.2 = false := fun C T N h => by cases h; rfl
theorem nf_12_19 : ∀ C T N, vwCl[12]? = some (C, T, N) → (T 19).2.2.2 = false := fun C T N h => by cases h; rfl
theorem nf_12_20 : ∀ C T N, vwCl[12]? = some (C, T, N) → (T 20).2.2.2 = false := fun C T N h => by cases h; rfl
theorem nf_12_50 : ∀ C T N, vwCl[12]? = some (C, T, N) → (T 50).2.2.2 = false := fun C T N h => by cases h; rfl
theorem nf_12_60 : ∀ C T N, vwCl[12]? = some (C, T, N) → (T 60).2.2.2 = false := fun C T N h => by cases h; rfl
theorem nf_12_61 : ∀ C T N, vwCl[12]? = some (C, T, N) → (T 61).2.2.2 = false := fun C T N h => by cases h; rfl
theorem yl_X5_small : q_Yl yX5_small cX5_small 2 (some FieldType.int) 1 := ⟨(q_mem (q_t3 _ (List.mem_of_getElem? (i := 42) rfl)) rfl), (q_mem (q_t1 _ (List.mem_of_getElem? (i := 4) (by decide +kernel))) rfl), by decide, by decide, by decide +kernel⟩
theorem vl_X5_small : q_Vl yX5_small := ⟨(q_mem (q_t3 _ (List.mem_of_getElem? (i := 40) (by decide +kernel))) rfl), (q_mem (q_t3 _ (List.mem_of_getElem? (i := 41) (by decide +kernel))) rfl)⟩
theorem yl_X0_chipAt : q_Yl yX0_chipAt cX0_chipAt 2 (some FieldType.int) 1 := ⟨(q_mem (q_t4 _ (List.mem_of_getElem? (i := 105) rfl)) rfl), (q_mem (q_t1 _ (List.mem_of_getElem? (i := 15) (by decide +kernel))) rfl), by decide, by decide, by decide +kernel⟩
theorem vl_X0_chipAt : q_Vl yX0_chipAt := ⟨(q_mem (q_t4 _ (List.mem_of_getElem? (i := 103) (by decide +kernel))) rfl), (q_mem (q_t4 _ (List.mem_of_getElem? (i := 104) (by decide +kernel))) rfl)⟩
theorem yl_X11_remainder : q_Yl yX11_remainder cX11_remainder 6 (some FieldType.long) 2 := ⟨(q_mem (q_t3 _ (List.mem_of_getElem? (i := 202) rfl)) rfl), (q_mem (q_t1 _ (List.mem_of_getElem? (i := 1) (by decide +kernel))) rfl), by decide, by decide, by decide +kernel⟩
theorem sl_X11_remainder : .static yX11_remainder ∈ q_tbl := (q_mem (q_t3 _ (List.mem_of_getElem? (i := 201) (by decide +kernel))) rfl)
theorem yl_X0_chipRoundAt : q_Yl yX0_chipRoundAt cX0_chipRoundAt 2 (some FieldType.int) 1 := ⟨(q_mem (q_t3 _ (List.mem_of_getElem? (i := 199) rfl)) rfl), (q_mem (q_t1 _ (List.mem_of_getElem? (i := 15) (by decide +kernel))) rfl), by decide, by decide, by decide +kernel⟩
theorem vl_X0_chipRoundAt : q_Vl yX0_chipRoundAt := ⟨(q_mem (q_t3 _ (List.mem_of_getElem? (i := 197) (by decide +kernel))) rfl), (q_mem (q_t3 _ (List.mem_of_getElem? (i := 198) (by decide +kernel))) rfl)⟩
theorem yl_X0_cells : q_Yl yX0_cells cX0_cells 1 (some FieldType.int) 0 := ⟨(q_mem (q_t5 _ (List.mem_of_getElem? (i := 51) rfl)) rfl), (q_mem (q_t1 _ (List.mem_of_getElem? (i := 15) (by decide +kernel))) rfl), by decide, by decide, by decide +kernel⟩
theorem vl_X0_cells : q_Vl yX0_cells := ⟨(q_mem (q_t5 _ (List.mem_of_getElem? (i := 49) (by decide +kernel))) rfl), (q_mem (q_t5 _ (List.mem_of_getElem? (i := 50) (by decide +kernel))) rfl)⟩
theorem yl_X5_put : q_Yl yX5_put cX5_put 4 (none) 2 := ⟨(q_mem (q_t1 _ (List.mem_of_getElem? (i := 115) rfl)) rfl), (q_mem (q_t1 _ (List.mem_of_getElem? (i := 4) (by decide +kernel))) rfl), by decide, by decide, by decide +kernel⟩
theorem vl_X5_put : q_Vl yX5_put := ⟨(q_mem (q_t1 _ (List.mem_of_getElem? (i := 113) (by decide +kernel))) rfl), (q_mem (q_t1 _ (List.mem_of_getElem? (i := 114) (by decide +kernel))) rfl)⟩
theorem yl_X0_putBit : q_Yl yX0_putBit cX0_putBit 3 (none) 2 := ⟨(q_mem (q_t3 _ (List.mem_of_getElem? (i := 154) rfl)) rfl), (q_mem (q_t1 _ (List.mem_of_getElem? (i := 15) (by decide +kernel))) rfl), by decide, by decide, by decide +kernel⟩
theorem vl_X0_putBit : q_Vl yX0_putBit := ⟨(q_mem (q_t3 _ (List.mem_of_getElem? (i := 153) (by decide +kernel))) rfl), (q_mem (q_tp _ (List.mem_of_getElem? (i := 18) (by decide +kernel))) rfl)⟩
theorem yl_J6_bitCount_0f7a4 : q_Yl yJ6_bitCount_0f7a4 cJ6_bitCount_0f7a4 1 (some FieldType.int) 1 := ⟨(q_mem (q_t3 _ (List.mem_of_getElem? (i := 159) rfl)) rfl), (q_mem (q_t1 _ (List.mem_of_getElem? (i := 19) (by decide +kernel))) rfl), by decide, by decide, by decide +kernel⟩
theorem sl_J6_bitCount_0f7a4 : .static yJ6_bitCount_0f7a4 ∈ q_tbl := (q_mem (q_t3 _ (List.mem_of_getElem? (i := 158) (by decide +kernel))) rfl)
theorem yl_X0_layRegister : q_Yl yX0_layRegister cX0_layRegister 6 (none) 3 := ⟨(q_mem (q_t3 _ (List.mem_of_getElem? (i := 150) rfl)) rfl), (q_mem (q_t1 _ (List.mem_of_getElem? (i := 15) (by decide +kernel))) rfl), by decide, by decide, by decide +kernel⟩
theorem vl_X0_layRegister : q_Vl yX0_layRegister := ⟨(q_mem (q_t3 _ (List.mem_of_getElem? (i := 148) (by decide +kernel))) rfl), (q_mem (q_t3 _ (List.mem_of_getElem? (i := 149) (by decide +kernel))) rfl)⟩
theorem yl_X0_layWalsh : q_Yl yX0_layWalsh cX0_layWalsh 4 (none) 2 := ⟨(q_mem (q_t3 _ (List.mem_of_getElem? (i := 170) rfl)) rfl), (q_mem (q_t1 _ (List.mem_of_getElem? (i := 15) (by decide +kernel))) rfl), by decide, by decide, by decide +kernel⟩
theorem vl_X0_layWalsh : q_Vl yX0_layWalsh := ⟨(q_mem (q_t3 _ (List.mem_of_getElem? (i := 168) (by decide +kernel))) rfl), (q_mem (q_t3 _ (List.mem_of_getElem? (i := 169) (by decide +kernel))) rfl)⟩
theorem yl_X0_layBits : q_Yl yX0_layBits cX0_layBits 4 (none) 2 := ⟨(q_mem (q_t3 _ (List.mem_of_getElem? (i := 178) rfl)) rfl), (q_mem (q_t1 _ (List.mem_of_getElem? (i := 15) (by decide +kernel))) rfl), by decide, by decide, by decide +kernel⟩
theorem vl_X0_layBits : q_Vl yX0_layBits := ⟨(q_mem (q_t3 _ (List.mem_of_getElem? (i := 176) (by decide +kernel))) rfl), (q_mem (q_t3 _ (List.mem_of_getElem? (i := 177) (by decide +kernel))) rfl)⟩
theorem yl_X0_layBoth : q_Yl yX0_layBoth cX0_layBoth 5 (none) 3 := ⟨(q_mem (q_t3 _ (List.mem_of_getElem? (i := 195) rfl)) rfl), (q_mem (q_t1 _ (List.mem_of_getElem? (i := 15) (by decide +kernel))) rfl), by decide, by decide, by decide +kernel⟩
theorem vl_X0_layBoth : q_Vl yX0_layBoth := ⟨(q_mem (q_t3 _ (List.mem_of_getElem? (i := 193) (by decide +kernel))) rfl), (q_mem (q_t3 _ (List.mem_of_getElem? (i := 194) (by decide +kernel))) rfl)⟩
theorem yl_X0_minuses : q_Yl yX0_minuses cX0_minuses 3 (some FieldType.int) 0 := ⟨(q_mem (q_t4 _ (List.mem_of_getElem? (i := 101) rfl)) rfl), (q_mem (q_t1 _ (List.mem_of_getElem? (i := 15) (by decide +kernel))) rfl), by decide, by decide, by decide +kernel⟩
theorem vl_X0_minuses : q_Vl yX0_minuses := ⟨(q_mem (q_t4 _ (List.mem_of_getElem? (i := 99) (by decide +kernel))) rfl), (q_mem (q_t4 _ (List.mem_of_getElem? (i := 100) (by decide +kernel))) rfl)⟩
theorem yl_X5_timesRound : q_Yl yX5_timesRound cX5_timesRound 11 (some FieldType.long) 3 := ⟨(q_mem (q_t4 _ (List.mem_of_getElem? (i := 121) rfl)) rfl), (q_mem (q_t1 _ (List.mem_of_getElem? (i := 4) (by decide +kernel))) rfl), by decide, by decide, by decide +kernel⟩
theorem vl_X5_timesRound : q_Vl yX5_timesRound := ⟨(q_mem (q_t4 _ (List.mem_of_getElem? (i := 119) (by decide +kernel))) rfl), (q_mem (q_t4 _ (List.mem_of_getElem? (i := 120) (by decide +kernel))) rfl)⟩
theorem yl_X0_along : q_Yl yX0_along cX0_along 3 (some FieldType.long) 2 := ⟨(q_mem (q_t4 _ (List.mem_of_getElem? (i := 117) rfl)) rfl), (q_mem (q_t1 _ (List.mem_of_getElem? (i := 15) (by decide +kernel))) rfl), by decide, by decide, by decide +kernel⟩
theorem vl_X0_along : q_Vl yX0_along := ⟨(q_mem (q_t4 _ (List.mem_of_getElem? (i := 115) (by decide +kernel))) rfl), (q_mem (q_t4 _ (List.mem_of_getElem? (i := 116) (by decide +kernel))) rfl)⟩
theorem yl_X0_alikeness : q_Yl yX0_alikeness cX0_alikeness 3 (some FieldType.int) 2 := ⟨(q_mem (q_t4 _ (List.mem_of_getElem? (i := 113) rfl)) rfl), (q_mem (q_t1 _ (List.mem_of_getElem? (i := 15) (by decide +kernel))) rfl), by decide, by decide, by decide +kernel⟩
theorem vl_X0_alikeness : q_Vl yX0_alikeness := ⟨(q_mem (q_t4 _ (List.mem_of_getElem? (i := 111) (by decide +kernel))) rfl), (q_mem (q_t4 _ (List.mem_of_getElem? (i := 112) (by decide +kernel))) rfl)⟩
theorem yl_X0_ownShift : q_Yl yX0_ownShift cX0_ownShift 2 (some FieldType.int) 0 := ⟨(q_mem (q_t4 _ (List.mem_of_getElem? (i := 109) rfl)) rfl), (q_mem (q_t1 _ (List.mem_of_getElem? (i := 15) (by decide +kernel))) rfl), by decide, by decide, by decide +kernel⟩
theorem vl_X0_ownShift : q_Vl yX0_ownShift := ⟨(q_mem (q_t4 _ (List.mem_of_getElem? (i := 107) (by decide +kernel))) rfl), (q_mem (q_t4 _ (List.mem_of_getElem? (i := 108) (by decide +kernel))) rfl)⟩
theorem yl_X0_changes : q_Yl yX0_changes cX0_changes 3 (some FieldType.int) 0 := ⟨(q_mem (q_t4 _ (List.mem_of_getElem? (i := 126) rfl)) rfl), (q_mem (q_t1 _ (List.mem_of_getElem? (i := 15) (by decide +kernel))) rfl), by decide, by decide, by decide +kernel⟩
theorem vl_X0_changes : q_Vl yX0_changes := ⟨(q_mem (q_t4 _ (List.mem_of_getElem? (i := 124) (by decide +kernel))) rfl), (q_mem (q_t4 _ (List.mem_of_getElem? (i := 125) (by decide +kernel))) rfl)⟩
theorem yl_X0_worstLikeness : q_Yl yX0_worstLikeness cX0_worstLikeness 5 (some FieldType.int) 2 := ⟨(q_mem (q_t4 _ (List.mem_of_getElem? (i := 147) rfl)) rfl), (q_mem (q_t1 _ (List.mem_of_getElem? (i := 15) (by decide +kernel))) rfl), by decide, by decide, by decide +kernel⟩
theorem vl_X0_worstLikeness : q_Vl yX0_worstLikeness := ⟨(q_mem (q_t4 _ (List.mem_of_getElem? (i := 145) (by decide +kernel))) rfl), (q_mem (q_t4 _ (List.mem_of_getElem? (i := 146) (by decide +kernel))) rfl)⟩
theorem yl_X0_shiftsAlikeBy : q_Yl yX0_shiftsAlikeBy cX0_shiftsAlikeBy 5 (some FieldType.int) 2 := ⟨(q_mem (q_t4 _ (List.mem_of_getElem? (i := 159) rfl)) rfl), (q_mem (q_t1 _ (List.mem_of_getElem? (i := 15) (by decide +kernel))) rfl), by decide, by decide, by decide +kernel⟩
theorem vl_X0_shiftsAlikeBy : q_Vl yX0_shiftsAlikeBy := ⟨(q_mem (q_t4 _ (List.mem_of_getElem? (i := 157) (by decide +kernel))) rfl), (q_mem (q_t4 _ (List.mem_of_getElem? (i := 158) (by decide +kernel))) rfl)⟩
theorem yl_X1_lay : q_Yl yX1_lay cX1_lay 4 (none) 3 := ⟨(q_mem (q_t3 _ (List.mem_of_getElem? (i := 220) rfl)) rfl), (q_mem (q_t1 _ (List.mem_of_getElem? (i := 16) (by decide +kernel))) rfl), by decide, by decide, by decide +kernel⟩
theorem vl_X1_lay : q_Vl yX1_lay := ⟨(q_mem (q_t3 _ (List.mem_of_getElem? (i := 218) (by decide +kernel))) rfl), (q_mem (q_t3 _ (List.mem_of_getElem? (i := 219) (by decide +kernel))) rfl)⟩
theorem yl_X1_channelAt : q_Yl yX1_channelAt cX1_channelAt 3 (some FieldType.int) 1 := ⟨(q_mem (q_t6 _ (List.mem_of_getElem? (i := 60) rfl)) rfl), (q_mem (q_t1 _ (List.mem_of_getElem? (i := 16) (by decide +kernel))) rfl), by decide, by decide, by decide +kernel⟩
theorem vl_X1_channelAt : q_Vl yX1_channelAt := ⟨(q_mem (q_t6 _ (List.mem_of_getElem? (i := 58) (by decide +kernel))) rfl), (q_mem (q_t6 _ (List.mem_of_getElem? (i := 59) (by decide +kernel))) rfl)⟩
theorem yl_X1_meets : q_Yl yX1_meets cX1_meets 5 (some FieldType.int) 2 := ⟨(q_mem (q_t6 _ (List.mem_of_getElem? (i := 72) rfl)) rfl), (q_mem (q_t1 _ (List.mem_of_getElem? (i := 16) (by decide +kernel))) rfl), by decide, by decide, by decide +kernel⟩
theorem vl_X1_meets : q_Vl yX1_meets := ⟨(q_mem (q_t6 _ (List.mem_of_getElem? (i := 70) (by decide +kernel))) rfl), (q_mem (q_t6 _ (List.mem_of_getElem? (i := 71) (by decide +kernel))) rfl)⟩
theorem yl_X1_slotsIn : q_Yl yX1_slotsIn cX1_slotsIn 4 (some FieldType.int) 1 := ⟨(q_mem (q_t6 _ (List.mem_of_getElem? (i := 95) rfl)) rfl), (q_mem (q_t1 _ (List.mem_of_getElem? (i := 16) (by decide +kernel))) rfl), by decide, by decide, by decide +kernel⟩
theorem vl_X1_slotsIn : q_Vl yX1_slotsIn := ⟨(q_mem (q_t6 _ (List.mem_of_getElem? (i := 93) (by decide +kernel))) rfl), (q_mem (q_t6 _ (List.mem_of_getElem? (i := 94) (by decide +kernel))) rfl)⟩
theorem yl_X1_strongestBeside : q_Yl yX1_strongestBeside cX1_strongestBeside 6 (some FieldType.int) 1 := ⟨(q_mem (q_t6 _ (List.mem_of_getElem? (i := 107) rfl)) rfl), (q_mem (q_t1 _ (List.mem_of_getElem? (i := 16) (by decide +kernel))) rfl), by decide, by decide, by decide +kernel⟩
theorem vl_X1_strongestBeside : q_Vl yX1_strongestBeside := ⟨(q_mem (q_t6 _ (List.mem_of_getElem? (i := 106) (by decide +kernel))) rfl), (q_mem (q_tp _ (List.mem_of_getElem? (i := 48) (by decide +kernel))) rfl)⟩
theorem yl_X1_strongestChannels : q_Yl yX1_strongestChannels cX1_strongestChannels 4 (some FieldType.int) 1 := ⟨(q_mem (q_t6 _ (List.mem_of_getElem? (i := 103) rfl)) rfl), (q_mem (q_t1 _ (List.mem_of_getElem? (i := 16) (by decide +kernel))) rfl), by decide, by decide, by decide +kernel⟩
theorem vl_X1_strongestChannels : q_Vl yX1_strongestChannels := ⟨(q_mem (q_t6 _ (List.mem_of_getElem? (i := 101) (by decide +kernel))) rfl), (q_mem (q_t6 _ (List.mem_of_getElem? (i := 102) (by decide +kernel))) rfl)⟩
theorem yl_X5_clear : q_Yl yX5_clear cX5_clear 2 (none) 0 := ⟨(q_mem (q_t4 _ (List.mem_of_getElem? (i := 21) rfl)) rfl), (q_mem (q_t1 _ (List.mem_of_getElem? (i := 4) (by decide +kernel))) rfl), by decide, by decide, by decide +kernel⟩
theorem vl_X5_clear : q_Vl yX5_clear := ⟨(q_mem (q_t4 _ (List.mem_of_getElem? (i := 19) (by decide +kernel))) rfl), (q_mem (q_t4 _ (List.mem_of_getElem? (i := 20) (by decide +kernel))) rfl)⟩
theorem yl_X10_codeAt : q_Yl yX10_codeAt cX10_codeAt 2 (some (FieldType.object "SpreadRows$Code")) 1 := ⟨(q_mem (q_t3 _ (List.mem_of_getElem? (i := 146) rfl)) rfl), (q_mem (q_t1 _ (List.mem_of_getElem? (i := 14) (by decide +kernel))) rfl), by decide, by decide, by decide +kernel⟩
theorem vl_X10_codeAt : q_Vl yX10_codeAt := ⟨(q_mem (q_t3 _ (List.mem_of_getElem? (i := 144) (by decide +kernel))) rfl), (q_mem (q_t3 _ (List.mem_of_getElem? (i := 145) (by decide +kernel))) rfl)⟩
theorem yl_X11_likeLong : q_Yl yX11_likeLong cX11_likeLong 2 (some FieldType.boolean) 2 := ⟨(q_mem (q_t4 _ (List.mem_of_getElem? (i := 138) rfl)) rfl), (q_mem (q_t1 _ (List.mem_of_getElem? (i := 1) (by decide +kernel))) rfl), by decide, by decide, by decide +kernel⟩
theorem sl_X11_likeLong : .static yX11_likeLong ∈ q_tbl := (q_mem (q_t4 _ (List.mem_of_getElem? (i := 137) (by decide +kernel))) rfl)
theorem yl_X5_at : q_Yl yX5_at cX5_at 2 (some FieldType.long) 1 := ⟨(q_mem (q_t1 _ (List.mem_of_getElem? (i := 106) rfl)) rfl), (q_mem (q_t1 _ (List.mem_of_getElem? (i := 4) (by decide +kernel))) rfl), by decide, by decide, by decide +kernel⟩
theorem vl_X5_at : q_Vl yX5_at := ⟨(q_mem (q_t1 _ (List.mem_of_getElem? (i := 104) (by decide +kernel))) rfl), (q_mem (q_t1 _ (List.mem_of_getElem? (i := 105) (by decide +kernel))) rfl)⟩
theorem yl_X2_befriend : q_Yl yX2_befriend cX2_befriend 7 (none) 4 := ⟨(q_mem (q_t4 _ (List.mem_of_getElem? (i := 197) rfl)) rfl), (q_mem (q_t1 _ (List.mem_of_getElem? (i := 11) (by decide +kernel))) rfl), by decide, by decide, by decide +kernel⟩
theorem vl_X2_befriend : q_Vl yX2_befriend := ⟨(q_mem (q_t4 _ (List.mem_of_getElem? (i := 196) (by decide +kernel))) rfl), (q_mem (q_tp _ (List.mem_of_getElem? (i := 34) (by decide +kernel))) rfl)⟩
theorem yl_X2_areFriends : q_Yl yX2_areFriends cX2_areFriends 3 (some FieldType.boolean) 1 := ⟨(q_mem (q_t4 _ (List.mem_of_getElem? (i := 206) rfl)) rfl), (q_mem (q_t1 _ (List.mem_of_getElem? (i := 11) (by decide +kernel))) rfl), by decide, by decide, by decide +kernel⟩
theorem vl_X2_areFriends : q_Vl yX2_areFriends := ⟨(q_mem (q_t4 _ (List.mem_of_getElem? (i := 205) (by decide +kernel))) rfl), (q_mem (q_tp _ (List.mem_of_getElem? (i := 35) (by decide +kernel))) rfl)⟩
theorem yl_X2_familyOf : q_Yl yX2_familyOf cX2_familyOf 5 (some FieldType.int) 2 := ⟨(q_mem (q_t4 _ (List.mem_of_getElem? (i := 193) rfl)) rfl), (q_mem (q_t1 _ (List.mem_of_getElem? (i := 11) (by decide +kernel))) rfl), by decide, by decide, by decide +kernel⟩
theorem vl_X2_familyOf : q_Vl yX2_familyOf := ⟨(q_mem (q_t4 _ (List.mem_of_getElem? (i := 191) (by decide +kernel))) rfl), (q_mem (q_t4 _ (List.mem_of_getElem? (i := 192) (by decide +kernel))) rfl)⟩
theorem yl_X5_takeOver : q_Yl yX5_takeOver cX5_takeOver 3 (none) 1 := ⟨(q_mem (q_t4 _ (List.mem_of_getElem? (i := 173) rfl)) rfl), (q_mem (q_t1 _ (List.mem_of_getElem? (i := 4) (by decide +kernel))) rfl), by decide, by decide, by decide +kernel⟩
theorem vl_X5_takeOver : q_Vl yX5_takeOver := ⟨(q_mem (q_t4 _ (List.mem_of_getElem? (i := 171) (by decide +kernel))) rfl), (q_mem (q_t4 _ (List.mem_of_getElem? (i := 172) (by decide +kernel))) rfl)⟩
theorem yl_X2_fails : q_Yl yX2_fails cX2_fails 7 (some FieldType.boolean) 3 := ⟨(q_mem (q_t4 _ (List.mem_of_getElem? (i := 178) rfl)) rfl), (q_mem (q_t1 _ (List.mem_of_getElem? (i := 11) (by decide +kernel))) rfl), by decide, by decide, by decide +kernel⟩
theorem vl_X2_fails : q_Vl yX2_fails := ⟨(q_mem (q_t4 _ (List.mem_of_getElem? (i := 177) (by decide +kernel))) rfl), (q_mem (q_tp _ (List.mem_of_getElem? (i := 32) (by decide +kernel))) rfl)⟩
theorem yl_X2_mixOlder : q_Yl yX2_mixOlder cX2_mixOlder 3 (none) 1 := ⟨(q_mem (q_t4 _ (List.mem_of_getElem? (i := 184) rfl)) rfl), (q_mem (q_t1 _ (List.mem_of_getElem? (i := 11) (by decide +kernel))) rfl), by decide, by decide, by decide +kernel⟩
theorem vl_X2_mixOlder : q_Vl yX2_mixOlder := ⟨(q_mem (q_t4 _ (List.mem_of_getElem? (i := 183) (by decide +kernel))) rfl), (q_mem (q_tp _ (List.mem_of_getElem? (i := 33) (by decide +kernel))) rfl)⟩
theorem yl_X2_depthOf : q_Yl yX2_depthOf cX2_depthOf 6 (some FieldType.int) 1 := ⟨(q_mem (q_t4 _ (List.mem_of_getElem? (i := 167) rfl)) rfl), (q_mem (q_t1 _ (List.mem_of_getElem? (i := 11) (by decide +kernel))) rfl), by decide, by decide, by decide +kernel⟩
theorem vl_X2_depthOf : q_Vl yX2_depthOf := ⟨(q_mem (q_t4 _ (List.mem_of_getElem? (i := 165) (by decide +kernel))) rfl), (q_mem (q_t4 _ (List.mem_of_getElem? (i := 166) (by decide +kernel))) rfl)⟩
theorem yl_X10_clear : q_Yl yX10_clear cX10_clear 1 (none) 0 := ⟨(q_mem (q_t3 _ (List.mem_of_getElem? (i := 26) rfl)) rfl), (q_mem (q_t1 _ (List.mem_of_getElem? (i := 14) (by decide +kernel))) rfl), by decide, by decide, by decide +kernel⟩
theorem vl_X10_clear : q_Vl yX10_clear := ⟨(q_mem (q_t3 _ (List.mem_of_getElem? (i := 24) (by decide +kernel))) rfl), (q_mem (q_t3 _ (List.mem_of_getElem? (i := 25) (by decide +kernel))) rfl)⟩
theorem yl_X9_behindBlanks : q_Yl yX9_behindBlanks cX9_behindBlanks 4 (some FieldType.int) 1 := ⟨(q_mem (q_t3 _ (List.mem_of_getElem? (i := 38) rfl)) rfl), (q_mem (q_t1 _ (List.mem_of_getElem? (i := 3) (by decide +kernel))) rfl), by decide, by decide, by decide +kernel⟩
theorem vl_X9_behindBlanks : q_Vl yX9_behindBlanks := ⟨(q_mem (q_t3 _ (List.mem_of_getElem? (i := 37) (by decide +kernel))) rfl), (q_mem (q_tp _ (List.mem_of_getElem? (i := 1) (by decide +kernel))) rfl)⟩
theorem yl_X9_isLetter : q_Yl yX9_isLetter cX9_isLetter 1 (some FieldType.boolean) 1 := ⟨(q_mem (q_t3 _ (List.mem_of_getElem? (i := 49) rfl)) rfl), (q_mem (q_t1 _ (List.mem_of_getElem? (i := 3) (by decide +kernel))) rfl), by decide, by decide, by decide +kernel⟩
theorem sl_X9_isLetter : .static yX9_isLetter ∈ q_tbl := (q_mem (q_t3 _ (List.mem_of_getElem? (i := 48) (by decide +kernel))) rfl)
theorem yl_X9_isDigit : q_Yl yX9_isDigit cX9_isDigit 1 (some FieldType.boolean) 1 := ⟨(q_mem (q_t3 _ (List.mem_of_getElem? (i := 52) rfl)) rfl), (q_mem (q_t1 _ (List.mem_of_getElem? (i := 3) (by decide +kernel))) rfl), by decide, by decide, by decide +kernel⟩
theorem sl_X9_isDigit : .static yX9_isDigit ∈ q_tbl := (q_mem (q_t3 _ (List.mem_of_getElem? (i := 51) (by decide +kernel))) rfl)
theorem yl_X9_behindToken : q_Yl yX9_behindToken cX9_behindToken 7 (some FieldType.int) 1 := ⟨(q_mem (q_t3 _ (List.mem_of_getElem? (i := 46) rfl)) rfl), (q_mem (q_t1 _ (List.mem_of_getElem? (i := 3) (by decide +kernel))) rfl), by decide, by decide, by decide +kernel⟩
theorem vl_X9_behindToken : q_Vl yX9_behindToken := ⟨(q_mem (q_t3 _ (List.mem_of_getElem? (i := 45) (by decide +kernel))) rfl), (q_mem (q_tp _ (List.mem_of_getElem? (i := 2) (by decide +kernel))) rfl)⟩
theorem yl_X9_withLetter : q_Yl yX9_withLetter cX9_withLetter 3 (some FieldType.long) 2 := ⟨(q_mem (q_t1 _ (List.mem_of_getElem? (i := 109) rfl)) rfl), (q_mem (q_t1 _ (List.mem_of_getElem? (i := 3) (by decide +kernel))) rfl), by decide, by decide, by decide +kernel⟩
theorem sl_X9_withLetter : .static yX9_withLetter ∈ q_tbl := (q_mem (q_t1 _ (List.mem_of_getElem? (i := 108) (by decide +kernel))) rfl)
theorem yl_X9_valueOf : q_Yl yX9_valueOf cX9_valueOf 7 (some FieldType.long) 2 := ⟨(q_mem (q_t3 _ (List.mem_of_getElem? (i := 56) rfl)) rfl), (q_mem (q_t1 _ (List.mem_of_getElem? (i := 3) (by decide +kernel))) rfl), by decide, by decide, by decide +kernel⟩
theorem vl_X9_valueOf : q_Vl yX9_valueOf := ⟨(q_mem (q_t3 _ (List.mem_of_getElem? (i := 55) (by decide +kernel))) rfl), (q_mem (q_tp _ (List.mem_of_getElem? (i := 3) (by decide +kernel))) rfl)⟩
theorem yl_X9_wordOf : q_Yl yX9_wordOf cX9_wordOf 4 (some FieldType.int) 1 := ⟨(q_mem (q_t3 _ (List.mem_of_getElem? (i := 66) rfl)) rfl), (q_mem (q_t1 _ (List.mem_of_getElem? (i := 3) (by decide +kernel))) rfl), by decide, by decide, by decide +kernel⟩
theorem vl_X9_wordOf : q_Vl yX9_wordOf := ⟨(q_mem (q_t3 _ (List.mem_of_getElem? (i := 65) (by decide +kernel))) rfl), (q_mem (q_tp _ (List.mem_of_getElem? (i := 5) (by decide +kernel))) rfl)⟩
theorem yl_X9_kindOf : q_Yl yX9_kindOf cX9_kindOf 6 (some FieldType.int) 3 := ⟨(q_mem (q_t3 _ (List.mem_of_getElem? (i := 62) rfl)) rfl), (q_mem (q_t1 _ (List.mem_of_getElem? (i := 3) (by decide +kernel))) rfl), by decide, by decide, by decide +kernel⟩
theorem vl_X9_kindOf : q_Vl yX9_kindOf := ⟨(q_mem (q_t3 _ (List.mem_of_getElem? (i := 61) (by decide +kernel))) rfl), (q_mem (q_tp _ (List.mem_of_getElem? (i := 4) (by decide +kernel))) rfl)⟩
theorem yl_X9_cut : q_Yl yX9_cut cX9_cut 7 (none) 0 := ⟨(q_mem (q_t3 _ (List.mem_of_getElem? (i := 34) rfl)) rfl), (q_mem (q_t1 _ (List.mem_of_getElem? (i := 3) (by decide +kernel))) rfl), by decide, by decide, by decide +kernel⟩
theorem vl_X9_cut : q_Vl yX9_cut := ⟨(q_mem (q_t3 _ (List.mem_of_getElem? (i := 33) (by decide +kernel))) rfl), (q_mem (q_tp _ (List.mem_of_getElem? (i := 0) (by decide +kernel))) rfl)⟩
theorem yl_X9_makeRoom : q_Yl yX9_makeRoom cX9_makeRoom 1 (none) 0 := ⟨(q_mem (q_t3 _ (List.mem_of_getElem? (i := 70) rfl)) rfl), (q_mem (q_t1 _ (List.mem_of_getElem? (i := 3) (by decide +kernel))) rfl), by decide, by decide, by decide +kernel⟩
theorem vl_X9_makeRoom : q_Vl yX9_makeRoom := ⟨(q_mem (q_t3 _ (List.mem_of_getElem? (i := 69) (by decide +kernel))) rfl), (q_mem (q_tp _ (List.mem_of_getElem? (i := 6) (by decide +kernel))) rfl)⟩
theorem yl_X5_increase : q_Yl yX5_increase cX5_increase 4 (none) 2 := ⟨(q_mem (q_t3 _ (List.mem_of_getElem? (i := 87) rfl)) rfl), (q_mem (q_t1 _ (List.mem_of_getElem? (i := 4) (by decide +kernel))) rfl), by decide, by decide, by decide +kernel⟩
theorem vl_X5_increase : q_Vl yX5_increase := ⟨(q_mem (q_t3 _ (List.mem_of_getElem? (i := 85) (by decide +kernel))) rfl), (q_mem (q_t3 _ (List.mem_of_getElem? (i := 86) (by decide +kernel))) rfl)⟩
theorem yl_X9_takesRoom : q_Yl yX9_takesRoom cX9_takesRoom 3 (some FieldType.boolean) 1 := ⟨(q_mem (q_t3 _ (List.mem_of_getElem? (i := 81) rfl)) rfl), (q_mem (q_t1 _ (List.mem_of_getElem? (i := 3) (by decide +kernel))) rfl), by decide, by decide, by decide +kernel⟩
theorem vl_X9_takesRoom : q_Vl yX9_takesRoom := ⟨(q_mem (q_t3 _ (List.mem_of_getElem? (i := 80) (by decide +kernel))) rfl), (q_mem (q_tp _ (List.mem_of_getElem? (i := 8) (by decide +kernel))) rfl)⟩
theorem yl_X9_shapeOf : q_Yl yX9_shapeOf cX9_shapeOf 1 (some (FieldType.object "java/lang/String")) 1 := ⟨(q_mem (q_t3 _ (List.mem_of_getElem? (i := 90) rfl)) rfl), (q_mem (q_t1 _ (List.mem_of_getElem? (i := 3) (by decide +kernel))) rfl), by decide, by decide, by decide +kernel⟩
theorem sl_X9_shapeOf : .static yX9_shapeOf ∈ q_tbl := (q_mem (q_t3 _ (List.mem_of_getElem? (i := 89) (by decide +kernel))) rfl)
theorem yl_X9_goOn : q_Yl yX9_goOn cX9_goOn 1 (none) 0 := ⟨(q_mem (q_t3 _ (List.mem_of_getElem? (i := 102) rfl)) rfl), (q_mem (q_t1 _ (List.mem_of_getElem? (i := 3) (by decide +kernel))) rfl), by decide, by decide, by decide +kernel⟩
theorem vl_X9_goOn : q_Vl yX9_goOn := ⟨(q_mem (q_t3 _ (List.mem_of_getElem? (i := 101) (by decide +kernel))) rfl), (q_mem (q_tp _ (List.mem_of_getElem? (i := 9) (by decide +kernel))) rfl)⟩
theorem yl_X9_must : q_Yl yX9_must cX9_must 2 (none) 1 := ⟨(q_mem (q_t3 _ (List.mem_of_getElem? (i := 110) rfl)) rfl), (q_mem (q_t1 _ (List.mem_of_getElem? (i := 3) (by decide +kernel))) rfl), by decide, by decide, by decide +kernel⟩
theorem vl_X9_must : q_Vl yX9_must := ⟨(q_mem (q_t3 _ (List.mem_of_getElem? (i := 109) (by decide +kernel))) rfl), (q_mem (q_tp _ (List.mem_of_getElem? (i := 11) (by decide +kernel))) rfl)⟩
theorem yl_X9_part : q_Yl yX9_part cX9_part 4 (none) 1 := ⟨(q_mem (q_t3 _ (List.mem_of_getElem? (i := 106) rfl)) rfl), (q_mem (q_t1 _ (List.mem_of_getElem? (i := 3) (by decide +kernel))) rfl), by decide, by decide, by decide +kernel⟩
theorem vl_X9_part : q_Vl yX9_part := ⟨(q_mem (q_t3 _ (List.mem_of_getElem? (i := 105) (by decide +kernel))) rfl), (q_mem (q_tp _ (List.mem_of_getElem? (i := 10) (by decide +kernel))) rfl)⟩
theorem yl_X9_tell : q_Yl yX9_tell cX9_tell 4 (none) 0 := ⟨(q_mem (q_t3 _ (List.mem_of_getElem? (i := 77) rfl)) rfl), (q_mem (q_t1 _ (List.mem_of_getElem? (i := 3) (by decide +kernel))) rfl), by decide, by decide, by decide +kernel⟩
theorem vl_X9_tell : q_Vl yX9_tell := ⟨(q_mem (q_t3 _ (List.mem_of_getElem? (i := 76) (by decide +kernel))) rfl), (q_mem (q_tp _ (List.mem_of_getElem? (i := 7) (by decide +kernel))) rfl)⟩
theorem yl_X9_take : q_Yl yX9_take cX9_take 2 (some FieldType.int) 0 := ⟨(q_mem (q_t3 _ (List.mem_of_getElem? (i := 30) rfl)) rfl), (q_mem (q_t1 _ (List.mem_of_getElem? (i := 3) (by decide +kernel))) rfl), by decide, by decide, by decide +kernel⟩
theorem vl_X9_take : q_Vl yX9_take := ⟨(q_mem (q_t3 _ (List.mem_of_getElem? (i := 28) (by decide +kernel))) rfl), (q_mem (q_t3 _ (List.mem_of_getElem? (i := 29) (by decide +kernel))) rfl)⟩
theorem yl_X3_nameIndex : q_Yl yX3_nameIndex cX3_nameIndex 4 (some FieldType.int) 1 := ⟨(q_mem (q_t3 _ (List.mem_of_getElem? (i := 129) rfl)) rfl), (q_mem (q_t1 _ (List.mem_of_getElem? (i := 2) (by decide +kernel))) rfl), by decide, by decide, by decide +kernel⟩
theorem vl_X3_nameIndex : q_Vl yX3_nameIndex := ⟨(q_mem (q_t3 _ (List.mem_of_getElem? (i := 128) (by decide +kernel))) rfl), (q_mem (q_tp _ (List.mem_of_getElem? (i := 15) (by decide +kernel))) rfl)⟩
theorem yl_X3_refuse : q_Yl yX3_refuse cX3_refuse 3 (none) 2 := ⟨(q_mem (q_t3 _ (List.mem_of_getElem? (i := 133) rfl)) rfl), (q_mem (q_t1 _ (List.mem_of_getElem? (i := 2) (by decide +kernel))) rfl), by decide, by decide, by decide +kernel⟩
theorem vl_X3_refuse : q_Vl yX3_refuse := ⟨(q_mem (q_t3 _ (List.mem_of_getElem? (i := 132) (by decide +kernel))) rfl), (q_mem (q_tp _ (List.mem_of_getElem? (i := 16) (by decide +kernel))) rfl)⟩
theorem yl_X3_newName : q_Yl yX3_newName cX3_newName 5 (none) 2 := ⟨(q_mem (q_t3 _ (List.mem_of_getElem? (i := 124) rfl)) rfl), (q_mem (q_t1 _ (List.mem_of_getElem? (i := 2) (by decide +kernel))) rfl), by decide, by decide, by decide +kernel⟩
theorem vl_X3_newName : q_Vl yX3_newName := ⟨(q_mem (q_t3 _ (List.mem_of_getElem? (i := 123) (by decide +kernel))) rfl), (q_mem (q_tp _ (List.mem_of_getElem? (i := 14) (by decide +kernel))) rfl)⟩
theorem yl_X3_number : q_Yl yX3_number cX3_number 5 (some FieldType.int) 2 := ⟨(q_mem (q_t3 _ (List.mem_of_getElem? (i := 138) rfl)) rfl), (q_mem (q_t1 _ (List.mem_of_getElem? (i := 2) (by decide +kernel))) rfl), by decide, by decide, by decide +kernel⟩
theorem vl_X3_number : q_Vl yX3_number := ⟨(q_mem (q_t3 _ (List.mem_of_getElem? (i := 137) (by decide +kernel))) rfl), (q_mem (q_tp _ (List.mem_of_getElem? (i := 17) (by decide +kernel))) rfl)⟩
theorem yl_X10_nextCode : q_Yl yX10_nextCode cX10_nextCode 1 (some (FieldType.object "SpreadRows$Code")) 0 := ⟨(q_mem (q_t3 _ (List.mem_of_getElem? (i := 142) rfl)) rfl), (q_mem (q_t1 _ (List.mem_of_getElem? (i := 14) (by decide +kernel))) rfl), by decide, by decide, by decide +kernel⟩
theorem vl_X10_nextCode : q_Vl yX10_nextCode := ⟨(q_mem (q_t3 _ (List.mem_of_getElem? (i := 140) (by decide +kernel))) rfl), (q_mem (q_t3 _ (List.mem_of_getElem? (i := 141) (by decide +kernel))) rfl)⟩
theorem yl_X3_makeRegister : q_Yl yX3_makeRegister cX3_makeRegister 6 (none) 1 := ⟨(q_mem (q_t3 _ (List.mem_of_getElem? (i := 120) rfl)) rfl), (q_mem (q_t1 _ (List.mem_of_getElem? (i := 2) (by decide +kernel))) rfl), by decide, by decide, by decide +kernel⟩
theorem vl_X3_makeRegister : q_Vl yX3_makeRegister := ⟨(q_mem (q_t3 _ (List.mem_of_getElem? (i := 119) (by decide +kernel))) rfl), (q_mem (q_tp _ (List.mem_of_getElem? (i := 13) (by decide +kernel))) rfl)⟩
theorem yl_X3_makeWalsh : q_Yl yX3_makeWalsh cX3_makeWalsh 5 (none) 1 := ⟨(q_mem (q_t3 _ (List.mem_of_getElem? (i := 166) rfl)) rfl), (q_mem (q_t1 _ (List.mem_of_getElem? (i := 2) (by decide +kernel))) rfl), by decide, by decide, by decide +kernel⟩
theorem vl_X3_makeWalsh : q_Vl yX3_makeWalsh := ⟨(q_mem (q_t3 _ (List.mem_of_getElem? (i := 165) (by decide +kernel))) rfl), (q_mem (q_tp _ (List.mem_of_getElem? (i := 19) (by decide +kernel))) rfl)⟩
theorem yl_X3_makeBits : q_Yl yX3_makeBits cX3_makeBits 5 (none) 1 := ⟨(q_mem (q_t3 _ (List.mem_of_getElem? (i := 174) rfl)) rfl), (q_mem (q_t1 _ (List.mem_of_getElem? (i := 2) (by decide +kernel))) rfl), by decide, by decide, by decide +kernel⟩
theorem vl_X3_makeBits : q_Vl yX3_makeBits := ⟨(q_mem (q_t3 _ (List.mem_of_getElem? (i := 173) (by decide +kernel))) rfl), (q_mem (q_tp _ (List.mem_of_getElem? (i := 20) (by decide +kernel))) rfl)⟩
theorem yl_X3_numberNamed : q_Yl yX3_numberNamed cX3_numberNamed 3 (some FieldType.int) 1 := ⟨(q_mem (q_t3 _ (List.mem_of_getElem? (i := 190) rfl)) rfl), (q_mem (q_t1 _ (List.mem_of_getElem? (i := 2) (by decide +kernel))) rfl), by decide, by decide, by decide +kernel⟩
theorem vl_X3_numberNamed : q_Vl yX3_numberNamed := ⟨(q_mem (q_t3 _ (List.mem_of_getElem? (i := 189) (by decide +kernel))) rfl), (q_mem (q_tp _ (List.mem_of_getElem? (i := 23) (by decide +kernel))) rfl)⟩
theorem yl_X3_codeNamed : q_Yl yX3_codeNamed cX3_codeNamed 4 (some (FieldType.object "SpreadRows$Code")) 1 := ⟨(q_mem (q_t3 _ (List.mem_of_getElem? (i := 186) rfl)) rfl), (q_mem (q_t1 _ (List.mem_of_getElem? (i := 2) (by decide +kernel))) rfl), by decide, by decide, by decide +kernel⟩
theorem vl_X3_codeNamed : q_Vl yX3_codeNamed := ⟨(q_mem (q_t3 _ (List.mem_of_getElem? (i := 185) (by decide +kernel))) rfl), (q_mem (q_tp _ (List.mem_of_getElem? (i := 22) (by decide +kernel))) rfl)⟩
theorem yl_X3_makeBoth : q_Yl yX3_makeBoth cX3_makeBoth 7 (none) 1 := ⟨(q_mem (q_t3 _ (List.mem_of_getElem? (i := 182) rfl)) rfl), (q_mem (q_t1 _ (List.mem_of_getElem? (i := 2) (by decide +kernel))) rfl), by decide, by decide, by decide +kernel⟩
theorem vl_X3_makeBoth : q_Vl yX3_makeBoth := ⟨(q_mem (q_t3 _ (List.mem_of_getElem? (i := 181) (by decide +kernel))) rfl), (q_mem (q_tp _ (List.mem_of_getElem? (i := 21) (by decide +kernel))) rfl)⟩
theorem yl_X10_hopAt : q_Yl yX10_hopAt cX10_hopAt 2 (some (FieldType.object "SpreadRows$Hop")) 1 := ⟨(q_mem (q_t3 _ (List.mem_of_getElem? (i := 216) rfl)) rfl), (q_mem (q_t1 _ (List.mem_of_getElem? (i := 14) (by decide +kernel))) rfl), by decide, by decide, by decide +kernel⟩
theorem vl_X10_hopAt : q_Vl yX10_hopAt := ⟨(q_mem (q_t3 _ (List.mem_of_getElem? (i := 214) (by decide +kernel))) rfl), (q_mem (q_t3 _ (List.mem_of_getElem? (i := 215) (by decide +kernel))) rfl)⟩
theorem yl_X10_nextHop : q_Yl yX10_nextHop cX10_nextHop 1 (some (FieldType.object "SpreadRows$Hop")) 0 := ⟨(q_mem (q_t3 _ (List.mem_of_getElem? (i := 212) rfl)) rfl), (q_mem (q_t1 _ (List.mem_of_getElem? (i := 14) (by decide +kernel))) rfl), by decide, by decide, by decide +kernel⟩
theorem vl_X10_nextHop : q_Vl yX10_nextHop := ⟨(q_mem (q_t3 _ (List.mem_of_getElem? (i := 210) (by decide +kernel))) rfl), (q_mem (q_t3 _ (List.mem_of_getElem? (i := 211) (by decide +kernel))) rfl)⟩
theorem yl_X3_makeHop : q_Yl yX3_makeHop cX3_makeHop 7 (none) 1 := ⟨(q_mem (q_t3 _ (List.mem_of_getElem? (i := 207) rfl)) rfl), (q_mem (q_t1 _ (List.mem_of_getElem? (i := 2) (by decide +kernel))) rfl), by decide, by decide, by decide +kernel⟩
theorem vl_X3_makeHop : q_Vl yX3_makeHop := ⟨(q_mem (q_t3 _ (List.mem_of_getElem? (i := 206) (by decide +kernel))) rfl), (q_mem (q_tp _ (List.mem_of_getElem? (i := 24) (by decide +kernel))) rfl)⟩
theorem yl_X10_senderAt : q_Yl yX10_senderAt cX10_senderAt 2 (some (FieldType.object "SpreadRows$Sender")) 1 := ⟨(q_mem (q_t3 _ (List.mem_of_getElem? (i := 232) rfl)) rfl), (q_mem (q_t1 _ (List.mem_of_getElem? (i := 14) (by decide +kernel))) rfl), by decide, by decide, by decide +kernel⟩
theorem vl_X10_senderAt : q_Vl yX10_senderAt := ⟨(q_mem (q_t3 _ (List.mem_of_getElem? (i := 230) (by decide +kernel))) rfl), (q_mem (q_t3 _ (List.mem_of_getElem? (i := 231) (by decide +kernel))) rfl)⟩
theorem yl_X10_nextSender : q_Yl yX10_nextSender cX10_nextSender 1 (some (FieldType.object "SpreadRows$Sender")) 0 := ⟨(q_mem (q_t3 _ (List.mem_of_getElem? (i := 228) rfl)) rfl), (q_mem (q_t1 _ (List.mem_of_getElem? (i := 14) (by decide +kernel))) rfl), by decide, by decide, by decide +kernel⟩
theorem vl_X10_nextSender : q_Vl yX10_nextSender := ⟨(q_mem (q_t3 _ (List.mem_of_getElem? (i := 226) (by decide +kernel))) rfl), (q_mem (q_t3 _ (List.mem_of_getElem? (i := 227) (by decide +kernel))) rfl)⟩
theorem yl_X3_makeSender : q_Yl yX3_makeSender cX3_makeSender 4 (none) 1 := ⟨(q_mem (q_t3 _ (List.mem_of_getElem? (i := 224) rfl)) rfl), (q_mem (q_t1 _ (List.mem_of_getElem? (i := 2) (by decide +kernel))) rfl), by decide, by decide, by decide +kernel⟩
theorem vl_X3_makeSender : q_Vl yX3_makeSender := ⟨(q_mem (q_t3 _ (List.mem_of_getElem? (i := 223) (by decide +kernel))) rfl), (q_mem (q_tp _ (List.mem_of_getElem? (i := 25) (by decide +kernel))) rfl)⟩
theorem yl_X7_layEcho : q_Yl yX7_layEcho cX7_layEcho 3 (none) 2 := ⟨(q_mem (q_t4 _ (List.mem_of_getElem? (i := 3) rfl)) rfl), (q_mem (q_t1 _ (List.mem_of_getElem? (i := 17) (by decide +kernel))) rfl), by decide, by decide, by decide +kernel⟩
theorem vl_X7_layEcho : q_Vl yX7_layEcho := ⟨(q_mem (q_t4 _ (List.mem_of_getElem? (i := 1) (by decide +kernel))) rfl), (q_mem (q_t4 _ (List.mem_of_getElem? (i := 2) (by decide +kernel))) rfl)⟩
theorem yl_X3_makeEcho : q_Yl yX3_makeEcho cX3_makeEcho 7 (none) 1 := ⟨(q_mem (q_t3 _ (List.mem_of_getElem? (i := 237) rfl)) rfl), (q_mem (q_t1 _ (List.mem_of_getElem? (i := 2) (by decide +kernel))) rfl), by decide, by decide, by decide +kernel⟩
theorem vl_X3_makeEcho : q_Vl yX3_makeEcho := ⟨(q_mem (q_t3 _ (List.mem_of_getElem? (i := 236) (by decide +kernel))) rfl), (q_mem (q_tp _ (List.mem_of_getElem? (i := 26) (by decide +kernel))) rfl)⟩
theorem yl_X10_layJam : q_Yl yX10_layJam cX10_layJam 5 (none) 4 := ⟨(q_mem (q_t4 _ (List.mem_of_getElem? (i := 12) rfl)) rfl), (q_mem (q_t1 _ (List.mem_of_getElem? (i := 14) (by decide +kernel))) rfl), by decide, by decide, by decide +kernel⟩
theorem vl_X10_layJam : q_Vl yX10_layJam := ⟨(q_mem (q_t4 _ (List.mem_of_getElem? (i := 10) (by decide +kernel))) rfl), (q_mem (q_t4 _ (List.mem_of_getElem? (i := 11) (by decide +kernel))) rfl)⟩
theorem yl_X3_makeJam : q_Yl yX3_makeJam cX3_makeJam 5 (none) 1 := ⟨(q_mem (q_t4 _ (List.mem_of_getElem? (i := 8) rfl)) rfl), (q_mem (q_t1 _ (List.mem_of_getElem? (i := 2) (by decide +kernel))) rfl), by decide, by decide, by decide +kernel⟩
theorem vl_X3_makeJam : q_Vl yX3_makeJam := ⟨(q_mem (q_t4 _ (List.mem_of_getElem? (i := 7) (by decide +kernel))) rfl), (q_mem (q_tp _ (List.mem_of_getElem? (i := 27) (by decide +kernel))) rfl)⟩
theorem yl_X3_makeTell : q_Yl yX3_makeTell cX3_makeTell 3 (none) 2 := ⟨(q_mem (q_t3 _ (List.mem_of_getElem? (i := 116) rfl)) rfl), (q_mem (q_t1 _ (List.mem_of_getElem? (i := 2) (by decide +kernel))) rfl), by decide, by decide, by decide +kernel⟩
theorem vl_X3_makeTell : q_Vl yX3_makeTell := ⟨(q_mem (q_t3 _ (List.mem_of_getElem? (i := 115) (by decide +kernel))) rfl), (q_mem (q_tp _ (List.mem_of_getElem? (i := 12) (by decide +kernel))) rfl)⟩
theorem yl_X3_make : q_Yl yX3_make cX3_make 4 (some FieldType.int) 1 := ⟨(q_mem (q_t3 _ (List.mem_of_getElem? (i := 22) rfl)) rfl), (q_mem (q_t1 _ (List.mem_of_getElem? (i := 2) (by decide +kernel))) rfl), by decide, by decide, by decide +kernel⟩
theorem vl_X3_make : q_Vl yX3_make := ⟨(q_mem (q_t3 _ (List.mem_of_getElem? (i := 20) (by decide +kernel))) rfl), (q_mem (q_t3 _ (List.mem_of_getElem? (i := 21) (by decide +kernel))) rfl)⟩
theorem yl_X7_length : q_Yl yX7_length cX7_length 1 (some FieldType.int) 0 := ⟨(q_mem (q_t4 _ (List.mem_of_getElem? (i := 38) rfl)) rfl), (q_mem (q_t1 _ (List.mem_of_getElem? (i := 17) (by decide +kernel))) rfl), by decide, by decide, by decide +kernel⟩
theorem vl_X7_length : q_Vl yX7_length := ⟨(q_mem (q_t4 _ (List.mem_of_getElem? (i := 37) (by decide +kernel))) rfl), (q_mem (q_tp _ (List.mem_of_getElem? (i := 28) (by decide +kernel))) rfl)⟩
theorem yl_X11_quotient : q_Yl yX11_quotient cX11_quotient 4 (some FieldType.long) 2 := ⟨(q_mem (q_t4 _ (List.mem_of_getElem? (i := 41) rfl)) rfl), (q_mem (q_t1 _ (List.mem_of_getElem? (i := 1) (by decide +kernel))) rfl), by decide, by decide, by decide +kernel⟩
theorem sl_X11_quotient : .static yX11_quotient ∈ q_tbl := (q_mem (q_t4 _ (List.mem_of_getElem? (i := 40) (by decide +kernel))) rfl)
theorem yl_X7_delayAt : q_Yl yX7_delayAt cX7_delayAt 2 (some FieldType.int) 1 := ⟨(q_mem (q_t4 _ (List.mem_of_getElem? (i := 34) rfl)) rfl), (q_mem (q_t1 _ (List.mem_of_getElem? (i := 17) (by decide +kernel))) rfl), by decide, by decide, by decide +kernel⟩
theorem vl_X7_delayAt : q_Vl yX7_delayAt := ⟨(q_mem (q_t4 _ (List.mem_of_getElem? (i := 32) (by decide +kernel))) rfl), (q_mem (q_t4 _ (List.mem_of_getElem? (i := 33) (by decide +kernel))) rfl)⟩
theorem yl_X7_periodAt : q_Yl yX7_periodAt cX7_periodAt 3 (some FieldType.int) 1 := ⟨(q_mem (q_t4 _ (List.mem_of_getElem? (i := 30) rfl)) rfl), (q_mem (q_t1 _ (List.mem_of_getElem? (i := 17) (by decide +kernel))) rfl), by decide, by decide, by decide +kernel⟩
theorem vl_X7_periodAt : q_Vl yX7_periodAt := ⟨(q_mem (q_t4 _ (List.mem_of_getElem? (i := 28) (by decide +kernel))) rfl), (q_mem (q_t4 _ (List.mem_of_getElem? (i := 29) (by decide +kernel))) rfl)⟩
theorem yl_X11_turnAt : q_Yl yX11_turnAt cX11_turnAt 2 (some FieldType.int) 2 := ⟨(q_mem (q_t4 _ (List.mem_of_getElem? (i := 56) rfl)) rfl), (q_mem (q_t1 _ (List.mem_of_getElem? (i := 1) (by decide +kernel))) rfl), by decide, by decide, by decide +kernel⟩
theorem sl_X11_turnAt : .static yX11_turnAt ∈ q_tbl := (q_mem (q_t4 _ (List.mem_of_getElem? (i := 55) (by decide +kernel))) rfl)
theorem yl_X7_axisAt : q_Yl yX7_axisAt cX7_axisAt 2 (some FieldType.int) 1 := ⟨(q_mem (q_t4 _ (List.mem_of_getElem? (i := 64) rfl)) rfl), (q_mem (q_t1 _ (List.mem_of_getElem? (i := 17) (by decide +kernel))) rfl), by decide, by decide, by decide +kernel⟩
theorem vl_X7_axisAt : q_Vl yX7_axisAt := ⟨(q_mem (q_t4 _ (List.mem_of_getElem? (i := 62) (by decide +kernel))) rfl), (q_mem (q_t4 _ (List.mem_of_getElem? (i := 63) (by decide +kernel))) rfl)⟩
theorem yl_X8_value : q_Yl yX8_value cX8_value 3 (some FieldType.long) 2 := ⟨(q_mem (q_t4 _ (List.mem_of_getElem? (i := 222) rfl)) rfl), (q_mem (q_t1 _ (List.mem_of_getElem? (i := 10) (by decide +kernel))) rfl), by decide, by decide, by decide +kernel⟩
theorem vl_X8_value : q_Vl yX8_value := ⟨(q_mem (q_t4 _ (List.mem_of_getElem? (i := 220) (by decide +kernel))) rfl), (q_mem (q_t4 _ (List.mem_of_getElem? (i := 221) (by decide +kernel))) rfl)⟩
theorem yl_X7_signAt : q_Yl yX7_signAt cX7_signAt 4 (some FieldType.int) 1 := ⟨(q_mem (q_t4 _ (List.mem_of_getElem? (i := 52) rfl)) rfl), (q_mem (q_t1 _ (List.mem_of_getElem? (i := 17) (by decide +kernel))) rfl), by decide, by decide, by decide +kernel⟩
theorem vl_X7_signAt : q_Vl yX7_signAt := ⟨(q_mem (q_t4 _ (List.mem_of_getElem? (i := 50) (by decide +kernel))) rfl), (q_mem (q_t4 _ (List.mem_of_getElem? (i := 51) (by decide +kernel))) rfl)⟩
theorem yl_X4_gather : q_Yl yX4_gather cX4_gather 4 (none) 2 := ⟨(q_mem (q_t5 _ (List.mem_of_getElem? (i := 144) rfl)) rfl), (q_mem (q_t1 _ (List.mem_of_getElem? (i := 13) (by decide +kernel))) rfl), by decide, by decide, by decide +kernel⟩
theorem vl_X4_gather : q_Vl yX4_gather := ⟨(q_mem (q_t5 _ (List.mem_of_getElem? (i := 142) (by decide +kernel))) rfl), (q_mem (q_t5 _ (List.mem_of_getElem? (i := 143) (by decide +kernel))) rfl)⟩
theorem yl_X4_bitRead : q_Yl yX4_bitRead cX4_bitRead 2 (some FieldType.int) 1 := ⟨(q_mem (q_t5 _ (List.mem_of_getElem? (i := 154) rfl)) rfl), (q_mem (q_t1 _ (List.mem_of_getElem? (i := 13) (by decide +kernel))) rfl), by decide, by decide, by decide +kernel⟩
theorem vl_X4_bitRead : q_Vl yX4_bitRead := ⟨(q_mem (q_t5 _ (List.mem_of_getElem? (i := 152) (by decide +kernel))) rfl), (q_mem (q_t5 _ (List.mem_of_getElem? (i := 153) (by decide +kernel))) rfl)⟩
theorem yl_X7_bitSent : q_Yl yX7_bitSent cX7_bitSent 2 (some FieldType.int) 1 := ⟨(q_mem (q_t4 _ (List.mem_of_getElem? (i := 45) rfl)) rfl), (q_mem (q_t1 _ (List.mem_of_getElem? (i := 17) (by decide +kernel))) rfl), by decide, by decide, by decide +kernel⟩
theorem vl_X7_bitSent : q_Vl yX7_bitSent := ⟨(q_mem (q_t4 _ (List.mem_of_getElem? (i := 43) (by decide +kernel))) rfl), (q_mem (q_t4 _ (List.mem_of_getElem? (i := 44) (by decide +kernel))) rfl)⟩
theorem yl_X4_wrongBit : q_Yl yX4_wrongBit cX4_wrongBit 3 (some FieldType.int) 2 := ⟨(q_mem (q_t5 _ (List.mem_of_getElem? (i := 167) rfl)) rfl), (q_mem (q_t1 _ (List.mem_of_getElem? (i := 13) (by decide +kernel))) rfl), by decide, by decide, by decide +kernel⟩
theorem vl_X4_wrongBit : q_Vl yX4_wrongBit := ⟨(q_mem (q_t5 _ (List.mem_of_getElem? (i := 166) (by decide +kernel))) rfl), (q_mem (q_tp _ (List.mem_of_getElem? (i := 41) (by decide +kernel))) rfl)⟩
theorem yl_X4_wrongBits : q_Yl yX4_wrongBits cX4_wrongBits 5 (some FieldType.int) 2 := ⟨(q_mem (q_t5 _ (List.mem_of_getElem? (i := 163) rfl)) rfl), (q_mem (q_t1 _ (List.mem_of_getElem? (i := 13) (by decide +kernel))) rfl), by decide, by decide, by decide +kernel⟩
theorem vl_X4_wrongBits : q_Vl yX4_wrongBits := ⟨(q_mem (q_t5 _ (List.mem_of_getElem? (i := 161) (by decide +kernel))) rfl), (q_mem (q_t5 _ (List.mem_of_getElem? (i := 162) (by decide +kernel))) rfl)⟩
theorem yl_X4_joinedValue : q_Yl yX4_joinedValue cX4_joinedValue 7 (some FieldType.long) 3 := ⟨(q_mem (q_t5 _ (List.mem_of_getElem? (i := 180) rfl)) rfl), (q_mem (q_t1 _ (List.mem_of_getElem? (i := 13) (by decide +kernel))) rfl), by decide, by decide, by decide +kernel⟩
theorem sl_X4_joinedValue : .static yX4_joinedValue ∈ q_tbl := (q_mem (q_t5 _ (List.mem_of_getElem? (i := 179) (by decide +kernel))) rfl)
theorem yl_X4_bitJoined : q_Yl yX4_bitJoined cX4_bitJoined 7 (some FieldType.int) 3 := ⟨(q_mem (q_t5 _ (List.mem_of_getElem? (i := 177) rfl)) rfl), (q_mem (q_t1 _ (List.mem_of_getElem? (i := 13) (by decide +kernel))) rfl), by decide, by decide, by decide +kernel⟩
theorem vl_X4_bitJoined : q_Vl yX4_bitJoined := ⟨(q_mem (q_t5 _ (List.mem_of_getElem? (i := 175) (by decide +kernel))) rfl), (q_mem (q_t5 _ (List.mem_of_getElem? (i := 176) (by decide +kernel))) rfl)⟩
theorem yl_X4_isFrame : q_Yl yX4_isFrame cX4_isFrame 5 (some FieldType.boolean) 3 := ⟨(q_mem (q_t5 _ (List.mem_of_getElem? (i := 193) rfl)) rfl), (q_mem (q_t1 _ (List.mem_of_getElem? (i := 13) (by decide +kernel))) rfl), by decide, by decide, by decide +kernel⟩
theorem vl_X4_isFrame : q_Vl yX4_isFrame := ⟨(q_mem (q_t5 _ (List.mem_of_getElem? (i := 192) (by decide +kernel))) rfl), (q_mem (q_tp _ (List.mem_of_getElem? (i := 42) (by decide +kernel))) rfl)⟩
theorem yl_X4_placeOfBits : q_Yl yX4_placeOfBits cX4_placeOfBits 5 (some FieldType.int) 3 := ⟨(q_mem (q_t5 _ (List.mem_of_getElem? (i := 189) rfl)) rfl), (q_mem (q_t1 _ (List.mem_of_getElem? (i := 13) (by decide +kernel))) rfl), by decide, by decide, by decide +kernel⟩
theorem vl_X4_placeOfBits : q_Vl yX4_placeOfBits := ⟨(q_mem (q_t5 _ (List.mem_of_getElem? (i := 187) (by decide +kernel))) rfl), (q_mem (q_t5 _ (List.mem_of_getElem? (i := 188) (by decide +kernel))) rfl)⟩
theorem yl_X7_periods : q_Yl yX7_periods cX7_periods 2 (some FieldType.int) 1 := ⟨(q_mem (q_t5 _ (List.mem_of_getElem? (i := 140) rfl)) rfl), (q_mem (q_t1 _ (List.mem_of_getElem? (i := 17) (by decide +kernel))) rfl), by decide, by decide, by decide +kernel⟩
theorem vl_X7_periods : q_Vl yX7_periods := ⟨(q_mem (q_t5 _ (List.mem_of_getElem? (i := 138) (by decide +kernel))) rfl), (q_mem (q_t5 _ (List.mem_of_getElem? (i := 139) (by decide +kernel))) rfl)⟩
theorem yl_X4_wrongMore : q_Yl yX4_wrongMore cX4_wrongMore 7 (some FieldType.int) 4 := ⟨(q_mem (q_t5 _ (List.mem_of_getElem? (i := 208) rfl)) rfl), (q_mem (q_t1 _ (List.mem_of_getElem? (i := 13) (by decide +kernel))) rfl), by decide, by decide, by decide +kernel⟩
theorem vl_X4_wrongMore : q_Vl yX4_wrongMore := ⟨(q_mem (q_t5 _ (List.mem_of_getElem? (i := 207) (by decide +kernel))) rfl), (q_mem (q_tp _ (List.mem_of_getElem? (i := 43) (by decide +kernel))) rfl)⟩
theorem yl_X4_findWorstPulse : q_Yl yX4_findWorstPulse cX4_findWorstPulse 8 (none) 4 := ⟨(q_mem (q_t5 _ (List.mem_of_getElem? (i := 201) rfl)) rfl), (q_mem (q_t1 _ (List.mem_of_getElem? (i := 13) (by decide +kernel))) rfl), by decide, by decide, by decide +kernel⟩
theorem vl_X4_findWorstPulse : q_Vl yX4_findWorstPulse := ⟨(q_mem (q_t5 _ (List.mem_of_getElem? (i := 199) (by decide +kernel))) rfl), (q_mem (q_t5 _ (List.mem_of_getElem? (i := 200) (by decide +kernel))) rfl)⟩
theorem yl_X4_strongerThan : q_Yl yX4_strongerThan cX4_strongerThan 7 (some FieldType.int) 2 := ⟨(q_mem (q_t6 _ (List.mem_of_getElem? (i := 7) rfl)) rfl), (q_mem (q_t1 _ (List.mem_of_getElem? (i := 13) (by decide +kernel))) rfl), by decide, by decide, by decide +kernel⟩
theorem sl_X4_strongerThan : .static yX4_strongerThan ∈ q_tbl := (q_mem (q_t6 _ (List.mem_of_getElem? (i := 6) (by decide +kernel))) rfl)
theorem yl_X4_strongerFirst : q_Yl yX4_strongerFirst cX4_strongerFirst 4 (some FieldType.int) 2 := ⟨(q_mem (q_t6 _ (List.mem_of_getElem? (i := 4) rfl)) rfl), (q_mem (q_t1 _ (List.mem_of_getElem? (i := 13) (by decide +kernel))) rfl), by decide, by decide, by decide +kernel⟩
theorem vl_X4_strongerFirst : q_Vl yX4_strongerFirst := ⟨(q_mem (q_t6 _ (List.mem_of_getElem? (i := 2) (by decide +kernel))) rfl), (q_mem (q_t6 _ (List.mem_of_getElem? (i := 3) (by decide +kernel))) rfl)⟩
theorem yl_X8_takeOver : q_Yl yX8_takeOver cX8_takeOver 2 (none) 1 := ⟨(q_mem (q_t5 _ (List.mem_of_getElem? (i := 220) rfl)) rfl), (q_mem (q_t1 _ (List.mem_of_getElem? (i := 10) (by decide +kernel))) rfl), by decide, by decide, by decide +kernel⟩
theorem vl_X8_takeOver : q_Vl yX8_takeOver := ⟨(q_mem (q_t5 _ (List.mem_of_getElem? (i := 218) (by decide +kernel))) rfl), (q_mem (q_t5 _ (List.mem_of_getElem? (i := 219) (by decide +kernel))) rfl)⟩
theorem yl_X8_increase : q_Yl yX8_increase cX8_increase 4 (none) 3 := ⟨(q_mem (q_t4 _ (List.mem_of_getElem? (i := 68) rfl)) rfl), (q_mem (q_t1 _ (List.mem_of_getElem? (i := 10) (by decide +kernel))) rfl), by decide, by decide, by decide +kernel⟩
theorem vl_X8_increase : q_Vl yX8_increase := ⟨(q_mem (q_t4 _ (List.mem_of_getElem? (i := 67) (by decide +kernel))) rfl), (q_mem (q_tp _ (List.mem_of_getElem? (i := 30) (by decide +kernel))) rfl)⟩
theorem yl_X8_layUnit : q_Yl yX8_layUnit cX8_layUnit 6 (none) 3 := ⟨(q_mem (q_t4 _ (List.mem_of_getElem? (i := 60) rfl)) rfl), (q_mem (q_t1 _ (List.mem_of_getElem? (i := 10) (by decide +kernel))) rfl), by decide, by decide, by decide +kernel⟩
theorem vl_X8_layUnit : q_Vl yX8_layUnit := ⟨(q_mem (q_t4 _ (List.mem_of_getElem? (i := 59) (by decide +kernel))) rfl), (q_mem (q_tp _ (List.mem_of_getElem? (i := 29) (by decide +kernel))) rfl)⟩
theorem yl_X8_layWave : q_Yl yX8_layWave cX8_layWave 8 (none) 3 := ⟨(q_mem (q_t4 _ (List.mem_of_getElem? (i := 26) rfl)) rfl), (q_mem (q_t1 _ (List.mem_of_getElem? (i := 10) (by decide +kernel))) rfl), by decide, by decide, by decide +kernel⟩
theorem vl_X8_layWave : q_Vl yX8_layWave := ⟨(q_mem (q_t4 _ (List.mem_of_getElem? (i := 24) (by decide +kernel))) rfl), (q_mem (q_t4 _ (List.mem_of_getElem? (i := 25) (by decide +kernel))) rfl)⟩
theorem yl_X4_takeOut : q_Yl yX4_takeOut cX4_takeOut 7 (some FieldType.int) 3 := ⟨(q_mem (q_t6 _ (List.mem_of_getElem? (i := 0) rfl)) rfl), (q_mem (q_t1 _ (List.mem_of_getElem? (i := 13) (by decide +kernel))) rfl), by decide, by decide, by decide +kernel⟩
theorem vl_X4_takeOut : q_Vl yX4_takeOut := ⟨(q_mem (q_t5 _ (List.mem_of_getElem? (i := 238) (by decide +kernel))) rfl), (q_mem (q_t5 _ (List.mem_of_getElem? (i := 239) (by decide +kernel))) rfl)⟩
theorem yl_X8_squares : q_Yl yX8_squares cX8_squares 6 (some FieldType.long) 2 := ⟨(q_mem (q_t4 _ (List.mem_of_getElem? (i := 231) rfl)) rfl), (q_mem (q_t1 _ (List.mem_of_getElem? (i := 10) (by decide +kernel))) rfl), by decide, by decide, by decide +kernel⟩
theorem vl_X8_squares : q_Vl yX8_squares := ⟨(q_mem (q_t4 _ (List.mem_of_getElem? (i := 229) (by decide +kernel))) rfl), (q_mem (q_t4 _ (List.mem_of_getElem? (i := 230) (by decide +kernel))) rfl)⟩
theorem yl_X4_squaresLeft : q_Yl yX4_squaresLeft cX4_squaresLeft 1 (some FieldType.long) 0 := ⟨(q_mem (q_t6 _ (List.mem_of_getElem? (i := 16) rfl)) rfl), (q_mem (q_t1 _ (List.mem_of_getElem? (i := 13) (by decide +kernel))) rfl), by decide, by decide, by decide +kernel⟩
theorem vl_X4_squaresLeft : q_Vl yX4_squaresLeft := ⟨(q_mem (q_t6 _ (List.mem_of_getElem? (i := 14) (by decide +kernel))) rfl), (q_mem (q_t6 _ (List.mem_of_getElem? (i := 15) (by decide +kernel))) rfl)⟩
theorem yl_X4_takeAllOut : q_Yl yX4_takeAllOut cX4_takeAllOut 4 (none) 1 := ⟨(q_mem (q_t5 _ (List.mem_of_getElem? (i := 225) rfl)) rfl), (q_mem (q_t1 _ (List.mem_of_getElem? (i := 13) (by decide +kernel))) rfl), by decide, by decide, by decide +kernel⟩
theorem vl_X4_takeAllOut : q_Vl yX4_takeAllOut := ⟨(q_mem (q_t5 _ (List.mem_of_getElem? (i := 224) (by decide +kernel))) rfl), (q_mem (q_tp _ (List.mem_of_getElem? (i := 44) (by decide +kernel))) rfl)⟩
theorem yl_X4_readAll : q_Yl yX4_readAll cX4_readAll 6 (some FieldType.int) 2 := ⟨(q_mem (q_t5 _ (List.mem_of_getElem? (i := 232) rfl)) rfl), (q_mem (q_t1 _ (List.mem_of_getElem? (i := 13) (by decide +kernel))) rfl), by decide, by decide, by decide +kernel⟩
theorem vl_X4_readAll : q_Vl yX4_readAll := ⟨(q_mem (q_t5 _ (List.mem_of_getElem? (i := 231) (by decide +kernel))) rfl), (q_mem (q_tp _ (List.mem_of_getElem? (i := 45) (by decide +kernel))) rfl)⟩
theorem yl_X4_wrongAtOnce : q_Yl yX4_wrongAtOnce cX4_wrongAtOnce 6 (some FieldType.int) 3 := ⟨(q_mem (q_t5 _ (List.mem_of_getElem? (i := 216) rfl)) rfl), (q_mem (q_t1 _ (List.mem_of_getElem? (i := 13) (by decide +kernel))) rfl), by decide, by decide, by decide +kernel⟩
theorem vl_X4_wrongAtOnce : q_Vl yX4_wrongAtOnce := ⟨(q_mem (q_t5 _ (List.mem_of_getElem? (i := 214) (by decide +kernel))) rfl), (q_mem (q_t5 _ (List.mem_of_getElem? (i := 215) (by decide +kernel))) rfl)⟩
theorem yl_X6_turnBack : q_Yl yX6_turnBack cX6_turnBack 15 (none) 4 := ⟨(q_mem (q_t5 _ (List.mem_of_getElem? (i := 35) rfl)) rfl), (q_mem (q_t1 _ (List.mem_of_getElem? (i := 12) (by decide +kernel))) rfl), by decide, by decide, by decide +kernel⟩
theorem vl_X6_turnBack : q_Vl yX6_turnBack := ⟨(q_mem (q_t5 _ (List.mem_of_getElem? (i := 34) (by decide +kernel))) rfl), (q_mem (q_tp _ (List.mem_of_getElem? (i := 37) (by decide +kernel))) rfl)⟩
theorem yl_X6_sumOf : q_Yl yX6_sumOf cX6_sumOf 7 (some FieldType.long) 6 := ⟨(q_mem (q_t5 _ (List.mem_of_getElem? (i := 31) rfl)) rfl), (q_mem (q_t1 _ (List.mem_of_getElem? (i := 12) (by decide +kernel))) rfl), by decide, by decide, by decide +kernel⟩
theorem vl_X6_sumOf : q_Vl yX6_sumOf := ⟨(q_mem (q_t5 _ (List.mem_of_getElem? (i := 29) (by decide +kernel))) rfl), (q_mem (q_t5 _ (List.mem_of_getElem? (i := 30) (by decide +kernel))) rfl)⟩
theorem yl_X6_squares : q_Yl yX6_squares cX6_squares 7 (some FieldType.long) 2 := ⟨(q_mem (q_t5 _ (List.mem_of_getElem? (i := 59) rfl)) rfl), (q_mem (q_t1 _ (List.mem_of_getElem? (i := 12) (by decide +kernel))) rfl), by decide, by decide, by decide +kernel⟩
theorem vl_X6_squares : q_Vl yX6_squares := ⟨(q_mem (q_t5 _ (List.mem_of_getElem? (i := 58) (by decide +kernel))) rfl), (q_mem (q_tp _ (List.mem_of_getElem? (i := 39) (by decide +kernel))) rfl)⟩
theorem yl_X6_metricOf : q_Yl yX6_metricOf cX6_metricOf 9 (some FieldType.long) 5 := ⟨(q_mem (q_t5 _ (List.mem_of_getElem? (i := 55) rfl)) rfl), (q_mem (q_t1 _ (List.mem_of_getElem? (i := 12) (by decide +kernel))) rfl), by decide, by decide, by decide +kernel⟩
theorem vl_X6_metricOf : q_Vl yX6_metricOf := ⟨(q_mem (q_t5 _ (List.mem_of_getElem? (i := 53) (by decide +kernel))) rfl), (q_mem (q_t5 _ (List.mem_of_getElem? (i := 54) (by decide +kernel))) rfl)⟩
theorem yl_X6_survey : q_Yl yX6_survey cX6_survey 8 (none) 4 := ⟨(q_mem (q_t5 _ (List.mem_of_getElem? (i := 67) rfl)) rfl), (q_mem (q_t1 _ (List.mem_of_getElem? (i := 12) (by decide +kernel))) rfl), by decide, by decide, by decide +kernel⟩
theorem vl_X6_survey : q_Vl yX6_survey := ⟨(q_mem (q_t5 _ (List.mem_of_getElem? (i := 65) (by decide +kernel))) rfl), (q_mem (q_t5 _ (List.mem_of_getElem? (i := 66) (by decide +kernel))) rfl)⟩
theorem yl_X6_greatestCell : q_Yl yX6_greatestCell cX6_greatestCell 3 (some FieldType.int) 0 := ⟨(q_mem (q_t5 _ (List.mem_of_getElem? (i := 73) rfl)) rfl), (q_mem (q_t1 _ (List.mem_of_getElem? (i := 12) (by decide +kernel))) rfl), by decide, by decide, by decide +kernel⟩
theorem vl_X6_greatestCell : q_Vl yX6_greatestCell := ⟨(q_mem (q_t5 _ (List.mem_of_getElem? (i := 71) (by decide +kernel))) rfl), (q_mem (q_t5 _ (List.mem_of_getElem? (i := 72) (by decide +kernel))) rfl)⟩
theorem yl_X11_apart : q_Yl yX11_apart cX11_apart 4 (some FieldType.int) 3 := ⟨(q_mem (q_t5 _ (List.mem_of_getElem? (i := 85) rfl)) rfl), (q_mem (q_t1 _ (List.mem_of_getElem? (i := 1) (by decide +kernel))) rfl), by decide, by decide, by decide +kernel⟩
theorem sl_X11_apart : .static yX11_apart ∈ q_tbl := (q_mem (q_t5 _ (List.mem_of_getElem? (i := 84) (by decide +kernel))) rfl)
theorem yl_X6_cellBeside : q_Yl yX6_cellBeside cX6_cellBeside 7 (some FieldType.int) 2 := ⟨(q_mem (q_t5 _ (List.mem_of_getElem? (i := 82) rfl)) rfl), (q_mem (q_t1 _ (List.mem_of_getElem? (i := 12) (by decide +kernel))) rfl), by decide, by decide, by decide +kernel⟩
theorem vl_X6_cellBeside : q_Vl yX6_cellBeside := ⟨(q_mem (q_t5 _ (List.mem_of_getElem? (i := 80) (by decide +kernel))) rfl), (q_mem (q_t5 _ (List.mem_of_getElem? (i := 81) (by decide +kernel))) rfl)⟩
theorem yl_X6_rankOf : q_Yl yX6_rankOf cX6_rankOf 9 (some FieldType.int) 2 := ⟨(q_mem (q_t5 _ (List.mem_of_getElem? (i := 99) rfl)) rfl), (q_mem (q_t1 _ (List.mem_of_getElem? (i := 12) (by decide +kernel))) rfl), by decide, by decide, by decide +kernel⟩
theorem vl_X6_rankOf : q_Vl yX6_rankOf := ⟨(q_mem (q_t5 _ (List.mem_of_getElem? (i := 98) (by decide +kernel))) rfl), (q_mem (q_tp _ (List.mem_of_getElem? (i := 40) (by decide +kernel))) rfl)⟩
theorem yl_X6_delayOfRank : q_Yl yX6_delayOfRank cX6_delayOfRank 4 (some FieldType.int) 2 := ⟨(q_mem (q_t5 _ (List.mem_of_getElem? (i := 95) rfl)) rfl), (q_mem (q_t1 _ (List.mem_of_getElem? (i := 12) (by decide +kernel))) rfl), by decide, by decide, by decide +kernel⟩
theorem vl_X6_delayOfRank : q_Vl yX6_delayOfRank := ⟨(q_mem (q_t5 _ (List.mem_of_getElem? (i := 93) (by decide +kernel))) rfl), (q_mem (q_t5 _ (List.mem_of_getElem? (i := 94) (by decide +kernel))) rfl)⟩
theorem yl_X6_cellsFrom : q_Yl yX6_cellsFrom cX6_cellsFrom 5 (some FieldType.int) 1 := ⟨(q_mem (q_t5 _ (List.mem_of_getElem? (i := 107) rfl)) rfl), (q_mem (q_t1 _ (List.mem_of_getElem? (i := 12) (by decide +kernel))) rfl), by decide, by decide, by decide +kernel⟩
theorem vl_X6_cellsFrom : q_Vl yX6_cellsFrom := ⟨(q_mem (q_t5 _ (List.mem_of_getElem? (i := 105) (by decide +kernel))) rfl), (q_mem (q_t5 _ (List.mem_of_getElem? (i := 106) (by decide +kernel))) rfl)⟩
theorem yl_X6_looksTill : q_Yl yX6_looksTill cX6_looksTill 7 (some FieldType.int) 3 := ⟨(q_mem (q_t5 _ (List.mem_of_getElem? (i := 115) rfl)) rfl), (q_mem (q_t1 _ (List.mem_of_getElem? (i := 12) (by decide +kernel))) rfl), by decide, by decide, by decide +kernel⟩
theorem vl_X6_looksTill : q_Vl yX6_looksTill := ⟨(q_mem (q_t5 _ (List.mem_of_getElem? (i := 113) (by decide +kernel))) rfl), (q_mem (q_t5 _ (List.mem_of_getElem? (i := 114) (by decide +kernel))) rfl)⟩
theorem yl_X6_loopStep : q_Yl yX6_loopStep cX6_loopStep 14 (some FieldType.int) 5 := ⟨(q_mem (q_t6 _ (List.mem_of_getElem? (i := 25) rfl)) rfl), (q_mem (q_t1 _ (List.mem_of_getElem? (i := 12) (by decide +kernel))) rfl), by decide, by decide, by decide +kernel⟩
theorem vl_X6_loopStep : q_Vl yX6_loopStep := ⟨(q_mem (q_t6 _ (List.mem_of_getElem? (i := 23) (by decide +kernel))) rfl), (q_mem (q_t6 _ (List.mem_of_getElem? (i := 24) (by decide +kernel))) rfl)⟩
theorem yl_X7_unitAt : q_Yl yX7_unitAt cX7_unitAt 3 (some FieldType.int) 2 := ⟨(q_mem (q_t5 _ (List.mem_of_getElem? (i := 1) rfl)) rfl), (q_mem (q_t1 _ (List.mem_of_getElem? (i := 17) (by decide +kernel))) rfl), by decide, by decide, by decide +kernel⟩
theorem vl_X7_unitAt : q_Vl yX7_unitAt := ⟨(q_mem (q_t4 _ (List.mem_of_getElem? (i := 239) (by decide +kernel))) rfl), (q_mem (q_t5 _ (List.mem_of_getElem? (i := 0) (by decide +kernel))) rfl)⟩
theorem yl_X8_layJam : q_Yl yX8_layJam cX8_layJam 6 (none) 2 := ⟨(q_mem (q_t4 _ (List.mem_of_getElem? (i := 74) rfl)) rfl), (q_mem (q_t1 _ (List.mem_of_getElem? (i := 10) (by decide +kernel))) rfl), by decide, by decide, by decide +kernel⟩
theorem vl_X8_layJam : q_Vl yX8_layJam := ⟨(q_mem (q_t4 _ (List.mem_of_getElem? (i := 73) (by decide +kernel))) rfl), (q_mem (q_tp _ (List.mem_of_getElem? (i := 31) (by decide +kernel))) rfl)⟩
theorem yl_X8_stirred : q_Yl yX8_stirred cX8_stirred 3 (some FieldType.int) 2 := ⟨(q_mem (q_t4 _ (List.mem_of_getElem? (i := 87) rfl)) rfl), (q_mem (q_t1 _ (List.mem_of_getElem? (i := 10) (by decide +kernel))) rfl), by decide, by decide, by decide +kernel⟩
theorem sl_X8_stirred : .static yX8_stirred ∈ q_tbl := (q_mem (q_t4 _ (List.mem_of_getElem? (i := 86) (by decide +kernel))) rfl)
theorem yl_X8_lot : q_Yl yX8_lot cX8_lot 4 (some FieldType.int) 3 := ⟨(q_mem (q_t4 _ (List.mem_of_getElem? (i := 84) rfl)) rfl), (q_mem (q_t1 _ (List.mem_of_getElem? (i := 10) (by decide +kernel))) rfl), by decide, by decide, by decide +kernel⟩
theorem sl_X8_lot : .static yX8_lot ∈ q_tbl := (q_mem (q_t4 _ (List.mem_of_getElem? (i := 83) (by decide +kernel))) rfl)
theorem yl_X8_layNoise : q_Yl yX8_layNoise cX8_layNoise 4 (none) 2 := ⟨(q_mem (q_t4 _ (List.mem_of_getElem? (i := 81) rfl)) rfl), (q_mem (q_t1 _ (List.mem_of_getElem? (i := 10) (by decide +kernel))) rfl), by decide, by decide, by decide +kernel⟩
theorem vl_X8_layNoise : q_Vl yX8_layNoise := ⟨(q_mem (q_t4 _ (List.mem_of_getElem? (i := 79) (by decide +kernel))) rfl), (q_mem (q_t4 _ (List.mem_of_getElem? (i := 80) (by decide +kernel))) rfl)⟩
theorem yl_X8_layAnew : q_Yl yX8_layAnew cX8_layAnew 4 (none) 1 := ⟨(q_mem (q_t4 _ (List.mem_of_getElem? (i := 17) rfl)) rfl), (q_mem (q_t1 _ (List.mem_of_getElem? (i := 10) (by decide +kernel))) rfl), by decide, by decide, by decide +kernel⟩
theorem vl_X8_layAnew : q_Vl yX8_layAnew := ⟨(q_mem (q_t4 _ (List.mem_of_getElem? (i := 15) (by decide +kernel))) rfl), (q_mem (q_t4 _ (List.mem_of_getElem? (i := 16) (by decide +kernel))) rfl)⟩
theorem yl_X9_append : q_Yl yX9_append cX9_append 3 (none) 1 := ⟨(q_mem (q_t3 _ (List.mem_of_getElem? (i := 10) rfl)) rfl), (q_mem (q_t1 _ (List.mem_of_getElem? (i := 3) (by decide +kernel))) rfl), by decide, by decide, by decide +kernel⟩
theorem vl_X9_append : q_Vl yX9_append := ⟨(q_mem (q_t3 _ (List.mem_of_getElem? (i := 8) (by decide +kernel))) rfl), (q_mem (q_t3 _ (List.mem_of_getElem? (i := 9) (by decide +kernel))) rfl)⟩
theorem yl_X10_isCrowded : q_Yl yX10_isCrowded cX10_isCrowded 7 (some FieldType.boolean) 2 := ⟨(q_mem (q_t6 _ (List.mem_of_getElem? (i := 86) rfl)) rfl), (q_mem (q_t1 _ (List.mem_of_getElem? (i := 14) (by decide +kernel))) rfl), by decide, by decide, by decide +kernel⟩
theorem vl_X10_isCrowded : q_Vl yX10_isCrowded := ⟨(q_mem (q_t6 _ (List.mem_of_getElem? (i := 84) (by decide +kernel))) rfl), (q_mem (q_t6 _ (List.mem_of_getElem? (i := 85) (by decide +kernel))) rfl)⟩
theorem yl_X11_feed : q_Yl yX11_feed cX11_feed 7 (some FieldType.int) 5 := ⟨(q_mem (q_t3 _ (List.mem_of_getElem? (i := 6) rfl)) rfl), (q_mem (q_t1 _ (List.mem_of_getElem? (i := 1) (by decide +kernel))) rfl), by decide, by decide, by decide +kernel⟩
theorem vl_X11_feed : q_Vl yX11_feed := ⟨(q_mem (q_t3 _ (List.mem_of_getElem? (i := 4) (by decide +kernel))) rfl), (q_mem (q_t3 _ (List.mem_of_getElem? (i := 5) (by decide +kernel))) rfl)⟩
theorem yl_X11_back : q_Yl yX11_back cX11_back 3 (some FieldType.int) 1 := ⟨(q_mem (q_t3 _ (List.mem_of_getElem? (i := 14) rfl)) rfl), (q_mem (q_t1 _ (List.mem_of_getElem? (i := 1) (by decide +kernel))) rfl), by decide, by decide, by decide +kernel⟩
theorem vl_X11_back : q_Vl yX11_back := ⟨(q_mem (q_t3 _ (List.mem_of_getElem? (i := 12) (by decide +kernel))) rfl), (q_mem (q_t3 _ (List.mem_of_getElem? (i := 13) (by decide +kernel))) rfl)⟩
theorem yl_X11_read : q_Yl yX11_read cX11_read 3 (some FieldType.int) 0 := ⟨(q_mem (q_t3 _ (List.mem_of_getElem? (i := 18) rfl)) rfl), (q_mem (q_t1 _ (List.mem_of_getElem? (i := 1) (by decide +kernel))) rfl), by decide, by decide, by decide +kernel⟩
theorem vl_X11_read : q_Vl yX11_read := ⟨(q_mem (q_t3 _ (List.mem_of_getElem? (i := 16) (by decide +kernel))) rfl), (q_mem (q_t3 _ (List.mem_of_getElem? (i := 17) (by decide +kernel))) rfl)⟩
theorem yl_X11_place : q_Yl yX11_place cX11_place 1 (some FieldType.int) 0 := ⟨(q_mem (q_t4 _ (List.mem_of_getElem? (i := 92) rfl)) rfl), (q_mem (q_t1 _ (List.mem_of_getElem? (i := 1) (by decide +kernel))) rfl), by decide, by decide, by decide +kernel⟩
theorem vl_X11_place : q_Vl yX11_place := ⟨(q_mem (q_t4 _ (List.mem_of_getElem? (i := 90) (by decide +kernel))) rfl), (q_mem (q_t4 _ (List.mem_of_getElem? (i := 91) (by decide +kernel))) rfl)⟩
theorem yl_X11_code : q_Yl yX11_code cX11_code 4 (some FieldType.int) 2 := ⟨(q_mem (q_t4 _ (List.mem_of_getElem? (i := 96) rfl)) rfl), (q_mem (q_t1 _ (List.mem_of_getElem? (i := 1) (by decide +kernel))) rfl), by decide, by decide, by decide +kernel⟩
theorem vl_X11_code : q_Vl yX11_code := ⟨(q_mem (q_t4 _ (List.mem_of_getElem? (i := 94) (by decide +kernel))) rfl), (q_mem (q_t4 _ (List.mem_of_getElem? (i := 95) (by decide +kernel))) rfl)⟩
theorem yl_X11_chip : q_Yl yX11_chip cX11_chip 4 (some FieldType.int) 2 := ⟨(q_mem (q_t4 _ (List.mem_of_getElem? (i := 130) rfl)) rfl), (q_mem (q_t1 _ (List.mem_of_getElem? (i := 1) (by decide +kernel))) rfl), by decide, by decide, by decide +kernel⟩
theorem vl_X11_chip : q_Vl yX11_chip := ⟨(q_mem (q_t4 _ (List.mem_of_getElem? (i := 128) (by decide +kernel))) rfl), (q_mem (q_t4 _ (List.mem_of_getElem? (i := 129) (by decide +kernel))) rfl)⟩
theorem yl_X11_alike : q_Yl yX11_alike cX11_alike 6 (some FieldType.int) 3 := ⟨(q_mem (q_t4 _ (List.mem_of_getElem? (i := 135) rfl)) rfl), (q_mem (q_t1 _ (List.mem_of_getElem? (i := 1) (by decide +kernel))) rfl), by decide, by decide, by decide +kernel⟩
theorem vl_X11_alike : q_Vl yX11_alike := ⟨(q_mem (q_t4 _ (List.mem_of_getElem? (i := 133) (by decide +kernel))) rfl), (q_mem (q_t4 _ (List.mem_of_getElem? (i := 134) (by decide +kernel))) rfl)⟩
theorem yl_X11_worst : q_Yl yX11_worst cX11_worst 5 (some FieldType.int) 2 := ⟨(q_mem (q_t4 _ (List.mem_of_getElem? (i := 143) rfl)) rfl), (q_mem (q_t1 _ (List.mem_of_getElem? (i := 1) (by decide +kernel))) rfl), by decide, by decide, by decide +kernel⟩
theorem vl_X11_worst : q_Vl yX11_worst := ⟨(q_mem (q_t4 _ (List.mem_of_getElem? (i := 141) (by decide +kernel))) rfl), (q_mem (q_t4 _ (List.mem_of_getElem? (i := 142) (by decide +kernel))) rfl)⟩
theorem yl_X11_times : q_Yl yX11_times cX11_times 6 (some FieldType.int) 3 := ⟨(q_mem (q_t4 _ (List.mem_of_getElem? (i := 155) rfl)) rfl), (q_mem (q_t1 _ (List.mem_of_getElem? (i := 1) (by decide +kernel))) rfl), by decide, by decide, by decide +kernel⟩
theorem vl_X11_times : q_Vl yX11_times := ⟨(q_mem (q_t4 _ (List.mem_of_getElem? (i := 153) (by decide +kernel))) rfl), (q_mem (q_t4 _ (List.mem_of_getElem? (i := 154) (by decide +kernel))) rfl)⟩
theorem yl_X11_depth : q_Yl yX11_depth cX11_depth 3 (some FieldType.int) 1 := ⟨(q_mem (q_t4 _ (List.mem_of_getElem? (i := 163) rfl)) rfl), (q_mem (q_t1 _ (List.mem_of_getElem? (i := 1) (by decide +kernel))) rfl), by decide, by decide, by decide +kernel⟩
theorem vl_X11_depth : q_Vl yX11_depth := ⟨(q_mem (q_t4 _ (List.mem_of_getElem? (i := 161) (by decide +kernel))) rfl), (q_mem (q_t4 _ (List.mem_of_getElem? (i := 162) (by decide +kernel))) rfl)⟩
theorem yl_X11_family : q_Yl yX11_family cX11_family 4 (some FieldType.int) 2 := ⟨(q_mem (q_t4 _ (List.mem_of_getElem? (i := 189) rfl)) rfl), (q_mem (q_t1 _ (List.mem_of_getElem? (i := 1) (by decide +kernel))) rfl), by decide, by decide, by decide +kernel⟩
theorem vl_X11_family : q_Vl yX11_family := ⟨(q_mem (q_t4 _ (List.mem_of_getElem? (i := 187) (by decide +kernel))) rfl), (q_mem (q_t4 _ (List.mem_of_getElem? (i := 188) (by decide +kernel))) rfl)⟩
theorem yl_X11_isSample : q_Yl yX11_isSample cX11_isSample 2 (some FieldType.boolean) 1 := ⟨(q_mem (q_t4 _ (List.mem_of_getElem? (i := 215) rfl)) rfl), (q_mem (q_t1 _ (List.mem_of_getElem? (i := 1) (by decide +kernel))) rfl), by decide, by decide, by decide +kernel⟩
theorem vl_X11_isSample : q_Vl yX11_isSample := ⟨(q_mem (q_t4 _ (List.mem_of_getElem? (i := 214) (by decide +kernel))) rfl), (q_mem (q_tp _ (List.mem_of_getElem? (i := 36) (by decide +kernel))) rfl)⟩
theorem yl_X11_axis : q_Yl yX11_axis cX11_axis 1 (some FieldType.int) 1 := ⟨(q_mem (q_t4 _ (List.mem_of_getElem? (i := 218) rfl)) rfl), (q_mem (q_t1 _ (List.mem_of_getElem? (i := 1) (by decide +kernel))) rfl), by decide, by decide, by decide +kernel⟩
theorem sl_X11_axis : .static yX11_axis ∈ q_tbl := (q_mem (q_t4 _ (List.mem_of_getElem? (i := 217) (by decide +kernel))) rfl)
theorem yl_X11_sample : q_Yl yX11_sample cX11_sample 3 (some FieldType.int) 2 := ⟨(q_mem (q_t4 _ (List.mem_of_getElem? (i := 211) rfl)) rfl), (q_mem (q_t1 _ (List.mem_of_getElem? (i := 1) (by decide +kernel))) rfl), by decide, by decide, by decide +kernel⟩
theorem vl_X11_sample : q_Vl yX11_sample := ⟨(q_mem (q_t4 _ (List.mem_of_getElem? (i := 209) (by decide +kernel))) rfl), (q_mem (q_t4 _ (List.mem_of_getElem? (i := 210) (by decide +kernel))) rfl)⟩
theorem yl_X11_power : q_Yl yX11_power cX11_power 3 (some FieldType.long) 2 := ⟨(q_mem (q_t4 _ (List.mem_of_getElem? (i := 227) rfl)) rfl), (q_mem (q_t1 _ (List.mem_of_getElem? (i := 1) (by decide +kernel))) rfl), by decide, by decide, by decide +kernel⟩
theorem vl_X11_power : q_Vl yX11_power := ⟨(q_mem (q_t4 _ (List.mem_of_getElem? (i := 225) (by decide +kernel))) rfl), (q_mem (q_t4 _ (List.mem_of_getElem? (i := 226) (by decide +kernel))) rfl)⟩
theorem yl_X11_wave : q_Yl yX11_wave cX11_wave 5 (some FieldType.int) 3 := ⟨(q_mem (q_t4 _ (List.mem_of_getElem? (i := 236) rfl)) rfl), (q_mem (q_t1 _ (List.mem_of_getElem? (i := 1) (by decide +kernel))) rfl), by decide, by decide, by decide +kernel⟩
theorem vl_X11_wave : q_Vl yX11_wave := ⟨(q_mem (q_t4 _ (List.mem_of_getElem? (i := 234) (by decide +kernel))) rfl), (q_mem (q_t4 _ (List.mem_of_getElem? (i := 235) (by decide +kernel))) rfl)⟩
theorem yl_X11_add : q_Yl yX11_add cX11_add 4 (some FieldType.boolean) 2 := ⟨(q_mem (q_t5 _ (List.mem_of_getElem? (i := 9) rfl)) rfl), (q_mem (q_t1 _ (List.mem_of_getElem? (i := 1) (by decide +kernel))) rfl), by decide, by decide, by decide +kernel⟩
theorem vl_X11_add : q_Vl yX11_add := ⟨(q_mem (q_t5 _ (List.mem_of_getElem? (i := 7) (by decide +kernel))) rfl), (q_mem (q_t5 _ (List.mem_of_getElem? (i := 8) (by decide +kernel))) rfl)⟩
theorem yl_X11_noise : q_Yl yX11_noise cX11_noise 3 (some FieldType.boolean) 2 := ⟨(q_mem (q_t5 _ (List.mem_of_getElem? (i := 14) rfl)) rfl), (q_mem (q_t1 _ (List.mem_of_getElem? (i := 1) (by decide +kernel))) rfl), by decide, by decide, by decide +kernel⟩
theorem vl_X11_noise : q_Vl yX11_noise := ⟨(q_mem (q_t5 _ (List.mem_of_getElem? (i := 12) (by decide +kernel))) rfl), (q_mem (q_t5 _ (List.mem_of_getElem? (i := 13) (by decide +kernel))) rfl)⟩
theorem yl_X11_anew : q_Yl yX11_anew cX11_anew 1 (some FieldType.boolean) 0 := ⟨(q_mem (q_t5 _ (List.mem_of_getElem? (i := 19) rfl)) rfl), (q_mem (q_t1 _ (List.mem_of_getElem? (i := 1) (by decide +kernel))) rfl), by decide, by decide, by decide +kernel⟩
theorem vl_X11_anew : q_Vl yX11_anew := ⟨(q_mem (q_t5 _ (List.mem_of_getElem? (i := 17) (by decide +kernel))) rfl), (q_mem (q_t5 _ (List.mem_of_getElem? (i := 18) (by decide +kernel))) rfl)⟩
theorem yl_X11_isCell : q_Yl yX11_isCell cX11_isCell 3 (some FieldType.boolean) 3 := ⟨(q_mem (q_t5 _ (List.mem_of_getElem? (i := 26) rfl)) rfl), (q_mem (q_t1 _ (List.mem_of_getElem? (i := 1) (by decide +kernel))) rfl), by decide, by decide, by decide +kernel⟩
theorem sl_X11_isCell : .static yX11_isCell ∈ q_tbl := (q_mem (q_t5 _ (List.mem_of_getElem? (i := 25) (by decide +kernel))) rfl)
theorem yl_X11_sum : q_Yl yX11_sum cX11_sum 7 (some FieldType.int) 5 := ⟨(q_mem (q_t5 _ (List.mem_of_getElem? (i := 23) rfl)) rfl), (q_mem (q_t1 _ (List.mem_of_getElem? (i := 1) (by decide +kernel))) rfl), by decide, by decide, by decide +kernel⟩
theorem vl_X11_sum : q_Vl yX11_sum := ⟨(q_mem (q_t5 _ (List.mem_of_getElem? (i := 21) (by decide +kernel))) rfl), (q_mem (q_t5 _ (List.mem_of_getElem? (i := 22) (by decide +kernel))) rfl)⟩
theorem yl_X11_searched : q_Yl yX11_searched cX11_searched 4 (some (FieldType.object "SpreadRows$Code")) 3 := ⟨(q_mem (q_t5 _ (List.mem_of_getElem? (i := 47) rfl)) rfl), (q_mem (q_t1 _ (List.mem_of_getElem? (i := 1) (by decide +kernel))) rfl), by decide, by decide, by decide +kernel⟩
theorem vl_X11_searched : q_Vl yX11_searched := ⟨(q_mem (q_t5 _ (List.mem_of_getElem? (i := 46) (by decide +kernel))) rfl), (q_mem (q_tp _ (List.mem_of_getElem? (i := 38) (by decide +kernel))) rfl)⟩
theorem yl_X11_metric : q_Yl yX11_metric cX11_metric 6 (some FieldType.long) 4 := ⟨(q_mem (q_t5 _ (List.mem_of_getElem? (i := 43) rfl)) rfl), (q_mem (q_t1 _ (List.mem_of_getElem? (i := 1) (by decide +kernel))) rfl), by decide, by decide, by decide +kernel⟩
theorem vl_X11_metric : q_Vl yX11_metric := ⟨(q_mem (q_t5 _ (List.mem_of_getElem? (i := 41) (by decide +kernel))) rfl), (q_mem (q_t5 _ (List.mem_of_getElem? (i := 42) (by decide +kernel))) rfl)⟩
theorem yl_X11_best : q_Yl yX11_best cX11_best 5 (some FieldType.int) 3 := ⟨(q_mem (q_t5 _ (List.mem_of_getElem? (i := 63) rfl)) rfl), (q_mem (q_t1 _ (List.mem_of_getElem? (i := 1) (by decide +kernel))) rfl), by decide, by decide, by decide +kernel⟩
theorem vl_X11_best : q_Vl yX11_best := ⟨(q_mem (q_t5 _ (List.mem_of_getElem? (i := 61) (by decide +kernel))) rfl), (q_mem (q_t5 _ (List.mem_of_getElem? (i := 62) (by decide +kernel))) rfl)⟩
theorem yl_X11_second : q_Yl yX11_second cX11_second 6 (some FieldType.int) 4 := ⟨(q_mem (q_t5 _ (List.mem_of_getElem? (i := 78) rfl)) rfl), (q_mem (q_t1 _ (List.mem_of_getElem? (i := 1) (by decide +kernel))) rfl), by decide, by decide, by decide +kernel⟩
theorem vl_X11_second : q_Vl yX11_second := ⟨(q_mem (q_t5 _ (List.mem_of_getElem? (i := 76) (by decide +kernel))) rfl), (q_mem (q_t5 _ (List.mem_of_getElem? (i := 77) (by decide +kernel))) rfl)⟩
theorem yl_X11_peak : q_Yl yX11_peak cX11_peak 7 (some FieldType.int) 5 := ⟨(q_mem (q_t5 _ (List.mem_of_getElem? (i := 91) rfl)) rfl), (q_mem (q_t1 _ (List.mem_of_getElem? (i := 1) (by decide +kernel))) rfl), by decide, by decide, by decide +kernel⟩
theorem vl_X11_peak : q_Vl yX11_peak := ⟨(q_mem (q_t5 _ (List.mem_of_getElem? (i := 89) (by decide +kernel))) rfl), (q_mem (q_t5 _ (List.mem_of_getElem? (i := 90) (by decide +kernel))) rfl)⟩
theorem yl_X11_alarms : q_Yl yX11_alarms cX11_alarms 7 (some FieldType.int) 4 := ⟨(q_mem (q_t5 _ (List.mem_of_getElem? (i := 103) rfl)) rfl), (q_mem (q_t1 _ (List.mem_of_getElem? (i := 1) (by decide +kernel))) rfl), by decide, by decide, by decide +kernel⟩
theorem vl_X11_alarms : q_Vl yX11_alarms := ⟨(q_mem (q_t5 _ (List.mem_of_getElem? (i := 101) (by decide +kernel))) rfl), (q_mem (q_t5 _ (List.mem_of_getElem? (i := 102) (by decide +kernel))) rfl)⟩
theorem yl_X11_plan : q_Yl yX11_plan cX11_plan 9 (some FieldType.int) 6 := ⟨(q_mem (q_t5 _ (List.mem_of_getElem? (i := 111) rfl)) rfl), (q_mem (q_t1 _ (List.mem_of_getElem? (i := 1) (by decide +kernel))) rfl), by decide, by decide, by decide +kernel⟩
theorem vl_X11_plan : q_Vl yX11_plan := ⟨(q_mem (q_t5 _ (List.mem_of_getElem? (i := 109) (by decide +kernel))) rfl), (q_mem (q_t5 _ (List.mem_of_getElem? (i := 110) (by decide +kernel))) rfl)⟩
theorem yl_X11_commonDivisor : q_Yl yX11_commonDivisor cX11_commonDivisor 11 (some FieldType.long) 2 := ⟨(q_mem (q_t5 _ (List.mem_of_getElem? (i := 124) rfl)) rfl), (q_mem (q_t1 _ (List.mem_of_getElem? (i := 1) (by decide +kernel))) rfl), by decide, by decide, by decide +kernel⟩
theorem sl_X11_commonDivisor : .static yX11_commonDivisor ∈ q_tbl := (q_mem (q_t5 _ (List.mem_of_getElem? (i := 123) (by decide +kernel))) rfl)
theorem yl_X11_mean : q_Yl yX11_mean cX11_mean 13 (some FieldType.long) 6 := ⟨(q_mem (q_t5 _ (List.mem_of_getElem? (i := 120) rfl)) rfl), (q_mem (q_t1 _ (List.mem_of_getElem? (i := 1) (by decide +kernel))) rfl), by decide, by decide, by decide +kernel⟩
theorem vl_X11_mean : q_Vl yX11_mean := ⟨(q_mem (q_t5 _ (List.mem_of_getElem? (i := 118) (by decide +kernel))) rfl), (q_mem (q_t5 _ (List.mem_of_getElem? (i := 119) (by decide +kernel))) rfl)⟩
theorem yl_X11_toThe : q_Yl yX11_toThe cX11_toThe 6 (some FieldType.long) 2 := ⟨(q_mem (q_t5 _ (List.mem_of_getElem? (i := 132) rfl)) rfl), (q_mem (q_t1 _ (List.mem_of_getElem? (i := 1) (by decide +kernel))) rfl), by decide, by decide, by decide +kernel⟩
theorem sl_X11_toThe : .static yX11_toThe ∈ q_tbl := (q_mem (q_t5 _ (List.mem_of_getElem? (i := 131) (by decide +kernel))) rfl)
theorem yl_X11_over : q_Yl yX11_over cX11_over 8 (some FieldType.long) 5 := ⟨(q_mem (q_t5 _ (List.mem_of_getElem? (i := 129) rfl)) rfl), (q_mem (q_t1 _ (List.mem_of_getElem? (i := 1) (by decide +kernel))) rfl), by decide, by decide, by decide +kernel⟩
theorem vl_X11_over : q_Vl yX11_over := ⟨(q_mem (q_t5 _ (List.mem_of_getElem? (i := 127) (by decide +kernel))) rfl), (q_mem (q_t5 _ (List.mem_of_getElem? (i := 128) (by decide +kernel))) rfl)⟩
theorem yl_X11_bit : q_Yl yX11_bit cX11_bit 4 (some FieldType.int) 2 := ⟨(q_mem (q_t5 _ (List.mem_of_getElem? (i := 136) rfl)) rfl), (q_mem (q_t1 _ (List.mem_of_getElem? (i := 1) (by decide +kernel))) rfl), by decide, by decide, by decide +kernel⟩
theorem vl_X11_bit : q_Vl yX11_bit := ⟨(q_mem (q_t5 _ (List.mem_of_getElem? (i := 134) (by decide +kernel))) rfl), (q_mem (q_t5 _ (List.mem_of_getElem? (i := 135) (by decide +kernel))) rfl)⟩
theorem yl_X11_wrong : q_Yl yX11_wrong cX11_wrong 3 (some FieldType.int) 1 := ⟨(q_mem (q_t5 _ (List.mem_of_getElem? (i := 159) rfl)) rfl), (q_mem (q_t1 _ (List.mem_of_getElem? (i := 1) (by decide +kernel))) rfl), by decide, by decide, by decide +kernel⟩
theorem vl_X11_wrong : q_Vl yX11_wrong := ⟨(q_mem (q_t5 _ (List.mem_of_getElem? (i := 157) (by decide +kernel))) rfl), (q_mem (q_t5 _ (List.mem_of_getElem? (i := 158) (by decide +kernel))) rfl)⟩
theorem yl_X11_joined : q_Yl yX11_joined cX11_joined 4 (some FieldType.int) 2 := ⟨(q_mem (q_t5 _ (List.mem_of_getElem? (i := 173) rfl)) rfl), (q_mem (q_t1 _ (List.mem_of_getElem? (i := 1) (by decide +kernel))) rfl), by decide, by decide, by decide +kernel⟩
theorem vl_X11_joined : q_Vl yX11_joined := ⟨(q_mem (q_t5 _ (List.mem_of_getElem? (i := 171) (by decide +kernel))) rfl), (q_mem (q_t5 _ (List.mem_of_getElem? (i := 172) (by decide +kernel))) rfl)⟩
theorem yl_X11_frame : q_Yl yX11_frame cX11_frame 6 (some FieldType.int) 3 := ⟨(q_mem (q_t5 _ (List.mem_of_getElem? (i := 185) rfl)) rfl), (q_mem (q_t1 _ (List.mem_of_getElem? (i := 1) (by decide +kernel))) rfl), by decide, by decide, by decide +kernel⟩
theorem vl_X11_frame : q_Vl yX11_frame := ⟨(q_mem (q_t5 _ (List.mem_of_getElem? (i := 183) (by decide +kernel))) rfl), (q_mem (q_t5 _ (List.mem_of_getElem? (i := 184) (by decide +kernel))) rfl)⟩
theorem yl_X11_hurt : q_Yl yX11_hurt cX11_hurt 7 (some FieldType.int) 4 := ⟨(q_mem (q_t5 _ (List.mem_of_getElem? (i := 197) rfl)) rfl), (q_mem (q_t1 _ (List.mem_of_getElem? (i := 1) (by decide +kernel))) rfl), by decide, by decide, by decide +kernel⟩
theorem vl_X11_hurt : q_Vl yX11_hurt := ⟨(q_mem (q_t5 _ (List.mem_of_getElem? (i := 195) (by decide +kernel))) rfl), (q_mem (q_t5 _ (List.mem_of_getElem? (i := 196) (by decide +kernel))) rfl)⟩
theorem yl_X11_atOnce : q_Yl yX11_atOnce cX11_atOnce 2 (some FieldType.int) 1 := ⟨(q_mem (q_t5 _ (List.mem_of_getElem? (i := 212) rfl)) rfl), (q_mem (q_t1 _ (List.mem_of_getElem? (i := 1) (by decide +kernel))) rfl), by decide, by decide, by decide +kernel⟩
theorem vl_X11_atOnce : q_Vl yX11_atOnce := ⟨(q_mem (q_t5 _ (List.mem_of_getElem? (i := 210) (by decide +kernel))) rfl), (q_mem (q_t5 _ (List.mem_of_getElem? (i := 211) (by decide +kernel))) rfl)⟩
theorem yl_X11_taken : q_Yl yX11_taken cX11_taken 3 (some FieldType.int) 2 := ⟨(q_mem (q_t5 _ (List.mem_of_getElem? (i := 236) rfl)) rfl), (q_mem (q_t1 _ (List.mem_of_getElem? (i := 1) (by decide +kernel))) rfl), by decide, by decide, by decide +kernel⟩
theorem vl_X11_taken : q_Vl yX11_taken := ⟨(q_mem (q_t5 _ (List.mem_of_getElem? (i := 234) (by decide +kernel))) rfl), (q_mem (q_t5 _ (List.mem_of_getElem? (i := 235) (by decide +kernel))) rfl)⟩
theorem yl_X11_rest : q_Yl yX11_rest cX11_rest 2 (some FieldType.long) 1 := ⟨(q_mem (q_t6 _ (List.mem_of_getElem? (i := 12) rfl)) rfl), (q_mem (q_t1 _ (List.mem_of_getElem? (i := 1) (by decide +kernel))) rfl), by decide, by decide, by decide +kernel⟩
theorem vl_X11_rest : q_Vl yX11_rest := ⟨(q_mem (q_t6 _ (List.mem_of_getElem? (i := 10) (by decide +kernel))) rfl), (q_mem (q_t6 _ (List.mem_of_getElem? (i := 11) (by decide +kernel))) rfl)⟩
theorem yl_X11_loop : q_Yl yX11_loop cX11_loop 9 (some FieldType.int) 5 := ⟨(q_mem (q_t6 _ (List.mem_of_getElem? (i := 21) rfl)) rfl), (q_mem (q_t1 _ (List.mem_of_getElem? (i := 1) (by decide +kernel))) rfl), by decide, by decide, by decide +kernel⟩
theorem vl_X11_loop : q_Vl yX11_loop := ⟨(q_mem (q_t6 _ (List.mem_of_getElem? (i := 19) (by decide +kernel))) rfl), (q_mem (q_t6 _ (List.mem_of_getElem? (i := 20) (by decide +kernel))) rfl)⟩
theorem yl_X11_follows : q_Yl yX11_follows cX11_follows 8 (some FieldType.int) 2 := ⟨(q_mem (q_t6 _ (List.mem_of_getElem? (i := 29) rfl)) rfl), (q_mem (q_t1 _ (List.mem_of_getElem? (i := 1) (by decide +kernel))) rfl), by decide, by decide, by decide +kernel⟩
theorem vl_X11_follows : q_Vl yX11_follows := ⟨(q_mem (q_t6 _ (List.mem_of_getElem? (i := 27) (by decide +kernel))) rfl), (q_mem (q_t6 _ (List.mem_of_getElem? (i := 28) (by decide +kernel))) rfl)⟩
theorem yl_X11_isRest : q_Yl yX11_isRest cX11_isRest 3 (some FieldType.boolean) 2 := ⟨(q_mem (q_t6 _ (List.mem_of_getElem? (i := 39) rfl)) rfl), (q_mem (q_t1 _ (List.mem_of_getElem? (i := 1) (by decide +kernel))) rfl), by decide, by decide, by decide +kernel⟩
theorem vl_X11_isRest : q_Vl yX11_isRest := ⟨(q_mem (q_t6 _ (List.mem_of_getElem? (i := 38) (by decide +kernel))) rfl), (q_mem (q_tp _ (List.mem_of_getElem? (i := 46) (by decide +kernel))) rfl)⟩
theorem yl_X11_lengthOf : q_Yl yX11_lengthOf cX11_lengthOf 3 (some FieldType.int) 1 := ⟨(q_mem (q_t6 _ (List.mem_of_getElem? (i := 43) rfl)) rfl), (q_mem (q_t1 _ (List.mem_of_getElem? (i := 1) (by decide +kernel))) rfl), by decide, by decide, by decide +kernel⟩
theorem vl_X11_lengthOf : q_Vl yX11_lengthOf := ⟨(q_mem (q_t6 _ (List.mem_of_getElem? (i := 42) (by decide +kernel))) rfl), (q_mem (q_tp _ (List.mem_of_getElem? (i := 47) (by decide +kernel))) rfl)⟩
theorem yl_X11_nextWithRest : q_Yl yX11_nextWithRest cX11_nextWithRest 11 (some FieldType.long) 4 := ⟨(q_mem (q_t6 _ (List.mem_of_getElem? (i := 46) rfl)) rfl), (q_mem (q_t1 _ (List.mem_of_getElem? (i := 1) (by decide +kernel))) rfl), by decide, by decide, by decide +kernel⟩
theorem sl_X11_nextWithRest : .static yX11_nextWithRest ∈ q_tbl := (q_mem (q_t6 _ (List.mem_of_getElem? (i := 45) (by decide +kernel))) rfl)
theorem yl_X11_range : q_Yl yX11_range cX11_range 16 (some FieldType.long) 6 := ⟨(q_mem (q_t6 _ (List.mem_of_getElem? (i := 35) rfl)) rfl), (q_mem (q_t1 _ (List.mem_of_getElem? (i := 1) (by decide +kernel))) rfl), by decide, by decide, by decide +kernel⟩
theorem vl_X11_range : q_Vl yX11_range := ⟨(q_mem (q_t6 _ (List.mem_of_getElem? (i := 33) (by decide +kernel))) rfl), (q_mem (q_t6 _ (List.mem_of_getElem? (i := 34) (by decide +kernel))) rfl)⟩
theorem yl_X11_near : q_Yl yX11_near cX11_near 10 (some FieldType.int) 5 := ⟨(q_mem (q_t6 _ (List.mem_of_getElem? (i := 51) rfl)) rfl), (q_mem (q_t1 _ (List.mem_of_getElem? (i := 1) (by decide +kernel))) rfl), by decide, by decide, by decide +kernel⟩
theorem vl_X11_near : q_Vl yX11_near := ⟨(q_mem (q_t6 _ (List.mem_of_getElem? (i := 49) (by decide +kernel))) rfl), (q_mem (q_t6 _ (List.mem_of_getElem? (i := 50) (by decide +kernel))) rfl)⟩
theorem yl_X11_hop : q_Yl yX11_hop cX11_hop 4 (some FieldType.int) 2 := ⟨(q_mem (q_t6 _ (List.mem_of_getElem? (i := 55) rfl)) rfl), (q_mem (q_t1 _ (List.mem_of_getElem? (i := 1) (by decide +kernel))) rfl), by decide, by decide, by decide +kernel⟩
theorem vl_X11_hop : q_Vl yX11_hop := ⟨(q_mem (q_t6 _ (List.mem_of_getElem? (i := 53) (by decide +kernel))) rfl), (q_mem (q_t6 _ (List.mem_of_getElem? (i := 54) (by decide +kernel))) rfl)⟩
theorem yl_X11_likePrimed : q_Yl yX11_likePrimed cX11_likePrimed 2 (some FieldType.boolean) 2 := ⟨(q_mem (q_t6 _ (List.mem_of_getElem? (i := 68) rfl)) rfl), (q_mem (q_t1 _ (List.mem_of_getElem? (i := 1) (by decide +kernel))) rfl), by decide, by decide, by decide +kernel⟩
theorem sl_X11_likePrimed : .static yX11_likePrimed ∈ q_tbl := (q_mem (q_t6 _ (List.mem_of_getElem? (i := 67) (by decide +kernel))) rfl)
theorem yl_X11_hits : q_Yl yX11_hits cX11_hits 6 (some FieldType.int) 3 := ⟨(q_mem (q_t6 _ (List.mem_of_getElem? (i := 65) rfl)) rfl), (q_mem (q_t1 _ (List.mem_of_getElem? (i := 1) (by decide +kernel))) rfl), by decide, by decide, by decide +kernel⟩
theorem vl_X11_hits : q_Vl yX11_hits := ⟨(q_mem (q_t6 _ (List.mem_of_getElem? (i := 63) (by decide +kernel))) rfl), (q_mem (q_t6 _ (List.mem_of_getElem? (i := 64) (by decide +kernel))) rfl)⟩
theorem yl_X11_worstHits : q_Yl yX11_worstHits cX11_worstHits 7 (some FieldType.int) 2 := ⟨(q_mem (q_t6 _ (List.mem_of_getElem? (i := 77) rfl)) rfl), (q_mem (q_t1 _ (List.mem_of_getElem? (i := 1) (by decide +kernel))) rfl), by decide, by decide, by decide +kernel⟩
theorem vl_X11_worstHits : q_Vl yX11_worstHits := ⟨(q_mem (q_t6 _ (List.mem_of_getElem? (i := 75) (by decide +kernel))) rfl), (q_mem (q_t6 _ (List.mem_of_getElem? (i := 76) (by decide +kernel))) rfl)⟩
theorem yl_X11_crowded : q_Yl yX11_crowded cX11_crowded 7 (some FieldType.int) 3 := ⟨(q_mem (q_t6 _ (List.mem_of_getElem? (i := 82) rfl)) rfl), (q_mem (q_t1 _ (List.mem_of_getElem? (i := 1) (by decide +kernel))) rfl), by decide, by decide, by decide +kernel⟩
theorem vl_X11_crowded : q_Vl yX11_crowded := ⟨(q_mem (q_t6 _ (List.mem_of_getElem? (i := 80) (by decide +kernel))) rfl), (q_mem (q_t6 _ (List.mem_of_getElem? (i := 81) (by decide +kernel))) rfl)⟩
theorem yl_X11_jammed : q_Yl yX11_jammed cX11_jammed 4 (some FieldType.int) 2 := ⟨(q_mem (q_t6 _ (List.mem_of_getElem? (i := 91) rfl)) rfl), (q_mem (q_t1 _ (List.mem_of_getElem? (i := 1) (by decide +kernel))) rfl), by decide, by decide, by decide +kernel⟩
theorem vl_X11_jammed : q_Vl yX11_jammed := ⟨(q_mem (q_t6 _ (List.mem_of_getElem? (i := 89) (by decide +kernel))) rfl), (q_mem (q_t6 _ (List.mem_of_getElem? (i := 90) (by decide +kernel))) rfl)⟩
theorem yl_X11_strongest : q_Yl yX11_strongest cX11_strongest 4 (some FieldType.int) 2 := ⟨(q_mem (q_t6 _ (List.mem_of_getElem? (i := 99) rfl)) rfl), (q_mem (q_t1 _ (List.mem_of_getElem? (i := 1) (by decide +kernel))) rfl), by decide, by decide, by decide +kernel⟩
theorem vl_X11_strongest : q_Vl yX11_strongest := ⟨(q_mem (q_t6 _ (List.mem_of_getElem? (i := 97) (by decide +kernel))) rfl), (q_mem (q_t6 _ (List.mem_of_getElem? (i := 98) (by decide +kernel))) rfl)⟩
theorem yl_X11_slotAt : q_Yl yX11_slotAt cX11_slotAt 2 (some (FieldType.object "SpreadRows$Signal")) 1 := ⟨(q_mem (q_t6 _ (List.mem_of_getElem? (i := 116) rfl)) rfl), (q_mem (q_t1 _ (List.mem_of_getElem? (i := 1) (by decide +kernel))) rfl), by decide, by decide, by decide +kernel⟩
theorem vl_X11_slotAt : q_Vl yX11_slotAt := ⟨(q_mem (q_t6 _ (List.mem_of_getElem? (i := 115) (by decide +kernel))) rfl), (q_mem (q_tp _ (List.mem_of_getElem? (i := 49) (by decide +kernel))) rfl)⟩
theorem yl_X11_hold : q_Yl yX11_hold cX11_hold 3 (some FieldType.boolean) 1 := ⟨(q_mem (q_t6 _ (List.mem_of_getElem? (i := 112) rfl)) rfl), (q_mem (q_t1 _ (List.mem_of_getElem? (i := 1) (by decide +kernel))) rfl), by decide, by decide, by decide +kernel⟩
theorem vl_X11_hold : q_Vl yX11_hold := ⟨(q_mem (q_t6 _ (List.mem_of_getElem? (i := 110) (by decide +kernel))) rfl), (q_mem (q_t6 _ (List.mem_of_getElem? (i := 111) (by decide +kernel))) rfl)⟩
theorem yl_X11_restore : q_Yl yX11_restore cX11_restore 3 (some FieldType.boolean) 1 := ⟨(q_mem (q_t6 _ (List.mem_of_getElem? (i := 121) rfl)) rfl), (q_mem (q_t1 _ (List.mem_of_getElem? (i := 1) (by decide +kernel))) rfl), by decide, by decide, by decide +kernel⟩
theorem vl_X11_restore : q_Vl yX11_restore := ⟨(q_mem (q_t6 _ (List.mem_of_getElem? (i := 119) (by decide +kernel))) rfl), (q_mem (q_t6 _ (List.mem_of_getElem? (i := 120) (by decide +kernel))) rfl)⟩
theorem yl_X11_countOfOne : q_Yl yX11_countOfOne cX11_countOfOne 4 (some FieldType.int) 1 := ⟨(q_mem (q_t6 _ (List.mem_of_getElem? (i := 129) rfl)) rfl), (q_mem (q_t1 _ (List.mem_of_getElem? (i := 1) (by decide +kernel))) rfl), by decide, by decide, by decide +kernel⟩
theorem vl_X11_countOfOne : q_Vl yX11_countOfOne := ⟨(q_mem (q_t6 _ (List.mem_of_getElem? (i := 128) (by decide +kernel))) rfl), (q_mem (q_tp _ (List.mem_of_getElem? (i := 50) (by decide +kernel))) rfl)⟩
theorem yl_X11_count : q_Yl yX11_count cX11_count 2 (some FieldType.int) 1 := ⟨(q_mem (q_t6 _ (List.mem_of_getElem? (i := 125) rfl)) rfl), (q_mem (q_t1 _ (List.mem_of_getElem? (i := 1) (by decide +kernel))) rfl), by decide, by decide, by decide +kernel⟩
theorem vl_X11_count : q_Vl yX11_count := ⟨(q_mem (q_t6 _ (List.mem_of_getElem? (i := 123) (by decide +kernel))) rfl), (q_mem (q_t6 _ (List.mem_of_getElem? (i := 124) (by decide +kernel))) rfl)⟩
theorem yl_X12_put : q_Yl yX12_put cX12_put 3 (none) 1 := ⟨(q_mem (q_t7 _ (List.mem_of_getElem? (i := 113) rfl)) rfl), (q_mem (q_t1 _ (List.mem_of_getElem? (i := 18) (by decide +kernel))) rfl), by decide, by decide, by decide +kernel⟩
theorem vl_X12_put : q_Vl yX12_put := ⟨(q_mem (q_t7 _ (List.mem_of_getElem? (i := 112) (by decide +kernel))) rfl), (q_mem (q_tp _ (List.mem_of_getElem? (i := 51) (by decide +kernel))) rfl)⟩
theorem yl_X12_feed : q_Yl yX12_feed cX12_feed 6 (some FieldType.int) 5 := ⟨(q_mem (q_t7 _ (List.mem_of_getElem? (i := 109) rfl)) rfl), (q_mem (q_t1 _ (List.mem_of_getElem? (i := 18) (by decide +kernel))) rfl), by decide, by decide, by decide +kernel⟩
theorem vl_X12_feed : q_Vl yX12_feed := ⟨(q_mem (q_t7 _ (List.mem_of_getElem? (i := 107) (by decide +kernel))) rfl), (q_mem (q_t7 _ (List.mem_of_getElem? (i := 108) (by decide +kernel))) rfl)⟩
theorem yl_X12_back : q_Yl yX12_back cX12_back 2 (some FieldType.int) 1 := ⟨(q_mem (q_t7 _ (List.mem_of_getElem? (i := 117) rfl)) rfl), (q_mem (q_t1 _ (List.mem_of_getElem? (i := 18) (by decide +kernel))) rfl), by decide, by decide, by decide +kernel⟩
theorem vl_X12_back : q_Vl yX12_back := ⟨(q_mem (q_t7 _ (List.mem_of_getElem? (i := 115) (by decide +kernel))) rfl), (q_mem (q_t7 _ (List.mem_of_getElem? (i := 116) (by decide +kernel))) rfl)⟩
theorem yl_X12_byteAt : q_Yl yX12_byteAt cX12_byteAt 2 (some FieldType.int) 1 := ⟨(q_mem (q_t7 _ (List.mem_of_getElem? (i := 129) rfl)) rfl), (q_mem (q_t1 _ (List.mem_of_getElem? (i := 18) (by decide +kernel))) rfl), by decide, by decide, by decide +kernel⟩
theorem vl_X12_byteAt : q_Vl yX12_byteAt := ⟨(q_mem (q_t7 _ (List.mem_of_getElem? (i := 128) (by decide +kernel))) rfl), (q_mem (q_tp _ (List.mem_of_getElem? (i := 53) (by decide +kernel))) rfl)⟩
theorem yl_X12_isDigit : q_Yl yX12_isDigit cX12_isDigit 1 (some FieldType.boolean) 1 := ⟨(q_mem (q_t7 _ (List.mem_of_getElem? (i := 139) rfl)) rfl), (q_mem (q_t1 _ (List.mem_of_getElem? (i := 18) (by decide +kernel))) rfl), by decide, by decide, by decide +kernel⟩
theorem sl_X12_isDigit : .static yX12_isDigit ∈ q_tbl := (q_mem (q_t7 _ (List.mem_of_getElem? (i := 138) (by decide +kernel))) rfl)
theorem yl_X12_isLetter : q_Yl yX12_isLetter cX12_isLetter 1 (some FieldType.boolean) 1 := ⟨(q_mem (q_t7 _ (List.mem_of_getElem? (i := 136) rfl)) rfl), (q_mem (q_t1 _ (List.mem_of_getElem? (i := 18) (by decide +kernel))) rfl), by decide, by decide, by decide +kernel⟩
theorem sl_X12_isLetter : .static yX12_isLetter ∈ q_tbl := (q_mem (q_t7 _ (List.mem_of_getElem? (i := 135) (by decide +kernel))) rfl)
theorem yl_X12_appends : q_Yl yX12_appends cX12_appends 3 (some FieldType.long) 2 := ⟨(q_mem (q_t6 _ (List.mem_of_getElem? (i := 141) rfl)) rfl), (q_mem (q_t1 _ (List.mem_of_getElem? (i := 18) (by decide +kernel))) rfl), by decide, by decide, by decide +kernel⟩
theorem sl_X12_appends : .static yX12_appends ∈ q_tbl := (q_mem (q_t6 _ (List.mem_of_getElem? (i := 140) (by decide +kernel))) rfl)
theorem yl_X12_word : q_Yl yX12_word cX12_word 7 (some FieldType.long) 7 := ⟨(q_mem (q_t6 _ (List.mem_of_getElem? (i := 138) rfl)) rfl), (q_mem (q_t1 _ (List.mem_of_getElem? (i := 18) (by decide +kernel))) rfl), by decide, by decide, by decide +kernel⟩
theorem sl_X12_word : .static yX12_word ∈ q_tbl := (q_mem (q_t6 _ (List.mem_of_getElem? (i := 137) (by decide +kernel))) rfl)
theorem yl_X12_token : q_Yl yX12_token cX12_token 6 (none) 4 := ⟨(q_mem (q_t7 _ (List.mem_of_getElem? (i := 133) rfl)) rfl), (q_mem (q_t1 _ (List.mem_of_getElem? (i := 18) (by decide +kernel))) rfl), by decide, by decide, by decide +kernel⟩
theorem vl_X12_token : q_Vl yX12_token := ⟨(q_mem (q_t7 _ (List.mem_of_getElem? (i := 132) (by decide +kernel))) rfl), (q_mem (q_tp _ (List.mem_of_getElem? (i := 54) (by decide +kernel))) rfl)⟩
theorem yl_X12_sign : q_Yl yX12_sign cX12_sign 4 (some FieldType.int) 3 := ⟨(q_mem (q_t7 _ (List.mem_of_getElem? (i := 143) rfl)) rfl), (q_mem (q_t1 _ (List.mem_of_getElem? (i := 18) (by decide +kernel))) rfl), by decide, by decide, by decide +kernel⟩
theorem vl_X12_sign : q_Vl yX12_sign := ⟨(q_mem (q_t7 _ (List.mem_of_getElem? (i := 142) (by decide +kernel))) rfl), (q_mem (q_tp _ (List.mem_of_getElem? (i := 55) (by decide +kernel))) rfl)⟩
theorem yl_X12_cut : q_Yl yX12_cut cX12_cut 8 (none) 0 := ⟨(q_mem (q_t7 _ (List.mem_of_getElem? (i := 125) rfl)) rfl), (q_mem (q_t1 _ (List.mem_of_getElem? (i := 18) (by decide +kernel))) rfl), by decide, by decide, by decide +kernel⟩
theorem vl_X12_cut : q_Vl yX12_cut := ⟨(q_mem (q_t7 _ (List.mem_of_getElem? (i := 124) (by decide +kernel))) rfl), (q_mem (q_tp _ (List.mem_of_getElem? (i := 52) (by decide +kernel))) rfl)⟩
theorem yl_X12_is : q_Yl yX12_is cX12_is 2 (some FieldType.boolean) 1 := ⟨(q_mem (q_t7 _ (List.mem_of_getElem? (i := 147) rfl)) rfl), (q_mem (q_t1 _ (List.mem_of_getElem? (i := 18) (by decide +kernel))) rfl), by decide, by decide, by decide +kernel⟩
theorem vl_X12_is : q_Vl yX12_is := ⟨(q_mem (q_t7 _ (List.mem_of_getElem? (i := 146) (by decide +kernel))) rfl), (q_mem (q_tp _ (List.mem_of_getElem? (i := 56) (by decide +kernel))) rfl)⟩
theorem yl_X12_fail : q_Yl yX12_fail cX12_fail 2 (none) 1 := ⟨(q_mem (q_t7 _ (List.mem_of_getElem? (i := 159) rfl)) rfl), (q_mem (q_t1 _ (List.mem_of_getElem? (i := 18) (by decide +kernel))) rfl), by decide, by decide, by decide +kernel⟩
theorem vl_X12_fail : q_Vl yX12_fail := ⟨(q_mem (q_t7 _ (List.mem_of_getElem? (i := 158) (by decide +kernel))) rfl), (q_mem (q_tp _ (List.mem_of_getElem? (i := 59) (by decide +kernel))) rfl)⟩
theorem yl_X12_amiss : q_Yl yX12_amiss cX12_amiss 4 (none) 2 := ⟨(q_mem (q_t7 _ (List.mem_of_getElem? (i := 179) rfl)) rfl), (q_mem (q_t1 _ (List.mem_of_getElem? (i := 18) (by decide +kernel))) rfl), by decide, by decide, by decide +kernel⟩
theorem vl_X12_amiss : q_Vl yX12_amiss := ⟨(q_mem (q_t7 _ (List.mem_of_getElem? (i := 178) (by decide +kernel))) rfl), (q_mem (q_tp _ (List.mem_of_getElem? (i := 64) (by decide +kernel))) rfl)⟩
theorem yl_X12_goesOn : q_Yl yX12_goesOn cX12_goesOn 1 (none) 0 := ⟨(q_mem (q_t7 _ (List.mem_of_getElem? (i := 163) rfl)) rfl), (q_mem (q_t1 _ (List.mem_of_getElem? (i := 18) (by decide +kernel))) rfl), by decide, by decide, by decide +kernel⟩
theorem vl_X12_goesOn : q_Vl yX12_goesOn := ⟨(q_mem (q_t7 _ (List.mem_of_getElem? (i := 162) (by decide +kernel))) rfl), (q_mem (q_tp _ (List.mem_of_getElem? (i := 60) (by decide +kernel))) rfl)⟩
theorem yl_X12_must : q_Yl yX12_must cX12_must 2 (none) 1 := ⟨(q_mem (q_t7 _ (List.mem_of_getElem? (i := 175) rfl)) rfl), (q_mem (q_t1 _ (List.mem_of_getElem? (i := 18) (by decide +kernel))) rfl), by decide, by decide, by decide +kernel⟩
theorem vl_X12_must : q_Vl yX12_must := ⟨(q_mem (q_t7 _ (List.mem_of_getElem? (i := 174) (by decide +kernel))) rfl), (q_mem (q_tp _ (List.mem_of_getElem? (i := 63) (by decide +kernel))) rfl)⟩
theorem yl_X12_room : q_Yl yX12_room cX12_room 3 (none) 2 := ⟨(q_mem (q_t7 _ (List.mem_of_getElem? (i := 155) rfl)) rfl), (q_mem (q_t1 _ (List.mem_of_getElem? (i := 18) (by decide +kernel))) rfl), by decide, by decide, by decide +kernel⟩
theorem vl_X12_room : q_Vl yX12_room := ⟨(q_mem (q_t7 _ (List.mem_of_getElem? (i := 154) (by decide +kernel))) rfl), (q_mem (q_tp _ (List.mem_of_getElem? (i := 58) (by decide +kernel))) rfl)⟩
theorem yl_X12_named : q_Yl yX12_named cX12_named 3 (some FieldType.int) 0 := ⟨(q_mem (q_t7 _ (List.mem_of_getElem? (i := 171) rfl)) rfl), (q_mem (q_t1 _ (List.mem_of_getElem? (i := 18) (by decide +kernel))) rfl), by decide, by decide, by decide +kernel⟩
theorem vl_X12_named : q_Vl yX12_named := ⟨(q_mem (q_t7 _ (List.mem_of_getElem? (i := 170) (by decide +kernel))) rfl), (q_mem (q_tp _ (List.mem_of_getElem? (i := 62) (by decide +kernel))) rfl)⟩
theorem yl_X12_bounded : q_Yl yX12_bounded cX12_bounded 4 (some FieldType.int) 2 := ⟨(q_mem (q_t7 _ (List.mem_of_getElem? (i := 183) rfl)) rfl), (q_mem (q_t1 _ (List.mem_of_getElem? (i := 18) (by decide +kernel))) rfl), by decide, by decide, by decide +kernel⟩
theorem vl_X12_bounded : q_Vl yX12_bounded := ⟨(q_mem (q_t7 _ (List.mem_of_getElem? (i := 182) (by decide +kernel))) rfl), (q_mem (q_tp _ (List.mem_of_getElem? (i := 65) (by decide +kernel))) rfl)⟩
theorem yl_X12_hangs : q_Yl yX12_hangs cX12_hangs 4 (some FieldType.int) 3 := ⟨(q_mem (q_t7 _ (List.mem_of_getElem? (i := 187) rfl)) rfl), (q_mem (q_t1 _ (List.mem_of_getElem? (i := 18) (by decide +kernel))) rfl), by decide, by decide, by decide +kernel⟩
theorem vl_X12_hangs : q_Vl yX12_hangs := ⟨(q_mem (q_t7 _ (List.mem_of_getElem? (i := 186) (by decide +kernel))) rfl), (q_mem (q_tp _ (List.mem_of_getElem? (i := 66) (by decide +kernel))) rfl)⟩
theorem yl_X12_odd : q_Yl yX12_odd cX12_odd 3 (some FieldType.int) 1 := ⟨(q_mem (q_t7 _ (List.mem_of_getElem? (i := 194) rfl)) rfl), (q_mem (q_t1 _ (List.mem_of_getElem? (i := 18) (by decide +kernel))) rfl), by decide, by decide, by decide +kernel⟩
theorem sl_X12_odd : .static yX12_odd ∈ q_tbl := (q_mem (q_t7 _ (List.mem_of_getElem? (i := 193) (by decide +kernel))) rfl)
theorem yl_X12_makesRegister : q_Yl yX12_makesRegister cX12_makesRegister 7 (none) 4 := ⟨(q_mem (q_t7 _ (List.mem_of_getElem? (i := 191) rfl)) rfl), (q_mem (q_t1 _ (List.mem_of_getElem? (i := 18) (by decide +kernel))) rfl), by decide, by decide, by decide +kernel⟩
theorem vl_X12_makesRegister : q_Vl yX12_makesRegister := ⟨(q_mem (q_t7 _ (List.mem_of_getElem? (i := 190) (by decide +kernel))) rfl), (q_mem (q_tp _ (List.mem_of_getElem? (i := 67) (by decide +kernel))) rfl)⟩
theorem yl_X12_makesHalves : q_Yl yX12_makesHalves cX12_makesHalves 5 (none) 3 := ⟨(q_mem (q_t7 _ (List.mem_of_getElem? (i := 198) rfl)) rfl), (q_mem (q_t1 _ (List.mem_of_getElem? (i := 18) (by decide +kernel))) rfl), by decide, by decide, by decide +kernel⟩
theorem vl_X12_makesHalves : q_Vl yX12_makesHalves := ⟨(q_mem (q_t7 _ (List.mem_of_getElem? (i := 197) (by decide +kernel))) rfl), (q_mem (q_tp _ (List.mem_of_getElem? (i := 68) (by decide +kernel))) rfl)⟩
theorem yl_X12_makesBits : q_Yl yX12_makesBits cX12_makesBits 5 (none) 3 := ⟨(q_mem (q_t7 _ (List.mem_of_getElem? (i := 202) rfl)) rfl), (q_mem (q_t1 _ (List.mem_of_getElem? (i := 18) (by decide +kernel))) rfl), by decide, by decide, by decide +kernel⟩
theorem vl_X12_makesBits : q_Vl yX12_makesBits := ⟨(q_mem (q_t7 _ (List.mem_of_getElem? (i := 201) (by decide +kernel))) rfl), (q_mem (q_tp _ (List.mem_of_getElem? (i := 69) (by decide +kernel))) rfl)⟩
theorem yl_X12_known : q_Yl yX12_known cX12_known 4 (some FieldType.int) 1 := ⟨(q_mem (q_t7 _ (List.mem_of_getElem? (i := 210) rfl)) rfl), (q_mem (q_t1 _ (List.mem_of_getElem? (i := 18) (by decide +kernel))) rfl), by decide, by decide, by decide +kernel⟩
theorem vl_X12_known : q_Vl yX12_known := ⟨(q_mem (q_t7 _ (List.mem_of_getElem? (i := 209) (by decide +kernel))) rfl), (q_mem (q_tp _ (List.mem_of_getElem? (i := 71) (by decide +kernel))) rfl)⟩
theorem yl_X12_tellBoth : q_Yl yX12_tellBoth cX12_tellBoth 10 (none) 1 := ⟨(q_mem (q_t7 _ (List.mem_of_getElem? (i := 206) rfl)) rfl), (q_mem (q_t1 _ (List.mem_of_getElem? (i := 18) (by decide +kernel))) rfl), by decide, by decide, by decide +kernel⟩
theorem vl_X12_tellBoth : q_Vl yX12_tellBoth := ⟨(q_mem (q_t7 _ (List.mem_of_getElem? (i := 205) (by decide +kernel))) rfl), (q_mem (q_tp _ (List.mem_of_getElem? (i := 70) (by decide +kernel))) rfl)⟩
theorem yl_X12_notes : q_Yl yX12_notes cX12_notes 4 (none) 3 := ⟨(q_mem (q_t7 _ (List.mem_of_getElem? (i := 214) rfl)) rfl), (q_mem (q_t1 _ (List.mem_of_getElem? (i := 18) (by decide +kernel))) rfl), by decide, by decide, by decide +kernel⟩
theorem vl_X12_notes : q_Vl yX12_notes := ⟨(q_mem (q_t7 _ (List.mem_of_getElem? (i := 213) (by decide +kernel))) rfl), (q_mem (q_tp _ (List.mem_of_getElem? (i := 72) (by decide +kernel))) rfl)⟩
theorem yl_X12_tellCode : q_Yl yX12_tellCode cX12_tellCode 9 (none) 1 := ⟨(q_mem (q_t7 _ (List.mem_of_getElem? (i := 167) rfl)) rfl), (q_mem (q_t1 _ (List.mem_of_getElem? (i := 18) (by decide +kernel))) rfl), by decide, by decide, by decide +kernel⟩
theorem vl_X12_tellCode : q_Vl yX12_tellCode := ⟨(q_mem (q_t7 _ (List.mem_of_getElem? (i := 166) (by decide +kernel))) rfl), (q_mem (q_tp _ (List.mem_of_getElem? (i := 61) (by decide +kernel))) rfl)⟩
theorem yl_X12_isPrime : q_Yl yX12_isPrime cX12_isPrime 2 (some FieldType.boolean) 1 := ⟨(q_mem (q_t7 _ (List.mem_of_getElem? (i := 221) rfl)) rfl), (q_mem (q_t1 _ (List.mem_of_getElem? (i := 18) (by decide +kernel))) rfl), by decide, by decide, by decide +kernel⟩
theorem sl_X12_isPrime : .static yX12_isPrime ∈ q_tbl := (q_mem (q_t7 _ (List.mem_of_getElem? (i := 220) (by decide +kernel))) rfl)
theorem yl_X12_tellHop : q_Yl yX12_tellHop cX12_tellHop 6 (none) 0 := ⟨(q_mem (q_t7 _ (List.mem_of_getElem? (i := 218) rfl)) rfl), (q_mem (q_t1 _ (List.mem_of_getElem? (i := 18) (by decide +kernel))) rfl), by decide, by decide, by decide +kernel⟩
theorem vl_X12_tellHop : q_Vl yX12_tellHop := ⟨(q_mem (q_t7 _ (List.mem_of_getElem? (i := 217) (by decide +kernel))) rfl), (q_mem (q_tp _ (List.mem_of_getElem? (i := 73) (by decide +kernel))) rfl)⟩
theorem yl_X12_tellSend : q_Yl yX12_tellSend cX12_tellSend 5 (none) 0 := ⟨(q_mem (q_t7 _ (List.mem_of_getElem? (i := 225) rfl)) rfl), (q_mem (q_t1 _ (List.mem_of_getElem? (i := 18) (by decide +kernel))) rfl), by decide, by decide, by decide +kernel⟩
theorem vl_X12_tellSend : q_Vl yX12_tellSend := ⟨(q_mem (q_t7 _ (List.mem_of_getElem? (i := 224) (by decide +kernel))) rfl), (q_mem (q_tp _ (List.mem_of_getElem? (i := 74) (by decide +kernel))) rfl)⟩
theorem yl_X12_tellEcho : q_Yl yX12_tellEcho cX12_tellEcho 4 (none) 0 := ⟨(q_mem (q_t7 _ (List.mem_of_getElem? (i := 229) rfl)) rfl), (q_mem (q_t1 _ (List.mem_of_getElem? (i := 18) (by decide +kernel))) rfl), by decide, by decide, by decide +kernel⟩
theorem vl_X12_tellEcho : q_Vl yX12_tellEcho := ⟨(q_mem (q_t7 _ (List.mem_of_getElem? (i := 228) (by decide +kernel))) rfl), (q_mem (q_tp _ (List.mem_of_getElem? (i := 75) (by decide +kernel))) rfl)⟩
theorem yl_X12_tellJam : q_Yl yX12_tellJam cX12_tellJam 3 (none) 0 := ⟨(q_mem (q_t7 _ (List.mem_of_getElem? (i := 233) rfl)) rfl), (q_mem (q_t1 _ (List.mem_of_getElem? (i := 18) (by decide +kernel))) rfl), by decide, by decide, by decide +kernel⟩
theorem vl_X12_tellJam : q_Vl yX12_tellJam := ⟨(q_mem (q_t7 _ (List.mem_of_getElem? (i := 232) (by decide +kernel))) rfl), (q_mem (q_tp _ (List.mem_of_getElem? (i := 76) (by decide +kernel))) rfl)⟩
theorem yl_X12_tell : q_Yl yX12_tell cX12_tell 4 (none) 0 := ⟨(q_mem (q_t7 _ (List.mem_of_getElem? (i := 151) rfl)) rfl), (q_mem (q_t1 _ (List.mem_of_getElem? (i := 18) (by decide +kernel))) rfl), by decide, by decide, by decide +kernel⟩
theorem vl_X12_tell : q_Vl yX12_tell := ⟨(q_mem (q_t7 _ (List.mem_of_getElem? (i := 150) (by decide +kernel))) rfl), (q_mem (q_tp _ (List.mem_of_getElem? (i := 57) (by decide +kernel))) rfl)⟩
theorem yl_X12_dataBit : q_Yl yX12_dataBit cX12_dataBit 3 (some FieldType.int) 2 := ⟨(q_mem (q_t8 _ (List.mem_of_getElem? (i := 5) rfl)) rfl), (q_mem (q_t1 _ (List.mem_of_getElem? (i := 18) (by decide +kernel))) rfl), by decide, by decide, by decide +kernel⟩
theorem vl_X12_dataBit : q_Vl yX12_dataBit := ⟨(q_mem (q_t8 _ (List.mem_of_getElem? (i := 4) (by decide +kernel))) rfl), (q_mem (q_tp _ (List.mem_of_getElem? (i := 79) (by decide +kernel))) rfl)⟩
theorem yl_X12_laysData : q_Yl yX12_laysData cX12_laysData 3 (none) 1 := ⟨(q_mem (q_t8 _ (List.mem_of_getElem? (i := 1) rfl)) rfl), (q_mem (q_t1 _ (List.mem_of_getElem? (i := 18) (by decide +kernel))) rfl), by decide, by decide, by decide +kernel⟩
theorem vl_X12_laysData : q_Vl yX12_laysData := ⟨(q_mem (q_t8 _ (List.mem_of_getElem? (i := 0) (by decide +kernel))) rfl), (q_mem (q_tp _ (List.mem_of_getElem? (i := 78) (by decide +kernel))) rfl)⟩
theorem yl_X12_n : q_Yl yX12_n cX12_n 1 (some FieldType.int) 0 := ⟨(q_mem (q_t8 _ (List.mem_of_getElem? (i := 13) rfl)) rfl), (q_mem (q_t1 _ (List.mem_of_getElem? (i := 18) (by decide +kernel))) rfl), by decide, by decide, by decide +kernel⟩
theorem vl_X12_n : q_Vl yX12_n := ⟨(q_mem (q_t8 _ (List.mem_of_getElem? (i := 12) (by decide +kernel))) rfl), (q_mem (q_tp _ (List.mem_of_getElem? (i := 81) (by decide +kernel))) rfl)⟩
theorem yl_X12_codeOf : q_Yl yX12_codeOf cX12_codeOf 2 (some FieldType.int) 1 := ⟨(q_mem (q_t8 _ (List.mem_of_getElem? (i := 25) rfl)) rfl), (q_mem (q_t1 _ (List.mem_of_getElem? (i := 18) (by decide +kernel))) rfl), by decide, by decide, by decide +kernel⟩
theorem vl_X12_codeOf : q_Vl yX12_codeOf := ⟨(q_mem (q_t8 _ (List.mem_of_getElem? (i := 24) (by decide +kernel))) rfl), (q_mem (q_tp _ (List.mem_of_getElem? (i := 84) (by decide +kernel))) rfl)⟩
theorem yl_X12_long0 : q_Yl yX12_long0 cX12_long0 2 (some FieldType.int) 1 := ⟨(q_mem (q_t8 _ (List.mem_of_getElem? (i := 29) rfl)) rfl), (q_mem (q_t1 _ (List.mem_of_getElem? (i := 18) (by decide +kernel))) rfl), by decide, by decide, by decide +kernel⟩
theorem vl_X12_long0 : q_Vl yX12_long0 := ⟨(q_mem (q_t8 _ (List.mem_of_getElem? (i := 28) (by decide +kernel))) rfl), (q_mem (q_tp _ (List.mem_of_getElem? (i := 85) (by decide +kernel))) rfl)⟩
theorem yl_X12_delayAt : q_Yl yX12_delayAt cX12_delayAt 5 (some FieldType.int) 2 := ⟨(q_mem (q_t8 _ (List.mem_of_getElem? (i := 21) rfl)) rfl), (q_mem (q_t1 _ (List.mem_of_getElem? (i := 18) (by decide +kernel))) rfl), by decide, by decide, by decide +kernel⟩
theorem vl_X12_delayAt : q_Vl yX12_delayAt := ⟨(q_mem (q_t8 _ (List.mem_of_getElem? (i := 20) (by decide +kernel))) rfl), (q_mem (q_tp _ (List.mem_of_getElem? (i := 83) (by decide +kernel))) rfl)⟩
theorem yl_X12_periodAt : q_Yl yX12_periodAt cX12_periodAt 4 (some FieldType.int) 2 := ⟨(q_mem (q_t8 _ (List.mem_of_getElem? (i := 17) rfl)) rfl), (q_mem (q_t1 _ (List.mem_of_getElem? (i := 18) (by decide +kernel))) rfl), by decide, by decide, by decide +kernel⟩
theorem vl_X12_periodAt : q_Vl yX12_periodAt := ⟨(q_mem (q_t8 _ (List.mem_of_getElem? (i := 16) (by decide +kernel))) rfl), (q_mem (q_tp _ (List.mem_of_getElem? (i := 82) (by decide +kernel))) rfl)⟩
theorem yl_X12_chipOf : q_Yl yX12_chipOf cX12_chipOf 3 (some FieldType.int) 2 := ⟨(q_mem (q_t8 _ (List.mem_of_getElem? (i := 37) rfl)) rfl), (q_mem (q_t1 _ (List.mem_of_getElem? (i := 18) (by decide +kernel))) rfl), by decide, by decide, by decide +kernel⟩
theorem vl_X12_chipOf : q_Vl yX12_chipOf := ⟨(q_mem (q_t8 _ (List.mem_of_getElem? (i := 36) (by decide +kernel))) rfl), (q_mem (q_tp _ (List.mem_of_getElem? (i := 87) (by decide +kernel))) rfl)⟩
theorem yl_X12_turnOf : q_Yl yX12_turnOf cX12_turnOf 2 (some FieldType.int) 2 := ⟨(q_mem (q_t8 _ (List.mem_of_getElem? (i := 40) rfl)) rfl), (q_mem (q_t1 _ (List.mem_of_getElem? (i := 18) (by decide +kernel))) rfl), by decide, by decide, by decide +kernel⟩
theorem sl_X12_turnOf : .static yX12_turnOf ∈ q_tbl := (q_mem (q_t8 _ (List.mem_of_getElem? (i := 39) (by decide +kernel))) rfl)
theorem yl_X12_signAt : q_Yl yX12_signAt cX12_signAt 4 (some FieldType.int) 2 := ⟨(q_mem (q_t8 _ (List.mem_of_getElem? (i := 33) rfl)) rfl), (q_mem (q_t1 _ (List.mem_of_getElem? (i := 18) (by decide +kernel))) rfl), by decide, by decide, by decide +kernel⟩
theorem vl_X12_signAt : q_Vl yX12_signAt := ⟨(q_mem (q_t8 _ (List.mem_of_getElem? (i := 32) (by decide +kernel))) rfl), (q_mem (q_tp _ (List.mem_of_getElem? (i := 86) (by decide +kernel))) rfl)⟩
theorem yl_X12_isIm : q_Yl yX12_isIm cX12_isIm 3 (some FieldType.boolean) 2 := ⟨(q_mem (q_t8 _ (List.mem_of_getElem? (i := 44) rfl)) rfl), (q_mem (q_t1 _ (List.mem_of_getElem? (i := 18) (by decide +kernel))) rfl), by decide, by decide, by decide +kernel⟩
theorem vl_X12_isIm : q_Vl yX12_isIm := ⟨(q_mem (q_t8 _ (List.mem_of_getElem? (i := 43) (by decide +kernel))) rfl), (q_mem (q_tp _ (List.mem_of_getElem? (i := 88) (by decide +kernel))) rfl)⟩
theorem yl_X12_adds : q_Yl yX12_adds cX12_adds 5 (none) 4 := ⟨(q_mem (q_t8 _ (List.mem_of_getElem? (i := 48) rfl)) rfl), (q_mem (q_t1 _ (List.mem_of_getElem? (i := 18) (by decide +kernel))) rfl), by decide, by decide, by decide +kernel⟩
theorem vl_X12_adds : q_Vl yX12_adds := ⟨(q_mem (q_t8 _ (List.mem_of_getElem? (i := 47) (by decide +kernel))) rfl), (q_mem (q_tp _ (List.mem_of_getElem? (i := 89) (by decide +kernel))) rfl)⟩
theorem yl_X12_addsWave : q_Yl yX12_addsWave cX12_addsWave 10 (none) 3 := ⟨(q_mem (q_t8 _ (List.mem_of_getElem? (i := 9) rfl)) rfl), (q_mem (q_t1 _ (List.mem_of_getElem? (i := 18) (by decide +kernel))) rfl), by decide, by decide, by decide +kernel⟩
theorem vl_X12_addsWave : q_Vl yX12_addsWave := ⟨(q_mem (q_t8 _ (List.mem_of_getElem? (i := 8) (by decide +kernel))) rfl), (q_mem (q_tp _ (List.mem_of_getElem? (i := 80) (by decide +kernel))) rfl)⟩
theorem yl_X12_mixed : q_Yl yX12_mixed cX12_mixed 3 (some FieldType.int) 2 := ⟨(q_mem (q_t8 _ (List.mem_of_getElem? (i := 58) rfl)) rfl), (q_mem (q_t1 _ (List.mem_of_getElem? (i := 18) (by decide +kernel))) rfl), by decide, by decide, by decide +kernel⟩
theorem sl_X12_mixed : .static yX12_mixed ∈ q_tbl := (q_mem (q_t8 _ (List.mem_of_getElem? (i := 57) (by decide +kernel))) rfl)
theorem yl_X12_lot : q_Yl yX12_lot cX12_lot 3 (some FieldType.int) 3 := ⟨(q_mem (q_t8 _ (List.mem_of_getElem? (i := 55) rfl)) rfl), (q_mem (q_t1 _ (List.mem_of_getElem? (i := 18) (by decide +kernel))) rfl), by decide, by decide, by decide +kernel⟩
theorem sl_X12_lot : .static yX12_lot ∈ q_tbl := (q_mem (q_t8 _ (List.mem_of_getElem? (i := 54) (by decide +kernel))) rfl)
theorem yl_X12_addsNoise : q_Yl yX12_addsNoise cX12_addsNoise 4 (none) 2 := ⟨(q_mem (q_t8 _ (List.mem_of_getElem? (i := 52) rfl)) rfl), (q_mem (q_t1 _ (List.mem_of_getElem? (i := 18) (by decide +kernel))) rfl), by decide, by decide, by decide +kernel⟩
theorem vl_X12_addsNoise : q_Vl yX12_addsNoise := ⟨(q_mem (q_t8 _ (List.mem_of_getElem? (i := 51) (by decide +kernel))) rfl), (q_mem (q_tp _ (List.mem_of_getElem? (i := 90) (by decide +kernel))) rfl)⟩
theorem yl_X12_lays : q_Yl yX12_lays cX12_lays 4 (none) 0 := ⟨(q_mem (q_t7 _ (List.mem_of_getElem? (i := 237) rfl)) rfl), (q_mem (q_t1 _ (List.mem_of_getElem? (i := 18) (by decide +kernel))) rfl), by decide, by decide, by decide +kernel⟩
theorem vl_X12_lays : q_Vl yX12_lays := ⟨(q_mem (q_t7 _ (List.mem_of_getElem? (i := 236) (by decide +kernel))) rfl), (q_mem (q_tp _ (List.mem_of_getElem? (i := 77) (by decide +kernel))) rfl)⟩
theorem yl_X12_read : q_Yl yX12_read cX12_read 2 (some FieldType.int) 0 := ⟨(q_mem (q_t7 _ (List.mem_of_getElem? (i := 121) rfl)) rfl), (q_mem (q_t1 _ (List.mem_of_getElem? (i := 18) (by decide +kernel))) rfl), by decide, by decide, by decide +kernel⟩
theorem vl_X12_read : q_Vl yX12_read := ⟨(q_mem (q_t7 _ (List.mem_of_getElem? (i := 119) (by decide +kernel))) rfl), (q_mem (q_t7 _ (List.mem_of_getElem? (i := 120) (by decide +kernel))) rfl)⟩
theorem yl_X12_place : q_Yl yX12_place cX12_place 1 (some FieldType.int) 0 := ⟨(q_mem (q_t8 _ (List.mem_of_getElem? (i := 63) rfl)) rfl), (q_mem (q_t1 _ (List.mem_of_getElem? (i := 18) (by decide +kernel))) rfl), by decide, by decide, by decide +kernel⟩
theorem vl_X12_place : q_Vl yX12_place := ⟨(q_mem (q_t8 _ (List.mem_of_getElem? (i := 61) (by decide +kernel))) rfl), (q_mem (q_t8 _ (List.mem_of_getElem? (i := 62) (by decide +kernel))) rfl)⟩
theorem yl_X12_in : q_Yl yX12_in cX12_in 3 (some FieldType.boolean) 3 := ⟨(q_mem (q_t8 _ (List.mem_of_getElem? (i := 74) rfl)) rfl), (q_mem (q_t1 _ (List.mem_of_getElem? (i := 18) (by decide +kernel))) rfl), by decide, by decide, by decide +kernel⟩
theorem sl_X12_in : .static yX12_in ∈ q_tbl := (q_mem (q_t8 _ (List.mem_of_getElem? (i := 73) (by decide +kernel))) rfl)
theorem yl_X12_isCode : q_Yl yX12_isCode cX12_isCode 2 (some FieldType.boolean) 1 := ⟨(q_mem (q_t8 _ (List.mem_of_getElem? (i := 71) rfl)) rfl), (q_mem (q_t1 _ (List.mem_of_getElem? (i := 18) (by decide +kernel))) rfl), by decide, by decide, by decide +kernel⟩
theorem vl_X12_isCode : q_Vl yX12_isCode := ⟨(q_mem (q_t8 _ (List.mem_of_getElem? (i := 70) (by decide +kernel))) rfl), (q_mem (q_tp _ (List.mem_of_getElem? (i := 91) (by decide +kernel))) rfl)⟩
theorem yl_X12_arePair : q_Yl yX12_arePair cX12_arePair 3 (some FieldType.boolean) 2 := ⟨(q_mem (q_t8 _ (List.mem_of_getElem? (i := 94) rfl)) rfl), (q_mem (q_t1 _ (List.mem_of_getElem? (i := 18) (by decide +kernel))) rfl), by decide, by decide, by decide +kernel⟩
theorem vl_X12_arePair : q_Vl yX12_arePair := ⟨(q_mem (q_t8 _ (List.mem_of_getElem? (i := 93) (by decide +kernel))) rfl), (q_mem (q_tp _ (List.mem_of_getElem? (i := 94) (by decide +kernel))) rfl)⟩
theorem yl_X12_alikeAt : q_Yl yX12_alikeAt cX12_alikeAt 7 (some FieldType.int) 3 := ⟨(q_mem (q_t8 _ (List.mem_of_getElem? (i := 82) rfl)) rfl), (q_mem (q_t1 _ (List.mem_of_getElem? (i := 18) (by decide +kernel))) rfl), by decide, by decide, by decide +kernel⟩
theorem vl_X12_alikeAt : q_Vl yX12_alikeAt := ⟨(q_mem (q_t8 _ (List.mem_of_getElem? (i := 81) (by decide +kernel))) rfl), (q_mem (q_tp _ (List.mem_of_getElem? (i := 93) (by decide +kernel))) rfl)⟩
theorem yl_X12_roundOf : q_Yl yX12_roundOf cX12_roundOf 3 (some FieldType.int) 1 := ⟨(q_mem (q_t8 _ (List.mem_of_getElem? (i := 78) rfl)) rfl), (q_mem (q_t1 _ (List.mem_of_getElem? (i := 18) (by decide +kernel))) rfl), by decide, by decide, by decide +kernel⟩
theorem vl_X12_roundOf : q_Vl yX12_roundOf := ⟨(q_mem (q_t8 _ (List.mem_of_getElem? (i := 77) (by decide +kernel))) rfl), (q_mem (q_tp _ (List.mem_of_getElem? (i := 92) (by decide +kernel))) rfl)⟩
theorem yl_X12_code : q_Yl yX12_code cX12_code 6 (some FieldType.int) 2 := ⟨(q_mem (q_t8 _ (List.mem_of_getElem? (i := 67) rfl)) rfl), (q_mem (q_t1 _ (List.mem_of_getElem? (i := 18) (by decide +kernel))) rfl), by decide, by decide, by decide +kernel⟩
theorem vl_X12_code : q_Vl yX12_code := ⟨(q_mem (q_t8 _ (List.mem_of_getElem? (i := 65) (by decide +kernel))) rfl), (q_mem (q_t8 _ (List.mem_of_getElem? (i := 66) (by decide +kernel))) rfl)⟩
theorem yl_X12_chip : q_Yl yX12_chip cX12_chip 3 (some FieldType.int) 2 := ⟨(q_mem (q_t8 _ (List.mem_of_getElem? (i := 86) rfl)) rfl), (q_mem (q_t1 _ (List.mem_of_getElem? (i := 18) (by decide +kernel))) rfl), by decide, by decide, by decide +kernel⟩
theorem vl_X12_chip : q_Vl yX12_chip := ⟨(q_mem (q_t8 _ (List.mem_of_getElem? (i := 84) (by decide +kernel))) rfl), (q_mem (q_t8 _ (List.mem_of_getElem? (i := 85) (by decide +kernel))) rfl)⟩
theorem yl_X12_alike : q_Yl yX12_alike cX12_alike 4 (some FieldType.int) 3 := ⟨(q_mem (q_t8 _ (List.mem_of_getElem? (i := 90) rfl)) rfl), (q_mem (q_t1 _ (List.mem_of_getElem? (i := 18) (by decide +kernel))) rfl), by decide, by decide, by decide +kernel⟩
theorem vl_X12_alike : q_Vl yX12_alike := ⟨(q_mem (q_t8 _ (List.mem_of_getElem? (i := 88) (by decide +kernel))) rfl), (q_mem (q_t8 _ (List.mem_of_getElem? (i := 89) (by decide +kernel))) rfl)⟩
theorem yl_X12_worstOf : q_Yl yX12_worstOf cX12_worstOf 6 (some FieldType.int) 2 := ⟨(q_mem (q_t8 _ (List.mem_of_getElem? (i := 102) rfl)) rfl), (q_mem (q_t1 _ (List.mem_of_getElem? (i := 18) (by decide +kernel))) rfl), by decide, by decide, by decide +kernel⟩
theorem vl_X12_worstOf : q_Vl yX12_worstOf := ⟨(q_mem (q_t8 _ (List.mem_of_getElem? (i := 101) (by decide +kernel))) rfl), (q_mem (q_tp _ (List.mem_of_getElem? (i := 95) (by decide +kernel))) rfl)⟩
theorem yl_X12_worst : q_Yl yX12_worst cX12_worst 3 (some FieldType.int) 2 := ⟨(q_mem (q_t8 _ (List.mem_of_getElem? (i := 98) rfl)) rfl), (q_mem (q_t1 _ (List.mem_of_getElem? (i := 18) (by decide +kernel))) rfl), by decide, by decide, by decide +kernel⟩
theorem vl_X12_worst : q_Vl yX12_worst := ⟨(q_mem (q_t8 _ (List.mem_of_getElem? (i := 96) (by decide +kernel))) rfl), (q_mem (q_t8 _ (List.mem_of_getElem? (i := 97) (by decide +kernel))) rfl)⟩
theorem yl_X12_times : q_Yl yX12_times cX12_times 6 (some FieldType.int) 3 := ⟨(q_mem (q_t8 _ (List.mem_of_getElem? (i := 106) rfl)) rfl), (q_mem (q_t1 _ (List.mem_of_getElem? (i := 18) (by decide +kernel))) rfl), by decide, by decide, by decide +kernel⟩
theorem vl_X12_times : q_Vl yX12_times := ⟨(q_mem (q_t8 _ (List.mem_of_getElem? (i := 104) (by decide +kernel))) rfl), (q_mem (q_t8 _ (List.mem_of_getElem? (i := 105) (by decide +kernel))) rfl)⟩
theorem yl_X12_depth : q_Yl yX12_depth cX12_depth 8 (some FieldType.int) 1 := ⟨(q_mem (q_t8 _ (List.mem_of_getElem? (i := 110) rfl)) rfl), (q_mem (q_t1 _ (List.mem_of_getElem? (i := 18) (by decide +kernel))) rfl), by decide, by decide, by decide +kernel⟩
theorem vl_X12_depth : q_Vl yX12_depth := ⟨(q_mem (q_t8 _ (List.mem_of_getElem? (i := 108) (by decide +kernel))) rfl), (q_mem (q_t8 _ (List.mem_of_getElem? (i := 109) (by decide +kernel))) rfl)⟩
theorem yl_X12_bits : q_Yl yX12_bits cX12_bits 3 (some FieldType.int) 1 := ⟨(q_mem (q_t8 _ (List.mem_of_getElem? (i := 117) rfl)) rfl), (q_mem (q_t1 _ (List.mem_of_getElem? (i := 18) (by decide +kernel))) rfl), by decide, by decide, by decide +kernel⟩
theorem sl_X12_bits : .static yX12_bits ∈ q_tbl := (q_mem (q_t8 _ (List.mem_of_getElem? (i := 116) (by decide +kernel))) rfl)
theorem yl_X12_isFamily : q_Yl yX12_isFamily cX12_isFamily 4 (some FieldType.boolean) 1 := ⟨(q_mem (q_t8 _ (List.mem_of_getElem? (i := 121) rfl)) rfl), (q_mem (q_t1 _ (List.mem_of_getElem? (i := 18) (by decide +kernel))) rfl), by decide, by decide, by decide +kernel⟩
theorem vl_X12_isFamily : q_Vl yX12_isFamily := ⟨(q_mem (q_t8 _ (List.mem_of_getElem? (i := 120) (by decide +kernel))) rfl), (q_mem (q_tp _ (List.mem_of_getElem? (i := 96) (by decide +kernel))) rfl)⟩
theorem yl_X12_family : q_Yl yX12_family cX12_family 5 (some FieldType.int) 2 := ⟨(q_mem (q_t8 _ (List.mem_of_getElem? (i := 114) rfl)) rfl), (q_mem (q_t1 _ (List.mem_of_getElem? (i := 18) (by decide +kernel))) rfl), by decide, by decide, by decide +kernel⟩
theorem vl_X12_family : q_Vl yX12_family := ⟨(q_mem (q_t8 _ (List.mem_of_getElem? (i := 112) (by decide +kernel))) rfl), (q_mem (q_t8 _ (List.mem_of_getElem? (i := 113) (by decide +kernel))) rfl)⟩
theorem yl_X12_isSample : q_Yl yX12_isSample cX12_isSample 2 (some FieldType.boolean) 1 := ⟨(q_mem (q_t8 _ (List.mem_of_getElem? (i := 129) rfl)) rfl), (q_mem (q_t1 _ (List.mem_of_getElem? (i := 18) (by decide +kernel))) rfl), by decide, by decide, by decide +kernel⟩
theorem vl_X12_isSample : q_Vl yX12_isSample := ⟨(q_mem (q_t8 _ (List.mem_of_getElem? (i := 128) (by decide +kernel))) rfl), (q_mem (q_tp _ (List.mem_of_getElem? (i := 97) (by decide +kernel))) rfl)⟩
theorem yl_X12_isSender : q_Yl yX12_isSender cX12_isSender 2 (some FieldType.boolean) 1 := ⟨(q_mem (q_t8 _ (List.mem_of_getElem? (i := 149) rfl)) rfl), (q_mem (q_t1 _ (List.mem_of_getElem? (i := 18) (by decide +kernel))) rfl), by decide, by decide, by decide +kernel⟩
theorem vl_X12_isSender : q_Vl yX12_isSender := ⟨(q_mem (q_t8 _ (List.mem_of_getElem? (i := 148) (by decide +kernel))) rfl), (q_mem (q_tp _ (List.mem_of_getElem? (i := 98) (by decide +kernel))) rfl)⟩
theorem yl_X12_sample : q_Yl yX12_sample cX12_sample 3 (some FieldType.int) 2 := ⟨(q_mem (q_t8 _ (List.mem_of_getElem? (i := 125) rfl)) rfl), (q_mem (q_t1 _ (List.mem_of_getElem? (i := 18) (by decide +kernel))) rfl), by decide, by decide, by decide +kernel⟩
theorem vl_X12_sample : q_Vl yX12_sample := ⟨(q_mem (q_t8 _ (List.mem_of_getElem? (i := 123) (by decide +kernel))) rfl), (q_mem (q_t8 _ (List.mem_of_getElem? (i := 124) (by decide +kernel))) rfl)⟩
theorem yl_X12_square : q_Yl yX12_square cX12_square 2 (some FieldType.long) 1 := ⟨(q_mem (q_t8 _ (List.mem_of_getElem? (i := 140) rfl)) rfl), (q_mem (q_t1 _ (List.mem_of_getElem? (i := 18) (by decide +kernel))) rfl), by decide, by decide, by decide +kernel⟩
theorem sl_X12_square : .static yX12_square ∈ q_tbl := (q_mem (q_t8 _ (List.mem_of_getElem? (i := 139) (by decide +kernel))) rfl)
theorem yl_X12_powerOf : q_Yl yX12_powerOf cX12_powerOf 6 (some FieldType.long) 3 := ⟨(q_mem (q_t8 _ (List.mem_of_getElem? (i := 137) rfl)) rfl), (q_mem (q_t1 _ (List.mem_of_getElem? (i := 18) (by decide +kernel))) rfl), by decide, by decide, by decide +kernel⟩
theorem sl_X12_powerOf : .static yX12_powerOf ∈ q_tbl := (q_mem (q_t8 _ (List.mem_of_getElem? (i := 136) (by decide +kernel))) rfl)
theorem yl_X12_power : q_Yl yX12_power cX12_power 3 (some FieldType.long) 2 := ⟨(q_mem (q_t8 _ (List.mem_of_getElem? (i := 134) rfl)) rfl), (q_mem (q_t1 _ (List.mem_of_getElem? (i := 18) (by decide +kernel))) rfl), by decide, by decide, by decide +kernel⟩
theorem vl_X12_power : q_Vl yX12_power := ⟨(q_mem (q_t8 _ (List.mem_of_getElem? (i := 132) (by decide +kernel))) rfl), (q_mem (q_t8 _ (List.mem_of_getElem? (i := 133) (by decide +kernel))) rfl)⟩
theorem yl_X12_wave : q_Yl yX12_wave cX12_wave 6 (some FieldType.int) 3 := ⟨(q_mem (q_t8 _ (List.mem_of_getElem? (i := 145) rfl)) rfl), (q_mem (q_t1 _ (List.mem_of_getElem? (i := 18) (by decide +kernel))) rfl), by decide, by decide, by decide +kernel⟩
theorem vl_X12_wave : q_Vl yX12_wave := ⟨(q_mem (q_t8 _ (List.mem_of_getElem? (i := 143) (by decide +kernel))) rfl), (q_mem (q_t8 _ (List.mem_of_getElem? (i := 144) (by decide +kernel))) rfl)⟩
theorem yl_X12_add : q_Yl yX12_add cX12_add 3 (some FieldType.boolean) 2 := ⟨(q_mem (q_t8 _ (List.mem_of_getElem? (i := 153) rfl)) rfl), (q_mem (q_t1 _ (List.mem_of_getElem? (i := 18) (by decide +kernel))) rfl), by decide, by decide, by decide +kernel⟩
theorem vl_X12_add : q_Vl yX12_add := ⟨(q_mem (q_t8 _ (List.mem_of_getElem? (i := 151) (by decide +kernel))) rfl), (q_mem (q_t8 _ (List.mem_of_getElem? (i := 152) (by decide +kernel))) rfl)⟩
theorem yl_X12_noise : q_Yl yX12_noise cX12_noise 3 (some FieldType.boolean) 2 := ⟨(q_mem (q_t8 _ (List.mem_of_getElem? (i := 157) rfl)) rfl), (q_mem (q_t1 _ (List.mem_of_getElem? (i := 18) (by decide +kernel))) rfl), by decide, by decide, by decide +kernel⟩
theorem vl_X12_noise : q_Vl yX12_noise := ⟨(q_mem (q_t8 _ (List.mem_of_getElem? (i := 155) (by decide +kernel))) rfl), (q_mem (q_t8 _ (List.mem_of_getElem? (i := 156) (by decide +kernel))) rfl)⟩
theorem yl_X12_anew : q_Yl yX12_anew cX12_anew 1 (some FieldType.boolean) 0 := ⟨(q_mem (q_t8 _ (List.mem_of_getElem? (i := 161) rfl)) rfl), (q_mem (q_t1 _ (List.mem_of_getElem? (i := 18) (by decide +kernel))) rfl), by decide, by decide, by decide +kernel⟩
theorem vl_X12_anew : q_Vl yX12_anew := ⟨(q_mem (q_t8 _ (List.mem_of_getElem? (i := 159) (by decide +kernel))) rfl), (q_mem (q_t8 _ (List.mem_of_getElem? (i := 160) (by decide +kernel))) rfl)⟩
theorem yl_X12_sums : q_Yl yX12_sums cX12_sums 11 (none) 4 := ⟨(q_mem (q_t8 _ (List.mem_of_getElem? (i := 170) rfl)) rfl), (q_mem (q_t1 _ (List.mem_of_getElem? (i := 18) (by decide +kernel))) rfl), by decide, by decide, by decide +kernel⟩
theorem vl_X12_sums : q_Vl yX12_sums := ⟨(q_mem (q_t8 _ (List.mem_of_getElem? (i := 169) (by decide +kernel))) rfl), (q_mem (q_tp _ (List.mem_of_getElem? (i := 99) (by decide +kernel))) rfl)⟩
theorem yl_X12_sum : q_Yl yX12_sum cX12_sum 6 (some FieldType.int) 5 := ⟨(q_mem (q_t8 _ (List.mem_of_getElem? (i := 165) rfl)) rfl), (q_mem (q_t1 _ (List.mem_of_getElem? (i := 18) (by decide +kernel))) rfl), by decide, by decide, by decide +kernel⟩
theorem vl_X12_sum : q_Vl yX12_sum := ⟨(q_mem (q_t8 _ (List.mem_of_getElem? (i := 163) (by decide +kernel))) rfl), (q_mem (q_t8 _ (List.mem_of_getElem? (i := 164) (by decide +kernel))) rfl)⟩
theorem yl_X12_metricOf : q_Yl yX12_metricOf cX12_metricOf 8 (some FieldType.long) 4 := ⟨(q_mem (q_t8 _ (List.mem_of_getElem? (i := 186) rfl)) rfl), (q_mem (q_t1 _ (List.mem_of_getElem? (i := 18) (by decide +kernel))) rfl), by decide, by decide, by decide +kernel⟩
theorem vl_X12_metricOf : q_Vl yX12_metricOf := ⟨(q_mem (q_t8 _ (List.mem_of_getElem? (i := 185) (by decide +kernel))) rfl), (q_mem (q_tp _ (List.mem_of_getElem? (i := 102) (by decide +kernel))) rfl)⟩
theorem yl_X12_canLook : q_Yl yX12_canLook cX12_canLook 4 (some FieldType.boolean) 3 := ⟨(q_mem (q_t8 _ (List.mem_of_getElem? (i := 178) rfl)) rfl), (q_mem (q_t1 _ (List.mem_of_getElem? (i := 18) (by decide +kernel))) rfl), by decide, by decide, by decide +kernel⟩
theorem vl_X12_canLook : q_Vl yX12_canLook := ⟨(q_mem (q_t8 _ (List.mem_of_getElem? (i := 177) (by decide +kernel))) rfl), (q_mem (q_tp _ (List.mem_of_getElem? (i := 100) (by decide +kernel))) rfl)⟩
theorem yl_X12_isCell : q_Yl yX12_isCell cX12_isCell 3 (some FieldType.boolean) 2 := ⟨(q_mem (q_t8 _ (List.mem_of_getElem? (i := 182) rfl)) rfl), (q_mem (q_t1 _ (List.mem_of_getElem? (i := 18) (by decide +kernel))) rfl), by decide, by decide, by decide +kernel⟩
theorem vl_X12_isCell : q_Vl yX12_isCell := ⟨(q_mem (q_t8 _ (List.mem_of_getElem? (i := 181) (by decide +kernel))) rfl), (q_mem (q_tp _ (List.mem_of_getElem? (i := 101) (by decide +kernel))) rfl)⟩
theorem yl_X12_metric : q_Yl yX12_metric cX12_metric 5 (some FieldType.long) 4 := ⟨(q_mem (q_t8 _ (List.mem_of_getElem? (i := 174) rfl)) rfl), (q_mem (q_t1 _ (List.mem_of_getElem? (i := 18) (by decide +kernel))) rfl), by decide, by decide, by decide +kernel⟩
theorem vl_X12_metric : q_Vl yX12_metric := ⟨(q_mem (q_t8 _ (List.mem_of_getElem? (i := 172) (by decide +kernel))) rfl), (q_mem (q_t8 _ (List.mem_of_getElem? (i := 173) (by decide +kernel))) rfl)⟩
theorem yl_X12_bestOf : q_Yl yX12_bestOf cX12_bestOf 10 (some FieldType.int) 3 := ⟨(q_mem (q_t8 _ (List.mem_of_getElem? (i := 194) rfl)) rfl), (q_mem (q_t1 _ (List.mem_of_getElem? (i := 18) (by decide +kernel))) rfl), by decide, by decide, by decide +kernel⟩
theorem vl_X12_bestOf : q_Vl yX12_bestOf := ⟨(q_mem (q_t8 _ (List.mem_of_getElem? (i := 193) (by decide +kernel))) rfl), (q_mem (q_tp _ (List.mem_of_getElem? (i := 103) (by decide +kernel))) rfl)⟩
theorem yl_X12_best : q_Yl yX12_best cX12_best 4 (some FieldType.int) 3 := ⟨(q_mem (q_t8 _ (List.mem_of_getElem? (i := 190) rfl)) rfl), (q_mem (q_t1 _ (List.mem_of_getElem? (i := 18) (by decide +kernel))) rfl), by decide, by decide, by decide +kernel⟩
theorem vl_X12_best : q_Vl yX12_best := ⟨(q_mem (q_t8 _ (List.mem_of_getElem? (i := 188) (by decide +kernel))) rfl), (q_mem (q_t8 _ (List.mem_of_getElem? (i := 189) (by decide +kernel))) rfl)⟩
theorem yl_X12_apart : q_Yl yX12_apart cX12_apart 4 (some FieldType.int) 3 := ⟨(q_mem (q_t8 _ (List.mem_of_getElem? (i := 201) rfl)) rfl), (q_mem (q_t1 _ (List.mem_of_getElem? (i := 18) (by decide +kernel))) rfl), by decide, by decide, by decide +kernel⟩
theorem sl_X12_apart : .static yX12_apart ∈ q_tbl := (q_mem (q_t8 _ (List.mem_of_getElem? (i := 200) (by decide +kernel))) rfl)
theorem yl_X12_second : q_Yl yX12_second cX12_second 12 (some FieldType.int) 4 := ⟨(q_mem (q_t8 _ (List.mem_of_getElem? (i := 198) rfl)) rfl), (q_mem (q_t1 _ (List.mem_of_getElem? (i := 18) (by decide +kernel))) rfl), by decide, by decide, by decide +kernel⟩
theorem vl_X12_second : q_Vl yX12_second := ⟨(q_mem (q_t8 _ (List.mem_of_getElem? (i := 196) (by decide +kernel))) rfl), (q_mem (q_t8 _ (List.mem_of_getElem? (i := 197) (by decide +kernel))) rfl)⟩
theorem yl_X12_peak : q_Yl yX12_peak cX12_peak 9 (some FieldType.int) 5 := ⟨(q_mem (q_t8 _ (List.mem_of_getElem? (i := 205) rfl)) rfl), (q_mem (q_t1 _ (List.mem_of_getElem? (i := 18) (by decide +kernel))) rfl), by decide, by decide, by decide +kernel⟩
theorem vl_X12_peak : q_Vl yX12_peak := ⟨(q_mem (q_t8 _ (List.mem_of_getElem? (i := 203) (by decide +kernel))) rfl), (q_mem (q_t8 _ (List.mem_of_getElem? (i := 204) (by decide +kernel))) rfl)⟩
theorem yl_X12_alarms : q_Yl yX12_alarms cX12_alarms 8 (some FieldType.int) 4 := ⟨(q_mem (q_t8 _ (List.mem_of_getElem? (i := 209) rfl)) rfl), (q_mem (q_t1 _ (List.mem_of_getElem? (i := 18) (by decide +kernel))) rfl), by decide, by decide, by decide +kernel⟩
theorem vl_X12_alarms : q_Vl yX12_alarms := ⟨(q_mem (q_t8 _ (List.mem_of_getElem? (i := 207) (by decide +kernel))) rfl), (q_mem (q_t8 _ (List.mem_of_getElem? (i := 208) (by decide +kernel))) rfl)⟩
theorem yl_X12_plan : q_Yl yX12_plan cX12_plan 10 (some FieldType.int) 6 := ⟨(q_mem (q_t8 _ (List.mem_of_getElem? (i := 213) rfl)) rfl), (q_mem (q_t1 _ (List.mem_of_getElem? (i := 18) (by decide +kernel))) rfl), by decide, by decide, by decide +kernel⟩
theorem vl_X12_plan : q_Vl yX12_plan := ⟨(q_mem (q_t8 _ (List.mem_of_getElem? (i := 211) (by decide +kernel))) rfl), (q_mem (q_t8 _ (List.mem_of_getElem? (i := 212) (by decide +kernel))) rfl)⟩
theorem yl_X12_common : q_Yl yX12_common cX12_common 10 (some FieldType.long) 2 := ⟨(q_mem (q_t8 _ (List.mem_of_getElem? (i := 221) rfl)) rfl), (q_mem (q_t1 _ (List.mem_of_getElem? (i := 18) (by decide +kernel))) rfl), by decide, by decide, by decide +kernel⟩
theorem sl_X12_common : .static yX12_common ∈ q_tbl := (q_mem (q_t8 _ (List.mem_of_getElem? (i := 220) (by decide +kernel))) rfl)
theorem yl_X12_mean : q_Yl yX12_mean cX12_mean 13 (some FieldType.long) 6 := ⟨(q_mem (q_t8 _ (List.mem_of_getElem? (i := 217) rfl)) rfl), (q_mem (q_t1 _ (List.mem_of_getElem? (i := 18) (by decide +kernel))) rfl), by decide, by decide, by decide +kernel⟩
theorem vl_X12_mean : q_Vl yX12_mean := ⟨(q_mem (q_t8 _ (List.mem_of_getElem? (i := 215) (by decide +kernel))) rfl), (q_mem (q_t8 _ (List.mem_of_getElem? (i := 216) (by decide +kernel))) rfl)⟩
theorem yl_X12_over : q_Yl yX12_over cX12_over 11 (some FieldType.long) 5 := ⟨(q_mem (q_t8 _ (List.mem_of_getElem? (i := 225) rfl)) rfl), (q_mem (q_t1 _ (List.mem_of_getElem? (i := 18) (by decide +kernel))) rfl), by decide, by decide, by decide +kernel⟩
theorem vl_X12_over : q_Vl yX12_over := ⟨(q_mem (q_t8 _ (List.mem_of_getElem? (i := 223) (by decide +kernel))) rfl), (q_mem (q_t8 _ (List.mem_of_getElem? (i := 224) (by decide +kernel))) rfl)⟩
theorem yl_X12_sumsUp : q_Yl yX12_sumsUp cX12_sumsUp 12 (none) 3 := ⟨(q_mem (q_t8 _ (List.mem_of_getElem? (i := 237) rfl)) rfl), (q_mem (q_t1 _ (List.mem_of_getElem? (i := 18) (by decide +kernel))) rfl), by decide, by decide, by decide +kernel⟩
theorem vl_X12_sumsUp : q_Vl yX12_sumsUp := ⟨(q_mem (q_t8 _ (List.mem_of_getElem? (i := 236) (by decide +kernel))) rfl), (q_mem (q_tp _ (List.mem_of_getElem? (i := 105) (by decide +kernel))) rfl)⟩
theorem yl_X12_bitOf : q_Yl yX12_bitOf cX12_bitOf 2 (some FieldType.int) 1 := ⟨(q_mem (q_t9 _ (List.mem_of_getElem? (i := 1) rfl)) rfl), (q_mem (q_t1 _ (List.mem_of_getElem? (i := 18) (by decide +kernel))) rfl), by decide, by decide, by decide +kernel⟩
theorem vl_X12_bitOf : q_Vl yX12_bitOf := ⟨(q_mem (q_t9 _ (List.mem_of_getElem? (i := 0) (by decide +kernel))) rfl), (q_mem (q_tp _ (List.mem_of_getElem? (i := 106) (by decide +kernel))) rfl)⟩
theorem yl_X12_bitBy : q_Yl yX12_bitBy cX12_bitBy 4 (some FieldType.int) 3 := ⟨(q_mem (q_t8 _ (List.mem_of_getElem? (i := 233) rfl)) rfl), (q_mem (q_t1 _ (List.mem_of_getElem? (i := 18) (by decide +kernel))) rfl), by decide, by decide, by decide +kernel⟩
theorem vl_X12_bitBy : q_Vl yX12_bitBy := ⟨(q_mem (q_t8 _ (List.mem_of_getElem? (i := 232) (by decide +kernel))) rfl), (q_mem (q_tp _ (List.mem_of_getElem? (i := 104) (by decide +kernel))) rfl)⟩
theorem yl_X12_bit : q_Yl yX12_bit cX12_bit 3 (some FieldType.int) 2 := ⟨(q_mem (q_t8 _ (List.mem_of_getElem? (i := 229) rfl)) rfl), (q_mem (q_t1 _ (List.mem_of_getElem? (i := 18) (by decide +kernel))) rfl), by decide, by decide, by decide +kernel⟩
theorem vl_X12_bit : q_Vl yX12_bit := ⟨(q_mem (q_t8 _ (List.mem_of_getElem? (i := 227) (by decide +kernel))) rfl), (q_mem (q_t8 _ (List.mem_of_getElem? (i := 228) (by decide +kernel))) rfl)⟩
theorem yl_X12_joined : q_Yl yX12_joined cX12_joined 3 (some FieldType.int) 2 := ⟨(q_mem (q_t9 _ (List.mem_of_getElem? (i := 5) rfl)) rfl), (q_mem (q_t1 _ (List.mem_of_getElem? (i := 18) (by decide +kernel))) rfl), by decide, by decide, by decide +kernel⟩
theorem vl_X12_joined : q_Vl yX12_joined := ⟨(q_mem (q_t9 _ (List.mem_of_getElem? (i := 3) (by decide +kernel))) rfl), (q_mem (q_t9 _ (List.mem_of_getElem? (i := 4) (by decide +kernel))) rfl)⟩
theorem yl_X12_wrongOf : q_Yl yX12_wrongOf cX12_wrongOf 5 (some FieldType.int) 2 := ⟨(q_mem (q_t9 _ (List.mem_of_getElem? (i := 13) rfl)) rfl), (q_mem (q_t1 _ (List.mem_of_getElem? (i := 18) (by decide +kernel))) rfl), by decide, by decide, by decide +kernel⟩
theorem vl_X12_wrongOf : q_Vl yX12_wrongOf := ⟨(q_mem (q_t9 _ (List.mem_of_getElem? (i := 12) (by decide +kernel))) rfl), (q_mem (q_tp _ (List.mem_of_getElem? (i := 107) (by decide +kernel))) rfl)⟩
theorem yl_X12_wrong : q_Yl yX12_wrong cX12_wrong 2 (some FieldType.int) 1 := ⟨(q_mem (q_t9 _ (List.mem_of_getElem? (i := 9) rfl)) rfl), (q_mem (q_t1 _ (List.mem_of_getElem? (i := 18) (by decide +kernel))) rfl), by decide, by decide, by decide +kernel⟩
theorem vl_X12_wrong : q_Vl yX12_wrong := ⟨(q_mem (q_t9 _ (List.mem_of_getElem? (i := 7) (by decide +kernel))) rfl), (q_mem (q_t9 _ (List.mem_of_getElem? (i := 8) (by decide +kernel))) rfl)⟩
theorem yl_X12_frame : q_Yl yX12_frame cX12_frame 7 (some FieldType.int) 3 := ⟨(q_mem (q_t9 _ (List.mem_of_getElem? (i := 17) rfl)) rfl), (q_mem (q_t1 _ (List.mem_of_getElem? (i := 18) (by decide +kernel))) rfl), by decide, by decide, by decide +kernel⟩
theorem vl_X12_frame : q_Vl yX12_frame := ⟨(q_mem (q_t9 _ (List.mem_of_getElem? (i := 15) (by decide +kernel))) rfl), (q_mem (q_t9 _ (List.mem_of_getElem? (i := 16) (by decide +kernel))) rfl)⟩
theorem yl_X12_hurt : q_Yl yX12_hurt cX12_hurt 9 (some FieldType.int) 4 := ⟨(q_mem (q_t9 _ (List.mem_of_getElem? (i := 21) rfl)) rfl), (q_mem (q_t1 _ (List.mem_of_getElem? (i := 18) (by decide +kernel))) rfl), by decide, by decide, by decide +kernel⟩
theorem vl_X12_hurt : q_Vl yX12_hurt := ⟨(q_mem (q_t9 _ (List.mem_of_getElem? (i := 19) (by decide +kernel))) rfl), (q_mem (q_t9 _ (List.mem_of_getElem? (i := 20) (by decide +kernel))) rfl)⟩
theorem yl_X12_byAmplitude : q_Yl yX12_byAmplitude cX12_byAmplitude 7 (some FieldType.int) 1 := ⟨(q_mem (q_t9 _ (List.mem_of_getElem? (i := 33) rfl)) rfl), (q_mem (q_t1 _ (List.mem_of_getElem? (i := 18) (by decide +kernel))) rfl), by decide, by decide, by decide +kernel⟩
theorem vl_X12_byAmplitude : q_Vl yX12_byAmplitude := ⟨(q_mem (q_t9 _ (List.mem_of_getElem? (i := 32) (by decide +kernel))) rfl), (q_mem (q_tp _ (List.mem_of_getElem? (i := 109) (by decide +kernel))) rfl)⟩
theorem yl_X12_takesOut : q_Yl yX12_takesOut cX12_takesOut 6 (some FieldType.int) 1 := ⟨(q_mem (q_t9 _ (List.mem_of_getElem? (i := 29) rfl)) rfl), (q_mem (q_t1 _ (List.mem_of_getElem? (i := 18) (by decide +kernel))) rfl), by decide, by decide, by decide +kernel⟩
theorem vl_X12_takesOut : q_Vl yX12_takesOut := ⟨(q_mem (q_t9 _ (List.mem_of_getElem? (i := 28) (by decide +kernel))) rfl), (q_mem (q_tp _ (List.mem_of_getElem? (i := 108) (by decide +kernel))) rfl)⟩
theorem yl_X12_taken : q_Yl yX12_taken cX12_taken 3 (some FieldType.int) 2 := ⟨(q_mem (q_t9 _ (List.mem_of_getElem? (i := 25) rfl)) rfl), (q_mem (q_t1 _ (List.mem_of_getElem? (i := 18) (by decide +kernel))) rfl), by decide, by decide, by decide +kernel⟩
theorem vl_X12_taken : q_Vl yX12_taken := ⟨(q_mem (q_t9 _ (List.mem_of_getElem? (i := 23) (by decide +kernel))) rfl), (q_mem (q_t9 _ (List.mem_of_getElem? (i := 24) (by decide +kernel))) rfl)⟩
theorem yl_X12_rest : q_Yl yX12_rest cX12_rest 2 (some FieldType.long) 1 := ⟨(q_mem (q_t9 _ (List.mem_of_getElem? (i := 37) rfl)) rfl), (q_mem (q_t1 _ (List.mem_of_getElem? (i := 18) (by decide +kernel))) rfl), by decide, by decide, by decide +kernel⟩
theorem vl_X12_rest : q_Vl yX12_rest := ⟨(q_mem (q_t9 _ (List.mem_of_getElem? (i := 35) (by decide +kernel))) rfl), (q_mem (q_t9 _ (List.mem_of_getElem? (i := 36) (by decide +kernel))) rfl)⟩
theorem yl_X12_readsAll : q_Yl yX12_readsAll cX12_readsAll 4 (some FieldType.int) 1 := ⟨(q_mem (q_t9 _ (List.mem_of_getElem? (i := 45) rfl)) rfl), (q_mem (q_t1 _ (List.mem_of_getElem? (i := 18) (by decide +kernel))) rfl), by decide, by decide, by decide +kernel⟩
theorem vl_X12_readsAll : q_Vl yX12_readsAll := ⟨(q_mem (q_t9 _ (List.mem_of_getElem? (i := 44) (by decide +kernel))) rfl), (q_mem (q_tp _ (List.mem_of_getElem? (i := 110) (by decide +kernel))) rfl)⟩
theorem yl_X12_atOnce : q_Yl yX12_atOnce cX12_atOnce 6 (some FieldType.int) 1 := ⟨(q_mem (q_t9 _ (List.mem_of_getElem? (i := 41) rfl)) rfl), (q_mem (q_t1 _ (List.mem_of_getElem? (i := 18) (by decide +kernel))) rfl), by decide, by decide, by decide +kernel⟩
theorem vl_X12_atOnce : q_Vl yX12_atOnce := ⟨(q_mem (q_t9 _ (List.mem_of_getElem? (i := 39) (by decide +kernel))) rfl), (q_mem (q_t9 _ (List.mem_of_getElem? (i := 40) (by decide +kernel))) rfl)⟩
theorem yl_X12_loopOf : q_Yl yX12_loopOf cX12_loopOf 18 (some FieldType.int) 5 := ⟨(q_mem (q_t9 _ (List.mem_of_getElem? (i := 53) rfl)) rfl), (q_mem (q_t1 _ (List.mem_of_getElem? (i := 18) (by decide +kernel))) rfl), by decide, by decide, by decide +kernel⟩
theorem vl_X12_loopOf : q_Vl yX12_loopOf := ⟨(q_mem (q_t9 _ (List.mem_of_getElem? (i := 52) (by decide +kernel))) rfl), (q_mem (q_tp _ (List.mem_of_getElem? (i := 111) (by decide +kernel))) rfl)⟩
theorem yl_X12_loop : q_Yl yX12_loop cX12_loop 6 (some FieldType.int) 5 := ⟨(q_mem (q_t9 _ (List.mem_of_getElem? (i := 49) rfl)) rfl), (q_mem (q_t1 _ (List.mem_of_getElem? (i := 18) (by decide +kernel))) rfl), by decide, by decide, by decide +kernel⟩
theorem vl_X12_loop : q_Vl yX12_loop := ⟨(q_mem (q_t9 _ (List.mem_of_getElem? (i := 47) (by decide +kernel))) rfl), (q_mem (q_t9 _ (List.mem_of_getElem? (i := 48) (by decide +kernel))) rfl)⟩
theorem yl_X12_follows : q_Yl yX12_follows cX12_follows 7 (some FieldType.int) 2 := ⟨(q_mem (q_t9 _ (List.mem_of_getElem? (i := 57) rfl)) rfl), (q_mem (q_t1 _ (List.mem_of_getElem? (i := 18) (by decide +kernel))) rfl), by decide, by decide, by decide +kernel⟩
theorem vl_X12_follows : q_Vl yX12_follows := ⟨(q_mem (q_t9 _ (List.mem_of_getElem? (i := 55) (by decide +kernel))) rfl), (q_mem (q_t9 _ (List.mem_of_getElem? (i := 56) (by decide +kernel))) rfl)⟩
theorem yl_X12_isRest : q_Yl yX12_isRest cX12_isRest 3 (some FieldType.boolean) 2 := ⟨(q_mem (q_t9 _ (List.mem_of_getElem? (i := 65) rfl)) rfl), (q_mem (q_t1 _ (List.mem_of_getElem? (i := 18) (by decide +kernel))) rfl), by decide, by decide, by decide +kernel⟩
theorem vl_X12_isRest : q_Vl yX12_isRest := ⟨(q_mem (q_t9 _ (List.mem_of_getElem? (i := 64) (by decide +kernel))) rfl), (q_mem (q_tp _ (List.mem_of_getElem? (i := 112) (by decide +kernel))) rfl)⟩
theorem yl_X12_meets : q_Yl yX12_meets cX12_meets 7 (some FieldType.long) 4 := ⟨(q_mem (q_t9 _ (List.mem_of_getElem? (i := 68) rfl)) rfl), (q_mem (q_t1 _ (List.mem_of_getElem? (i := 18) (by decide +kernel))) rfl), by decide, by decide, by decide +kernel⟩
theorem sl_X12_meets : .static yX12_meets ∈ q_tbl := (q_mem (q_t9 _ (List.mem_of_getElem? (i := 67) (by decide +kernel))) rfl)
theorem yl_X12_range : q_Yl yX12_range cX12_range 11 (some FieldType.long) 6 := ⟨(q_mem (q_t9 _ (List.mem_of_getElem? (i := 61) rfl)) rfl), (q_mem (q_t1 _ (List.mem_of_getElem? (i := 18) (by decide +kernel))) rfl), by decide, by decide, by decide +kernel⟩
theorem vl_X12_range : q_Vl yX12_range := ⟨(q_mem (q_t9 _ (List.mem_of_getElem? (i := 59) (by decide +kernel))) rfl), (q_mem (q_t9 _ (List.mem_of_getElem? (i := 60) (by decide +kernel))) rfl)⟩
theorem yl_X12_near : q_Yl yX12_near cX12_near 10 (some FieldType.int) 5 := ⟨(q_mem (q_t9 _ (List.mem_of_getElem? (i := 73) rfl)) rfl), (q_mem (q_t1 _ (List.mem_of_getElem? (i := 18) (by decide +kernel))) rfl), by decide, by decide, by decide +kernel⟩
theorem vl_X12_near : q_Vl yX12_near := ⟨(q_mem (q_t9 _ (List.mem_of_getElem? (i := 71) (by decide +kernel))) rfl), (q_mem (q_t9 _ (List.mem_of_getElem? (i := 72) (by decide +kernel))) rfl)⟩
theorem yl_X12_isHop : q_Yl yX12_isHop cX12_isHop 2 (some FieldType.boolean) 1 := ⟨(q_mem (q_t9 _ (List.mem_of_getElem? (i := 82) rfl)) rfl), (q_mem (q_t1 _ (List.mem_of_getElem? (i := 18) (by decide +kernel))) rfl), by decide, by decide, by decide +kernel⟩
theorem vl_X12_isHop : q_Vl yX12_isHop := ⟨(q_mem (q_t9 _ (List.mem_of_getElem? (i := 81) (by decide +kernel))) rfl), (q_mem (q_tp _ (List.mem_of_getElem? (i := 113) (by decide +kernel))) rfl)⟩
theorem yl_X12_p : q_Yl yX12_p cX12_p 2 (some FieldType.int) 1 := ⟨(q_mem (q_t9 _ (List.mem_of_getElem? (i := 90) rfl)) rfl), (q_mem (q_t1 _ (List.mem_of_getElem? (i := 18) (by decide +kernel))) rfl), by decide, by decide, by decide +kernel⟩
theorem vl_X12_p : q_Vl yX12_p := ⟨(q_mem (q_t9 _ (List.mem_of_getElem? (i := 89) (by decide +kernel))) rfl), (q_mem (q_tp _ (List.mem_of_getElem? (i := 115) (by decide +kernel))) rfl)⟩
theorem yl_X12_channel : q_Yl yX12_channel cX12_channel 4 (some FieldType.int) 2 := ⟨(q_mem (q_t9 _ (List.mem_of_getElem? (i := 86) rfl)) rfl), (q_mem (q_t1 _ (List.mem_of_getElem? (i := 18) (by decide +kernel))) rfl), by decide, by decide, by decide +kernel⟩
theorem vl_X12_channel : q_Vl yX12_channel := ⟨(q_mem (q_t9 _ (List.mem_of_getElem? (i := 85) (by decide +kernel))) rfl), (q_mem (q_tp _ (List.mem_of_getElem? (i := 114) (by decide +kernel))) rfl)⟩
theorem yl_X12_hop : q_Yl yX12_hop cX12_hop 3 (some FieldType.int) 2 := ⟨(q_mem (q_t9 _ (List.mem_of_getElem? (i := 78) rfl)) rfl), (q_mem (q_t1 _ (List.mem_of_getElem? (i := 18) (by decide +kernel))) rfl), by decide, by decide, by decide +kernel⟩
theorem vl_X12_hop : q_Vl yX12_hop := ⟨(q_mem (q_t9 _ (List.mem_of_getElem? (i := 76) (by decide +kernel))) rfl), (q_mem (q_t9 _ (List.mem_of_getElem? (i := 77) (by decide +kernel))) rfl)⟩
theorem yl_X12_hitsAt : q_Yl yX12_hitsAt cX12_hitsAt 6 (some FieldType.int) 3 := ⟨(q_mem (q_t9 _ (List.mem_of_getElem? (i := 102) rfl)) rfl), (q_mem (q_t1 _ (List.mem_of_getElem? (i := 18) (by decide +kernel))) rfl), by decide, by decide, by decide +kernel⟩
theorem vl_X12_hitsAt : q_Vl yX12_hitsAt := ⟨(q_mem (q_t9 _ (List.mem_of_getElem? (i := 101) (by decide +kernel))) rfl), (q_mem (q_tp _ (List.mem_of_getElem? (i := 117) (by decide +kernel))) rfl)⟩
theorem yl_X12_areHops : q_Yl yX12_areHops cX12_areHops 3 (some FieldType.boolean) 2 := ⟨(q_mem (q_t9 _ (List.mem_of_getElem? (i := 98) rfl)) rfl), (q_mem (q_t1 _ (List.mem_of_getElem? (i := 18) (by decide +kernel))) rfl), by decide, by decide, by decide +kernel⟩
theorem vl_X12_areHops : q_Vl yX12_areHops := ⟨(q_mem (q_t9 _ (List.mem_of_getElem? (i := 97) (by decide +kernel))) rfl), (q_mem (q_tp _ (List.mem_of_getElem? (i := 116) (by decide +kernel))) rfl)⟩
theorem yl_X12_hits : q_Yl yX12_hits cX12_hits 4 (some FieldType.int) 3 := ⟨(q_mem (q_t9 _ (List.mem_of_getElem? (i := 94) rfl)) rfl), (q_mem (q_t1 _ (List.mem_of_getElem? (i := 18) (by decide +kernel))) rfl), by decide, by decide, by decide +kernel⟩
theorem vl_X12_hits : q_Vl yX12_hits := ⟨(q_mem (q_t9 _ (List.mem_of_getElem? (i := 92) (by decide +kernel))) rfl), (q_mem (q_t9 _ (List.mem_of_getElem? (i := 93) (by decide +kernel))) rfl)⟩
theorem yl_X12_worstHits : q_Yl yX12_worstHits cX12_worstHits 5 (some FieldType.int) 2 := ⟨(q_mem (q_t9 _ (List.mem_of_getElem? (i := 106) rfl)) rfl), (q_mem (q_t1 _ (List.mem_of_getElem? (i := 18) (by decide +kernel))) rfl), by decide, by decide, by decide +kernel⟩
theorem vl_X12_worstHits : q_Vl yX12_worstHits := ⟨(q_mem (q_t9 _ (List.mem_of_getElem? (i := 104) (by decide +kernel))) rfl), (q_mem (q_t9 _ (List.mem_of_getElem? (i := 105) (by decide +kernel))) rfl)⟩
theorem yl_X12_isCrowded : q_Yl yX12_isCrowded cX12_isCrowded 5 (some FieldType.boolean) 2 := ⟨(q_mem (q_t9 _ (List.mem_of_getElem? (i := 114) rfl)) rfl), (q_mem (q_t1 _ (List.mem_of_getElem? (i := 18) (by decide +kernel))) rfl), by decide, by decide, by decide +kernel⟩
theorem vl_X12_isCrowded : q_Vl yX12_isCrowded := ⟨(q_mem (q_t9 _ (List.mem_of_getElem? (i := 113) (by decide +kernel))) rfl), (q_mem (q_tp _ (List.mem_of_getElem? (i := 118) (by decide +kernel))) rfl)⟩
theorem yl_X12_crowded : q_Yl yX12_crowded cX12_crowded 6 (some FieldType.int) 3 := ⟨(q_mem (q_t9 _ (List.mem_of_getElem? (i := 110) rfl)) rfl), (q_mem (q_t1 _ (List.mem_of_getElem? (i := 18) (by decide +kernel))) rfl), by decide, by decide, by decide +kernel⟩
theorem vl_X12_crowded : q_Vl yX12_crowded := ⟨(q_mem (q_t9 _ (List.mem_of_getElem? (i := 108) (by decide +kernel))) rfl), (q_mem (q_t9 _ (List.mem_of_getElem? (i := 109) (by decide +kernel))) rfl)⟩
theorem yl_X12_jammed : q_Yl yX12_jammed cX12_jammed 5 (some FieldType.int) 2 := ⟨(q_mem (q_t9 _ (List.mem_of_getElem? (i := 118) rfl)) rfl), (q_mem (q_t1 _ (List.mem_of_getElem? (i := 18) (by decide +kernel))) rfl), by decide, by decide, by decide +kernel⟩
theorem vl_X12_jammed : q_Vl yX12_jammed := ⟨(q_mem (q_t9 _ (List.mem_of_getElem? (i := 116) (by decide +kernel))) rfl), (q_mem (q_t9 _ (List.mem_of_getElem? (i := 117) (by decide +kernel))) rfl)⟩
theorem yl_X12_slotsOn : q_Yl yX12_slotsOn cX12_slotsOn 5 (some FieldType.int) 2 := ⟨(q_mem (q_t9 _ (List.mem_of_getElem? (i := 126) rfl)) rfl), (q_mem (q_t1 _ (List.mem_of_getElem? (i := 18) (by decide +kernel))) rfl), by decide, by decide, by decide +kernel⟩
theorem vl_X12_slotsOn : q_Vl yX12_slotsOn := ⟨(q_mem (q_t9 _ (List.mem_of_getElem? (i := 125) (by decide +kernel))) rfl), (q_mem (q_tp _ (List.mem_of_getElem? (i := 119) (by decide +kernel))) rfl)⟩
theorem yl_X12_strongest : q_Yl yX12_strongest cX12_strongest 7 (some FieldType.int) 2 := ⟨(q_mem (q_t9 _ (List.mem_of_getElem? (i := 122) rfl)) rfl), (q_mem (q_t1 _ (List.mem_of_getElem? (i := 18) (by decide +kernel))) rfl), by decide, by decide, by decide +kernel⟩
theorem vl_X12_strongest : q_Vl yX12_strongest := ⟨(q_mem (q_t9 _ (List.mem_of_getElem? (i := 120) (by decide +kernel))) rfl), (q_mem (q_t9 _ (List.mem_of_getElem? (i := 121) (by decide +kernel))) rfl)⟩
theorem yl_X12_hold : q_Yl yX12_hold cX12_hold 3 (some FieldType.boolean) 1 := ⟨(q_mem (q_t9 _ (List.mem_of_getElem? (i := 130) rfl)) rfl), (q_mem (q_t1 _ (List.mem_of_getElem? (i := 18) (by decide +kernel))) rfl), by decide, by decide, by decide +kernel⟩
theorem vl_X12_hold : q_Vl yX12_hold := ⟨(q_mem (q_t9 _ (List.mem_of_getElem? (i := 128) (by decide +kernel))) rfl), (q_mem (q_t9 _ (List.mem_of_getElem? (i := 129) (by decide +kernel))) rfl)⟩
theorem yl_X12_restore : q_Yl yX12_restore cX12_restore 3 (some FieldType.boolean) 1 := ⟨(q_mem (q_t9 _ (List.mem_of_getElem? (i := 134) rfl)) rfl), (q_mem (q_t1 _ (List.mem_of_getElem? (i := 18) (by decide +kernel))) rfl), by decide, by decide, by decide +kernel⟩
theorem vl_X12_restore : q_Vl yX12_restore := ⟨(q_mem (q_t9 _ (List.mem_of_getElem? (i := 132) (by decide +kernel))) rfl), (q_mem (q_t9 _ (List.mem_of_getElem? (i := 133) (by decide +kernel))) rfl)⟩
theorem yl_X12_periodsOf : q_Yl yX12_periodsOf cX12_periodsOf 4 (some FieldType.int) 1 := ⟨(q_mem (q_t9 _ (List.mem_of_getElem? (i := 142) rfl)) rfl), (q_mem (q_t1 _ (List.mem_of_getElem? (i := 18) (by decide +kernel))) rfl), by decide, by decide, by decide +kernel⟩
theorem vl_X12_periodsOf : q_Vl yX12_periodsOf := ⟨(q_mem (q_t9 _ (List.mem_of_getElem? (i := 141) (by decide +kernel))) rfl), (q_mem (q_tp _ (List.mem_of_getElem? (i := 120) (by decide +kernel))) rfl)⟩
theorem yl_X12_count : q_Yl yX12_count cX12_count 2 (some FieldType.int) 1 := ⟨(q_mem (q_t9 _ (List.mem_of_getElem? (i := 138) rfl)) rfl), (q_mem (q_t1 _ (List.mem_of_getElem? (i := 18) (by decide +kernel))) rfl), by decide, by decide, by decide +kernel⟩
theorem vl_X12_count : q_Vl yX12_count := ⟨(q_mem (q_t9 _ (List.mem_of_getElem? (i := 136) (by decide +kernel))) rfl), (q_mem (q_t9 _ (List.mem_of_getElem? (i := 137) (by decide +kernel))) rfl)⟩
theorem yl_J0_length_8abf5 : q_Yl yJ0_length_8abf5 cJ0_length_8abf5 1 (some FieldType.int) 0 := ⟨(q_mem (q_t1 _ (List.mem_of_getElem? (i := 58) rfl)) rfl), (q_mem (q_t1 _ (List.mem_of_getElem? (i := 6) (by decide +kernel))) rfl), by decide, by decide, by decide +kernel⟩
theorem vl_J0_length_8abf5 : q_Vl yJ0_length_8abf5 := ⟨(q_mem (q_t1 _ (List.mem_of_getElem? (i := 56) (by decide +kernel))) rfl), (q_mem (q_t1 _ (List.mem_of_getElem? (i := 57) (by decide +kernel))) rfl)⟩
theorem yl_J0_coder_7d493 : q_Yl yJ0_coder_7d493 cJ0_coder_7d493 1 (some FieldType.byte) 0 := ⟨(q_mem (q_t1 _ (List.mem_of_getElem? (i := 62) rfl)) rfl), (q_mem (q_t1 _ (List.mem_of_getElem? (i := 6) (by decide +kernel))) rfl), by decide, by decide, by decide +kernel⟩
theorem vl_J0_coder_7d493 : q_Vl yJ0_coder_7d493 := ⟨(q_mem (q_t1 _ (List.mem_of_getElem? (i := 60) (by decide +kernel))) rfl), (q_mem (q_t1 _ (List.mem_of_getElem? (i := 61) (by decide +kernel))) rfl)⟩
theorem yl_J0_isLatin1_aae02 : q_Yl yJ0_isLatin1_aae02 cJ0_isLatin1_aae02 1 (some FieldType.boolean) 0 := ⟨(q_mem (q_t1 _ (List.mem_of_getElem? (i := 72) rfl)) rfl), (q_mem (q_t1 _ (List.mem_of_getElem? (i := 6) (by decide +kernel))) rfl), by decide, by decide, by decide +kernel⟩
theorem vl_J0_isLatin1_aae02 : q_Vl yJ0_isLatin1_aae02 := ⟨(q_mem (q_t1 _ (List.mem_of_getElem? (i := 70) (by decide +kernel))) rfl), (q_mem (q_t1 _ (List.mem_of_getElem? (i := 71) (by decide +kernel))) rfl)⟩
theorem yl_J0_charAt_5068e : q_Yl yJ0_charAt_5068e cJ0_charAt_5068e 2 (some FieldType.char) 1 := ⟨(q_mem (q_t1 _ (List.mem_of_getElem? (i := 68) rfl)) rfl), (q_mem (q_t1 _ (List.mem_of_getElem? (i := 6) (by decide +kernel))) rfl), by decide, by decide, by decide +kernel⟩
theorem vl_J0_charAt_5068e : q_Vl yJ0_charAt_5068e := ⟨(q_mem (q_t1 _ (List.mem_of_getElem? (i := 66) (by decide +kernel))) rfl), (q_mem (q_t1 _ (List.mem_of_getElem? (i := 67) (by decide +kernel))) rfl)⟩
theorem yl_J0_checkIndex_df160 : q_Yl yJ0_checkIndex_df160 cJ0_checkIndex_df160 2 (none) 2 := ⟨(q_mem (q_t1 _ (List.mem_of_getElem? (i := 78) rfl)) rfl), (q_mem (q_t1 _ (List.mem_of_getElem? (i := 6) (by decide +kernel))) rfl), by decide, by decide, by decide +kernel⟩
theorem sl_J0_checkIndex_df160 : .static yJ0_checkIndex_df160 ∈ q_tbl := (q_mem (q_t1 _ (List.mem_of_getElem? (i := 77) (by decide +kernel))) rfl)
theorem yl_J1_charAt_3b067 : q_Yl yJ1_charAt_3b067 cJ1_charAt_3b067 2 (some FieldType.char) 2 := ⟨(q_mem (q_t1 _ (List.mem_of_getElem? (i := 75) rfl)) rfl), (q_mem (q_t1 _ (List.mem_of_getElem? (i := 7) (by decide +kernel))) rfl), by decide, by decide, by decide +kernel⟩
theorem sl_J1_charAt_3b067 : .static yJ1_charAt_3b067 ∈ q_tbl := (q_mem (q_t1 _ (List.mem_of_getElem? (i := 74) (by decide +kernel))) rfl)
theorem yl_J3_checkIndex_8e157 : q_Yl yJ3_checkIndex_8e157 cJ3_checkIndex_8e157 3 (some FieldType.int) 3 := ⟨(q_mem (q_t1 _ (List.mem_of_getElem? (i := 83) rfl)) rfl), (q_mem (q_t1 _ (List.mem_of_getElem? (i := 8) (by decide +kernel))) rfl), by decide, by decide, by decide +kernel⟩
theorem sl_J3_checkIndex_8e157 : .static yJ3_checkIndex_8e157 ∈ q_tbl := (q_mem (q_t1 _ (List.mem_of_getElem? (i := 82) (by decide +kernel))) rfl)
theorem wm_RX5_7 : Cond.methodLink RX5 7 Lib.Math.max.name ∈ q_tbl := (q_mem (q_t1 _ (List.mem_of_getElem? (i := 46) (by decide +kernel))) rfl)
theorem ml_RX9_50 : q_Ml RX9 50 yJ0_length_8abf5 := Or.inl (q_mem (q_t1 _ (List.mem_of_getElem? (i := 55) (by decide +kernel))) rfl)
theorem ml_RJ0_335 : q_Ml RJ0 335 yJ0_coder_7d493 := Or.inl (q_mem (q_t1 _ (List.mem_of_getElem? (i := 59) (by decide +kernel))) rfl)
theorem ml_RX9_55 : q_Ml RX9 55 yJ0_charAt_5068e := Or.inl (q_mem (q_t1 _ (List.mem_of_getElem? (i := 65) (by decide +kernel))) rfl)
theorem ml_RJ0_492 : q_Ml RJ0 492 yJ0_isLatin1_aae02 := Or.inl (q_mem (q_t1 _ (List.mem_of_getElem? (i := 69) (by decide +kernel))) rfl)
theorem ml_RJ0_495 : q_Ml RJ0 495 yJ1_charAt_3b067 := Or.inl (q_mem (q_t1 _ (List.mem_of_getElem? (i := 73) (by decide +kernel))) rfl)
theorem ml_RJ1_9 : q_Ml RJ1 9 yJ0_checkIndex_df160 := Or.inl (q_mem (q_t1 _ (List.mem_of_getElem? (i := 76) (by decide +kernel))) rfl)
theorem ml_RJ0_1059 : q_Ml RJ0 1059 yJ3_checkIndex_8e157 := Or.inl (q_mem (q_t1 _ (List.mem_of_getElem? (i := 81) (by decide +kernel))) rfl)
theorem ml_RJ2_414 : q_Ml RJ2 414 yJ0_checkIndex_df160 := Or.inl (q_mem (q_t1 _ (List.mem_of_getElem? (i := 93) (by decide +kernel))) rfl)
theorem ml_RX9_59 : q_Ml RX9 59 yX5_at := Or.inl (q_mem (q_t1 _ (List.mem_of_getElem? (i := 103) (by decide +kernel))) rfl)
theorem ml_RX9_62 : q_Ml RX9 62 yX9_withLetter := Or.inl (q_mem (q_t1 _ (List.mem_of_getElem? (i := 107) (by decide +kernel))) rfl)
theorem ml_RX9_66 : q_Ml RX9 66 yX5_put := Or.inl (q_mem (q_t1 _ (List.mem_of_getElem? (i := 112) (by decide +kernel))) rfl)
theorem ml_RL_13 : q_Ml RL 13 yX11_feed := Or.inl (q_mem (q_t3 _ (List.mem_of_getElem? (i := 3) (by decide +kernel))) rfl)
theorem ml_RX11_74 : q_Ml RX11 74 yX9_append := Or.inl (q_mem (q_t3 _ (List.mem_of_getElem? (i := 7) (by decide +kernel))) rfl)
theorem ml_RL_18 : q_Ml RL 18 yX11_back := Or.inl (q_mem (q_t3 _ (List.mem_of_getElem? (i := 11) (by decide +kernel))) rfl)
theorem ml_RL_23 : q_Ml RL 23 yX11_read := Or.inl (q_mem (q_t3 _ (List.mem_of_getElem? (i := 15) (by decide +kernel))) rfl)
theorem ml_RX11_78 : q_Ml RX11 78 yX3_make := Or.inl (q_mem (q_t3 _ (List.mem_of_getElem? (i := 19) (by decide +kernel))) rfl)
theorem ml_RX3_46 : q_Ml RX3 46 yX10_clear := Or.inl (q_mem (q_t3 _ (List.mem_of_getElem? (i := 23) (by decide +kernel))) rfl)
theorem ml_RX3_51 : q_Ml RX3 51 yX9_take := Or.inl (q_mem (q_t3 _ (List.mem_of_getElem? (i := 27) (by decide +kernel))) rfl)
theorem ml_RX9_74 : q_Ml RX9 74 yX9_cut := Or.inl (q_mem (q_t3 _ (List.mem_of_getElem? (i := 31) (by decide +kernel))) rfl)
theorem ml_RX9_87 : q_Ml RX9 87 yX9_behindBlanks := Or.inl (q_mem (q_t3 _ (List.mem_of_getElem? (i := 35) (by decide +kernel))) rfl)
theorem ml_RX9_83 : q_Ml RX9 83 yX5_small := Or.inl (q_mem (q_t3 _ (List.mem_of_getElem? (i := 39) (by decide +kernel))) rfl)
theorem ml_RX9_90 : q_Ml RX9 90 yX9_behindToken := Or.inl (q_mem (q_t3 _ (List.mem_of_getElem? (i := 43) (by decide +kernel))) rfl)
theorem ml_RX9_105 : q_Ml RX9 105 yX9_isLetter := Or.inl (q_mem (q_t3 _ (List.mem_of_getElem? (i := 47) (by decide +kernel))) rfl)
theorem ml_RX9_109 : q_Ml RX9 109 yX9_isDigit := Or.inl (q_mem (q_t3 _ (List.mem_of_getElem? (i := 50) (by decide +kernel))) rfl)
theorem ml_RX9_93 : q_Ml RX9 93 yX9_valueOf := Or.inl (q_mem (q_t3 _ (List.mem_of_getElem? (i := 53) (by decide +kernel))) rfl)
theorem ml_RX9_97 : q_Ml RX9 97 yX9_kindOf := Or.inl (q_mem (q_t3 _ (List.mem_of_getElem? (i := 59) (by decide +kernel))) rfl)
theorem ml_RX9_101 : q_Ml RX9 101 yX9_wordOf := Or.inl (q_mem (q_t3 _ (List.mem_of_getElem? (i := 63) (by decide +kernel))) rfl)
theorem ml_RX9_77 : q_Ml RX9 77 yX9_makeRoom := Or.inl (q_mem (q_t3 _ (List.mem_of_getElem? (i := 67) (by decide +kernel))) rfl)
theorem ml_RX9_80 : q_Ml RX9 80 yX9_tell := Or.inl (q_mem (q_t3 _ (List.mem_of_getElem? (i := 74) (by decide +kernel))) rfl)
theorem ml_RX9_149 : q_Ml RX9 149 yX9_takesRoom := Or.inl (q_mem (q_t3 _ (List.mem_of_getElem? (i := 78) (by decide +kernel))) rfl)
theorem wm_RX9_122 : Cond.methodLink RX9 122 Lib.Math.max.name ∈ q_tbl := (q_mem (q_t3 _ (List.mem_of_getElem? (i := 82) (by decide +kernel))) rfl)
theorem ml_RX9_130 : q_Ml RX9 130 yX5_increase := Or.inl (q_mem (q_t3 _ (List.mem_of_getElem? (i := 84) (by decide +kernel))) rfl)
theorem ml_RX9_152 : q_Ml RX9 152 yX9_shapeOf := Or.inl (q_mem (q_t3 _ (List.mem_of_getElem? (i := 88) (by decide +kernel))) rfl)
theorem ml_RX9_156 : q_Ml RX9 156 yX9_goOn := Or.inl (q_mem (q_t3 _ (List.mem_of_getElem? (i := 99) (by decide +kernel))) rfl)
theorem ml_RX9_159 : q_Ml RX9 159 yX9_part := Or.inl (q_mem (q_t3 _ (List.mem_of_getElem? (i := 103) (by decide +kernel))) rfl)
theorem ml_RX9_162 : q_Ml RX9 162 yX9_must := Or.inl (q_mem (q_t3 _ (List.mem_of_getElem? (i := 107) (by decide +kernel))) rfl)
theorem ml_RX3_60 : q_Ml RX3 60 yX5_small := Or.inl (q_mem (q_t3 _ (List.mem_of_getElem? (i := 112) (by decide +kernel))) rfl)
theorem ml_RX3_64 : q_Ml RX3 64 yX3_makeTell := Or.inl (q_mem (q_t3 _ (List.mem_of_getElem? (i := 113) (by decide +kernel))) rfl)
theorem ml_RX3_68 : q_Ml RX3 68 yX3_makeRegister := Or.inl (q_mem (q_t3 _ (List.mem_of_getElem? (i := 117) (by decide +kernel))) rfl)
theorem ml_RX3_134 : q_Ml RX3 134 yX3_newName := Or.inl (q_mem (q_t3 _ (List.mem_of_getElem? (i := 121) (by decide +kernel))) rfl)
theorem ml_RX3_106 : q_Ml RX3 106 yX5_at := Or.inl (q_mem (q_t3 _ (List.mem_of_getElem? (i := 125) (by decide +kernel))) rfl)
theorem ml_RX3_116 : q_Ml RX3 116 yX3_nameIndex := Or.inl (q_mem (q_t3 _ (List.mem_of_getElem? (i := 126) (by decide +kernel))) rfl)
theorem ml_RX3_112 : q_Ml RX3 112 yX3_refuse := Or.inl (q_mem (q_t3 _ (List.mem_of_getElem? (i := 130) (by decide +kernel))) rfl)
theorem ml_RX3_120 : q_Ml RX3 120 yX5_put := Or.inl (q_mem (q_t3 _ (List.mem_of_getElem? (i := 134) (by decide +kernel))) rfl)
theorem ml_RX3_93 : q_Ml RX3 93 yX3_number := Or.inl (q_mem (q_t3 _ (List.mem_of_getElem? (i := 135) (by decide +kernel))) rfl)
theorem ml_RX3_137 : q_Ml RX3 137 yX10_nextCode := Or.inl (q_mem (q_t3 _ (List.mem_of_getElem? (i := 139) (by decide +kernel))) rfl)
theorem ml_RX10_75 : q_Ml RX10 75 yX10_codeAt := Or.inl (q_mem (q_t3 _ (List.mem_of_getElem? (i := 143) (by decide +kernel))) rfl)
theorem ml_RX3_141 : q_Ml RX3 141 yX0_layRegister := Or.inl (q_mem (q_t3 _ (List.mem_of_getElem? (i := 147) (by decide +kernel))) rfl)
theorem ml_RX0_38 : q_Ml RX0 38 yX0_putBit := Or.inl (q_mem (q_t3 _ (List.mem_of_getElem? (i := 151) (by decide +kernel))) rfl)
theorem ml_RX0_34 : q_Ml RX0 34 yX5_put := Or.inl (q_mem (q_t3 _ (List.mem_of_getElem? (i := 156) (by decide +kernel))) rfl)
theorem ml_RX0_42 : q_Ml RX0 42 yJ6_bitCount_0f7a4 := Or.inl (q_mem (q_t3 _ (List.mem_of_getElem? (i := 157) (by decide +kernel))) rfl)
theorem ml_RX3_72 : q_Ml RX3 72 yX3_makeWalsh := Or.inl (q_mem (q_t3 _ (List.mem_of_getElem? (i := 163) (by decide +kernel))) rfl)
theorem ml_RX3_147 : q_Ml RX3 147 yX0_layWalsh := Or.inl (q_mem (q_t3 _ (List.mem_of_getElem? (i := 167) (by decide +kernel))) rfl)
theorem ml_RX3_75 : q_Ml RX3 75 yX3_makeBits := Or.inl (q_mem (q_t3 _ (List.mem_of_getElem? (i := 171) (by decide +kernel))) rfl)
theorem ml_RX3_150 : q_Ml RX3 150 yX0_layBits := Or.inl (q_mem (q_t3 _ (List.mem_of_getElem? (i := 175) (by decide +kernel))) rfl)
theorem ml_RX3_78 : q_Ml RX3 78 yX3_makeBoth := Or.inl (q_mem (q_t3 _ (List.mem_of_getElem? (i := 179) (by decide +kernel))) rfl)
theorem ml_RX3_153 : q_Ml RX3 153 yX3_codeNamed := Or.inl (q_mem (q_t3 _ (List.mem_of_getElem? (i := 183) (by decide +kernel))) rfl)
theorem ml_RX3_124 : q_Ml RX3 124 yX3_numberNamed := Or.inl (q_mem (q_t3 _ (List.mem_of_getElem? (i := 187) (by decide +kernel))) rfl)
theorem ml_RX3_127 : q_Ml RX3 127 yX10_codeAt := Or.inl (q_mem (q_t3 _ (List.mem_of_getElem? (i := 191) (by decide +kernel))) rfl)
theorem ml_RX3_160 : q_Ml RX3 160 yX0_layBoth := Or.inl (q_mem (q_t3 _ (List.mem_of_getElem? (i := 192) (by decide +kernel))) rfl)
theorem ml_RX0_47 : q_Ml RX0 47 yX0_chipRoundAt := Or.inl (q_mem (q_t3 _ (List.mem_of_getElem? (i := 196) (by decide +kernel))) rfl)
theorem ml_RX0_28 : q_Ml RX0 28 yX11_remainder := Or.inr ⟨RX11, (q_memN (q_t3 _ (List.mem_of_getElem? (i := 200) (by decide +kernel))) rfl)⟩
theorem ml_RX0_24 : q_Ml RX0 24 yX5_small := Or.inl (q_mem (q_t3 _ (List.mem_of_getElem? (i := 203) (by decide +kernel))) rfl)
theorem ml_RX3_81 : q_Ml RX3 81 yX3_makeHop := Or.inl (q_mem (q_t3 _ (List.mem_of_getElem? (i := 204) (by decide +kernel))) rfl)
theorem ml_RX3_169 : q_Ml RX3 169 yX10_nextHop := Or.inl (q_mem (q_t3 _ (List.mem_of_getElem? (i := 209) (by decide +kernel))) rfl)
theorem ml_RX10_79 : q_Ml RX10 79 yX10_hopAt := Or.inl (q_mem (q_t3 _ (List.mem_of_getElem? (i := 213) (by decide +kernel))) rfl)
theorem ml_RX3_173 : q_Ml RX3 173 yX1_lay := Or.inl (q_mem (q_t3 _ (List.mem_of_getElem? (i := 217) (by decide +kernel))) rfl)
theorem ml_RX3_84 : q_Ml RX3 84 yX3_makeSender := Or.inl (q_mem (q_t3 _ (List.mem_of_getElem? (i := 221) (by decide +kernel))) rfl)
theorem ml_RX3_181 : q_Ml RX3 181 yX10_nextSender := Or.inl (q_mem (q_t3 _ (List.mem_of_getElem? (i := 225) (by decide +kernel))) rfl)
theorem ml_RX10_83 : q_Ml RX10 83 yX10_senderAt := Or.inl (q_mem (q_t3 _ (List.mem_of_getElem? (i := 229) (by decide +kernel))) rfl)
theorem ml_RX3_87 : q_Ml RX3 87 yX3_makeEcho := Or.inl (q_mem (q_t3 _ (List.mem_of_getElem? (i := 234) (by decide +kernel))) rfl)
theorem ml_RX3_214 : q_Ml RX3 214 yX10_senderAt := Or.inl (q_mem (q_t3 _ (List.mem_of_getElem? (i := 238) (by decide +kernel))) rfl)
theorem ml_RX3_220 : q_Ml RX3 220 yX7_layEcho := Or.inl (q_mem (q_t4 _ (List.mem_of_getElem? (i := 0) (by decide +kernel))) rfl)
theorem ml_RX7_46 : q_Ml RX7 46 yX5_put := Or.inl (q_mem (q_t4 _ (List.mem_of_getElem? (i := 4) (by decide +kernel))) rfl)
theorem ml_RX3_90 : q_Ml RX3 90 yX3_makeJam := Or.inl (q_mem (q_t4 _ (List.mem_of_getElem? (i := 5) (by decide +kernel))) rfl)
theorem ml_RX3_226 : q_Ml RX3 226 yX10_layJam := Or.inl (q_mem (q_t4 _ (List.mem_of_getElem? (i := 9) (by decide +kernel))) rfl)
theorem ml_RX10_87 : q_Ml RX10 87 yX5_put := Or.inl (q_mem (q_t4 _ (List.mem_of_getElem? (i := 13) (by decide +kernel))) rfl)
theorem ml_RX11_83 : q_Ml RX11 83 yX8_layAnew := Or.inl (q_mem (q_t4 _ (List.mem_of_getElem? (i := 14) (by decide +kernel))) rfl)
theorem ml_RX8_42 : q_Ml RX8 42 yX5_clear := Or.inl (q_mem (q_t4 _ (List.mem_of_getElem? (i := 18) (by decide +kernel))) rfl)
theorem ml_RX8_48 : q_Ml RX8 48 yX10_senderAt := Or.inl (q_mem (q_t4 _ (List.mem_of_getElem? (i := 22) (by decide +kernel))) rfl)
theorem ml_RX8_52 : q_Ml RX8 52 yX8_layWave := Or.inl (q_mem (q_t4 _ (List.mem_of_getElem? (i := 23) (by decide +kernel))) rfl)
theorem ml_RX8_73 : q_Ml RX8 73 yX7_periodAt := Or.inl (q_mem (q_t4 _ (List.mem_of_getElem? (i := 27) (by decide +kernel))) rfl)
theorem ml_RX7_62 : q_Ml RX7 62 yX7_delayAt := Or.inl (q_mem (q_t4 _ (List.mem_of_getElem? (i := 31) (by decide +kernel))) rfl)
theorem ml_RX7_55 : q_Ml RX7 55 yX7_length := Or.inl (q_mem (q_t4 _ (List.mem_of_getElem? (i := 35) (by decide +kernel))) rfl)
theorem ml_RX7_58 : q_Ml RX7 58 yX11_quotient := Or.inr ⟨RX11, (q_memN (q_t4 _ (List.mem_of_getElem? (i := 39) (by decide +kernel))) rfl)⟩
theorem ml_RX8_79 : q_Ml RX8 79 yX7_bitSent := Or.inl (q_mem (q_t4 _ (List.mem_of_getElem? (i := 42) (by decide +kernel))) rfl)
theorem ml_RX7_78 : q_Ml RX7 78 yX11_remainder := Or.inr ⟨RX11, (q_memN (q_t4 _ (List.mem_of_getElem? (i := 47) (by decide +kernel))) rfl)⟩
theorem ml_RX8_27 : q_Ml RX8 27 yX5_at := Or.inl (q_mem (q_t4 _ (List.mem_of_getElem? (i := 48) (by decide +kernel))) rfl)
theorem ml_RX8_82 : q_Ml RX8 82 yX7_signAt := Or.inl (q_mem (q_t4 _ (List.mem_of_getElem? (i := 49) (by decide +kernel))) rfl)
theorem ml_RX7_73 : q_Ml RX7 73 yX0_chipRoundAt := Or.inl (q_mem (q_t4 _ (List.mem_of_getElem? (i := 53) (by decide +kernel))) rfl)
theorem ml_RX7_69 : q_Ml RX7 69 yX11_turnAt := Or.inr ⟨RX11, (q_memN (q_t4 _ (List.mem_of_getElem? (i := 54) (by decide +kernel))) rfl)⟩
theorem ml_RX8_85 : q_Ml RX8 85 yX8_layUnit := Or.inl (q_mem (q_t4 _ (List.mem_of_getElem? (i := 57) (by decide +kernel))) rfl)
theorem ml_RX8_89 : q_Ml RX8 89 yX7_axisAt := Or.inl (q_mem (q_t4 _ (List.mem_of_getElem? (i := 61) (by decide +kernel))) rfl)
theorem ml_RX8_95 : q_Ml RX8 95 yX8_increase := Or.inl (q_mem (q_t4 _ (List.mem_of_getElem? (i := 65) (by decide +kernel))) rfl)
theorem ml_RX8_31 : q_Ml RX8 31 yX5_increase := Or.inl (q_mem (q_t4 _ (List.mem_of_getElem? (i := 69) (by decide +kernel))) rfl)
theorem ml_RX8_104 : q_Ml RX8 104 yX5_small := Or.inl (q_mem (q_t4 _ (List.mem_of_getElem? (i := 70) (by decide +kernel))) rfl)
theorem ml_RX8_59 : q_Ml RX8 59 yX8_layJam := Or.inl (q_mem (q_t4 _ (List.mem_of_getElem? (i := 71) (by decide +kernel))) rfl)
theorem wm_RX8_116 : Cond.methodLink RX8 116 Lib.Math.min.name ∈ q_tbl := (q_mem (q_t4 _ (List.mem_of_getElem? (i := 75) (by decide +kernel))) rfl)
theorem ml_RX8_69 : q_Ml RX8 69 yX8_layNoise := Or.inl (q_mem (q_t4 _ (List.mem_of_getElem? (i := 78) (by decide +kernel))) rfl)
theorem ml_RX8_128 : q_Ml RX8 128 yX8_lot := Or.inl (q_mem (q_t4 _ (List.mem_of_getElem? (i := 82) (by decide +kernel))) rfl)
theorem ml_RX8_132 : q_Ml RX8 132 yX8_stirred := Or.inl (q_mem (q_t4 _ (List.mem_of_getElem? (i := 85) (by decide +kernel))) rfl)
theorem ml_RL_28 : q_Ml RL 28 yX11_place := Or.inl (q_mem (q_t4 _ (List.mem_of_getElem? (i := 89) (by decide +kernel))) rfl)
theorem ml_RL_32 : q_Ml RL 32 yX11_code := Or.inl (q_mem (q_t4 _ (List.mem_of_getElem? (i := 93) (by decide +kernel))) rfl)
theorem ml_RX11_87 : q_Ml RX11 87 yX10_codeAt := Or.inl (q_mem (q_t4 _ (List.mem_of_getElem? (i := 97) (by decide +kernel))) rfl)
theorem ml_RX11_94 : q_Ml RX11 94 yX0_minuses := Or.inl (q_mem (q_t4 _ (List.mem_of_getElem? (i := 98) (by decide +kernel))) rfl)
theorem ml_RX0_50 : q_Ml RX0 50 yX0_chipAt := Or.inl (q_mem (q_t4 _ (List.mem_of_getElem? (i := 102) (by decide +kernel))) rfl)
theorem ml_RX11_98 : q_Ml RX11 98 yX0_ownShift := Or.inl (q_mem (q_t4 _ (List.mem_of_getElem? (i := 106) (by decide +kernel))) rfl)
theorem ml_RX0_53 : q_Ml RX0 53 yX0_alikeness := Or.inl (q_mem (q_t4 _ (List.mem_of_getElem? (i := 110) (by decide +kernel))) rfl)
theorem ml_RX0_61 : q_Ml RX0 61 yX0_along := Or.inl (q_mem (q_t4 _ (List.mem_of_getElem? (i := 114) (by decide +kernel))) rfl)
theorem ml_RX0_57 : q_Ml RX0 57 yX5_timesRound := Or.inl (q_mem (q_t4 _ (List.mem_of_getElem? (i := 118) (by decide +kernel))) rfl)
theorem wm_RX5_23 : Cond.methodLink RX5 23 Lib.Math.min.name ∈ q_tbl := (q_mem (q_t4 _ (List.mem_of_getElem? (i := 122) (by decide +kernel))) rfl)
theorem ml_RX11_101 : q_Ml RX11 101 yX0_changes := Or.inl (q_mem (q_t4 _ (List.mem_of_getElem? (i := 123) (by decide +kernel))) rfl)
theorem ml_RL_37 : q_Ml RL 37 yX11_chip := Or.inl (q_mem (q_t4 _ (List.mem_of_getElem? (i := 127) (by decide +kernel))) rfl)
theorem ml_RX11_104 : q_Ml RX11 104 yX0_chipAt := Or.inl (q_mem (q_t4 _ (List.mem_of_getElem? (i := 131) (by decide +kernel))) rfl)
theorem ml_RL_41 : q_Ml RL 41 yX11_alike := Or.inl (q_mem (q_t4 _ (List.mem_of_getElem? (i := 132) (by decide +kernel))) rfl)
theorem ml_RX11_108 : q_Ml RX11 108 yX11_likeLong := Or.inl (q_mem (q_t4 _ (List.mem_of_getElem? (i := 136) (by decide +kernel))) rfl)
theorem ml_RX11_112 : q_Ml RX11 112 yX0_alikeness := Or.inl (q_mem (q_t4 _ (List.mem_of_getElem? (i := 139) (by decide +kernel))) rfl)
theorem ml_RL_46 : q_Ml RL 46 yX11_worst := Or.inl (q_mem (q_t4 _ (List.mem_of_getElem? (i := 140) (by decide +kernel))) rfl)
theorem ml_RX11_116 : q_Ml RX11 116 yX0_worstLikeness := Or.inl (q_mem (q_t4 _ (List.mem_of_getElem? (i := 144) (by decide +kernel))) rfl)
theorem wm_RX0_65 : Cond.methodLink RX0 65 Lib.Math.abs.name ∈ q_tbl := (q_mem (q_t4 _ (List.mem_of_getElem? (i := 148) (by decide +kernel))) rfl)
theorem wm_RX0_70 : Cond.methodLink RX0 70 Lib.Math.max.name ∈ q_tbl := (q_mem (q_t4 _ (List.mem_of_getElem? (i := 151) (by decide +kernel))) rfl)
theorem ml_RL_50 : q_Ml RL 50 yX11_times := Or.inl (q_mem (q_t4 _ (List.mem_of_getElem? (i := 152) (by decide +kernel))) rfl)
theorem ml_RX11_120 : q_Ml RX11 120 yX0_shiftsAlikeBy := Or.inl (q_mem (q_t4 _ (List.mem_of_getElem? (i := 156) (by decide +kernel))) rfl)
theorem ml_RL_54 : q_Ml RL 54 yX11_depth := Or.inl (q_mem (q_t4 _ (List.mem_of_getElem? (i := 160) (by decide +kernel))) rfl)
theorem ml_RX11_123 : q_Ml RX11 123 yX2_depthOf := Or.inl (q_mem (q_t4 _ (List.mem_of_getElem? (i := 164) (by decide +kernel))) rfl)
theorem ml_RX2_29 : q_Ml RX2 29 yX5_clear := Or.inl (q_mem (q_t4 _ (List.mem_of_getElem? (i := 168) (by decide +kernel))) rfl)
theorem ml_RX2_76 : q_Ml RX2 76 yX5_put := Or.inl (q_mem (q_t4 _ (List.mem_of_getElem? (i := 169) (by decide +kernel))) rfl)
theorem ml_RX2_83 : q_Ml RX2 83 yX5_takeOver := Or.inl (q_mem (q_t4 _ (List.mem_of_getElem? (i := 170) (by decide +kernel))) rfl)
theorem ml_RX5_19 : q_Ml RX5 19 yX5_at := Or.inl (q_mem (q_t4 _ (List.mem_of_getElem? (i := 174) (by decide +kernel))) rfl)
theorem ml_RX2_90 : q_Ml RX2 90 yX2_fails := Or.inl (q_mem (q_t4 _ (List.mem_of_getElem? (i := 175) (by decide +kernel))) rfl)
theorem ml_RX2_97 : q_Ml RX2 97 yX0_chipRoundAt := Or.inl (q_mem (q_t4 _ (List.mem_of_getElem? (i := 179) (by decide +kernel))) rfl)
theorem ml_RX2_80 : q_Ml RX2 80 yX5_small := Or.inl (q_mem (q_t4 _ (List.mem_of_getElem? (i := 180) (by decide +kernel))) rfl)
theorem ml_RX2_94 : q_Ml RX2 94 yX2_mixOlder := Or.inl (q_mem (q_t4 _ (List.mem_of_getElem? (i := 181) (by decide +kernel))) rfl)
theorem ml_RX2_72 : q_Ml RX2 72 yX5_at := Or.inl (q_mem (q_t4 _ (List.mem_of_getElem? (i := 185) (by decide +kernel))) rfl)
theorem ml_RL_58 : q_Ml RL 58 yX11_family := Or.inl (q_mem (q_t4 _ (List.mem_of_getElem? (i := 186) (by decide +kernel))) rfl)
theorem ml_RX11_127 : q_Ml RX11 127 yX2_familyOf := Or.inl (q_mem (q_t4 _ (List.mem_of_getElem? (i := 190) (by decide +kernel))) rfl)
theorem ml_RX2_38 : q_Ml RX2 38 yX2_befriend := Or.inl (q_mem (q_t4 _ (List.mem_of_getElem? (i := 194) (by decide +kernel))) rfl)
theorem ml_RX2_58 : q_Ml RX2 58 yX10_codeAt := Or.inl (q_mem (q_t4 _ (List.mem_of_getElem? (i := 198) (by decide +kernel))) rfl)
theorem ml_RX2_62 : q_Ml RX2 62 yX11_likeLong := Or.inr ⟨RX11, (q_memN (q_t4 _ (List.mem_of_getElem? (i := 199) (by decide +kernel))) rfl)⟩
theorem ml_RX2_66 : q_Ml RX2 66 yX0_worstLikeness := Or.inl (q_mem (q_t4 _ (List.mem_of_getElem? (i := 200) (by decide +kernel))) rfl)
theorem wm_RX2_42 : Cond.methodLink RX2 42 Lib.Math.min.name ∈ q_tbl := (q_mem (q_t4 _ (List.mem_of_getElem? (i := 201) (by decide +kernel))) rfl)
theorem ml_RX2_48 : q_Ml RX2 48 yJ6_bitCount_0f7a4 := Or.inl (q_mem (q_t4 _ (List.mem_of_getElem? (i := 202) (by decide +kernel))) rfl)
theorem ml_RX2_54 : q_Ml RX2 54 yX2_areFriends := Or.inl (q_mem (q_t4 _ (List.mem_of_getElem? (i := 203) (by decide +kernel))) rfl)
theorem ml_RX11_131 : q_Ml RX11 131 yJ6_bitCount_0f7a4 := Or.inl (q_mem (q_t4 _ (List.mem_of_getElem? (i := 207) (by decide +kernel))) rfl)
theorem ml_RL_62 : q_Ml RL 62 yX11_sample := Or.inl (q_mem (q_t4 _ (List.mem_of_getElem? (i := 208) (by decide +kernel))) rfl)
theorem ml_RX11_136 : q_Ml RX11 136 yX11_isSample := Or.inl (q_mem (q_t4 _ (List.mem_of_getElem? (i := 212) (by decide +kernel))) rfl)
theorem ml_RX11_140 : q_Ml RX11 140 yX11_axis := Or.inl (q_mem (q_t4 _ (List.mem_of_getElem? (i := 216) (by decide +kernel))) rfl)
theorem ml_RX11_144 : q_Ml RX11 144 yX8_value := Or.inl (q_mem (q_t4 _ (List.mem_of_getElem? (i := 219) (by decide +kernel))) rfl)
theorem ml_RL_67 : q_Ml RL 67 yX11_power := Or.inl (q_mem (q_t4 _ (List.mem_of_getElem? (i := 224) (by decide +kernel))) rfl)
theorem ml_RX11_149 : q_Ml RX11 149 yX8_squares := Or.inl (q_mem (q_t4 _ (List.mem_of_getElem? (i := 228) (by decide +kernel))) rfl)
theorem ml_RL_72 : q_Ml RL 72 yX11_wave := Or.inl (q_mem (q_t4 _ (List.mem_of_getElem? (i := 233) (by decide +kernel))) rfl)
theorem ml_RX11_154 : q_Ml RX11 154 yX10_senderAt := Or.inl (q_mem (q_t4 _ (List.mem_of_getElem? (i := 237) (by decide +kernel))) rfl)
theorem ml_RX11_163 : q_Ml RX11 163 yX7_unitAt := Or.inl (q_mem (q_t4 _ (List.mem_of_getElem? (i := 238) (by decide +kernel))) rfl)
theorem ml_RX7_81 : q_Ml RX7 81 yX7_axisAt := Or.inl (q_mem (q_t5 _ (List.mem_of_getElem? (i := 2) (by decide +kernel))) rfl)
theorem ml_RX7_66 : q_Ml RX7 66 yX7_periodAt := Or.inl (q_mem (q_t5 _ (List.mem_of_getElem? (i := 3) (by decide +kernel))) rfl)
theorem ml_RX7_84 : q_Ml RX7 84 yX7_bitSent := Or.inl (q_mem (q_t5 _ (List.mem_of_getElem? (i := 4) (by decide +kernel))) rfl)
theorem ml_RX7_87 : q_Ml RX7 87 yX7_signAt := Or.inl (q_mem (q_t5 _ (List.mem_of_getElem? (i := 5) (by decide +kernel))) rfl)
theorem ml_RL_77 : q_Ml RL 77 yX11_add := Or.inl (q_mem (q_t5 _ (List.mem_of_getElem? (i := 6) (by decide +kernel))) rfl)
theorem ml_RX11_167 : q_Ml RX11 167 yX8_layWave := Or.inl (q_mem (q_t5 _ (List.mem_of_getElem? (i := 10) (by decide +kernel))) rfl)
theorem ml_RL_82 : q_Ml RL 82 yX11_noise := Or.inl (q_mem (q_t5 _ (List.mem_of_getElem? (i := 11) (by decide +kernel))) rfl)
theorem ml_RX11_171 : q_Ml RX11 171 yX8_layNoise := Or.inl (q_mem (q_t5 _ (List.mem_of_getElem? (i := 15) (by decide +kernel))) rfl)
theorem ml_RL_86 : q_Ml RL 86 yX11_anew := Or.inl (q_mem (q_t5 _ (List.mem_of_getElem? (i := 16) (by decide +kernel))) rfl)
theorem ml_RL_91 : q_Ml RL 91 yX11_sum := Or.inl (q_mem (q_t5 _ (List.mem_of_getElem? (i := 20) (by decide +kernel))) rfl)
theorem ml_RX11_178 : q_Ml RX11 178 yX11_isCell := Or.inl (q_mem (q_t5 _ (List.mem_of_getElem? (i := 24) (by decide +kernel))) rfl)
theorem ml_RX11_183 : q_Ml RX11 183 yX6_sumOf := Or.inl (q_mem (q_t5 _ (List.mem_of_getElem? (i := 28) (by decide +kernel))) rfl)
theorem ml_RX6_33 : q_Ml RX6 33 yX6_turnBack := Or.inl (q_mem (q_t5 _ (List.mem_of_getElem? (i := 32) (by decide +kernel))) rfl)
theorem ml_RX6_57 : q_Ml RX6 57 yX11_turnAt := Or.inr ⟨RX11, (q_memN (q_t5 _ (List.mem_of_getElem? (i := 36) (by decide +kernel))) rfl)⟩
theorem ml_RX6_61 : q_Ml RX6 61 yX8_value := Or.inl (q_mem (q_t5 _ (List.mem_of_getElem? (i := 37) (by decide +kernel))) rfl)
theorem ml_RX6_65 : q_Ml RX6 65 yX5_put := Or.inl (q_mem (q_t5 _ (List.mem_of_getElem? (i := 38) (by decide +kernel))) rfl)
theorem ml_RX6_37 : q_Ml RX6 37 yX0_along := Or.inl (q_mem (q_t5 _ (List.mem_of_getElem? (i := 39) (by decide +kernel))) rfl)
theorem ml_RL_96 : q_Ml RL 96 yX11_metric := Or.inl (q_mem (q_t5 _ (List.mem_of_getElem? (i := 40) (by decide +kernel))) rfl)
theorem ml_RX11_187 : q_Ml RX11 187 yX11_searched := Or.inl (q_mem (q_t5 _ (List.mem_of_getElem? (i := 44) (by decide +kernel))) rfl)
theorem ml_RX11_191 : q_Ml RX11 191 yX0_cells := Or.inl (q_mem (q_t5 _ (List.mem_of_getElem? (i := 48) (by decide +kernel))) rfl)
theorem ml_RX11_194 : q_Ml RX11 194 yX6_metricOf := Or.inl (q_mem (q_t5 _ (List.mem_of_getElem? (i := 52) (by decide +kernel))) rfl)
theorem ml_RX6_41 : q_Ml RX6 41 yX6_squares := Or.inl (q_mem (q_t5 _ (List.mem_of_getElem? (i := 56) (by decide +kernel))) rfl)
theorem ml_RL_101 : q_Ml RL 101 yX11_best := Or.inl (q_mem (q_t5 _ (List.mem_of_getElem? (i := 60) (by decide +kernel))) rfl)
theorem ml_RX11_198 : q_Ml RX11 198 yX6_survey := Or.inl (q_mem (q_t5 _ (List.mem_of_getElem? (i := 64) (by decide +kernel))) rfl)
theorem ml_RX6_45 : q_Ml RX6 45 yX5_clear := Or.inl (q_mem (q_t5 _ (List.mem_of_getElem? (i := 68) (by decide +kernel))) rfl)
theorem ml_RX6_53 : q_Ml RX6 53 yX5_increase := Or.inl (q_mem (q_t5 _ (List.mem_of_getElem? (i := 69) (by decide +kernel))) rfl)
theorem ml_RX11_202 : q_Ml RX11 202 yX6_greatestCell := Or.inl (q_mem (q_t5 _ (List.mem_of_getElem? (i := 70) (by decide +kernel))) rfl)
theorem ml_RX6_68 : q_Ml RX6 68 yX5_at := Or.inl (q_mem (q_t5 _ (List.mem_of_getElem? (i := 74) (by decide +kernel))) rfl)
theorem ml_RL_105 : q_Ml RL 105 yX11_second := Or.inl (q_mem (q_t5 _ (List.mem_of_getElem? (i := 75) (by decide +kernel))) rfl)
theorem ml_RX11_205 : q_Ml RX11 205 yX6_cellBeside := Or.inl (q_mem (q_t5 _ (List.mem_of_getElem? (i := 79) (by decide +kernel))) rfl)
theorem ml_RX6_72 : q_Ml RX6 72 yX11_apart := Or.inr ⟨RX11, (q_memN (q_t5 _ (List.mem_of_getElem? (i := 83) (by decide +kernel))) rfl)⟩
theorem ml_RX11_314 : q_Ml RX11 314 yX11_remainder := Or.inl (q_mem (q_t5 _ (List.mem_of_getElem? (i := 86) (by decide +kernel))) rfl)
theorem wm_RX11_377 : Cond.methodLink RX11 377 Lib.Math.min.name ∈ q_tbl := (q_mem (q_t5 _ (List.mem_of_getElem? (i := 87) (by decide +kernel))) rfl)
theorem ml_RL_110 : q_Ml RL 110 yX11_peak := Or.inl (q_mem (q_t5 _ (List.mem_of_getElem? (i := 88) (by decide +kernel))) rfl)
theorem ml_RX11_208 : q_Ml RX11 208 yX6_delayOfRank := Or.inl (q_mem (q_t5 _ (List.mem_of_getElem? (i := 92) (by decide +kernel))) rfl)
theorem ml_RX6_76 : q_Ml RX6 76 yX6_rankOf := Or.inl (q_mem (q_t5 _ (List.mem_of_getElem? (i := 96) (by decide +kernel))) rfl)
theorem ml_RL_116 : q_Ml RL 116 yX11_alarms := Or.inl (q_mem (q_t5 _ (List.mem_of_getElem? (i := 100) (by decide +kernel))) rfl)
theorem ml_RX11_211 : q_Ml RX11 211 yX6_cellsFrom := Or.inl (q_mem (q_t5 _ (List.mem_of_getElem? (i := 104) (by decide +kernel))) rfl)
theorem ml_RL_121 : q_Ml RL 121 yX11_plan := Or.inl (q_mem (q_t5 _ (List.mem_of_getElem? (i := 108) (by decide +kernel))) rfl)
theorem ml_RX11_215 : q_Ml RX11 215 yX6_looksTill := Or.inl (q_mem (q_t5 _ (List.mem_of_getElem? (i := 112) (by decide +kernel))) rfl)
theorem ml_RX6_79 : q_Ml RX6 79 yX11_remainder := Or.inr ⟨RX11, (q_memN (q_t5 _ (List.mem_of_getElem? (i := 116) (by decide +kernel))) rfl)⟩
theorem ml_RL_126 : q_Ml RL 126 yX11_mean := Or.inl (q_mem (q_t5 _ (List.mem_of_getElem? (i := 117) (by decide +kernel))) rfl)
theorem ml_RX11_221 : q_Ml RX11 221 yX11_commonDivisor := Or.inl (q_mem (q_t5 _ (List.mem_of_getElem? (i := 122) (by decide +kernel))) rfl)
theorem ml_RX11_225 : q_Ml RX11 225 yX11_quotient := Or.inl (q_mem (q_t5 _ (List.mem_of_getElem? (i := 125) (by decide +kernel))) rfl)
theorem ml_RL_131 : q_Ml RL 131 yX11_over := Or.inl (q_mem (q_t5 _ (List.mem_of_getElem? (i := 126) (by decide +kernel))) rfl)
theorem ml_RX11_228 : q_Ml RX11 228 yX11_toThe := Or.inl (q_mem (q_t5 _ (List.mem_of_getElem? (i := 130) (by decide +kernel))) rfl)
theorem ml_RL_136 : q_Ml RL 136 yX11_bit := Or.inl (q_mem (q_t5 _ (List.mem_of_getElem? (i := 133) (by decide +kernel))) rfl)
theorem ml_RX11_232 : q_Ml RX11 232 yX7_periods := Or.inl (q_mem (q_t5 _ (List.mem_of_getElem? (i := 137) (by decide +kernel))) rfl)
theorem ml_RX11_235 : q_Ml RX11 235 yX4_gather := Or.inl (q_mem (q_t5 _ (List.mem_of_getElem? (i := 141) (by decide +kernel))) rfl)
theorem ml_RX4_41 : q_Ml RX4 41 yX5_clear := Or.inl (q_mem (q_t5 _ (List.mem_of_getElem? (i := 145) (by decide +kernel))) rfl)
theorem ml_RX4_47 : q_Ml RX4 47 yX7_periodAt := Or.inl (q_mem (q_t5 _ (List.mem_of_getElem? (i := 146) (by decide +kernel))) rfl)
theorem ml_RX4_53 : q_Ml RX4 53 yX7_axisAt := Or.inl (q_mem (q_t5 _ (List.mem_of_getElem? (i := 147) (by decide +kernel))) rfl)
theorem ml_RX4_56 : q_Ml RX4 56 yX8_value := Or.inl (q_mem (q_t5 _ (List.mem_of_getElem? (i := 148) (by decide +kernel))) rfl)
theorem ml_RX4_60 : q_Ml RX4 60 yX7_signAt := Or.inl (q_mem (q_t5 _ (List.mem_of_getElem? (i := 149) (by decide +kernel))) rfl)
theorem ml_RX4_63 : q_Ml RX4 63 yX5_increase := Or.inl (q_mem (q_t5 _ (List.mem_of_getElem? (i := 150) (by decide +kernel))) rfl)
theorem ml_RX11_239 : q_Ml RX11 239 yX4_bitRead := Or.inl (q_mem (q_t5 _ (List.mem_of_getElem? (i := 151) (by decide +kernel))) rfl)
theorem ml_RX4_67 : q_Ml RX4 67 yX5_at := Or.inl (q_mem (q_t5 _ (List.mem_of_getElem? (i := 155) (by decide +kernel))) rfl)
theorem ml_RL_140 : q_Ml RL 140 yX11_wrong := Or.inl (q_mem (q_t5 _ (List.mem_of_getElem? (i := 156) (by decide +kernel))) rfl)
theorem ml_RX11_242 : q_Ml RX11 242 yX4_wrongBits := Or.inl (q_mem (q_t5 _ (List.mem_of_getElem? (i := 160) (by decide +kernel))) rfl)
theorem ml_RX4_77 : q_Ml RX4 77 yX4_wrongBit := Or.inl (q_mem (q_t5 _ (List.mem_of_getElem? (i := 164) (by decide +kernel))) rfl)
theorem ml_RX4_71 : q_Ml RX4 71 yX4_bitRead := Or.inl (q_mem (q_t5 _ (List.mem_of_getElem? (i := 168) (by decide +kernel))) rfl)
theorem ml_RX4_74 : q_Ml RX4 74 yX7_bitSent := Or.inl (q_mem (q_t5 _ (List.mem_of_getElem? (i := 169) (by decide +kernel))) rfl)
theorem ml_RL_144 : q_Ml RL 144 yX11_joined := Or.inl (q_mem (q_t5 _ (List.mem_of_getElem? (i := 170) (by decide +kernel))) rfl)
theorem ml_RX11_246 : q_Ml RX11 246 yX4_bitJoined := Or.inl (q_mem (q_t5 _ (List.mem_of_getElem? (i := 174) (by decide +kernel))) rfl)
theorem ml_RX4_81 : q_Ml RX4 81 yX4_joinedValue := Or.inl (q_mem (q_t5 _ (List.mem_of_getElem? (i := 178) (by decide +kernel))) rfl)
theorem ml_RX4_94 : q_Ml RX4 94 yX5_small := Or.inl (q_mem (q_t5 _ (List.mem_of_getElem? (i := 181) (by decide +kernel))) rfl)
theorem ml_RL_148 : q_Ml RL 148 yX11_frame := Or.inl (q_mem (q_t5 _ (List.mem_of_getElem? (i := 182) (by decide +kernel))) rfl)
theorem ml_RX11_250 : q_Ml RX11 250 yX4_placeOfBits := Or.inl (q_mem (q_t5 _ (List.mem_of_getElem? (i := 186) (by decide +kernel))) rfl)
theorem ml_RX4_100 : q_Ml RX4 100 yX4_isFrame := Or.inl (q_mem (q_t5 _ (List.mem_of_getElem? (i := 190) (by decide +kernel))) rfl)
theorem ml_RL_152 : q_Ml RL 152 yX11_hurt := Or.inl (q_mem (q_t5 _ (List.mem_of_getElem? (i := 194) (by decide +kernel))) rfl)
theorem ml_RX11_254 : q_Ml RX11 254 yX4_findWorstPulse := Or.inl (q_mem (q_t5 _ (List.mem_of_getElem? (i := 198) (by decide +kernel))) rfl)
theorem ml_RX4_104 : q_Ml RX4 104 yX4_gather := Or.inl (q_mem (q_t5 _ (List.mem_of_getElem? (i := 202) (by decide +kernel))) rfl)
theorem ml_RX4_108 : q_Ml RX4 108 yX7_periods := Or.inl (q_mem (q_t5 _ (List.mem_of_getElem? (i := 203) (by decide +kernel))) rfl)
theorem ml_RX4_111 : q_Ml RX4 111 yX4_wrongBits := Or.inl (q_mem (q_t5 _ (List.mem_of_getElem? (i := 204) (by decide +kernel))) rfl)
theorem ml_RX4_114 : q_Ml RX4 114 yX4_wrongMore := Or.inl (q_mem (q_t5 _ (List.mem_of_getElem? (i := 205) (by decide +kernel))) rfl)
theorem ml_RL_156 : q_Ml RL 156 yX11_atOnce := Or.inl (q_mem (q_t5 _ (List.mem_of_getElem? (i := 209) (by decide +kernel))) rfl)
theorem ml_RX11_264 : q_Ml RX11 264 yX4_wrongAtOnce := Or.inl (q_mem (q_t5 _ (List.mem_of_getElem? (i := 213) (by decide +kernel))) rfl)
theorem ml_RX4_131 : q_Ml RX4 131 yX8_takeOver := Or.inl (q_mem (q_t5 _ (List.mem_of_getElem? (i := 217) (by decide +kernel))) rfl)
theorem ml_RX8_35 : q_Ml RX8 35 yX5_takeOver := Or.inl (q_mem (q_t5 _ (List.mem_of_getElem? (i := 221) (by decide +kernel))) rfl)
theorem ml_RX4_145 : q_Ml RX4 145 yX4_takeAllOut := Or.inl (q_mem (q_t5 _ (List.mem_of_getElem? (i := 222) (by decide +kernel))) rfl)
theorem ml_RX4_127 : q_Ml RX4 127 yX10_senderAt := Or.inl (q_mem (q_t5 _ (List.mem_of_getElem? (i := 226) (by decide +kernel))) rfl)
theorem ml_RX4_153 : q_Ml RX4 153 yX5_takeOver := Or.inl (q_mem (q_t5 _ (List.mem_of_getElem? (i := 227) (by decide +kernel))) rfl)
theorem ml_RX4_138 : q_Ml RX4 138 yX8_layWave := Or.inl (q_mem (q_t5 _ (List.mem_of_getElem? (i := 228) (by decide +kernel))) rfl)
theorem ml_RX4_149 : q_Ml RX4 149 yX4_readAll := Or.inl (q_mem (q_t5 _ (List.mem_of_getElem? (i := 229) (by decide +kernel))) rfl)
theorem ml_RL_160 : q_Ml RL 160 yX11_taken := Or.inl (q_mem (q_t5 _ (List.mem_of_getElem? (i := 233) (by decide +kernel))) rfl)
theorem ml_RX11_271 : q_Ml RX11 271 yX4_takeOut := Or.inl (q_mem (q_t5 _ (List.mem_of_getElem? (i := 237) (by decide +kernel))) rfl)
theorem ml_RX4_135 : q_Ml RX4 135 yX4_strongerFirst := Or.inl (q_mem (q_t6 _ (List.mem_of_getElem? (i := 1) (by decide +kernel))) rfl)
theorem ml_RX4_123 : q_Ml RX4 123 yX4_strongerThan := Or.inl (q_mem (q_t6 _ (List.mem_of_getElem? (i := 5) (by decide +kernel))) rfl)
theorem ml_RX11_274 : q_Ml RX11 274 yX4_strongerFirst := Or.inl (q_mem (q_t6 _ (List.mem_of_getElem? (i := 8) (by decide +kernel))) rfl)
theorem ml_RL_164 : q_Ml RL 164 yX11_rest := Or.inl (q_mem (q_t6 _ (List.mem_of_getElem? (i := 9) (by decide +kernel))) rfl)
theorem ml_RX11_277 : q_Ml RX11 277 yX4_squaresLeft := Or.inl (q_mem (q_t6 _ (List.mem_of_getElem? (i := 13) (by decide +kernel))) rfl)
theorem ml_RX4_142 : q_Ml RX4 142 yX8_squares := Or.inl (q_mem (q_t6 _ (List.mem_of_getElem? (i := 17) (by decide +kernel))) rfl)
theorem ml_RL_169 : q_Ml RL 169 yX11_loop := Or.inl (q_mem (q_t6 _ (List.mem_of_getElem? (i := 18) (by decide +kernel))) rfl)
theorem ml_RX11_281 : q_Ml RX11 281 yX6_loopStep := Or.inl (q_mem (q_t6 _ (List.mem_of_getElem? (i := 22) (by decide +kernel))) rfl)
theorem ml_RL_173 : q_Ml RL 173 yX11_follows := Or.inl (q_mem (q_t6 _ (List.mem_of_getElem? (i := 26) (by decide +kernel))) rfl)
theorem ml_RX11_295 : q_Ml RX11 295 yX7_delayAt := Or.inl (q_mem (q_t6 _ (List.mem_of_getElem? (i := 30) (by decide +kernel))) rfl)
theorem ml_RX11_298 : q_Ml RX11 298 yX11_apart := Or.inl (q_mem (q_t6 _ (List.mem_of_getElem? (i := 31) (by decide +kernel))) rfl)
theorem ml_RL_177 : q_Ml RL 177 yX11_range := Or.inl (q_mem (q_t6 _ (List.mem_of_getElem? (i := 32) (by decide +kernel))) rfl)
theorem ml_RX11_301 : q_Ml RX11 301 yX11_isRest := Or.inl (q_mem (q_t6 _ (List.mem_of_getElem? (i := 36) (by decide +kernel))) rfl)
theorem ml_RX11_305 : q_Ml RX11 305 yX11_lengthOf := Or.inl (q_mem (q_t6 _ (List.mem_of_getElem? (i := 40) (by decide +kernel))) rfl)
theorem ml_RX11_308 : q_Ml RX11 308 yX11_nextWithRest := Or.inl (q_mem (q_t6 _ (List.mem_of_getElem? (i := 44) (by decide +kernel))) rfl)
theorem ml_RL_182 : q_Ml RL 182 yX11_near := Or.inl (q_mem (q_t6 _ (List.mem_of_getElem? (i := 48) (by decide +kernel))) rfl)
theorem ml_RL_186 : q_Ml RL 186 yX11_hop := Or.inl (q_mem (q_t6 _ (List.mem_of_getElem? (i := 52) (by decide +kernel))) rfl)
theorem ml_RX11_317 : q_Ml RX11 317 yX10_hopAt := Or.inl (q_mem (q_t6 _ (List.mem_of_getElem? (i := 56) (by decide +kernel))) rfl)
theorem ml_RX11_321 : q_Ml RX11 321 yX1_channelAt := Or.inl (q_mem (q_t6 _ (List.mem_of_getElem? (i := 57) (by decide +kernel))) rfl)
theorem ml_RX1_21 : q_Ml RX1 21 yX11_remainder := Or.inr ⟨RX11, (q_memN (q_t6 _ (List.mem_of_getElem? (i := 61) (by decide +kernel))) rfl)⟩
theorem ml_RL_190 : q_Ml RL 190 yX11_hits := Or.inl (q_mem (q_t6 _ (List.mem_of_getElem? (i := 62) (by decide +kernel))) rfl)
theorem ml_RX11_326 : q_Ml RX11 326 yX11_likePrimed := Or.inl (q_mem (q_t6 _ (List.mem_of_getElem? (i := 66) (by decide +kernel))) rfl)
theorem ml_RX11_333 : q_Ml RX11 333 yX1_meets := Or.inl (q_mem (q_t6 _ (List.mem_of_getElem? (i := 69) (by decide +kernel))) rfl)
theorem ml_RX1_25 : q_Ml RX1 25 yX1_channelAt := Or.inl (q_mem (q_t6 _ (List.mem_of_getElem? (i := 73) (by decide +kernel))) rfl)
theorem ml_RL_194 : q_Ml RL 194 yX11_worstHits := Or.inl (q_mem (q_t6 _ (List.mem_of_getElem? (i := 74) (by decide +kernel))) rfl)
theorem wm_RX11_337 : Cond.methodLink RX11 337 Lib.Math.max.name ∈ q_tbl := (q_mem (q_t6 _ (List.mem_of_getElem? (i := 78) (by decide +kernel))) rfl)
theorem ml_RL_198 : q_Ml RL 198 yX11_crowded := Or.inl (q_mem (q_t6 _ (List.mem_of_getElem? (i := 79) (by decide +kernel))) rfl)
theorem ml_RX11_345 : q_Ml RX11 345 yX10_isCrowded := Or.inl (q_mem (q_t6 _ (List.mem_of_getElem? (i := 83) (by decide +kernel))) rfl)
theorem ml_RX10_91 : q_Ml RX10 91 yX1_channelAt := Or.inl (q_mem (q_t6 _ (List.mem_of_getElem? (i := 87) (by decide +kernel))) rfl)
theorem ml_RL_202 : q_Ml RL 202 yX11_jammed := Or.inl (q_mem (q_t6 _ (List.mem_of_getElem? (i := 88) (by decide +kernel))) rfl)
theorem ml_RX11_348 : q_Ml RX11 348 yX1_slotsIn := Or.inl (q_mem (q_t6 _ (List.mem_of_getElem? (i := 92) (by decide +kernel))) rfl)
theorem ml_RL_206 : q_Ml RL 206 yX11_strongest := Or.inl (q_mem (q_t6 _ (List.mem_of_getElem? (i := 96) (by decide +kernel))) rfl)
theorem ml_RX11_351 : q_Ml RX11 351 yX1_strongestChannels := Or.inl (q_mem (q_t6 _ (List.mem_of_getElem? (i := 100) (by decide +kernel))) rfl)
theorem ml_RX1_29 : q_Ml RX1 29 yX1_strongestBeside := Or.inl (q_mem (q_t6 _ (List.mem_of_getElem? (i := 104) (by decide +kernel))) rfl)
theorem ml_RX1_32 : q_Ml RX1 32 yX1_slotsIn := Or.inl (q_mem (q_t6 _ (List.mem_of_getElem? (i := 108) (by decide +kernel))) rfl)
theorem ml_RL_210 : q_Ml RL 210 yX11_hold := Or.inl (q_mem (q_t6 _ (List.mem_of_getElem? (i := 109) (by decide +kernel))) rfl)
theorem ml_RX11_354 : q_Ml RX11 354 yX11_slotAt := Or.inl (q_mem (q_t6 _ (List.mem_of_getElem? (i := 113) (by decide +kernel))) rfl)
theorem ml_RX11_358 : q_Ml RX11 358 yX8_takeOver := Or.inl (q_mem (q_t6 _ (List.mem_of_getElem? (i := 117) (by decide +kernel))) rfl)
theorem ml_RL_215 : q_Ml RL 215 yX11_restore := Or.inl (q_mem (q_t6 _ (List.mem_of_getElem? (i := 118) (by decide +kernel))) rfl)
theorem ml_RL_219 : q_Ml RL 219 yX11_count := Or.inl (q_mem (q_t6 _ (List.mem_of_getElem? (i := 122) (by decide +kernel))) rfl)
theorem ml_RX11_374 : q_Ml RX11 374 yX11_countOfOne := Or.inl (q_mem (q_t6 _ (List.mem_of_getElem? (i := 126) (by decide +kernel))) rfl)
theorem ml_RX12_170 : q_Ml RX12 170 yX12_word := Or.inl (q_mem (q_t6 _ (List.mem_of_getElem? (i := 136) (by decide +kernel))) rfl)
theorem ml_RX12_186 : q_Ml RX12 186 yX12_appends := Or.inl (q_mem (q_t6 _ (List.mem_of_getElem? (i := 139) (by decide +kernel))) rfl)
theorem ml_RL_17 : q_Ml RL 17 yX12_feed := Or.inl (q_mem (q_t7 _ (List.mem_of_getElem? (i := 106) (by decide +kernel))) rfl)
theorem ml_RX12_177 : q_Ml RX12 177 yX12_put := Or.inl (q_mem (q_t7 _ (List.mem_of_getElem? (i := 110) (by decide +kernel))) rfl)
theorem ml_RL_22 : q_Ml RL 22 yX12_back := Or.inl (q_mem (q_t7 _ (List.mem_of_getElem? (i := 114) (by decide +kernel))) rfl)
theorem ml_RL_27 : q_Ml RL 27 yX12_read := Or.inl (q_mem (q_t7 _ (List.mem_of_getElem? (i := 118) (by decide +kernel))) rfl)
theorem ml_RX12_236 : q_Ml RX12 236 yX12_cut := Or.inl (q_mem (q_t7 _ (List.mem_of_getElem? (i := 122) (by decide +kernel))) rfl)
theorem ml_RX12_193 : q_Ml RX12 193 yX12_byteAt := Or.inl (q_mem (q_t7 _ (List.mem_of_getElem? (i := 126) (by decide +kernel))) rfl)
theorem ml_RX12_197 : q_Ml RX12 197 yX12_token := Or.inl (q_mem (q_t7 _ (List.mem_of_getElem? (i := 130) (by decide +kernel))) rfl)
theorem ml_RX12_201 : q_Ml RX12 201 yX12_isLetter := Or.inl (q_mem (q_t7 _ (List.mem_of_getElem? (i := 134) (by decide +kernel))) rfl)
theorem ml_RX12_205 : q_Ml RX12 205 yX12_isDigit := Or.inl (q_mem (q_t7 _ (List.mem_of_getElem? (i := 137) (by decide +kernel))) rfl)
theorem ml_RX12_208 : q_Ml RX12 208 yX12_sign := Or.inl (q_mem (q_t7 _ (List.mem_of_getElem? (i := 140) (by decide +kernel))) rfl)
theorem ml_RX12_230 : q_Ml RX12 230 yX12_is := Or.inl (q_mem (q_t7 _ (List.mem_of_getElem? (i := 144) (by decide +kernel))) rfl)
theorem ml_RX12_251 : q_Ml RX12 251 yX12_tell := Or.inl (q_mem (q_t7 _ (List.mem_of_getElem? (i := 148) (by decide +kernel))) rfl)
theorem ml_RX12_257 : q_Ml RX12 257 yX12_room := Or.inl (q_mem (q_t7 _ (List.mem_of_getElem? (i := 152) (by decide +kernel))) rfl)
theorem ml_RX12_227 : q_Ml RX12 227 yX12_fail := Or.inl (q_mem (q_t7 _ (List.mem_of_getElem? (i := 156) (by decide +kernel))) rfl)
theorem ml_RX12_233 : q_Ml RX12 233 yX12_goesOn := Or.inl (q_mem (q_t7 _ (List.mem_of_getElem? (i := 160) (by decide +kernel))) rfl)
theorem ml_RX12_261 : q_Ml RX12 261 yX12_tellCode := Or.inl (q_mem (q_t7 _ (List.mem_of_getElem? (i := 164) (by decide +kernel))) rfl)
theorem ml_RX12_290 : q_Ml RX12 290 yX12_named := Or.inl (q_mem (q_t7 _ (List.mem_of_getElem? (i := 168) (by decide +kernel))) rfl)
theorem ml_RX12_280 : q_Ml RX12 280 yX12_must := Or.inl (q_mem (q_t7 _ (List.mem_of_getElem? (i := 172) (by decide +kernel))) rfl)
theorem ml_RX12_283 : q_Ml RX12 283 yX12_amiss := Or.inl (q_mem (q_t7 _ (List.mem_of_getElem? (i := 176) (by decide +kernel))) rfl)
theorem ml_RX12_276 : q_Ml RX12 276 yX12_bounded := Or.inl (q_mem (q_t7 _ (List.mem_of_getElem? (i := 180) (by decide +kernel))) rfl)
theorem ml_RX12_294 : q_Ml RX12 294 yX12_hangs := Or.inl (q_mem (q_t7 _ (List.mem_of_getElem? (i := 184) (by decide +kernel))) rfl)
theorem ml_RX12_298 : q_Ml RX12 298 yX12_makesRegister := Or.inl (q_mem (q_t7 _ (List.mem_of_getElem? (i := 188) (by decide +kernel))) rfl)
theorem ml_RX12_318 : q_Ml RX12 318 yX12_odd := Or.inl (q_mem (q_t7 _ (List.mem_of_getElem? (i := 192) (by decide +kernel))) rfl)
theorem ml_RX12_302 : q_Ml RX12 302 yX12_makesHalves := Or.inl (q_mem (q_t7 _ (List.mem_of_getElem? (i := 195) (by decide +kernel))) rfl)
theorem ml_RX12_306 : q_Ml RX12 306 yX12_makesBits := Or.inl (q_mem (q_t7 _ (List.mem_of_getElem? (i := 199) (by decide +kernel))) rfl)
theorem ml_RX12_309 : q_Ml RX12 309 yX12_tellBoth := Or.inl (q_mem (q_t7 _ (List.mem_of_getElem? (i := 203) (by decide +kernel))) rfl)
theorem ml_RX12_315 : q_Ml RX12 315 yX12_known := Or.inl (q_mem (q_t7 _ (List.mem_of_getElem? (i := 207) (by decide +kernel))) rfl)
theorem ml_RX12_312 : q_Ml RX12 312 yX12_notes := Or.inl (q_mem (q_t7 _ (List.mem_of_getElem? (i := 211) (by decide +kernel))) rfl)
theorem ml_RX12_264 : q_Ml RX12 264 yX12_tellHop := Or.inl (q_mem (q_t7 _ (List.mem_of_getElem? (i := 215) (by decide +kernel))) rfl)
theorem ml_RX12_321 : q_Ml RX12 321 yX12_isPrime := Or.inl (q_mem (q_t7 _ (List.mem_of_getElem? (i := 219) (by decide +kernel))) rfl)
theorem ml_RX12_267 : q_Ml RX12 267 yX12_tellSend := Or.inl (q_mem (q_t7 _ (List.mem_of_getElem? (i := 222) (by decide +kernel))) rfl)
theorem ml_RX12_270 : q_Ml RX12 270 yX12_tellEcho := Or.inl (q_mem (q_t7 _ (List.mem_of_getElem? (i := 226) (by decide +kernel))) rfl)
theorem ml_RX12_273 : q_Ml RX12 273 yX12_tellJam := Or.inl (q_mem (q_t7 _ (List.mem_of_getElem? (i := 230) (by decide +kernel))) rfl)
theorem ml_RX12_254 : q_Ml RX12 254 yX12_lays := Or.inl (q_mem (q_t7 _ (List.mem_of_getElem? (i := 234) (by decide +kernel))) rfl)
theorem ml_RX12_366 : q_Ml RX12 366 yX12_laysData := Or.inl (q_mem (q_t7 _ (List.mem_of_getElem? (i := 238) (by decide +kernel))) rfl)
theorem ml_RX12_339 : q_Ml RX12 339 yX12_dataBit := Or.inl (q_mem (q_t8 _ (List.mem_of_getElem? (i := 2) (by decide +kernel))) rfl)
theorem ml_RX12_369 : q_Ml RX12 369 yX12_addsWave := Or.inl (q_mem (q_t8 _ (List.mem_of_getElem? (i := 6) (by decide +kernel))) rfl)
theorem ml_RX12_342 : q_Ml RX12 342 yX12_n := Or.inl (q_mem (q_t8 _ (List.mem_of_getElem? (i := 10) (by decide +kernel))) rfl)
theorem ml_RX12_345 : q_Ml RX12 345 yX12_periodAt := Or.inl (q_mem (q_t8 _ (List.mem_of_getElem? (i := 14) (by decide +kernel))) rfl)
theorem ml_RX12_330 : q_Ml RX12 330 yX12_delayAt := Or.inl (q_mem (q_t8 _ (List.mem_of_getElem? (i := 18) (by decide +kernel))) rfl)
theorem ml_RX12_324 : q_Ml RX12 324 yX12_codeOf := Or.inl (q_mem (q_t8 _ (List.mem_of_getElem? (i := 22) (by decide +kernel))) rfl)
theorem ml_RX12_327 : q_Ml RX12 327 yX12_long0 := Or.inl (q_mem (q_t8 _ (List.mem_of_getElem? (i := 26) (by decide +kernel))) rfl)
theorem ml_RX12_348 : q_Ml RX12 348 yX12_signAt := Or.inl (q_mem (q_t8 _ (List.mem_of_getElem? (i := 30) (by decide +kernel))) rfl)
theorem ml_RX12_333 : q_Ml RX12 333 yX12_chipOf := Or.inl (q_mem (q_t8 _ (List.mem_of_getElem? (i := 34) (by decide +kernel))) rfl)
theorem ml_RX12_336 : q_Ml RX12 336 yX12_turnOf := Or.inl (q_mem (q_t8 _ (List.mem_of_getElem? (i := 38) (by decide +kernel))) rfl)
theorem ml_RX12_351 : q_Ml RX12 351 yX12_isIm := Or.inl (q_mem (q_t8 _ (List.mem_of_getElem? (i := 41) (by decide +kernel))) rfl)
theorem ml_RX12_355 : q_Ml RX12 355 yX12_adds := Or.inl (q_mem (q_t8 _ (List.mem_of_getElem? (i := 45) (by decide +kernel))) rfl)
theorem ml_RX12_373 : q_Ml RX12 373 yX12_addsNoise := Or.inl (q_mem (q_t8 _ (List.mem_of_getElem? (i := 49) (by decide +kernel))) rfl)
theorem ml_RX12_363 : q_Ml RX12 363 yX12_lot := Or.inl (q_mem (q_t8 _ (List.mem_of_getElem? (i := 53) (by decide +kernel))) rfl)
theorem ml_RX12_360 : q_Ml RX12 360 yX12_mixed := Or.inl (q_mem (q_t8 _ (List.mem_of_getElem? (i := 56) (by decide +kernel))) rfl)
theorem ml_RL_31 : q_Ml RL 31 yX12_place := Or.inl (q_mem (q_t8 _ (List.mem_of_getElem? (i := 60) (by decide +kernel))) rfl)
theorem ml_RL_36 : q_Ml RL 36 yX12_code := Or.inl (q_mem (q_t8 _ (List.mem_of_getElem? (i := 64) (by decide +kernel))) rfl)
theorem ml_RX12_380 : q_Ml RX12 380 yX12_isCode := Or.inl (q_mem (q_t8 _ (List.mem_of_getElem? (i := 68) (by decide +kernel))) rfl)
theorem ml_RX12_376 : q_Ml RX12 376 yX12_in := Or.inl (q_mem (q_t8 _ (List.mem_of_getElem? (i := 72) (by decide +kernel))) rfl)
theorem ml_RX12_386 : q_Ml RX12 386 yX12_roundOf := Or.inl (q_mem (q_t8 _ (List.mem_of_getElem? (i := 75) (by decide +kernel))) rfl)
theorem ml_RX12_383 : q_Ml RX12 383 yX12_alikeAt := Or.inl (q_mem (q_t8 _ (List.mem_of_getElem? (i := 79) (by decide +kernel))) rfl)
theorem ml_RL_40 : q_Ml RL 40 yX12_chip := Or.inl (q_mem (q_t8 _ (List.mem_of_getElem? (i := 83) (by decide +kernel))) rfl)
theorem ml_RL_45 : q_Ml RL 45 yX12_alike := Or.inl (q_mem (q_t8 _ (List.mem_of_getElem? (i := 87) (by decide +kernel))) rfl)
theorem ml_RX12_389 : q_Ml RX12 389 yX12_arePair := Or.inl (q_mem (q_t8 _ (List.mem_of_getElem? (i := 91) (by decide +kernel))) rfl)
theorem ml_RL_49 : q_Ml RL 49 yX12_worst := Or.inl (q_mem (q_t8 _ (List.mem_of_getElem? (i := 95) (by decide +kernel))) rfl)
theorem ml_RX12_392 : q_Ml RX12 392 yX12_worstOf := Or.inl (q_mem (q_t8 _ (List.mem_of_getElem? (i := 99) (by decide +kernel))) rfl)
theorem ml_RL_53 : q_Ml RL 53 yX12_times := Or.inl (q_mem (q_t8 _ (List.mem_of_getElem? (i := 103) (by decide +kernel))) rfl)
theorem ml_RL_57 : q_Ml RL 57 yX12_depth := Or.inl (q_mem (q_t8 _ (List.mem_of_getElem? (i := 107) (by decide +kernel))) rfl)
theorem ml_RL_61 : q_Ml RL 61 yX12_family := Or.inl (q_mem (q_t8 _ (List.mem_of_getElem? (i := 111) (by decide +kernel))) rfl)
theorem ml_RX12_395 : q_Ml RX12 395 yX12_bits := Or.inl (q_mem (q_t8 _ (List.mem_of_getElem? (i := 115) (by decide +kernel))) rfl)
theorem ml_RX12_398 : q_Ml RX12 398 yX12_isFamily := Or.inl (q_mem (q_t8 _ (List.mem_of_getElem? (i := 118) (by decide +kernel))) rfl)
theorem ml_RL_66 : q_Ml RL 66 yX12_sample := Or.inl (q_mem (q_t8 _ (List.mem_of_getElem? (i := 122) (by decide +kernel))) rfl)
theorem ml_RX12_401 : q_Ml RX12 401 yX12_isSample := Or.inl (q_mem (q_t8 _ (List.mem_of_getElem? (i := 126) (by decide +kernel))) rfl)
theorem ml_RL_71 : q_Ml RL 71 yX12_power := Or.inl (q_mem (q_t8 _ (List.mem_of_getElem? (i := 131) (by decide +kernel))) rfl)
theorem ml_RX12_409 : q_Ml RX12 409 yX12_powerOf := Or.inl (q_mem (q_t8 _ (List.mem_of_getElem? (i := 135) (by decide +kernel))) rfl)
theorem ml_RX12_405 : q_Ml RX12 405 yX12_square := Or.inl (q_mem (q_t8 _ (List.mem_of_getElem? (i := 138) (by decide +kernel))) rfl)
theorem ml_RL_76 : q_Ml RL 76 yX12_wave := Or.inl (q_mem (q_t8 _ (List.mem_of_getElem? (i := 142) (by decide +kernel))) rfl)
theorem ml_RX12_415 : q_Ml RX12 415 yX12_isSender := Or.inl (q_mem (q_t8 _ (List.mem_of_getElem? (i := 146) (by decide +kernel))) rfl)
theorem ml_RL_81 : q_Ml RL 81 yX12_add := Or.inl (q_mem (q_t8 _ (List.mem_of_getElem? (i := 150) (by decide +kernel))) rfl)
theorem ml_RL_85 : q_Ml RL 85 yX12_noise := Or.inl (q_mem (q_t8 _ (List.mem_of_getElem? (i := 154) (by decide +kernel))) rfl)
theorem ml_RL_90 : q_Ml RL 90 yX12_anew := Or.inl (q_mem (q_t8 _ (List.mem_of_getElem? (i := 158) (by decide +kernel))) rfl)
theorem ml_RL_95 : q_Ml RL 95 yX12_sum := Or.inl (q_mem (q_t8 _ (List.mem_of_getElem? (i := 162) (by decide +kernel))) rfl)
theorem ml_RX12_425 : q_Ml RX12 425 yX12_sums := Or.inl (q_mem (q_t8 _ (List.mem_of_getElem? (i := 167) (by decide +kernel))) rfl)
theorem ml_RL_100 : q_Ml RL 100 yX12_metric := Or.inl (q_mem (q_t8 _ (List.mem_of_getElem? (i := 171) (by decide +kernel))) rfl)
theorem ml_RX12_428 : q_Ml RX12 428 yX12_canLook := Or.inl (q_mem (q_t8 _ (List.mem_of_getElem? (i := 175) (by decide +kernel))) rfl)
theorem ml_RX12_431 : q_Ml RX12 431 yX12_isCell := Or.inl (q_mem (q_t8 _ (List.mem_of_getElem? (i := 179) (by decide +kernel))) rfl)
theorem ml_RX12_434 : q_Ml RX12 434 yX12_metricOf := Or.inl (q_mem (q_t8 _ (List.mem_of_getElem? (i := 183) (by decide +kernel))) rfl)
theorem ml_RL_104 : q_Ml RL 104 yX12_best := Or.inl (q_mem (q_t8 _ (List.mem_of_getElem? (i := 187) (by decide +kernel))) rfl)
theorem ml_RX12_438 : q_Ml RX12 438 yX12_bestOf := Or.inl (q_mem (q_t8 _ (List.mem_of_getElem? (i := 191) (by decide +kernel))) rfl)
theorem ml_RL_109 : q_Ml RL 109 yX12_second := Or.inl (q_mem (q_t8 _ (List.mem_of_getElem? (i := 195) (by decide +kernel))) rfl)
theorem ml_RX12_441 : q_Ml RX12 441 yX12_apart := Or.inl (q_mem (q_t8 _ (List.mem_of_getElem? (i := 199) (by decide +kernel))) rfl)
theorem ml_RL_113 : q_Ml RL 113 yX12_peak := Or.inl (q_mem (q_t8 _ (List.mem_of_getElem? (i := 202) (by decide +kernel))) rfl)
theorem ml_RL_120 : q_Ml RL 120 yX12_alarms := Or.inl (q_mem (q_t8 _ (List.mem_of_getElem? (i := 206) (by decide +kernel))) rfl)
theorem ml_RL_125 : q_Ml RL 125 yX12_plan := Or.inl (q_mem (q_t8 _ (List.mem_of_getElem? (i := 210) (by decide +kernel))) rfl)
theorem ml_RL_130 : q_Ml RL 130 yX12_mean := Or.inl (q_mem (q_t8 _ (List.mem_of_getElem? (i := 214) (by decide +kernel))) rfl)
theorem ml_RX12_446 : q_Ml RX12 446 yX12_common := Or.inl (q_mem (q_t8 _ (List.mem_of_getElem? (i := 219) (by decide +kernel))) rfl)
theorem ml_RL_135 : q_Ml RL 135 yX12_over := Or.inl (q_mem (q_t8 _ (List.mem_of_getElem? (i := 222) (by decide +kernel))) rfl)
theorem ml_RL_139 : q_Ml RL 139 yX12_bit := Or.inl (q_mem (q_t8 _ (List.mem_of_getElem? (i := 226) (by decide +kernel))) rfl)
theorem ml_RX12_457 : q_Ml RX12 457 yX12_bitBy := Or.inl (q_mem (q_t8 _ (List.mem_of_getElem? (i := 230) (by decide +kernel))) rfl)
theorem ml_RX12_450 : q_Ml RX12 450 yX12_sumsUp := Or.inl (q_mem (q_t8 _ (List.mem_of_getElem? (i := 234) (by decide +kernel))) rfl)
theorem ml_RX12_454 : q_Ml RX12 454 yX12_bitOf := Or.inl (q_mem (q_t8 _ (List.mem_of_getElem? (i := 238) (by decide +kernel))) rfl)
theorem ml_RL_147 : q_Ml RL 147 yX12_joined := Or.inl (q_mem (q_t9 _ (List.mem_of_getElem? (i := 2) (by decide +kernel))) rfl)
theorem ml_RL_143 : q_Ml RL 143 yX12_wrong := Or.inl (q_mem (q_t9 _ (List.mem_of_getElem? (i := 6) (by decide +kernel))) rfl)
theorem ml_RX12_461 : q_Ml RX12 461 yX12_wrongOf := Or.inl (q_mem (q_t9 _ (List.mem_of_getElem? (i := 10) (by decide +kernel))) rfl)
theorem ml_RL_151 : q_Ml RL 151 yX12_frame := Or.inl (q_mem (q_t9 _ (List.mem_of_getElem? (i := 14) (by decide +kernel))) rfl)
theorem ml_RL_155 : q_Ml RL 155 yX12_hurt := Or.inl (q_mem (q_t9 _ (List.mem_of_getElem? (i := 18) (by decide +kernel))) rfl)
theorem ml_RL_163 : q_Ml RL 163 yX12_taken := Or.inl (q_mem (q_t9 _ (List.mem_of_getElem? (i := 22) (by decide +kernel))) rfl)
theorem ml_RX12_468 : q_Ml RX12 468 yX12_takesOut := Or.inl (q_mem (q_t9 _ (List.mem_of_getElem? (i := 26) (by decide +kernel))) rfl)
theorem ml_RX12_465 : q_Ml RX12 465 yX12_byAmplitude := Or.inl (q_mem (q_t9 _ (List.mem_of_getElem? (i := 30) (by decide +kernel))) rfl)
theorem ml_RL_168 : q_Ml RL 168 yX12_rest := Or.inl (q_mem (q_t9 _ (List.mem_of_getElem? (i := 34) (by decide +kernel))) rfl)
theorem ml_RL_159 : q_Ml RL 159 yX12_atOnce := Or.inl (q_mem (q_t9 _ (List.mem_of_getElem? (i := 38) (by decide +kernel))) rfl)
theorem ml_RX12_471 : q_Ml RX12 471 yX12_readsAll := Or.inl (q_mem (q_t9 _ (List.mem_of_getElem? (i := 42) (by decide +kernel))) rfl)
theorem ml_RL_172 : q_Ml RL 172 yX12_loop := Or.inl (q_mem (q_t9 _ (List.mem_of_getElem? (i := 46) (by decide +kernel))) rfl)
theorem ml_RX12_474 : q_Ml RX12 474 yX12_loopOf := Or.inl (q_mem (q_t9 _ (List.mem_of_getElem? (i := 50) (by decide +kernel))) rfl)
theorem ml_RL_176 : q_Ml RL 176 yX12_follows := Or.inl (q_mem (q_t9 _ (List.mem_of_getElem? (i := 54) (by decide +kernel))) rfl)
theorem ml_RL_181 : q_Ml RL 181 yX12_range := Or.inl (q_mem (q_t9 _ (List.mem_of_getElem? (i := 58) (by decide +kernel))) rfl)
theorem ml_RX12_478 : q_Ml RX12 478 yX12_isRest := Or.inl (q_mem (q_t9 _ (List.mem_of_getElem? (i := 62) (by decide +kernel))) rfl)
theorem ml_RX12_481 : q_Ml RX12 481 yX12_meets := Or.inl (q_mem (q_t9 _ (List.mem_of_getElem? (i := 66) (by decide +kernel))) rfl)
theorem ml_RL_185 : q_Ml RL 185 yX12_near := Or.inl (q_mem (q_t9 _ (List.mem_of_getElem? (i := 70) (by decide +kernel))) rfl)
theorem ml_RL_189 : q_Ml RL 189 yX12_hop := Or.inl (q_mem (q_t9 _ (List.mem_of_getElem? (i := 75) (by decide +kernel))) rfl)
theorem ml_RX12_491 : q_Ml RX12 491 yX12_isHop := Or.inl (q_mem (q_t9 _ (List.mem_of_getElem? (i := 79) (by decide +kernel))) rfl)
theorem ml_RX12_494 : q_Ml RX12 494 yX12_channel := Or.inl (q_mem (q_t9 _ (List.mem_of_getElem? (i := 83) (by decide +kernel))) rfl)
theorem ml_RX12_488 : q_Ml RX12 488 yX12_p := Or.inl (q_mem (q_t9 _ (List.mem_of_getElem? (i := 87) (by decide +kernel))) rfl)
theorem ml_RL_193 : q_Ml RL 193 yX12_hits := Or.inl (q_mem (q_t9 _ (List.mem_of_getElem? (i := 91) (by decide +kernel))) rfl)
theorem ml_RX12_497 : q_Ml RX12 497 yX12_areHops := Or.inl (q_mem (q_t9 _ (List.mem_of_getElem? (i := 95) (by decide +kernel))) rfl)
theorem ml_RX12_500 : q_Ml RX12 500 yX12_hitsAt := Or.inl (q_mem (q_t9 _ (List.mem_of_getElem? (i := 99) (by decide +kernel))) rfl)
theorem ml_RL_197 : q_Ml RL 197 yX12_worstHits := Or.inl (q_mem (q_t9 _ (List.mem_of_getElem? (i := 103) (by decide +kernel))) rfl)
theorem ml_RL_201 : q_Ml RL 201 yX12_crowded := Or.inl (q_mem (q_t9 _ (List.mem_of_getElem? (i := 107) (by decide +kernel))) rfl)
theorem ml_RX12_503 : q_Ml RX12 503 yX12_isCrowded := Or.inl (q_mem (q_t9 _ (List.mem_of_getElem? (i := 111) (by decide +kernel))) rfl)
theorem ml_RL_205 : q_Ml RL 205 yX12_jammed := Or.inl (q_mem (q_t9 _ (List.mem_of_getElem? (i := 115) (by decide +kernel))) rfl)
theorem ml_RL_209 : q_Ml RL 209 yX12_strongest := Or.inl (q_mem (q_t9 _ (List.mem_of_getElem? (i := 119) (by decide +kernel))) rfl)
theorem ml_RX12_506 : q_Ml RX12 506 yX12_slotsOn := Or.inl (q_mem (q_t9 _ (List.mem_of_getElem? (i := 123) (by decide +kernel))) rfl)
theorem ml_RL_214 : q_Ml RL 214 yX12_hold := Or.inl (q_mem (q_t9 _ (List.mem_of_getElem? (i := 127) (by decide +kernel))) rfl)
theorem ml_RL_218 : q_Ml RL 218 yX12_restore := Or.inl (q_mem (q_t9 _ (List.mem_of_getElem? (i := 131) (by decide +kernel))) rfl)
theorem ml_RL_222 : q_Ml RL 222 yX12_count := Or.inl (q_mem (q_t9 _ (List.mem_of_getElem? (i := 135) (by decide +kernel))) rfl)
theorem ml_RX12_509 : q_Ml RX12 509 yX12_periodsOf := Or.inl (q_mem (q_t9 _ (List.mem_of_getElem? (i := 139) (by decide +kernel))) rfl)
theorem wmi : Cond.initialized "java/lang/Math" ∈ q_tbl := (q_mem (q_t1 _ (List.mem_of_getElem? (i := 5) (by decide +kernel))) rfl)
theorem wms_max : Cond.static Lib.Math.max.name ∈ q_tbl := (q_mem (q_t1 _ (List.mem_of_getElem? (i := 47) (by decide +kernel))) rfl)
theorem wmc_max : Cond.code Lib.Math.max.name Lib.Math.max.code 2 (some .int) ∈ q_tbl := (q_mem (q_t1 _ (List.mem_of_getElem? (i := 48) rfl)) rfl)
theorem wms_min : Cond.static Lib.Math.min.name ∈ q_tbl := (q_mem (q_t4 _ (List.mem_of_getElem? (i := 76) (by decide +kernel))) rfl)
theorem wmc_min : Cond.code Lib.Math.min.name Lib.Math.min.code 2 (some .int) ∈ q_tbl := (q_mem (q_t4 _ (List.mem_of_getElem? (i := 77) rfl)) rfl)
theorem wms_abs : Cond.static Lib.Math.abs.name ∈ q_tbl := (q_mem (q_t4 _ (List.mem_of_getElem? (i := 149) (by decide +kernel))) rfl)
theorem wmc_abs : Cond.code Lib.Math.abs.name Lib.Math.abs.code 1 (some .int) ∈ q_tbl := (q_mem (q_t4 _ (List.mem_of_getElem? (i := 150) rfl)) rfl)
theorem wc_RX9_70 : Cond.constantLong RX9 70 27 ∈ q_tbl := (q_mem (q_t1 _ (List.mem_of_getElem? (i := 110) (by decide +kernel))) rfl)
theorem wc_RX9_72 : Cond.constantLong RX9 72 97 ∈ q_tbl := (q_mem (q_t1 _ (List.mem_of_getElem? (i := 111) (by decide +kernel))) rfl)
theorem wc_RX9_112 : Cond.constantLong RX9 112 10 ∈ q_tbl := (q_mem (q_t3 _ (List.mem_of_getElem? (i := 57) (by decide +kernel))) rfl)
theorem wc_RX9_114 : Cond.constantLong RX9 114 48 ∈ q_tbl := (q_mem (q_t3 _ (List.mem_of_getElem? (i := 58) (by decide +kernel))) rfl)
theorem wc_RX9_116 : Cond.constantLong RX9 116 8 ∈ q_tbl := (q_mem (q_t3 _ (List.mem_of_getElem? (i := 71) (by decide +kernel))) rfl)
theorem wc_RX9_118 : Cond.constantLong RX9 118 6 ∈ q_tbl := (q_mem (q_t3 _ (List.mem_of_getElem? (i := 72) (by decide +kernel))) rfl)
theorem wc_RX9_120 : Cond.constantLong RX9 120 4 ∈ q_tbl := (q_mem (q_t3 _ (List.mem_of_getElem? (i := 73) (by decide +kernel))) rfl)
theorem wc_RX9_128 : Cond.constantLong RX9 128 (-1) ∈ q_tbl := (q_mem (q_t3 _ (List.mem_of_getElem? (i := 83) (by decide +kernel))) rfl)
theorem wc_RX9_165 : Cond.constantLong RX9 165 5 ∈ q_tbl := (q_mem (q_t3 _ (List.mem_of_getElem? (i := 111) (by decide +kernel))) rfl)
theorem wc_RX0_32 : Cond.constantLong RX0 32 (-1) ∈ q_tbl := (q_mem (q_t3 _ (List.mem_of_getElem? (i := 155) (by decide +kernel))) rfl)
theorem wc_RJ6_265 : Cond.constant RJ6 265 1431655765 ∈ q_tbl := (q_mem (q_t3 _ (List.mem_of_getElem? (i := 160) (by decide +kernel))) rfl)
theorem wc_RJ6_266 : Cond.constant RJ6 266 858993459 ∈ q_tbl := (q_mem (q_t3 _ (List.mem_of_getElem? (i := 161) (by decide +kernel))) rfl)
theorem wc_RJ6_267 : Cond.constant RJ6 267 252645135 ∈ q_tbl := (q_mem (q_t3 _ (List.mem_of_getElem? (i := 162) (by decide +kernel))) rfl)
theorem wc_RX3_167 : Cond.constantLong RX3 167 2693408940 ∈ q_tbl := (q_mem (q_t3 _ (List.mem_of_getElem? (i := 208) (by decide +kernel))) rfl)
theorem wc_RX3_212 : Cond.constantLong RX3 212 6 ∈ q_tbl := (q_mem (q_t3 _ (List.mem_of_getElem? (i := 233) (by decide +kernel))) rfl)
theorem wc_RX3_218 : Cond.constantLong RX3 218 5 ∈ q_tbl := (q_mem (q_t3 _ (List.mem_of_getElem? (i := 239) (by decide +kernel))) rfl)
theorem wc_RX7_76 : Cond.constantLong RX7 76 14 ∈ q_tbl := (q_mem (q_t4 _ (List.mem_of_getElem? (i := 46) (by decide +kernel))) rfl)
theorem wc_RX8_135 : Cond.constant RX8 135 1103515245 ∈ q_tbl := (q_mem (q_t4 _ (List.mem_of_getElem? (i := 88) (by decide +kernel))) rfl)
theorem wc_RX11_148 : Cond.constant RX11 148 (-1000000) ∈ q_tbl := (q_mem (q_t4 _ (List.mem_of_getElem? (i := 223) (by decide +kernel))) rfl)
theorem wc_RX11_152 : Cond.constantLong RX11 152 (-1) ∈ q_tbl := (q_mem (q_t4 _ (List.mem_of_getElem? (i := 232) (by decide +kernel))) rfl)
theorem wc_RX11_182 : Cond.constant RX11 182 (-1000000000) ∈ q_tbl := (q_mem (q_t5 _ (List.mem_of_getElem? (i := 27) (by decide +kernel))) rfl)
theorem wc_RX11_219 : Cond.constantLong RX11 219 2 ∈ q_tbl := (q_mem (q_t5 _ (List.mem_of_getElem? (i := 121) (by decide +kernel))) rfl)
theorem wc_RX11_312 : Cond.constantLong RX11 312 (-2) ∈ q_tbl := (q_mem (q_t6 _ (List.mem_of_getElem? (i := 47) (by decide +kernel))) rfl)
theorem wc_RX12_184 : Cond.constantLong RX12 184 27 ∈ q_tbl := (q_mem (q_t6 _ (List.mem_of_getElem? (i := 142) (by decide +kernel))) rfl)
theorem wc_RX12_359 : Cond.constant RX12 359 1103515245 ∈ q_tbl := (q_mem (q_t8 _ (List.mem_of_getElem? (i := 59) (by decide +kernel))) rfl)
theorem wc_RX12_404 : Cond.constant RX12 404 (-1000000) ∈ q_tbl := (q_mem (q_t8 _ (List.mem_of_getElem? (i := 130) (by decide +kernel))) rfl)
theorem wc_RX12_413 : Cond.constantLong RX12 413 (-1) ∈ q_tbl := (q_mem (q_t8 _ (List.mem_of_getElem? (i := 141) (by decide +kernel))) rfl)
theorem wc_RX12_424 : Cond.constant RX12 424 (-1000000000) ∈ q_tbl := (q_mem (q_t8 _ (List.mem_of_getElem? (i := 166) (by decide +kernel))) rfl)
theorem wc_RX12_444 : Cond.constantLong RX12 444 2 ∈ q_tbl := (q_mem (q_t8 _ (List.mem_of_getElem? (i := 218) (by decide +kernel))) rfl)
theorem wc_RX12_485 : Cond.constantLong RX12 485 (-2) ∈ q_tbl := (q_mem (q_t9 _ (List.mem_of_getElem? (i := 69) (by decide +kernel))) rfl)
theorem wc_RX12_487 : Cond.constant RX12 487 100000 ∈ q_tbl := (q_mem (q_t9 _ (List.mem_of_getElem? (i := 74) (by decide +kernel))) rfl)
theorem jl_RJ0_38 : Cond.fieldLink RJ0 38 "java/lang/String" "COMPACT_STRINGS" "Z" ∈ q_tbl := (q_mem (q_t1 _ (List.mem_of_getElem? (i := 63) (by decide +kernel))) rfl)
theorem jl_RJ0_1053 : Cond.fieldLink RJ0 1053 "jdk/internal/util/Preconditions" "SIOOBE_FORMATTER" "Ljava/util/function/BiFunction;" ∈ q_tbl := (q_mem (q_t1 _ (List.mem_of_getElem? (i := 79) (by decide +kernel))) rfl)
theorem jl_RJ0_9 : Cond.fieldLink RJ0 9 "java/lang/String" "value" "[B" ∈ q_tbl := (q_mem (q_t9 _ (List.mem_of_getElem? (i := 144) (by decide +kernel))) rfl)
theorem jl_RJ0_15 : Cond.fieldLink RJ0 15 "java/lang/String" "coder" "B" ∈ q_tbl := (q_mem (q_t9 _ (List.mem_of_getElem? (i := 145) (by decide +kernel))) rfl)
