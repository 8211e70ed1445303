theorem dX12_range_0 : decode cX12_range 0 = .ok (.aload_n 0, 1) := by decide +kernel
theorem dX12_range_1 : decode cX12_range 1 = .ok (.iload_n 1, 1) := by decide +kernel
theorem dX12_range_2 : decode cX12_range 2 = .ok (.iload_n 2, 1) := by decide +kernel
theorem dX12_range_3 : decode cX12_range 3 = .ok (.invokevirtual 478, 3) := by decide +kernel
theorem dX12_range_6 : decode cX12_range 6 = .ok (.ifCond .eq 46, 3) := by decide +kernel
theorem dX12_range_9 : decode cX12_range 9 = .ok (.iload_n 3, 1) := by decide +kernel
theorem dX12_range_10 : decode cX12_range 10 = .ok (.iconst (-1), 1) := by decide +kernel
theorem dX12_range_11 : decode cX12_range 11 = .ok (.if_icmp .eq 13, 3) := by decide +kernel
theorem dX12_range_14 : decode cX12_range 14 = .ok (.aload_n 0, 1) := by decide +kernel
theorem dX12_range_15 : decode cX12_range 15 = .ok (.iload_n 3, 1) := by decide +kernel
theorem dX12_range_16 : decode cX12_range 16 = .ok (.iload 4, 2) := by decide +kernel
theorem dX12_range_18 : decode cX12_range 18 = .ok (.invokevirtual 478, 3) := by decide +kernel
theorem dX12_range_21 : decode cX12_range 21 = .ok (.ifCond .eq 31, 3) := by decide +kernel
theorem dX12_range_24 : decode cX12_range 24 = .ok (.iload 5, 2) := by decide +kernel
theorem dX12_range_26 : decode cX12_range 26 = .ok (.iconst (-1), 1) := by decide +kernel
theorem dX12_range_27 : decode cX12_range 27 = .ok (.if_icmp .eq 14, 3) := by decide +kernel
theorem dX12_range_30 : decode cX12_range 30 = .ok (.aload_n 0, 1) := by decide +kernel
theorem dX12_range_31 : decode cX12_range 31 = .ok (.iload 5, 2) := by decide +kernel
theorem dX12_range_33 : decode cX12_range 33 = .ok (.iload 6, 2) := by decide +kernel
theorem dX12_range_35 : decode cX12_range 35 = .ok (.invokevirtual 478, 3) := by decide +kernel
theorem dX12_range_38 : decode cX12_range 38 = .ok (.ifCond .eq 14, 3) := by decide +kernel
theorem dX12_range_41 : decode cX12_range 41 = .ok (.iload_n 3, 1) := by decide +kernel
theorem dX12_range_42 : decode cX12_range 42 = .ok (.iconst (-1), 1) := by decide +kernel
theorem dX12_range_43 : decode cX12_range 43 = .ok (.if_icmp .ne 13, 3) := by decide +kernel
theorem dX12_range_46 : decode cX12_range 46 = .ok (.iload 5, 2) := by decide +kernel
theorem dX12_range_48 : decode cX12_range 48 = .ok (.iconst (-1), 1) := by decide +kernel
theorem dX12_range_49 : decode cX12_range 49 = .ok (.if_icmp .eq 7, 3) := by decide +kernel
theorem dX12_range_52 : decode cX12_range 52 = .ok (.ldc2_w 413, 3) := by decide +kernel
theorem dX12_range_55 : decode cX12_range 55 = .ok (.lreturn, 1) := by decide +kernel
theorem dX12_range_56 : decode cX12_range 56 = .ok (.iload_n 2, 1) := by decide +kernel
theorem dX12_range_57 : decode cX12_range 57 = .ok (.i2l, 1) := by decide +kernel
theorem dX12_range_58 : decode cX12_range 58 = .ok (.lstore 7, 2) := by decide +kernel
theorem dX12_range_60 : decode cX12_range 60 = .ok (.aload_n 0, 1) := by decide +kernel
theorem dX12_range_61 : decode cX12_range 61 = .ok (.iload_n 1, 1) := by decide +kernel
theorem dX12_range_62 : decode cX12_range 62 = .ok (.invokevirtual 327, 3) := by decide +kernel
theorem dX12_range_65 : decode cX12_range 65 = .ok (.i2l, 1) := by decide +kernel
theorem dX12_range_66 : decode cX12_range 66 = .ok (.lstore 9, 2) := by decide +kernel
theorem dX12_range_68 : decode cX12_range 68 = .ok (.iload_n 3, 1) := by decide +kernel
theorem dX12_range_69 : decode cX12_range 69 = .ok (.iconst (-1), 1) := by decide +kernel
theorem dX12_range_70 : decode cX12_range 70 = .ok (.if_icmp .eq 42, 3) := by decide +kernel
theorem dX12_range_73 : decode cX12_range 73 = .ok (.lload 7, 2) := by decide +kernel
theorem dX12_range_75 : decode cX12_range 75 = .ok (.lload 9, 2) := by decide +kernel
theorem dX12_range_77 : decode cX12_range 77 = .ok (.iload 4, 2) := by decide +kernel
theorem dX12_range_79 : decode cX12_range 79 = .ok (.aload_n 0, 1) := by decide +kernel
theorem dX12_range_80 : decode cX12_range 80 = .ok (.iload_n 3, 1) := by decide +kernel
theorem dX12_range_81 : decode cX12_range 81 = .ok (.invokevirtual 327, 3) := by decide +kernel
theorem dX12_range_84 : decode cX12_range 84 = .ok (.invokestatic 481, 3) := by decide +kernel
theorem dX12_range_87 : decode cX12_range 87 = .ok (.lstore 7, 2) := by decide +kernel
theorem dX12_range_89 : decode cX12_range 89 = .ok (.lload 9, 2) := by decide +kernel
theorem dX12_range_91 : decode cX12_range 91 = .ok (.lload 9, 2) := by decide +kernel
theorem dX12_range_93 : decode cX12_range 93 = .ok (.aload_n 0, 1) := by decide +kernel
theorem dX12_range_94 : decode cX12_range 94 = .ok (.iload_n 3, 1) := by decide +kernel
theorem dX12_range_95 : decode cX12_range 95 = .ok (.invokevirtual 327, 3) := by decide +kernel
theorem dX12_range_98 : decode cX12_range 98 = .ok (.i2l, 1) := by decide +kernel
theorem dX12_range_99 : decode cX12_range 99 = .ok (.invokestatic 446, 3) := by decide +kernel
theorem dX12_range_102 : decode cX12_range 102 = .ok (.ldiv, 1) := by decide +kernel
theorem dX12_range_103 : decode cX12_range 103 = .ok (.aload_n 0, 1) := by decide +kernel
theorem dX12_range_104 : decode cX12_range 104 = .ok (.iload_n 3, 1) := by decide +kernel
theorem dX12_range_105 : decode cX12_range 105 = .ok (.invokevirtual 327, 3) := by decide +kernel
theorem dX12_range_108 : decode cX12_range 108 = .ok (.i2l, 1) := by decide +kernel
theorem dX12_range_109 : decode cX12_range 109 = .ok (.lmul, 1) := by decide +kernel
theorem dX12_range_110 : decode cX12_range 110 = .ok (.lstore 9, 2) := by decide +kernel
theorem dX12_range_112 : decode cX12_range 112 = .ok (.lload 7, 2) := by decide +kernel
theorem dX12_range_114 : decode cX12_range 114 = .ok (.lconst 0, 1) := by decide +kernel
theorem dX12_range_115 : decode cX12_range 115 = .ok (.lcmp, 1) := by decide +kernel
theorem dX12_range_116 : decode cX12_range 116 = .ok (.ifCond .lt 26, 3) := by decide +kernel
theorem dX12_range_119 : decode cX12_range 119 = .ok (.iload 5, 2) := by decide +kernel
theorem dX12_range_121 : decode cX12_range 121 = .ok (.iconst (-1), 1) := by decide +kernel
theorem dX12_range_122 : decode cX12_range 122 = .ok (.if_icmp .eq 20, 3) := by decide +kernel
theorem dX12_range_125 : decode cX12_range 125 = .ok (.lload 7, 2) := by decide +kernel
theorem dX12_range_127 : decode cX12_range 127 = .ok (.lload 9, 2) := by decide +kernel
theorem dX12_range_129 : decode cX12_range 129 = .ok (.iload 6, 2) := by decide +kernel
theorem dX12_range_131 : decode cX12_range 131 = .ok (.aload_n 0, 1) := by decide +kernel
theorem dX12_range_132 : decode cX12_range 132 = .ok (.iload 5, 2) := by decide +kernel
theorem dX12_range_134 : decode cX12_range 134 = .ok (.invokevirtual 327, 3) := by decide +kernel
theorem dX12_range_137 : decode cX12_range 137 = .ok (.invokestatic 481, 3) := by decide +kernel
theorem dX12_range_140 : decode cX12_range 140 = .ok (.lstore 7, 2) := by decide +kernel
theorem dX12_range_142 : decode cX12_range 142 = .ok (.lload 7, 2) := by decide +kernel
theorem dX12_range_144 : decode cX12_range 144 = .ok (.lreturn, 1) := by decide +kernel
set_option maxRecDepth 100000 in
theorem c_X12_range (l : Launch) (D : q_D) (al : q_Al) (dt : q_Dt) (x0 : Nat) (x1 : Int32) (x2 : Int32) (x3 : Int32) (x4 : Int32) (x5 : Int32) (x6 : Int32) (kx0 : al.1 x0 = 13) (r0 : Int64) (hm : X12_range al dt x0 x1 x2 x3 x4 x5 x6 = some r0) : q_Mt l yX12_range cX12_range 11 (some FieldType.long) 3 65 D al [.ref x0, .int x1, .int x2, .int x3, .int x4, .int x5, .int x6] dt 0 (some (.long r0)) dt := by
  refine q_Mt.of (by decide) (Nat.le_of_ble_eq_true rfl) ?_
  intro p e s m args below meth c ls C hargs hW hl
  have hx := C.1
  have hb := C.2.1
  have hown := C.2.2.2.2.2.1
  have hts := C.2.2.2.2.2.2.1
  have hS : va_S (q_A al) s.heap s.heap [] := va_S.rf
  have hl : lv_has ls 11 [(0, .ref x0), (1, .int x1), (2, .int x2), (3, .int x3), (4, .int x4), (5, .int x5), (6, .int x6)] := hl
  unfold X12_range at hm
  have hB52 : ∀ (H : Heap) (locs : List Loc) (ls : Array Slot) (hm : X12_range_b52 al dt = some r0) (hW : q_W D al dt H) (hS : va_S (q_A al) s.heap H locs) (hl : lv_has ls 11 []), W p l e { frames := 3, cells := 0, slots := 0, locals := 65 } s m args below meth c H locs 0 0 (MQ below (q_Q (some (.long r0)) (fun H => q_W D al dt H ∧ q_Rk al 0 (some (.long r0))) (q_A al)) args s 0 0 (q_A al)) (F0 m 52 ls []) := by
    intro H locs ls hm hW hS hl
    unfold X12_range_b52 at hm
    refine lv_ldc2 (own := RX12) (v := (-1)) hx hb hown (hts _ wc_RX12_413) dX12_range_52 ?_
    exact e_l C hW hS hm dX12_range_55
  have hB142 : ∀ (x7_142 : Int64) (H : Heap) (locs : List Loc) (ls : Array Slot) (hm : X12_range_b142 al dt x7_142 = some r0) (hW : q_W D al dt H) (hS : va_S (q_A al) s.heap H locs) (hl : lv_has ls 11 [(7, .long x7_142)]), W p l e { frames := 3, cells := 0, slots := 0, locals := 65 } s m args below meth c H locs 0 0 (MQ below (q_Q (some (.long r0)) (fun H => q_W D al dt H ∧ q_Rk al 0 (some (.long r0))) (q_A al)) args s 0 0 (q_A al)) (F0 m 142 ls []) := by
    intro x7_142 H locs ls hm hW hS hl
    unfold X12_range_b142 at hm
    refine lv_lload hx hb dX12_range_142 (lv_at hl 0 rfl) ?_
    exact e_l C hW hS hm dX12_range_144
  have hB112 : ∀ (x0_112 : Nat) (x5_112 : Int32) (x6_112 : Int32) (x7_112 : Int64) (x9_112 : Int64) (kx0_112 : al.1 x0_112 = 13) (H : Heap) (locs : List Loc) (ls : Array Slot) (hm : X12_range_b112 al dt x0_112 x5_112 x6_112 x7_112 x9_112 = some r0) (hW : q_W D al dt H) (hS : va_S (q_A al) s.heap H locs) (hl : lv_has ls 11 [(0, .ref x0_112), (5, .int x5_112), (6, .int x6_112), (7, .long x7_112), (9, .long x9_112)]), W p l e { frames := 3, cells := 0, slots := 0, locals := 65 } s m args below meth c H locs 0 0 (MQ below (q_Q (some (.long r0)) (fun H => q_W D al dt H ∧ q_Rk al 0 (some (.long r0))) (q_A al)) args s 0 0 (q_A al)) (F0 m 112 ls []) := by
    intro x0_112 x5_112 x6_112 x7_112 x9_112 kx0_112 H locs ls hm hW hS hl
    unfold X12_range_b112 at hm
    refine lv_lload hx hb dX12_range_112 (lv_at hl 3 rfl) ?_
    refine lv_lconst (v := 0) hx hb dX12_range_114 rfl ?_
    refine W.lcmp hx hb dX12_range_115 ?_
    refine q_ifc hm (fun c112001 hm => ?_) (fun c112001 hm => ?_)
    · refine lv_if_lt (tgt := 142) hx hb dX12_range_116 (by decide) (fun _ => ?_) (fun h => absurd (q_cmp_lt.mpr c112001) h)
      exact hB142 x7_112 _ _ _ hm hW hS (lv_sub hl [3] rfl)
    refine lv_if_lt (tgt := 142) hx hb dX12_range_116 (by decide) (fun h => absurd (q_cmp_lt.mp h) c112001) (fun _ => ?_)
    refine lv_iload hx hb dX12_range_119 (lv_at hl 1 rfl) ?_
    refine lv_iconst (v := (-1)) hx hb dX12_range_121 (by decide) ?_
    refine q_ifc hm (fun c112002 hm => ?_) (fun c112002 hm => ?_)
    · refine lv_icmp_eq (tgt := 142) hx hb dX12_range_122 (by decide) (fun _ => ?_) (fun h => absurd c112002 h)
      exact hB142 x7_112 _ _ _ hm hW hS (lv_sub hl [3] rfl)
    refine lv_icmp_eq (tgt := 142) hx hb dX12_range_122 (by decide) (fun h => absurd h c112002) (fun _ => ?_)
    refine lv_lload hx hb dX12_range_125 (lv_at hl 3 rfl) ?_
    refine lv_lload hx hb dX12_range_127 (lv_at hl 4 rfl) ?_
    refine lv_iload hx hb dX12_range_129 (lv_at hl 2 rfl) ?_
    refine lv_aload_n hx hb dX12_range_131 rfl (lv_at hl 0 rfl) ?_
    refine lv_iload hx hb dX12_range_132 (lv_at hl 1 rfl) ?_
    obtain ⟨v112004, hc112003, hm⟩ := q_b1i hm
    refine q_callV C hW hS (As := [.int x5_112]) (rest := [.int x6_112, .long x9_112, .long x7_112]) (st1 := [.int v112004, .int x6_112, .long x9_112, .long x7_112]) (c_X12_long0 l D al dt x0_112 x5_112 kx0_112 v112004 hc112003) yl_X12_long0 vl_X12_long0 ml_RX12_327 (ci := 12) rfl kx0_112 (by decide) rfl ⟨Nat.le_of_ble_eq_true rfl, Nat.le_of_ble_eq_true rfl⟩ hl rfl (Nat.le_of_ble_eq_true rfl) dX12_range_134 ⟨Nat.le_refl _, Nat.le_refl _⟩ rfl (fun H locs k112005 hW hS => ?_)
    obtain ⟨v112007, hc112006, hm⟩ := q_b1i hm
    refine q_callS C hW hS (As := [.long x7_112, .long x9_112, .int x6_112, .int v112004]) (rest := []) (st1 := [.long v112007]) (c_X12_meets l D al dt x7_112 x9_112 x6_112 v112004 v112007 hc112006) yl_X12_meets sl_X12_meets ml_RX12_481 rfl ⟨Nat.le_of_ble_eq_true rfl, Nat.le_of_ble_eq_true rfl⟩ hl rfl (Nat.le_of_ble_eq_true rfl) dX12_range_137 ⟨Nat.le_refl _, Nat.le_refl _⟩ rfl (fun H locs k112008 hW hS => ?_)
    refine lv_lstore (i := 7) (lv' := [(7, .long v112007), (0, .ref x0_112), (5, .int x5_112), (6, .int x6_112), (9, .long x9_112)]) hx hb dX12_range_140 hl (by decide) rfl (fun ls hl => ?_)
    exact hB142 v112007 _ _ _ hm hW hS (lv_sub hl [0] rfl)
  have hB56 : ∀ (x0_56 : Nat) (x1_56 : Int32) (x2_56 : Int32) (x3_56 : Int32) (x4_56 : Int32) (x5_56 : Int32) (x6_56 : Int32) (kx0_56 : al.1 x0_56 = 13) (H : Heap) (locs : List Loc) (ls : Array Slot) (hm : X12_range_b56 al dt x0_56 x1_56 x2_56 x3_56 x4_56 x5_56 x6_56 = some r0) (hW : q_W D al dt H) (hS : va_S (q_A al) s.heap H locs) (hl : lv_has ls 11 [(0, .ref x0_56), (1, .int x1_56), (2, .int x2_56), (3, .int x3_56), (4, .int x4_56), (5, .int x5_56), (6, .int x6_56)]), W p l e { frames := 3, cells := 0, slots := 0, locals := 65 } s m args below meth c H locs 0 0 (MQ below (q_Q (some (.long r0)) (fun H => q_W D al dt H ∧ q_Rk al 0 (some (.long r0))) (q_A al)) args s 0 0 (q_A al)) (F0 m 56 ls []) := by
    intro x0_56 x1_56 x2_56 x3_56 x4_56 x5_56 x6_56 kx0_56 H locs ls hm hW hS hl
    unfold X12_range_b56 at hm
    refine lv_iload_n hx hb dX12_range_56 rfl (lv_at hl 2 rfl) ?_
    refine lv_i2l (v := (Int32.toInt64 x2_56)) hx hb dX12_range_57 rfl ?_
    refine lv_lstore (i := 7) (lv' := [(7, .long (Int32.toInt64 x2_56)), (0, .ref x0_56), (1, .int x1_56), (2, .int x2_56), (3, .int x3_56), (4, .int x4_56), (5, .int x5_56), (6, .int x6_56)]) hx hb dX12_range_58 hl (by decide) rfl (fun ls hl => ?_)
    refine lv_aload_n hx hb dX12_range_60 rfl (lv_at hl 1 rfl) ?_
    refine lv_iload_n hx hb dX12_range_61 rfl (lv_at hl 2 rfl) ?_
    obtain ⟨v56002, hc56001, hm⟩ := q_b1i hm
    refine q_callV C hW hS (As := [.int x1_56]) (rest := []) (st1 := [.int v56002]) (c_X12_long0 l D al dt x0_56 x1_56 kx0_56 v56002 hc56001) yl_X12_long0 vl_X12_long0 ml_RX12_327 (ci := 12) rfl kx0_56 (by decide) rfl ⟨Nat.le_of_ble_eq_true rfl, Nat.le_of_ble_eq_true rfl⟩ hl rfl (Nat.le_of_ble_eq_true rfl) dX12_range_62 ⟨Nat.le_refl _, Nat.le_refl _⟩ rfl (fun H locs k56003 hW hS => ?_)
    refine lv_i2l (v := (Int32.toInt64 v56002)) hx hb dX12_range_65 rfl ?_
    refine lv_lstore (i := 9) (lv' := [(9, .long (Int32.toInt64 v56002)), (7, .long (Int32.toInt64 x2_56)), (0, .ref x0_56), (1, .int x1_56), (2, .int x2_56), (3, .int x3_56), (4, .int x4_56), (5, .int x5_56), (6, .int x6_56)]) hx hb dX12_range_66 hl (by decide) rfl (fun ls hl => ?_)
    refine lv_iload_n hx hb dX12_range_68 rfl (lv_at hl 5 rfl) ?_
    refine lv_iconst (v := (-1)) hx hb dX12_range_69 (by decide) ?_
    refine q_ifc hm (fun c56004 hm => ?_) (fun c56004 hm => ?_)
    · refine lv_icmp_eq (tgt := 112) hx hb dX12_range_70 (by decide) (fun _ => ?_) (fun h => absurd c56004 h)
      exact hB112 x0_56 x5_56 x6_56 (Int32.toInt64 x2_56) (Int32.toInt64 v56002) kx0_56 _ _ _ hm hW hS (lv_sub hl [2, 7, 8, 1, 0] rfl)
    refine lv_icmp_eq (tgt := 112) hx hb dX12_range_70 (by decide) (fun h => absurd h c56004) (fun _ => ?_)
    refine lv_lload hx hb dX12_range_73 (lv_at hl 1 rfl) ?_
    refine lv_lload hx hb dX12_range_75 (lv_at hl 0 rfl) ?_
    refine lv_iload hx hb dX12_range_77 (lv_at hl 6 rfl) ?_
    refine lv_aload_n hx hb dX12_range_79 rfl (lv_at hl 2 rfl) ?_
    refine lv_iload_n hx hb dX12_range_80 rfl (lv_at hl 5 rfl) ?_
    obtain ⟨v56006, hc56005, hm⟩ := q_b1i hm
    refine q_callV C hW hS (As := [.int x3_56]) (rest := [.int x4_56, .long (Int32.toInt64 v56002), .long (Int32.toInt64 x2_56)]) (st1 := [.int v56006, .int x4_56, .long (Int32.toInt64 v56002), .long (Int32.toInt64 x2_56)]) (c_X12_long0 l D al dt x0_56 x3_56 kx0_56 v56006 hc56005) yl_X12_long0 vl_X12_long0 ml_RX12_327 (ci := 12) rfl kx0_56 (by decide) rfl ⟨Nat.le_of_ble_eq_true rfl, Nat.le_of_ble_eq_true rfl⟩ hl rfl (Nat.le_of_ble_eq_true rfl) dX12_range_81 ⟨Nat.le_refl _, Nat.le_refl _⟩ rfl (fun H locs k56007 hW hS => ?_)
    obtain ⟨v56009, hc56008, hm⟩ := q_b1i hm
    refine q_callS C hW hS (As := [.long (Int32.toInt64 x2_56), .long (Int32.toInt64 v56002), .int x4_56, .int v56006]) (rest := []) (st1 := [.long v56009]) (c_X12_meets l D al dt (Int32.toInt64 x2_56) (Int32.toInt64 v56002) x4_56 v56006 v56009 hc56008) yl_X12_meets sl_X12_meets ml_RX12_481 rfl ⟨Nat.le_of_ble_eq_true rfl, Nat.le_of_ble_eq_true rfl⟩ hl rfl (Nat.le_of_ble_eq_true rfl) dX12_range_84 ⟨Nat.le_refl _, Nat.le_refl _⟩ rfl (fun H locs k56010 hW hS => ?_)
    refine lv_lstore (i := 7) (lv' := [(7, .long v56009), (9, .long (Int32.toInt64 v56002)), (0, .ref x0_56), (1, .int x1_56), (2, .int x2_56), (3, .int x3_56), (4, .int x4_56), (5, .int x5_56), (6, .int x6_56)]) hx hb dX12_range_87 hl (by decide) rfl (fun ls hl => ?_)
    refine lv_lload hx hb dX12_range_89 (lv_at hl 1 rfl) ?_
    refine lv_lload hx hb dX12_range_91 (lv_at hl 1 rfl) ?_
    refine lv_aload_n hx hb dX12_range_93 rfl (lv_at hl 2 rfl) ?_
    refine lv_iload_n hx hb dX12_range_94 rfl (lv_at hl 5 rfl) ?_
    obtain ⟨v56012, hc56011, hm⟩ := q_b1i hm
    refine q_callV C hW hS (As := [.int x3_56]) (rest := [.long (Int32.toInt64 v56002), .long (Int32.toInt64 v56002)]) (st1 := [.int v56012, .long (Int32.toInt64 v56002), .long (Int32.toInt64 v56002)]) (c_X12_long0 l D al dt x0_56 x3_56 kx0_56 v56012 hc56011) yl_X12_long0 vl_X12_long0 ml_RX12_327 (ci := 12) rfl kx0_56 (by decide) rfl ⟨Nat.le_of_ble_eq_true rfl, Nat.le_of_ble_eq_true rfl⟩ hl rfl (Nat.le_of_ble_eq_true rfl) dX12_range_95 ⟨Nat.le_refl _, Nat.le_refl _⟩ rfl (fun H locs k56013 hW hS => ?_)
    refine lv_i2l (v := (Int32.toInt64 v56012)) hx hb dX12_range_98 rfl ?_
    obtain ⟨v56015, hc56014, hm⟩ := q_b1i hm
    refine q_callS C hW hS (As := [.long (Int32.toInt64 v56002), .long (Int32.toInt64 v56012)]) (rest := [.long (Int32.toInt64 v56002)]) (st1 := [.long v56015, .long (Int32.toInt64 v56002)]) (c_X12_common l D al dt (Int32.toInt64 v56002) (Int32.toInt64 v56012) v56015 hc56014) yl_X12_common sl_X12_common ml_RX12_446 rfl ⟨Nat.le_of_ble_eq_true rfl, Nat.le_of_ble_eq_true rfl⟩ hl rfl (Nat.le_of_ble_eq_true rfl) dX12_range_99 ⟨Nat.le_refl _, Nat.le_refl _⟩ rfl (fun H locs k56016 hW hS => ?_)
    obtain ⟨c56017, hm⟩ := q_ini hm
    refine lv_ldiv hx hb dX12_range_102 c56017 ?_
    refine lv_aload_n hx hb dX12_range_103 rfl (lv_at hl 2 rfl) ?_
    refine lv_iload_n hx hb dX12_range_104 rfl (lv_at hl 5 rfl) ?_
    obtain ⟨v56019, hc56018, hm⟩ := q_b1i hm
    refine q_callV C hW hS (As := [.int x3_56]) (rest := [.long ((Int32.toInt64 v56002) / v56015)]) (st1 := [.int v56019, .long ((Int32.toInt64 v56002) / v56015)]) (c_X12_long0 l D al dt x0_56 x3_56 kx0_56 v56019 hc56018) yl_X12_long0 vl_X12_long0 ml_RX12_327 (ci := 12) rfl kx0_56 (by decide) rfl ⟨Nat.le_of_ble_eq_true rfl, Nat.le_of_ble_eq_true rfl⟩ hl rfl (Nat.le_of_ble_eq_true rfl) dX12_range_105 ⟨Nat.le_refl _, Nat.le_refl _⟩ rfl (fun H locs k56020 hW hS => ?_)
    refine lv_i2l (v := (Int32.toInt64 v56019)) hx hb dX12_range_108 rfl ?_
    refine lv_lmul hx hb dX12_range_109 ?_
    refine q_nmL hm (fun v56021 ev56021 hm => ?_)
    refine lv_lstore (i := 9) (lv' := [(9, .long v56021), (7, .long v56009), (0, .ref x0_56), (1, .int x1_56), (2, .int x2_56), (3, .int x3_56), (4, .int x4_56), (5, .int x5_56), (6, .int x6_56)]) hx hb dX12_range_110 hl (by decide) rfl (fun ls hl => ?_)
    exact hB112 x0_56 x5_56 x6_56 v56009 v56021 kx0_56 _ _ _ hm hW hS (lv_sub hl [2, 7, 8, 1, 0] rfl)
  have hB41 : ∀ (x0_41 : Nat) (x1_41 : Int32) (x2_41 : Int32) (x3_41 : Int32) (x4_41 : Int32) (x5_41 : Int32) (x6_41 : Int32) (kx0_41 : al.1 x0_41 = 13) (H : Heap) (locs : List Loc) (ls : Array Slot) (hm : X12_range_b41 al dt x0_41 x1_41 x2_41 x3_41 x4_41 x5_41 x6_41 = some r0) (hW : q_W D al dt H) (hS : va_S (q_A al) s.heap H locs) (hl : lv_has ls 11 [(0, .ref x0_41), (1, .int x1_41), (2, .int x2_41), (3, .int x3_41), (4, .int x4_41), (5, .int x5_41), (6, .int x6_41)]), W p l e { frames := 3, cells := 0, slots := 0, locals := 65 } s m args below meth c H locs 0 0 (MQ below (q_Q (some (.long r0)) (fun H => q_W D al dt H ∧ q_Rk al 0 (some (.long r0))) (q_A al)) args s 0 0 (q_A al)) (F0 m 41 ls []) := by
    intro x0_41 x1_41 x2_41 x3_41 x4_41 x5_41 x6_41 kx0_41 H locs ls hm hW hS hl
    unfold X12_range_b41 at hm
    refine lv_iload_n hx hb dX12_range_41 rfl (lv_at hl 3 rfl) ?_
    refine lv_iconst (v := (-1)) hx hb dX12_range_42 (by decide) ?_
    refine q_ifc hm (fun c41001 hm => ?_) (fun c41001 hm => ?_)
    · refine lv_icmp_ne (tgt := 56) hx hb dX12_range_43 (by decide) (fun h => absurd c41001 h) (fun _ => ?_)
      refine lv_iload hx hb dX12_range_46 (lv_at hl 5 rfl) ?_
      refine lv_iconst (v := (-1)) hx hb dX12_range_48 (by decide) ?_
      refine q_ifc hm (fun c41002 hm => ?_) (fun c41002 hm => ?_)
      · refine lv_icmp_eq (tgt := 56) hx hb dX12_range_49 (by decide) (fun _ => ?_) (fun h => absurd c41002 h)
        exact hB56 x0_41 x1_41 x2_41 x3_41 x4_41 x5_41 x6_41 kx0_41 _ _ _ hm hW hS (lv_sub hl [0, 1, 2, 3, 4, 5, 6] rfl)
      refine lv_icmp_eq (tgt := 56) hx hb dX12_range_49 (by decide) (fun h => absurd h c41002) (fun _ => ?_)
      exact hB52 _ _ _ hm hW hS (lv_sub hl [] rfl)
    refine lv_icmp_ne (tgt := 56) hx hb dX12_range_43 (by decide) (fun _ => ?_) (fun h => absurd h c41001)
    exact hB56 x0_41 x1_41 x2_41 x3_41 x4_41 x5_41 x6_41 kx0_41 _ _ _ hm hW hS (lv_sub hl [0, 1, 2, 3, 4, 5, 6] rfl)
  have hB24 : ∀ (x0_24 : Nat) (x1_24 : Int32) (x2_24 : Int32) (x3_24 : Int32) (x4_24 : Int32) (x5_24 : Int32) (x6_24 : Int32) (kx0_24 : al.1 x0_24 = 13) (H : Heap) (locs : List Loc) (ls : Array Slot) (hm : X12_range_b24 al dt x0_24 x1_24 x2_24 x3_24 x4_24 x5_24 x6_24 = some r0) (hW : q_W D al dt H) (hS : va_S (q_A al) s.heap H locs) (hl : lv_has ls 11 [(0, .ref x0_24), (1, .int x1_24), (2, .int x2_24), (3, .int x3_24), (4, .int x4_24), (5, .int x5_24), (6, .int x6_24)]), W p l e { frames := 3, cells := 0, slots := 0, locals := 65 } s m args below meth c H locs 0 0 (MQ below (q_Q (some (.long r0)) (fun H => q_W D al dt H ∧ q_Rk al 0 (some (.long r0))) (q_A al)) args s 0 0 (q_A al)) (F0 m 24 ls []) := by
    intro x0_24 x1_24 x2_24 x3_24 x4_24 x5_24 x6_24 kx0_24 H locs ls hm hW hS hl
    unfold X12_range_b24 at hm
    refine lv_iload hx hb dX12_range_24 (lv_at hl 5 rfl) ?_
    refine lv_iconst (v := (-1)) hx hb dX12_range_26 (by decide) ?_
    refine q_ifc hm (fun c24001 hm => ?_) (fun c24001 hm => ?_)
    · refine lv_icmp_eq (tgt := 41) hx hb dX12_range_27 (by decide) (fun _ => ?_) (fun h => absurd c24001 h)
      exact hB41 x0_24 x1_24 x2_24 x3_24 x4_24 x5_24 x6_24 kx0_24 _ _ _ hm hW hS (lv_sub hl [0, 1, 2, 3, 4, 5, 6] rfl)
    refine lv_icmp_eq (tgt := 41) hx hb dX12_range_27 (by decide) (fun h => absurd h c24001) (fun _ => ?_)
    refine lv_aload_n hx hb dX12_range_30 rfl (lv_at hl 0 rfl) ?_
    refine lv_iload hx hb dX12_range_31 (lv_at hl 5 rfl) ?_
    refine lv_iload hx hb dX12_range_33 (lv_at hl 6 rfl) ?_
    obtain ⟨v24003, hc24002, hm⟩ := q_b1i hm
    refine q_callV C hW hS (As := [.int x5_24, .int x6_24]) (rest := []) (st1 := [.int v24003]) (c_X12_isRest l D al dt x0_24 x5_24 x6_24 kx0_24 v24003 hc24002) yl_X12_isRest vl_X12_isRest ml_RX12_478 (ci := 12) rfl kx0_24 (by decide) rfl ⟨Nat.le_of_ble_eq_true rfl, Nat.le_of_ble_eq_true rfl⟩ hl rfl (Nat.le_of_ble_eq_true rfl) dX12_range_35 ⟨Nat.le_refl _, Nat.le_refl _⟩ rfl (fun H locs k24004 hW hS => ?_)
    refine q_ifc hm (fun c24005 hm => ?_) (fun c24005 hm => ?_)
    · refine lv_if_eq (tgt := 52) hx hb dX12_range_38 (by decide) (fun _ => ?_) (fun h => absurd c24005 h)
      exact hB52 _ _ _ hm hW hS (lv_sub hl [] rfl)
    refine lv_if_eq (tgt := 52) hx hb dX12_range_38 (by decide) (fun h => absurd h c24005) (fun _ => ?_)
    exact hB41 x0_24 x1_24 x2_24 x3_24 x4_24 x5_24 x6_24 kx0_24 _ _ _ hm hW hS (lv_sub hl [0, 1, 2, 3, 4, 5, 6] rfl)
  refine lv_aload_n hx hb dX12_range_0 rfl (lv_at hl 0 rfl) ?_
  refine lv_iload_n hx hb dX12_range_1 rfl (lv_at hl 1 rfl) ?_
  refine lv_iload_n hx hb dX12_range_2 rfl (lv_at hl 2 rfl) ?_
  obtain ⟨v1000002, hc1000001, hm⟩ := q_b1i hm
  refine q_callV C hW hS (As := [.int x1, .int x2]) (rest := []) (st1 := [.int v1000002]) (c_X12_isRest l D al dt x0 x1 x2 kx0 v1000002 hc1000001) yl_X12_isRest vl_X12_isRest ml_RX12_478 (ci := 12) rfl kx0 (by decide) rfl ⟨Nat.le_of_ble_eq_true rfl, Nat.le_of_ble_eq_true rfl⟩ hl rfl (Nat.le_of_ble_eq_true rfl) dX12_range_3 ⟨Nat.le_refl _, Nat.le_refl _⟩ rfl (fun H locs k1000003 hW hS => ?_)
  refine q_ifc hm (fun c1000004 hm => ?_) (fun c1000004 hm => ?_)
  · refine lv_if_eq (tgt := 52) hx hb dX12_range_6 (by decide) (fun _ => ?_) (fun h => absurd c1000004 h)
    exact hB52 _ _ _ hm hW hS (lv_sub hl [] rfl)
  refine lv_if_eq (tgt := 52) hx hb dX12_range_6 (by decide) (fun h => absurd h c1000004) (fun _ => ?_)
  refine lv_iload_n hx hb dX12_range_9 rfl (lv_at hl 3 rfl) ?_
  refine lv_iconst (v := (-1)) hx hb dX12_range_10 (by decide) ?_
  refine q_ifc hm (fun c1000005 hm => ?_) (fun c1000005 hm => ?_)
  · refine lv_icmp_eq (tgt := 24) hx hb dX12_range_11 (by decide) (fun _ => ?_) (fun h => absurd c1000005 h)
    exact hB24 x0 x1 x2 x3 x4 x5 x6 kx0 _ _ _ hm hW hS (lv_sub hl [0, 1, 2, 3, 4, 5, 6] rfl)
  refine lv_icmp_eq (tgt := 24) hx hb dX12_range_11 (by decide) (fun h => absurd h c1000005) (fun _ => ?_)
  refine lv_aload_n hx hb dX12_range_14 rfl (lv_at hl 0 rfl) ?_
  refine lv_iload_n hx hb dX12_range_15 rfl (lv_at hl 3 rfl) ?_
  refine lv_iload hx hb dX12_range_16 (lv_at hl 4 rfl) ?_
  obtain ⟨v1000007, hc1000006, hm⟩ := q_b1i hm
  refine q_callV C hW hS (As := [.int x3, .int x4]) (rest := []) (st1 := [.int v1000007]) (c_X12_isRest l D al dt x0 x3 x4 kx0 v1000007 hc1000006) yl_X12_isRest vl_X12_isRest ml_RX12_478 (ci := 12) rfl kx0 (by decide) rfl ⟨Nat.le_of_ble_eq_true rfl, Nat.le_of_ble_eq_true rfl⟩ hl rfl (Nat.le_of_ble_eq_true rfl) dX12_range_18 ⟨Nat.le_refl _, Nat.le_refl _⟩ rfl (fun H locs k1000008 hW hS => ?_)
  refine q_ifc hm (fun c1000009 hm => ?_) (fun c1000009 hm => ?_)
  · refine lv_if_eq (tgt := 52) hx hb dX12_range_21 (by decide) (fun _ => ?_) (fun h => absurd c1000009 h)
    exact hB52 _ _ _ hm hW hS (lv_sub hl [] rfl)
  refine lv_if_eq (tgt := 52) hx hb dX12_range_21 (by decide) (fun h => absurd h c1000009) (fun _ => ?_)
  exact hB24 x0 x1 x2 x3 x4 x5 x6 kx0 _ _ _ hm hW hS (lv_sub hl [0, 1, 2, 3, 4, 5, 6] rfl)
theorem dX12_near_0 : decode cX12_near 0 = .ok (.aload_n 0, 1) := by decide +kernel
theorem dX12_near_1 : decode cX12_near 1 = .ok (.iload_n 1, 1) := by decide +kernel
theorem dX12_near_2 : decode cX12_near 2 = .ok (.iload_n 2, 1) := by decide +kernel
theorem dX12_near_3 : decode cX12_near 3 = .ok (.invokevirtual 478, 3) := by decide +kernel
theorem dX12_near_6 : decode cX12_near 6 = .ok (.ifCond .eq 30, 3) := by decide +kernel
theorem dX12_near_9 : decode cX12_near 9 = .ok (.iload_n 3, 1) := by decide +kernel
theorem dX12_near_10 : decode cX12_near 10 = .ok (.iconst (-1), 1) := by decide +kernel
theorem dX12_near_11 : decode cX12_near 11 = .ok (.if_icmp .eq 13, 3) := by decide +kernel
theorem dX12_near_14 : decode cX12_near 14 = .ok (.aload_n 0, 1) := by decide +kernel
theorem dX12_near_15 : decode cX12_near 15 = .ok (.iload_n 3, 1) := by decide +kernel
theorem dX12_near_16 : decode cX12_near 16 = .ok (.iload 4, 2) := by decide +kernel
theorem dX12_near_18 : decode cX12_near 18 = .ok (.invokevirtual 478, 3) := by decide +kernel
theorem dX12_near_21 : decode cX12_near 21 = .ok (.ifCond .eq 15, 3) := by decide +kernel
theorem dX12_near_24 : decode cX12_near 24 = .ok (.iload 5, 2) := by decide +kernel
theorem dX12_near_26 : decode cX12_near 26 = .ok (.iconst 0, 1) := by decide +kernel
theorem dX12_near_27 : decode cX12_near 27 = .ok (.sipush 20000, 3) := by decide +kernel
theorem dX12_near_30 : decode cX12_near 30 = .ok (.invokestatic 376, 3) := by decide +kernel
theorem dX12_near_33 : decode cX12_near 33 = .ok (.ifCond .ne 5, 3) := by decide +kernel
theorem dX12_near_36 : decode cX12_near 36 = .ok (.iconst (-1), 1) := by decide +kernel
theorem dX12_near_37 : decode cX12_near 37 = .ok (.ireturn, 1) := by decide +kernel
theorem dX12_near_38 : decode cX12_near 38 = .ok (.iconst 0, 1) := by decide +kernel
theorem dX12_near_39 : decode cX12_near 39 = .ok (.istore 6, 2) := by decide +kernel
theorem dX12_near_41 : decode cX12_near 41 = .ok (.ldc_w 487, 3) := by decide +kernel
theorem dX12_near_44 : decode cX12_near 44 = .ok (.istore 7, 2) := by decide +kernel
theorem dX12_near_46 : decode cX12_near 46 = .ok (.iconst 0, 1) := by decide +kernel
theorem dX12_near_47 : decode cX12_near 47 = .ok (.istore 8, 2) := by decide +kernel
theorem dX12_near_49 : decode cX12_near 49 = .ok (.iload 8, 2) := by decide +kernel
theorem dX12_near_51 : decode cX12_near 51 = .ok (.iload 5, 2) := by decide +kernel
theorem dX12_near_53 : decode cX12_near 53 = .ok (.if_icmp .gt 62, 3) := by decide +kernel
theorem dX12_near_56 : decode cX12_near 56 = .ok (.iload 8, 2) := by decide +kernel
theorem dX12_near_58 : decode cX12_near 58 = .ok (.iload_n 2, 1) := by decide +kernel
theorem dX12_near_59 : decode cX12_near 59 = .ok (.aload_n 0, 1) := by decide +kernel
theorem dX12_near_60 : decode cX12_near 60 = .ok (.iload_n 1, 1) := by decide +kernel
theorem dX12_near_61 : decode cX12_near 61 = .ok (.invokevirtual 327, 3) := by decide +kernel
theorem dX12_near_64 : decode cX12_near 64 = .ok (.invokestatic 441, 3) := by decide +kernel
theorem dX12_near_67 : decode cX12_near 67 = .ok (.iload_n 3, 1) := by decide +kernel
theorem dX12_near_68 : decode cX12_near 68 = .ok (.iconst (-1), 1) := by decide +kernel
theorem dX12_near_69 : decode cX12_near 69 = .ok (.if_icmp .ne 7, 3) := by decide +kernel
theorem dX12_near_72 : decode cX12_near 72 = .ok (.iconst 0, 1) := by decide +kernel
theorem dX12_near_73 : decode cX12_near 73 = .ok (.goto 15, 3) := by decide +kernel
theorem dX12_near_76 : decode cX12_near 76 = .ok (.iload 8, 2) := by decide +kernel
theorem dX12_near_78 : decode cX12_near 78 = .ok (.iload 4, 2) := by decide +kernel
theorem dX12_near_80 : decode cX12_near 80 = .ok (.aload_n 0, 1) := by decide +kernel
theorem dX12_near_81 : decode cX12_near 81 = .ok (.iload_n 3, 1) := by decide +kernel
theorem dX12_near_82 : decode cX12_near 82 = .ok (.invokevirtual 327, 3) := by decide +kernel
theorem dX12_near_85 : decode cX12_near 85 = .ok (.invokestatic 441, 3) := by decide +kernel
theorem dX12_near_88 : decode cX12_near 88 = .ok (.iadd, 1) := by decide +kernel
theorem dX12_near_89 : decode cX12_near 89 = .ok (.istore 9, 2) := by decide +kernel
theorem dX12_near_91 : decode cX12_near 91 = .ok (.iload 9, 2) := by decide +kernel
theorem dX12_near_93 : decode cX12_near 93 = .ok (.iload 7, 2) := by decide +kernel
theorem dX12_near_95 : decode cX12_near 95 = .ok (.if_icmp .lt 6, 3) := by decide +kernel
theorem dX12_near_98 : decode cX12_near 98 = .ok (.goto 11, 3) := by decide +kernel
theorem dX12_near_101 : decode cX12_near 101 = .ok (.iload 8, 2) := by decide +kernel
theorem dX12_near_103 : decode cX12_near 103 = .ok (.istore 6, 2) := by decide +kernel
theorem dX12_near_105 : decode cX12_near 105 = .ok (.iload 9, 2) := by decide +kernel
theorem dX12_near_107 : decode cX12_near 107 = .ok (.istore 7, 2) := by decide +kernel
theorem dX12_near_109 : decode cX12_near 109 = .ok (.iinc 8 1, 3) := by decide +kernel
theorem dX12_near_112 : decode cX12_near 112 = .ok (.goto (-63), 3) := by decide +kernel
theorem dX12_near_115 : decode cX12_near 115 = .ok (.iload 6, 2) := by decide +kernel
theorem dX12_near_117 : decode cX12_near 117 = .ok (.ireturn, 1) := by decide +kernel
set_option maxRecDepth 100000 in
theorem c_X12_near (l : Launch) (D : q_D) (al : q_Al) (dt : q_Dt) (x0 : Nat) (x1 : Int32) (x2 : Int32) (x3 : Int32) (x4 : Int32) (x5 : Int32) (kx0 : al.1 x0 = 13) (r0 : Int32) (hm : X12_near al dt x0 x1 x2 x3 x4 x5 = some r0) : q_Mt l yX12_near cX12_near 10 (some FieldType.int) 3 65 D al [.ref x0, .int x1, .int x2, .int x3, .int x4, .int x5] dt 0 (some (.int r0)) dt := by
  refine q_Mt.of (by decide) (Nat.le_of_ble_eq_true rfl) ?_
  intro p e s m args below meth c ls C hargs hW hl
  have hx := C.1
  have hb := C.2.1
  have hown := C.2.2.2.2.2.1
  have hts := C.2.2.2.2.2.2.1
  have hS : va_S (q_A al) s.heap s.heap [] := va_S.rf
  have hl : lv_has ls 10 [(0, .ref x0), (1, .int x1), (2, .int x2), (3, .int x3), (4, .int x4), (5, .int x5)] := hl
  unfold X12_near at hm
  have hB49 : ∀ (x0_49 : Nat) (x1_49 : Int32) (x2_49 : Int32) (x3_49 : Int32) (x4_49 : Int32) (x5_49 : Int32) (kx0_49 : al.1 x0_49 = 13) (n_49 : Nat) (x6_49 : Int32) (x7_49 : Int32) (x8_49 : Int32) (H : Heap) (locs : List Loc) (ls : Array Slot) (hm : X12_near_b49 al dt x0_49 x1_49 x2_49 x3_49 x4_49 x5_49 n_49 x6_49 x7_49 x8_49 = some r0) (hW : q_W D al dt H) (hS : va_S (q_A al) s.heap H locs) (hl : lv_has ls 10 [(0, .ref x0_49), (1, .int x1_49), (2, .int x2_49), (3, .int x3_49), (4, .int x4_49), (5, .int x5_49), (6, .int x6_49), (7, .int x7_49), (8, .int x8_49)]), W p l e { frames := 3, cells := 0, slots := 0, locals := 65 } s m args below meth c H locs 0 0 (MQ below (q_Q (some (.int r0)) (fun H => q_W D al dt H ∧ q_Rk al 0 (some (.int r0))) (q_A al)) args s 0 0 (q_A al)) (F0 m 49 ls []) := by
    intro x0_49 x1_49 x2_49 x3_49 x4_49 x5_49 kx0_49
    intro n_49
    induction n_49 with
    | zero => intro x6_49 x7_49 x8_49 H locs ls hm hW hS hl; cases hm
    | succ n_49 ih49 =>
      have hB109 : ∀ (x6_109 : Int32) (x7_109 : Int32) (x8_109 : Int32) (H : Heap) (locs : List Loc) (ls : Array Slot) (hm : X12_near_b109 al dt (X12_near_b49 al dt x0_49 x1_49 x2_49 x3_49 x4_49 x5_49 n_49) x0_49 x1_49 x2_49 x3_49 x4_49 x5_49 x6_109 x7_109 x8_109 = some r0) (hW : q_W D al dt H) (hS : va_S (q_A al) s.heap H locs) (hl : lv_has ls 10 [(0, .ref x0_49), (1, .int x1_49), (2, .int x2_49), (3, .int x3_49), (4, .int x4_49), (5, .int x5_49), (6, .int x6_109), (7, .int x7_109), (8, .int x8_109)]), W p l e { frames := 3, cells := 0, slots := 0, locals := 65 } s m args below meth c H locs 0 0 (MQ below (q_Q (some (.int r0)) (fun H => q_W D al dt H ∧ q_Rk al 0 (some (.int r0))) (q_A al)) args s 0 0 (q_A al)) (F0 m 109 ls []) := by
        intro x6_109 x7_109 x8_109 H locs ls hm hW hS hl
        unfold X12_near_b109 at hm
        refine lv_iinc (v := (x8_109 + 1)) (lv' := [(8, .int (x8_109 + 1)), (0, .ref x0_49), (1, .int x1_49), (2, .int x2_49), (3, .int x3_49), (4, .int x4_49), (5, .int x5_49), (6, .int x6_109), (7, .int x7_109)]) hx hb dX12_near_109 hl (k := 8) rfl rfl (by decide) rfl (fun ls hl => ?_)
        refine lv_goto (tgt := 49) hx hb dX12_near_112 (by decide) ?_
        exact ih49 x6_109 x7_109 (x8_109 + 1) _ _ _ hm hW hS (lv_sub hl [1, 2, 3, 4, 5, 6, 7, 8, 0] rfl)
      have hB88 : ∀ (x6_88 : Int32) (x7_88 : Int32) (x8_88 : Int32) (t0_88 : Int32) (t1_88 : Int32) (H : Heap) (locs : List Loc) (ls : Array Slot) (hm : X12_near_b88 al dt (X12_near_b49 al dt x0_49 x1_49 x2_49 x3_49 x4_49 x5_49 n_49) x0_49 x1_49 x2_49 x3_49 x4_49 x5_49 x6_88 x7_88 x8_88 t0_88 t1_88 = some r0) (hW : q_W D al dt H) (hS : va_S (q_A al) s.heap H locs) (hl : lv_has ls 10 [(0, .ref x0_49), (1, .int x1_49), (2, .int x2_49), (3, .int x3_49), (4, .int x4_49), (5, .int x5_49), (6, .int x6_88), (7, .int x7_88), (8, .int x8_88)]), W p l e { frames := 3, cells := 0, slots := 0, locals := 65 } s m args below meth c H locs 0 0 (MQ below (q_Q (some (.int r0)) (fun H => q_W D al dt H ∧ q_Rk al 0 (some (.int r0))) (q_A al)) args s 0 0 (q_A al)) (F0 m 88 ls [.int t1_88, .int t0_88]) := by
        intro x6_88 x7_88 x8_88 t0_88 t1_88 H locs ls hm hW hS hl
        unfold X12_near_b88 at hm
        refine lv_iadd hx hb dX12_near_88 ?_
        refine lv_istore (i := 9) (lv' := [(9, .int (t0_88 + t1_88)), (0, .ref x0_49), (1, .int x1_49), (2, .int x2_49), (3, .int x3_49), (4, .int x4_49), (5, .int x5_49), (6, .int x6_88), (7, .int x7_88), (8, .int x8_88)]) hx hb dX12_near_89 hl (by decide) rfl (fun ls hl => ?_)
        refine lv_iload hx hb dX12_near_91 (lv_at hl 0 rfl) ?_
        refine lv_iload hx hb dX12_near_93 (lv_at hl 8 rfl) ?_
        refine q_ifc hm (fun c88001 hm => ?_) (fun c88001 hm => ?_)
        · refine lv_icmp_lt (tgt := 101) hx hb dX12_near_95 (by decide) (fun _ => ?_) (fun h => absurd c88001 h)
          refine lv_iload hx hb dX12_near_101 (lv_at hl 9 rfl) ?_
          refine lv_istore (i := 6) (lv' := [(6, .int x8_88), (9, .int (t0_88 + t1_88)), (0, .ref x0_49), (1, .int x1_49), (2, .int x2_49), (3, .int x3_49), (4, .int x4_49), (5, .int x5_49), (7, .int x7_88), (8, .int x8_88)]) hx hb dX12_near_103 hl (by decide) rfl (fun ls hl => ?_)
          refine lv_iload hx hb dX12_near_105 (lv_at hl 1 rfl) ?_
          refine lv_istore (i := 7) (lv' := [(7, .int (t0_88 + t1_88)), (6, .int x8_88), (9, .int (t0_88 + t1_88)), (0, .ref x0_49), (1, .int x1_49), (2, .int x2_49), (3, .int x3_49), (4, .int x4_49), (5, .int x5_49), (8, .int x8_88)]) hx hb dX12_near_107 hl (by decide) rfl (fun ls hl => ?_)
          exact hB109 x8_88 (t0_88 + t1_88) x8_88 _ _ _ hm hW hS (lv_sub hl [3, 4, 5, 6, 7, 8, 1, 0, 9] rfl)
        refine lv_icmp_lt (tgt := 101) hx hb dX12_near_95 (by decide) (fun h => absurd h c88001) (fun _ => ?_)
        refine lv_goto (tgt := 109) hx hb dX12_near_98 (by decide) ?_
        exact hB109 x6_88 x7_88 x8_88 _ _ _ hm hW hS (lv_sub hl [1, 2, 3, 4, 5, 6, 7, 8, 9] rfl)
      intro x6_49 x7_49 x8_49 H locs ls hm hW hS hl
      rw [X12_near_b49] at hm
      refine lv_iload hx hb dX12_near_49 (lv_at hl 8 rfl) ?_
      refine lv_iload hx hb dX12_near_51 (lv_at hl 5 rfl) ?_
      refine q_ifc hm (fun c49001 hm => ?_) (fun c49001 hm => ?_)
      · refine lv_icmp_gt (tgt := 115) hx hb dX12_near_53 (by decide) (fun _ => ?_) (fun h => absurd c49001 h)
        refine lv_iload hx hb dX12_near_115 (lv_at hl 6 rfl) ?_
        exact e_i C hW hS hm dX12_near_117
      refine lv_icmp_gt (tgt := 115) hx hb dX12_near_53 (by decide) (fun h => absurd h c49001) (fun _ => ?_)
      refine lv_iload hx hb dX12_near_56 (lv_at hl 8 rfl) ?_
      refine lv_iload_n hx hb dX12_near_58 rfl (lv_at hl 2 rfl) ?_
      refine lv_aload_n hx hb dX12_near_59 rfl (lv_at hl 0 rfl) ?_
      refine lv_iload_n hx hb dX12_near_60 rfl (lv_at hl 1 rfl) ?_
      obtain ⟨v49003, hc49002, hm⟩ := q_b1i hm
      refine q_callV C hW hS (As := [.int x1_49]) (rest := [.int x2_49, .int x8_49]) (st1 := [.int v49003, .int x2_49, .int x8_49]) (c_X12_long0 l D al dt x0_49 x1_49 kx0_49 v49003 hc49002) yl_X12_long0 vl_X12_long0 ml_RX12_327 (ci := 12) rfl kx0_49 (by decide) rfl ⟨Nat.le_of_ble_eq_true rfl, Nat.le_of_ble_eq_true rfl⟩ hl rfl (Nat.le_of_ble_eq_true rfl) dX12_near_61 ⟨Nat.le_refl _, Nat.le_refl _⟩ rfl (fun H locs k49004 hW hS => ?_)
      obtain ⟨v49006, hc49005, hm⟩ := q_b1i hm
      refine q_callS C hW hS (As := [.int x8_49, .int x2_49, .int v49003]) (rest := []) (st1 := [.int v49006]) (c_X12_apart l D al dt x8_49 x2_49 v49003 v49006 hc49005) yl_X12_apart sl_X12_apart ml_RX12_441 rfl ⟨Nat.le_of_ble_eq_true rfl, Nat.le_of_ble_eq_true rfl⟩ hl rfl (Nat.le_of_ble_eq_true rfl) dX12_near_64 ⟨Nat.le_refl _, Nat.le_refl _⟩ rfl (fun H locs k49007 hW hS => ?_)
      refine lv_iload_n hx hb dX12_near_67 rfl (lv_at hl 3 rfl) ?_
      refine lv_iconst (v := (-1)) hx hb dX12_near_68 (by decide) ?_
      refine q_ifc hm (fun c49008 hm => ?_) (fun c49008 hm => ?_)
      · refine lv_icmp_ne (tgt := 76) hx hb dX12_near_69 (by decide) (fun h => absurd c49008 h) (fun _ => ?_)
        refine lv_iconst (v := 0) hx hb dX12_near_72 (by decide) ?_
        refine lv_goto (tgt := 88) hx hb dX12_near_73 (by decide) ?_
        exact hB88 x6_49 x7_49 x8_49 v49006 0 _ _ _ hm hW hS (lv_sub hl [0, 1, 2, 3, 4, 5, 6, 7, 8] rfl)
      refine lv_icmp_ne (tgt := 76) hx hb dX12_near_69 (by decide) (fun _ => ?_) (fun h => absurd h c49008)
      refine lv_iload hx hb dX12_near_76 (lv_at hl 8 rfl) ?_
      refine lv_iload hx hb dX12_near_78 (lv_at hl 4 rfl) ?_
      refine lv_aload_n hx hb dX12_near_80 rfl (lv_at hl 0 rfl) ?_
      refine lv_iload_n hx hb dX12_near_81 rfl (lv_at hl 3 rfl) ?_
      obtain ⟨v49010, hc49009, hm⟩ := q_b1i hm
      refine q_callV C hW hS (As := [.int x3_49]) (rest := [.int x4_49, .int x8_49, .int v49006]) (st1 := [.int v49010, .int x4_49, .int x8_49, .int v49006]) (c_X12_long0 l D al dt x0_49 x3_49 kx0_49 v49010 hc49009) yl_X12_long0 vl_X12_long0 ml_RX12_327 (ci := 12) rfl kx0_49 (by decide) rfl ⟨Nat.le_of_ble_eq_true rfl, Nat.le_of_ble_eq_true rfl⟩ hl rfl (Nat.le_of_ble_eq_true rfl) dX12_near_82 ⟨Nat.le_refl _, Nat.le_refl _⟩ rfl (fun H locs k49011 hW hS => ?_)
      obtain ⟨v49013, hc49012, hm⟩ := q_b1i hm
      refine q_callS C hW hS (As := [.int x8_49, .int x4_49, .int v49010]) (rest := [.int v49006]) (st1 := [.int v49013, .int v49006]) (c_X12_apart l D al dt x8_49 x4_49 v49010 v49013 hc49012) yl_X12_apart sl_X12_apart ml_RX12_441 rfl ⟨Nat.le_of_ble_eq_true rfl, Nat.le_of_ble_eq_true rfl⟩ hl rfl (Nat.le_of_ble_eq_true rfl) dX12_near_85 ⟨Nat.le_refl _, Nat.le_refl _⟩ rfl (fun H locs k49014 hW hS => ?_)
      exact hB88 x6_49 x7_49 x8_49 v49006 v49013 _ _ _ hm hW hS (lv_sub hl [0, 1, 2, 3, 4, 5, 6, 7, 8] rfl)
  have hB24 : ∀ (x0_24 : Nat) (x1_24 : Int32) (x2_24 : Int32) (x3_24 : Int32) (x4_24 : Int32) (x5_24 : Int32) (kx0_24 : al.1 x0_24 = 13) (H : Heap) (locs : List Loc) (ls : Array Slot) (hm : X12_near_b24 al dt x0_24 x1_24 x2_24 x3_24 x4_24 x5_24 = some r0) (hW : q_W D al dt H) (hS : va_S (q_A al) s.heap H locs) (hl : lv_has ls 10 [(0, .ref x0_24), (1, .int x1_24), (2, .int x2_24), (3, .int x3_24), (4, .int x4_24), (5, .int x5_24)]), W p l e { frames := 3, cells := 0, slots := 0, locals := 65 } s m args below meth c H locs 0 0 (MQ below (q_Q (some (.int r0)) (fun H => q_W D al dt H ∧ q_Rk al 0 (some (.int r0))) (q_A al)) args s 0 0 (q_A al)) (F0 m 24 ls []) := by
    intro x0_24 x1_24 x2_24 x3_24 x4_24 x5_24 kx0_24 H locs ls hm hW hS hl
    unfold X12_near_b24 at hm
    refine lv_iload hx hb dX12_near_24 (lv_at hl 5 rfl) ?_
    refine lv_iconst (v := 0) hx hb dX12_near_26 (by decide) ?_
    refine lv_sipush (v := 20000) hx hb dX12_near_27 (by decide) ?_
    obtain ⟨v24002, hc24001, hm⟩ := q_b1i hm
    refine q_callS C hW hS (As := [.int x5_24, .int 0, .int 20000]) (rest := []) (st1 := [.int v24002]) (c_X12_in l D al dt x5_24 0 20000 v24002 hc24001) yl_X12_in sl_X12_in ml_RX12_376 rfl ⟨Nat.le_of_ble_eq_true rfl, Nat.le_of_ble_eq_true rfl⟩ hl rfl (Nat.le_of_ble_eq_true rfl) dX12_near_30 ⟨Nat.le_refl _, Nat.le_refl _⟩ rfl (fun H locs k24003 hW hS => ?_)
    refine q_ifc hm (fun c24004 hm => ?_) (fun c24004 hm => ?_)
    · refine lv_if_ne (tgt := 38) hx hb dX12_near_33 (by decide) (fun h => absurd c24004 h) (fun _ => ?_)
      refine lv_iconst (v := (-1)) hx hb dX12_near_36 (by decide) ?_
      exact e_i C hW hS hm dX12_near_37
    refine lv_if_ne (tgt := 38) hx hb dX12_near_33 (by decide) (fun _ => ?_) (fun h => absurd h c24004)
    refine lv_iconst (v := 0) hx hb dX12_near_38 (by decide) ?_
    refine lv_istore (i := 6) (lv' := [(6, .int 0), (0, .ref x0_24), (1, .int x1_24), (2, .int x2_24), (3, .int x3_24), (4, .int x4_24), (5, .int x5_24)]) hx hb dX12_near_39 hl (by decide) rfl (fun ls hl => ?_)
    refine lv_ldcw (own := RX12) (v := 100000) hx hb hown (hts _ wc_RX12_487) dX12_near_41 ?_
    refine lv_istore (i := 7) (lv' := [(7, .int 100000), (6, .int 0), (0, .ref x0_24), (1, .int x1_24), (2, .int x2_24), (3, .int x3_24), (4, .int x4_24), (5, .int x5_24)]) hx hb dX12_near_44 hl (by decide) rfl (fun ls hl => ?_)
    refine lv_iconst (v := 0) hx hb dX12_near_46 (by decide) ?_
    refine lv_istore (i := 8) (lv' := [(8, .int 0), (7, .int 100000), (6, .int 0), (0, .ref x0_24), (1, .int x1_24), (2, .int x2_24), (3, .int x3_24), (4, .int x4_24), (5, .int x5_24)]) hx hb dX12_near_47 hl (by decide) rfl (fun ls hl => ?_)
    exact hB49 x0_24 x1_24 x2_24 x3_24 x4_24 x5_24 kx0_24 q_FU 0 100000 0 _ _ _ hm hW hS (lv_sub hl [3, 4, 5, 6, 7, 8, 2, 1, 0] rfl)
  refine lv_aload_n hx hb dX12_near_0 rfl (lv_at hl 0 rfl) ?_
  refine lv_iload_n hx hb dX12_near_1 rfl (lv_at hl 1 rfl) ?_
  refine lv_iload_n hx hb dX12_near_2 rfl (lv_at hl 2 rfl) ?_
  obtain ⟨v1000002, hc1000001, hm⟩ := q_b1i hm
  refine q_callV C hW hS (As := [.int x1, .int x2]) (rest := []) (st1 := [.int v1000002]) (c_X12_isRest l D al dt x0 x1 x2 kx0 v1000002 hc1000001) yl_X12_isRest vl_X12_isRest ml_RX12_478 (ci := 12) rfl kx0 (by decide) rfl ⟨Nat.le_of_ble_eq_true rfl, Nat.le_of_ble_eq_true rfl⟩ hl rfl (Nat.le_of_ble_eq_true rfl) dX12_near_3 ⟨Nat.le_refl _, Nat.le_refl _⟩ rfl (fun H locs k1000003 hW hS => ?_)
  refine q_ifc hm (fun c1000004 hm => ?_) (fun c1000004 hm => ?_)
  · refine lv_if_eq (tgt := 36) hx hb dX12_near_6 (by decide) (fun _ => ?_) (fun h => absurd c1000004 h)
    refine lv_iconst (v := (-1)) hx hb dX12_near_36 (by decide) ?_
    exact e_i C hW hS hm dX12_near_37
  refine lv_if_eq (tgt := 36) hx hb dX12_near_6 (by decide) (fun h => absurd h c1000004) (fun _ => ?_)
  refine lv_iload_n hx hb dX12_near_9 rfl (lv_at hl 3 rfl) ?_
  refine lv_iconst (v := (-1)) hx hb dX12_near_10 (by decide) ?_
  refine q_ifc hm (fun c1000005 hm => ?_) (fun c1000005 hm => ?_)
  · refine lv_icmp_eq (tgt := 24) hx hb dX12_near_11 (by decide) (fun _ => ?_) (fun h => absurd c1000005 h)
    exact hB24 x0 x1 x2 x3 x4 x5 kx0 _ _ _ hm hW hS (lv_sub hl [0, 1, 2, 3, 4, 5] rfl)
  refine lv_icmp_eq (tgt := 24) hx hb dX12_near_11 (by decide) (fun h => absurd h c1000005) (fun _ => ?_)
  refine lv_aload_n hx hb dX12_near_14 rfl (lv_at hl 0 rfl) ?_
  refine lv_iload_n hx hb dX12_near_15 rfl (lv_at hl 3 rfl) ?_
  refine lv_iload hx hb dX12_near_16 (lv_at hl 4 rfl) ?_
  obtain ⟨v1000007, hc1000006, hm⟩ := q_b1i hm
  refine q_callV C hW hS (As := [.int x3, .int x4]) (rest := []) (st1 := [.int v1000007]) (c_X12_isRest l D al dt x0 x3 x4 kx0 v1000007 hc1000006) yl_X12_isRest vl_X12_isRest ml_RX12_478 (ci := 12) rfl kx0 (by decide) rfl ⟨Nat.le_of_ble_eq_true rfl, Nat.le_of_ble_eq_true rfl⟩ hl rfl (Nat.le_of_ble_eq_true rfl) dX12_near_18 ⟨Nat.le_refl _, Nat.le_refl _⟩ rfl (fun H locs k1000008 hW hS => ?_)
  refine q_ifc hm (fun c1000009 hm => ?_) (fun c1000009 hm => ?_)
  · refine lv_if_eq (tgt := 36) hx hb dX12_near_21 (by decide) (fun _ => ?_) (fun h => absurd c1000009 h)
    refine lv_iconst (v := (-1)) hx hb dX12_near_36 (by decide) ?_
    exact e_i C hW hS hm dX12_near_37
  refine lv_if_eq (tgt := 36) hx hb dX12_near_21 (by decide) (fun h => absurd h c1000009) (fun _ => ?_)
  exact hB24 x0 x1 x2 x3 x4 x5 kx0 _ _ _ hm hW hS (lv_sub hl [0, 1, 2, 3, 4, 5] rfl)
theorem dX12_isHop_0 : decode cX12_isHop 0 = .ok (.iload_n 1, 1) := by decide +kernel
theorem dX12_isHop_1 : decode cX12_isHop 1 = .ok (.iconst 0, 1) := by decide +kernel
theorem dX12_isHop_2 : decode cX12_isHop 2 = .ok (.aload_n 0, 1) := by decide +kernel
theorem dX12_isHop_3 : decode cX12_isHop 3 = .ok (.getfield 58, 3) := by decide +kernel
theorem dX12_isHop_6 : decode cX12_isHop 6 = .ok (.aload_n 0, 1) := by decide +kernel
theorem dX12_isHop_7 : decode cX12_isHop 7 = .ok (.getfield 242, 3) := by decide +kernel
theorem dX12_isHop_10 : decode cX12_isHop 10 = .ok (.iaload, 1) := by decide +kernel
theorem dX12_isHop_11 : decode cX12_isHop 11 = .ok (.iconst 1, 1) := by decide +kernel
theorem dX12_isHop_12 : decode cX12_isHop 12 = .ok (.isub, 1) := by decide +kernel
theorem dX12_isHop_13 : decode cX12_isHop 13 = .ok (.invokestatic 376, 3) := by decide +kernel
theorem dX12_isHop_16 : decode cX12_isHop 16 = .ok (.ireturn, 1) := by decide +kernel
set_option maxRecDepth 100000 in
theorem c_X12_isHop (l : Launch) (D : q_D) (al : q_Al) (dt : q_Dt) (x0 : Nat) (x1 : Int32) (kx0 : al.1 x0 = 13) (r0 : Int32) (hm : X12_isHop al dt x0 x1 = some r0) : q_Mt l yX12_isHop cX12_isHop 2 (some FieldType.boolean) 1 22 D al [.ref x0, .int x1] dt 0 (some (.int r0)) dt := by
  refine q_Mt.of (by decide) (Nat.le_of_ble_eq_true rfl) ?_
  intro p e s m args below meth c ls C hargs hW hl
  have hx := C.1
  have hb := C.2.1
  have hown := C.2.2.2.2.2.1
  have hts := C.2.2.2.2.2.2.1
  have hS : va_S (q_A al) s.heap s.heap [] := va_S.rf
  have hl : lv_has ls 2 [(0, .ref x0), (1, .int x1)] := hl
  unfold X12_isHop at hm
  refine lv_iload_n hx hb dX12_isHop_0 rfl (lv_at hl 1 rfl) ?_
  refine lv_iconst (v := 0) hx hb dX12_isHop_1 (by decide) ?_
  refine lv_aload_n hx hb dX12_isHop_2 rfl (lv_at hl 0 rfl) ?_
  refine r_getF C hW (ci := 12) kx0 ff_12_27 cl_12 fl_RX12_58 dX12_isHop_3 (fun k1000001 => ?_)
  refine lv_aload_n hx hb dX12_isHop_6 rfl (lv_at hl 0 rfl) ?_
  refine r_getI C hW (ci := 12) kx0 ff_12_18 cl_12 fl_RX12_242 dX12_isHop_7 ?_
  refine r_iald C hW hm k1000001 dX12_isHop_10 (fun hm => ?_)
  refine lv_iconst (v := 1) hx hb dX12_isHop_11 (by decide) ?_
  refine lv_isub hx hb dX12_isHop_12 ?_
  obtain ⟨v1000003, hc1000002, hm⟩ := q_b1i hm
  refine q_callS C hW hS (As := [.int x1, .int 0, .int ((dt.1 (al.2.2 x0 27) (Int32.toNatClampNeg (dt.1 x0 18))) - 1)]) (rest := []) (st1 := [.int v1000003]) (c_X12_in l D al dt x1 0 ((dt.1 (al.2.2 x0 27) (Int32.toNatClampNeg (dt.1 x0 18))) - 1) v1000003 hc1000002) yl_X12_in sl_X12_in ml_RX12_376 rfl ⟨Nat.le_of_ble_eq_true rfl, Nat.le_of_ble_eq_true rfl⟩ hl rfl (Nat.le_of_ble_eq_true rfl) dX12_isHop_13 ⟨Nat.le_refl _, Nat.le_refl _⟩ rfl (fun H locs k1000004 hW hS => ?_)
  exact e_z C hW hS hm dX12_isHop_16
theorem dX12_p_0 : decode cX12_p 0 = .ok (.aload_n 0, 1) := by decide +kernel
theorem dX12_p_1 : decode cX12_p 1 = .ok (.getfield 61, 3) := by decide +kernel
theorem dX12_p_4 : decode cX12_p 4 = .ok (.bipush 6, 2) := by decide +kernel
theorem dX12_p_6 : decode cX12_p 6 = .ok (.aload_n 0, 1) := by decide +kernel
theorem dX12_p_7 : decode cX12_p 7 = .ok (.getfield 242, 3) := by decide +kernel
theorem dX12_p_10 : decode cX12_p 10 = .ok (.imul, 1) := by decide +kernel
theorem dX12_p_11 : decode cX12_p 11 = .ok (.iload_n 1, 1) := by decide +kernel
theorem dX12_p_12 : decode cX12_p 12 = .ok (.iadd, 1) := by decide +kernel
theorem dX12_p_13 : decode cX12_p 13 = .ok (.iaload, 1) := by decide +kernel
theorem dX12_p_14 : decode cX12_p 14 = .ok (.ireturn, 1) := by decide +kernel
set_option maxRecDepth 100000 in
theorem c_X12_p (l : Launch) (D : q_D) (al : q_Al) (dt : q_Dt) (x0 : Nat) (x1 : Int32) (kx0 : al.1 x0 = 13) (r0 : Int32) (hm : X12_p al dt x0 x1 = some r0) : q_Mt l yX12_p cX12_p 2 (some FieldType.int) 0 0 D al [.ref x0, .int x1] dt 0 (some (.int r0)) dt := by
  refine q_Mt.of (by decide) (Nat.le_of_ble_eq_true rfl) ?_
  intro p e s m args below meth c ls C hargs hW hl
  have hx := C.1
  have hb := C.2.1
  have hown := C.2.2.2.2.2.1
  have hts := C.2.2.2.2.2.2.1
  have hS : va_S (q_A al) s.heap s.heap [] := va_S.rf
  have hl : lv_has ls 2 [(0, .ref x0), (1, .int x1)] := hl
  unfold X12_p at hm
  refine lv_aload_n hx hb dX12_p_0 rfl (lv_at hl 0 rfl) ?_
  refine r_getF C hW (ci := 12) kx0 ff_12_28 cl_12 fl_RX12_61 dX12_p_1 (fun k1000001 => ?_)
  refine lv_bipush (v := 6) hx hb dX12_p_4 (by decide) ?_
  refine lv_aload_n hx hb dX12_p_6 rfl (lv_at hl 0 rfl) ?_
  refine r_getI C hW (ci := 12) kx0 ff_12_18 cl_12 fl_RX12_242 dX12_p_7 ?_
  refine lv_imul hx hb dX12_p_10 ?_
  refine lv_iload_n hx hb dX12_p_11 rfl (lv_at hl 1 rfl) ?_
  refine lv_iadd hx hb dX12_p_12 ?_
  refine r_iald C hW hm k1000001 dX12_p_13 (fun hm => ?_)
  exact e_i C hW hS hm dX12_p_14
theorem dX12_channel_0 : decode cX12_channel 0 = .ok (.iload_n 2, 1) := by decide +kernel
theorem dX12_channel_1 : decode cX12_channel 1 = .ok (.aload_n 0, 1) := by decide +kernel
theorem dX12_channel_2 : decode cX12_channel 2 = .ok (.iload_n 1, 1) := by decide +kernel
theorem dX12_channel_3 : decode cX12_channel 3 = .ok (.invokevirtual 488, 3) := by decide +kernel
theorem dX12_channel_6 : decode cX12_channel 6 = .ok (.irem, 1) := by decide +kernel
theorem dX12_channel_7 : decode cX12_channel 7 = .ok (.istore_n 3, 1) := by decide +kernel
theorem dX12_channel_8 : decode cX12_channel 8 = .ok (.aload_n 0, 1) := by decide +kernel
theorem dX12_channel_9 : decode cX12_channel 9 = .ok (.getfield 64, 3) := by decide +kernel
theorem dX12_channel_12 : decode cX12_channel 12 = .ok (.bipush 6, 2) := by decide +kernel
theorem dX12_channel_14 : decode cX12_channel 14 = .ok (.aload_n 0, 1) := by decide +kernel
theorem dX12_channel_15 : decode cX12_channel 15 = .ok (.getfield 242, 3) := by decide +kernel
theorem dX12_channel_18 : decode cX12_channel 18 = .ok (.imul, 1) := by decide +kernel
theorem dX12_channel_19 : decode cX12_channel 19 = .ok (.iload_n 1, 1) := by decide +kernel
theorem dX12_channel_20 : decode cX12_channel 20 = .ok (.iadd, 1) := by decide +kernel
theorem dX12_channel_21 : decode cX12_channel 21 = .ok (.iaload, 1) := by decide +kernel
theorem dX12_channel_22 : decode cX12_channel 22 = .ok (.iload_n 3, 1) := by decide +kernel
theorem dX12_channel_23 : decode cX12_channel 23 = .ok (.imul, 1) := by decide +kernel
theorem dX12_channel_24 : decode cX12_channel 24 = .ok (.iload_n 3, 1) := by decide +kernel
theorem dX12_channel_25 : decode cX12_channel 25 = .ok (.imul, 1) := by decide +kernel
theorem dX12_channel_26 : decode cX12_channel 26 = .ok (.aload_n 0, 1) := by decide +kernel
theorem dX12_channel_27 : decode cX12_channel 27 = .ok (.getfield 67, 3) := by decide +kernel
theorem dX12_channel_30 : decode cX12_channel 30 = .ok (.bipush 6, 2) := by decide +kernel
theorem dX12_channel_32 : decode cX12_channel 32 = .ok (.aload_n 0, 1) := by decide +kernel
theorem dX12_channel_33 : decode cX12_channel 33 = .ok (.getfield 242, 3) := by decide +kernel
theorem dX12_channel_36 : decode cX12_channel 36 = .ok (.imul, 1) := by decide +kernel
theorem dX12_channel_37 : decode cX12_channel 37 = .ok (.iload_n 1, 1) := by decide +kernel
theorem dX12_channel_38 : decode cX12_channel 38 = .ok (.iadd, 1) := by decide +kernel
theorem dX12_channel_39 : decode cX12_channel 39 = .ok (.iaload, 1) := by decide +kernel
theorem dX12_channel_40 : decode cX12_channel 40 = .ok (.iload_n 3, 1) := by decide +kernel
theorem dX12_channel_41 : decode cX12_channel 41 = .ok (.imul, 1) := by decide +kernel
theorem dX12_channel_42 : decode cX12_channel 42 = .ok (.iadd, 1) := by decide +kernel
theorem dX12_channel_43 : decode cX12_channel 43 = .ok (.aload_n 0, 1) := by decide +kernel
theorem dX12_channel_44 : decode cX12_channel 44 = .ok (.iload_n 1, 1) := by decide +kernel
theorem dX12_channel_45 : decode cX12_channel 45 = .ok (.invokevirtual 488, 3) := by decide +kernel
theorem dX12_channel_48 : decode cX12_channel 48 = .ok (.irem, 1) := by decide +kernel
theorem dX12_channel_49 : decode cX12_channel 49 = .ok (.ireturn, 1) := by decide +kernel
set_option maxRecDepth 100000 in
theorem c_X12_channel (l : Launch) (D : q_D) (al : q_Al) (dt : q_Dt) (x0 : Nat) (x1 : Int32) (x2 : Int32) (kx0 : al.1 x0 = 13) (r0 : Int32) (hm : X12_channel al dt x0 x1 x2 = some r0) : q_Mt l yX12_channel cX12_channel 4 (some FieldType.int) 1 21 D al [.ref x0, .int x1, .int x2] dt 0 (some (.int r0)) dt := by
  refine q_Mt.of (by decide) (Nat.le_of_ble_eq_true rfl) ?_
  intro p e s m args below meth c ls C hargs hW hl
  have hx := C.1
  have hb := C.2.1
  have hown := C.2.2.2.2.2.1
  have hts := C.2.2.2.2.2.2.1
  have hS : va_S (q_A al) s.heap s.heap [] := va_S.rf
  have hl : lv_has ls 4 [(0, .ref x0), (1, .int x1), (2, .int x2)] := hl
  unfold X12_channel at hm
  refine lv_iload_n hx hb dX12_channel_0 rfl (lv_at hl 2 rfl) ?_
  refine lv_aload_n hx hb dX12_channel_1 rfl (lv_at hl 0 rfl) ?_
  refine lv_iload_n hx hb dX12_channel_2 rfl (lv_at hl 1 rfl) ?_
  obtain ⟨v1000002, hc1000001, hm⟩ := q_b1i hm
  refine q_callV C hW hS (As := [.int x1]) (rest := [.int x2]) (st1 := [.int v1000002, .int x2]) (c_X12_p l D al dt x0 x1 kx0 v1000002 hc1000001) yl_X12_p vl_X12_p ml_RX12_488 (ci := 12) rfl kx0 (by decide) rfl ⟨Nat.le_of_ble_eq_true rfl, Nat.le_of_ble_eq_true rfl⟩ hl rfl (Nat.le_of_ble_eq_true rfl) dX12_channel_3 ⟨Nat.le_refl _, Nat.le_refl _⟩ rfl (fun H locs k1000003 hW hS => ?_)
  obtain ⟨c1000004, hm⟩ := q_ini hm
  refine lv_irem hx hb dX12_channel_6 c1000004 ?_
  refine lv_istore_n (i := 3) (lv' := [(3, .int (q_ir x2 v1000002)), (0, .ref x0), (1, .int x1), (2, .int x2)]) hx hb dX12_channel_7 rfl hl (by decide) rfl (fun ls hl => ?_)
  refine lv_aload_n hx hb dX12_channel_8 rfl (lv_at hl 1 rfl) ?_
  refine r_getF C hW (ci := 12) kx0 ff_12_29 cl_12 fl_RX12_64 dX12_channel_9 (fun k1000005 => ?_)
  refine lv_bipush (v := 6) hx hb dX12_channel_12 (by decide) ?_
  refine lv_aload_n hx hb dX12_channel_14 rfl (lv_at hl 1 rfl) ?_
  refine r_getI C hW (ci := 12) kx0 ff_12_18 cl_12 fl_RX12_242 dX12_channel_15 ?_
  refine lv_imul hx hb dX12_channel_18 ?_
  refine lv_iload_n hx hb dX12_channel_19 rfl (lv_at hl 2 rfl) ?_
  refine lv_iadd hx hb dX12_channel_20 ?_
  refine r_iald C hW hm k1000005 dX12_channel_21 (fun hm => ?_)
  refine lv_iload_n hx hb dX12_channel_22 rfl (lv_at hl 0 rfl) ?_
  refine lv_imul hx hb dX12_channel_23 ?_
  refine lv_iload_n hx hb dX12_channel_24 rfl (lv_at hl 0 rfl) ?_
  refine lv_imul hx hb dX12_channel_25 ?_
  refine lv_aload_n hx hb dX12_channel_26 rfl (lv_at hl 1 rfl) ?_
  refine r_getF C hW (ci := 12) kx0 ff_12_30 cl_12 fl_RX12_67 dX12_channel_27 (fun k1000006 => ?_)
  refine lv_bipush (v := 6) hx hb dX12_channel_30 (by decide) ?_
  refine lv_aload_n hx hb dX12_channel_32 rfl (lv_at hl 1 rfl) ?_
  refine r_getI C hW (ci := 12) kx0 ff_12_18 cl_12 fl_RX12_242 dX12_channel_33 ?_
  refine lv_imul hx hb dX12_channel_36 ?_
  refine lv_iload_n hx hb dX12_channel_37 rfl (lv_at hl 2 rfl) ?_
  refine lv_iadd hx hb dX12_channel_38 ?_
  refine r_iald C hW hm k1000006 dX12_channel_39 (fun hm => ?_)
  refine lv_iload_n hx hb dX12_channel_40 rfl (lv_at hl 0 rfl) ?_
  refine lv_imul hx hb dX12_channel_41 ?_
  refine lv_iadd hx hb dX12_channel_42 ?_
  refine lv_aload_n hx hb dX12_channel_43 rfl (lv_at hl 1 rfl) ?_
  refine lv_iload_n hx hb dX12_channel_44 rfl (lv_at hl 2 rfl) ?_
  obtain ⟨v1000008, hc1000007, hm⟩ := q_b1i hm
  refine q_callV C hW hS (As := [.int x1]) (rest := [.int ((((dt.1 (al.2.2 x0 29) (Int32.toNatClampNeg ((6 * (dt.1 x0 18)) + x1))) * (q_ir x2 v1000002)) * (q_ir x2 v1000002)) + ((dt.1 (al.2.2 x0 30) (Int32.toNatClampNeg ((6 * (dt.1 x0 18)) + x1))) * (q_ir x2 v1000002)))]) (st1 := [.int v1000008, .int ((((dt.1 (al.2.2 x0 29) (Int32.toNatClampNeg ((6 * (dt.1 x0 18)) + x1))) * (q_ir x2 v1000002)) * (q_ir x2 v1000002)) + ((dt.1 (al.2.2 x0 30) (Int32.toNatClampNeg ((6 * (dt.1 x0 18)) + x1))) * (q_ir x2 v1000002)))]) (c_X12_p l D al dt x0 x1 kx0 v1000008 hc1000007) yl_X12_p vl_X12_p ml_RX12_488 (ci := 12) rfl kx0 (by decide) rfl ⟨Nat.le_of_ble_eq_true rfl, Nat.le_of_ble_eq_true rfl⟩ hl rfl (Nat.le_of_ble_eq_true rfl) dX12_channel_45 ⟨Nat.le_refl _, Nat.le_refl _⟩ rfl (fun H locs k1000009 hW hS => ?_)
  obtain ⟨c1000010, hm⟩ := q_ini hm
  refine lv_irem hx hb dX12_channel_48 c1000010 ?_
  exact e_i C hW hS hm dX12_channel_49
theorem dX12_hop_0 : decode cX12_hop 0 = .ok (.aload_n 0, 1) := by decide +kernel
theorem dX12_hop_1 : decode cX12_hop 1 = .ok (.iload_n 1, 1) := by decide +kernel
theorem dX12_hop_2 : decode cX12_hop 2 = .ok (.invokevirtual 491, 3) := by decide +kernel
theorem dX12_hop_5 : decode cX12_hop 5 = .ok (.ifCond .eq 16, 3) := by decide +kernel
theorem dX12_hop_8 : decode cX12_hop 8 = .ok (.iload_n 2, 1) := by decide +kernel
theorem dX12_hop_9 : decode cX12_hop 9 = .ok (.ifCond .lt 12, 3) := by decide +kernel
theorem dX12_hop_12 : decode cX12_hop 12 = .ok (.aload_n 0, 1) := by decide +kernel
theorem dX12_hop_13 : decode cX12_hop 13 = .ok (.iload_n 1, 1) := by decide +kernel
theorem dX12_hop_14 : decode cX12_hop 14 = .ok (.iload_n 2, 1) := by decide +kernel
theorem dX12_hop_15 : decode cX12_hop 15 = .ok (.invokevirtual 494, 3) := by decide +kernel
theorem dX12_hop_18 : decode cX12_hop 18 = .ok (.goto 4, 3) := by decide +kernel
theorem dX12_hop_21 : decode cX12_hop 21 = .ok (.iconst (-1), 1) := by decide +kernel
theorem dX12_hop_22 : decode cX12_hop 22 = .ok (.ireturn, 1) := by decide +kernel
set_option maxRecDepth 100000 in
theorem c_X12_hop (l : Launch) (D : q_D) (al : q_Al) (dt : q_Dt) (x0 : Nat) (x1 : Int32) (x2 : Int32) (kx0 : al.1 x0 = 13) (r0 : Int32) (hm : X12_hop al dt x0 x1 x2 = some r0) : q_Mt l yX12_hop cX12_hop 3 (some FieldType.int) 2 44 D al [.ref x0, .int x1, .int x2] dt 0 (some (.int r0)) dt := by
  refine q_Mt.of (by decide) (Nat.le_of_ble_eq_true rfl) ?_
  intro p e s m args below meth c ls C hargs hW hl
  have hx := C.1
  have hb := C.2.1
  have hown := C.2.2.2.2.2.1
  have hts := C.2.2.2.2.2.2.1
  have hS : va_S (q_A al) s.heap s.heap [] := va_S.rf
  have hl : lv_has ls 3 [(0, .ref x0), (1, .int x1), (2, .int x2)] := hl
  unfold X12_hop at hm
  refine lv_aload_n hx hb dX12_hop_0 rfl (lv_at hl 0 rfl) ?_
  refine lv_iload_n hx hb dX12_hop_1 rfl (lv_at hl 1 rfl) ?_
  obtain ⟨v1000002, hc1000001, hm⟩ := q_b1i hm
  refine q_callV C hW hS (As := [.int x1]) (rest := []) (st1 := [.int v1000002]) (c_X12_isHop l D al dt x0 x1 kx0 v1000002 hc1000001) yl_X12_isHop vl_X12_isHop ml_RX12_491 (ci := 12) rfl kx0 (by decide) rfl ⟨Nat.le_of_ble_eq_true rfl, Nat.le_of_ble_eq_true rfl⟩ hl rfl (Nat.le_of_ble_eq_true rfl) dX12_hop_2 ⟨Nat.le_refl _, Nat.le_refl _⟩ rfl (fun H locs k1000003 hW hS => ?_)
  refine q_ifc hm (fun c1000004 hm => ?_) (fun c1000004 hm => ?_)
  · refine lv_if_eq (tgt := 21) hx hb dX12_hop_5 (by decide) (fun _ => ?_) (fun h => absurd c1000004 h)
    refine lv_iconst (v := (-1)) hx hb dX12_hop_21 (by decide) ?_
    exact e_i C hW hS hm dX12_hop_22
  refine lv_if_eq (tgt := 21) hx hb dX12_hop_5 (by decide) (fun h => absurd h c1000004) (fun _ => ?_)
  refine lv_iload_n hx hb dX12_hop_8 rfl (lv_at hl 2 rfl) ?_
  refine q_ifc hm (fun c1000005 hm => ?_) (fun c1000005 hm => ?_)
  · refine lv_if_lt (tgt := 21) hx hb dX12_hop_9 (by decide) (fun _ => ?_) (fun h => absurd c1000005 h)
    refine lv_iconst (v := (-1)) hx hb dX12_hop_21 (by decide) ?_
    exact e_i C hW hS hm dX12_hop_22
  refine lv_if_lt (tgt := 21) hx hb dX12_hop_9 (by decide) (fun h => absurd h c1000005) (fun _ => ?_)
  refine lv_aload_n hx hb dX12_hop_12 rfl (lv_at hl 0 rfl) ?_
  refine lv_iload_n hx hb dX12_hop_13 rfl (lv_at hl 1 rfl) ?_
  refine lv_iload_n hx hb dX12_hop_14 rfl (lv_at hl 2 rfl) ?_
  obtain ⟨v1000007, hc1000006, hm⟩ := q_b1i hm
  refine q_callV C hW hS (As := [.int x1, .int x2]) (rest := []) (st1 := [.int v1000007]) (c_X12_channel l D al dt x0 x1 x2 kx0 v1000007 hc1000006) yl_X12_channel vl_X12_channel ml_RX12_494 (ci := 12) rfl kx0 (by decide) rfl ⟨Nat.le_of_ble_eq_true rfl, Nat.le_of_ble_eq_true rfl⟩ hl rfl (Nat.le_of_ble_eq_true rfl) dX12_hop_15 ⟨Nat.le_refl _, Nat.le_refl _⟩ rfl (fun H locs k1000008 hW hS => ?_)
  refine lv_goto (tgt := 22) hx hb dX12_hop_18 (by decide) ?_
  exact e_i C hW hS hm dX12_hop_22
theorem dX12_hitsAt_0 : decode cX12_hitsAt 0 = .ok (.iconst 0, 1) := by decide +kernel
theorem dX12_hitsAt_1 : decode cX12_hitsAt 1 = .ok (.istore 4, 2) := by decide +kernel
theorem dX12_hitsAt_3 : decode cX12_hitsAt 3 = .ok (.iconst 0, 1) := by decide +kernel
theorem dX12_hitsAt_4 : decode cX12_hitsAt 4 = .ok (.istore 5, 2) := by decide +kernel
theorem dX12_hitsAt_6 : decode cX12_hitsAt 6 = .ok (.iload 5, 2) := by decide +kernel
theorem dX12_hitsAt_8 : decode cX12_hitsAt 8 = .ok (.aload_n 0, 1) := by decide +kernel
theorem dX12_hitsAt_9 : decode cX12_hitsAt 9 = .ok (.iload_n 1, 1) := by decide +kernel
theorem dX12_hitsAt_10 : decode cX12_hitsAt 10 = .ok (.invokevirtual 488, 3) := by decide +kernel
theorem dX12_hitsAt_13 : decode cX12_hitsAt 13 = .ok (.if_icmp .ge 31, 3) := by decide +kernel
theorem dX12_hitsAt_16 : decode cX12_hitsAt 16 = .ok (.aload_n 0, 1) := by decide +kernel
theorem dX12_hitsAt_17 : decode cX12_hitsAt 17 = .ok (.iload_n 1, 1) := by decide +kernel
theorem dX12_hitsAt_18 : decode cX12_hitsAt 18 = .ok (.iload 5, 2) := by decide +kernel
theorem dX12_hitsAt_20 : decode cX12_hitsAt 20 = .ok (.invokevirtual 494, 3) := by decide +kernel
theorem dX12_hitsAt_23 : decode cX12_hitsAt 23 = .ok (.aload_n 0, 1) := by decide +kernel
theorem dX12_hitsAt_24 : decode cX12_hitsAt 24 = .ok (.iload_n 2, 1) := by decide +kernel
theorem dX12_hitsAt_25 : decode cX12_hitsAt 25 = .ok (.iload 5, 2) := by decide +kernel
theorem dX12_hitsAt_27 : decode cX12_hitsAt 27 = .ok (.iload_n 3, 1) := by decide +kernel
theorem dX12_hitsAt_28 : decode cX12_hitsAt 28 = .ok (.iadd, 1) := by decide +kernel
theorem dX12_hitsAt_29 : decode cX12_hitsAt 29 = .ok (.invokevirtual 494, 3) := by decide +kernel
theorem dX12_hitsAt_32 : decode cX12_hitsAt 32 = .ok (.if_icmp .ne 6, 3) := by decide +kernel
theorem dX12_hitsAt_35 : decode cX12_hitsAt 35 = .ok (.iinc 4 1, 3) := by decide +kernel
theorem dX12_hitsAt_38 : decode cX12_hitsAt 38 = .ok (.iinc 5 1, 3) := by decide +kernel
theorem dX12_hitsAt_41 : decode cX12_hitsAt 41 = .ok (.goto (-35), 3) := by decide +kernel
theorem dX12_hitsAt_44 : decode cX12_hitsAt 44 = .ok (.iload 4, 2) := by decide +kernel
theorem dX12_hitsAt_46 : decode cX12_hitsAt 46 = .ok (.ireturn, 1) := by decide +kernel
set_option maxRecDepth 100000 in
theorem c_X12_hitsAt (l : Launch) (D : q_D) (al : q_Al) (dt : q_Dt) (x0 : Nat) (x1 : Int32) (x2 : Int32) (x3 : Int32) (kx0 : al.1 x0 = 13) (r0 : Int32) (hm : X12_hitsAt al dt x0 x1 x2 x3 = some r0) : q_Mt l yX12_hitsAt cX12_hitsAt 6 (some FieldType.int) 2 44 D al [.ref x0, .int x1, .int x2, .int x3] dt 0 (some (.int r0)) dt := by
  refine q_Mt.of (by decide) (Nat.le_of_ble_eq_true rfl) ?_
  intro p e s m args below meth c ls C hargs hW hl
  have hx := C.1
  have hb := C.2.1
  have hown := C.2.2.2.2.2.1
  have hts := C.2.2.2.2.2.2.1
  have hS : va_S (q_A al) s.heap s.heap [] := va_S.rf
  have hl : lv_has ls 6 [(0, .ref x0), (1, .int x1), (2, .int x2), (3, .int x3)] := hl
  unfold X12_hitsAt at hm
  have hB6 : ∀ (x0_6 : Nat) (x1_6 : Int32) (x2_6 : Int32) (x3_6 : Int32) (kx0_6 : al.1 x0_6 = 13) (n_6 : Nat) (x4_6 : Int32) (x5_6 : Int32) (H : Heap) (locs : List Loc) (ls : Array Slot) (hm : X12_hitsAt_b6 al dt x0_6 x1_6 x2_6 x3_6 n_6 x4_6 x5_6 = some r0) (hW : q_W D al dt H) (hS : va_S (q_A al) s.heap H locs) (hl : lv_has ls 6 [(0, .ref x0_6), (1, .int x1_6), (2, .int x2_6), (3, .int x3_6), (4, .int x4_6), (5, .int x5_6)]), W p l e { frames := 2, cells := 0, slots := 0, locals := 44 } s m args below meth c H locs 0 0 (MQ below (q_Q (some (.int r0)) (fun H => q_W D al dt H ∧ q_Rk al 0 (some (.int r0))) (q_A al)) args s 0 0 (q_A al)) (F0 m 6 ls []) := by
    intro x0_6 x1_6 x2_6 x3_6 kx0_6
    intro n_6
    induction n_6 with
    | zero => intro x4_6 x5_6 H locs ls hm hW hS hl; cases hm
    | succ n_6 ih6 =>
      have hB38 : ∀ (x4_38 : Int32) (x5_38 : Int32) (H : Heap) (locs : List Loc) (ls : Array Slot) (hm : X12_hitsAt_b38 al dt (X12_hitsAt_b6 al dt x0_6 x1_6 x2_6 x3_6 n_6) x0_6 x1_6 x2_6 x3_6 x4_38 x5_38 = some r0) (hW : q_W D al dt H) (hS : va_S (q_A al) s.heap H locs) (hl : lv_has ls 6 [(0, .ref x0_6), (1, .int x1_6), (2, .int x2_6), (3, .int x3_6), (4, .int x4_38), (5, .int x5_38)]), W p l e { frames := 2, cells := 0, slots := 0, locals := 44 } s m args below meth c H locs 0 0 (MQ below (q_Q (some (.int r0)) (fun H => q_W D al dt H ∧ q_Rk al 0 (some (.int r0))) (q_A al)) args s 0 0 (q_A al)) (F0 m 38 ls []) := by
        intro x4_38 x5_38 H locs ls hm hW hS hl
        unfold X12_hitsAt_b38 at hm
        refine lv_iinc (v := (x5_38 + 1)) (lv' := [(5, .int (x5_38 + 1)), (0, .ref x0_6), (1, .int x1_6), (2, .int x2_6), (3, .int x3_6), (4, .int x4_38)]) hx hb dX12_hitsAt_38 hl (k := 5) rfl rfl (by decide) rfl (fun ls hl => ?_)
        refine lv_goto (tgt := 6) hx hb dX12_hitsAt_41 (by decide) ?_
        exact ih6 x4_38 (x5_38 + 1) _ _ _ hm hW hS (lv_sub hl [1, 2, 3, 4, 5, 0] rfl)
      intro x4_6 x5_6 H locs ls hm hW hS hl
      rw [X12_hitsAt_b6] at hm
      refine lv_iload hx hb dX12_hitsAt_6 (lv_at hl 5 rfl) ?_
      refine lv_aload_n hx hb dX12_hitsAt_8 rfl (lv_at hl 0 rfl) ?_
      refine lv_iload_n hx hb dX12_hitsAt_9 rfl (lv_at hl 1 rfl) ?_
      obtain ⟨v6002, hc6001, hm⟩ := q_b1i hm
      refine q_callV C hW hS (As := [.int x1_6]) (rest := [.int x5_6]) (st1 := [.int v6002, .int x5_6]) (c_X12_p l D al dt x0_6 x1_6 kx0_6 v6002 hc6001) yl_X12_p vl_X12_p ml_RX12_488 (ci := 12) rfl kx0_6 (by decide) rfl ⟨Nat.le_of_ble_eq_true rfl, Nat.le_of_ble_eq_true rfl⟩ hl rfl (Nat.le_of_ble_eq_true rfl) dX12_hitsAt_10 ⟨Nat.le_refl _, Nat.le_refl _⟩ rfl (fun H locs k6003 hW hS => ?_)
      refine q_ifc hm (fun c6004 hm => ?_) (fun c6004 hm => ?_)
      · refine lv_icmp_ge (tgt := 44) hx hb dX12_hitsAt_13 (by decide) (fun _ => ?_) (fun h => absurd c6004 h)
        refine lv_iload hx hb dX12_hitsAt_44 (lv_at hl 4 rfl) ?_
        exact e_i C hW hS hm dX12_hitsAt_46
      refine lv_icmp_ge (tgt := 44) hx hb dX12_hitsAt_13 (by decide) (fun h => absurd h c6004) (fun _ => ?_)
      refine lv_aload_n hx hb dX12_hitsAt_16 rfl (lv_at hl 0 rfl) ?_
      refine lv_iload_n hx hb dX12_hitsAt_17 rfl (lv_at hl 1 rfl) ?_
      refine lv_iload hx hb dX12_hitsAt_18 (lv_at hl 5 rfl) ?_
      obtain ⟨v6006, hc6005, hm⟩ := q_b1i hm
      refine q_callV C hW hS (As := [.int x1_6, .int x5_6]) (rest := []) (st1 := [.int v6006]) (c_X12_channel l D al dt x0_6 x1_6 x5_6 kx0_6 v6006 hc6005) yl_X12_channel vl_X12_channel ml_RX12_494 (ci := 12) rfl kx0_6 (by decide) rfl ⟨Nat.le_of_ble_eq_true rfl, Nat.le_of_ble_eq_true rfl⟩ hl rfl (Nat.le_of_ble_eq_true rfl) dX12_hitsAt_20 ⟨Nat.le_refl _, Nat.le_refl _⟩ rfl (fun H locs k6007 hW hS => ?_)
      refine lv_aload_n hx hb dX12_hitsAt_23 rfl (lv_at hl 0 rfl) ?_
      refine lv_iload_n hx hb dX12_hitsAt_24 rfl (lv_at hl 2 rfl) ?_
      refine lv_iload hx hb dX12_hitsAt_25 (lv_at hl 5 rfl) ?_
      refine lv_iload_n hx hb dX12_hitsAt_27 rfl (lv_at hl 3 rfl) ?_
      refine lv_iadd hx hb dX12_hitsAt_28 ?_
      obtain ⟨v6009, hc6008, hm⟩ := q_b1i hm
      refine q_callV C hW hS (As := [.int x2_6, .int (x5_6 + x3_6)]) (rest := [.int v6006]) (st1 := [.int v6009, .int v6006]) (c_X12_channel l D al dt x0_6 x2_6 (x5_6 + x3_6) kx0_6 v6009 hc6008) yl_X12_channel vl_X12_channel ml_RX12_494 (ci := 12) rfl kx0_6 (by decide) rfl ⟨Nat.le_of_ble_eq_true rfl, Nat.le_of_ble_eq_true rfl⟩ hl rfl (Nat.le_of_ble_eq_true rfl) dX12_hitsAt_29 ⟨Nat.le_refl _, Nat.le_refl _⟩ rfl (fun H locs k6010 hW hS => ?_)
      refine q_ifc hm (fun c6011 hm => ?_) (fun c6011 hm => ?_)
      · refine lv_icmp_ne (tgt := 38) hx hb dX12_hitsAt_32 (by decide) (fun h => absurd c6011 h) (fun _ => ?_)
        refine lv_iinc (v := (x4_6 + 1)) (lv' := [(4, .int (x4_6 + 1)), (0, .ref x0_6), (1, .int x1_6), (2, .int x2_6), (3, .int x3_6), (5, .int x5_6)]) hx hb dX12_hitsAt_35 hl (k := 4) rfl rfl (by decide) rfl (fun ls hl => ?_)
        exact hB38 (x4_6 + 1) x5_6 _ _ _ hm hW hS (lv_sub hl [1, 2, 3, 4, 0, 5] rfl)
      refine lv_icmp_ne (tgt := 38) hx hb dX12_hitsAt_32 (by decide) (fun _ => ?_) (fun h => absurd h c6011)
      exact hB38 x4_6 x5_6 _ _ _ hm hW hS (lv_sub hl [0, 1, 2, 3, 4, 5] rfl)
  refine lv_iconst (v := 0) hx hb dX12_hitsAt_0 (by decide) ?_
  refine lv_istore (i := 4) (lv' := [(4, .int 0), (0, .ref x0), (1, .int x1), (2, .int x2), (3, .int x3)]) hx hb dX12_hitsAt_1 hl (by decide) rfl (fun ls hl => ?_)
  refine lv_iconst (v := 0) hx hb dX12_hitsAt_3 (by decide) ?_
  refine lv_istore (i := 5) (lv' := [(5, .int 0), (4, .int 0), (0, .ref x0), (1, .int x1), (2, .int x2), (3, .int x3)]) hx hb dX12_hitsAt_4 hl (by decide) rfl (fun ls hl => ?_)
  exact hB6 x0 x1 x2 x3 kx0 q_FU 0 0 _ _ _ hm hW hS (lv_sub hl [2, 3, 4, 5, 1, 0] rfl)
theorem dX12_areHops_0 : decode cX12_areHops 0 = .ok (.aload_n 0, 1) := by decide +kernel
theorem dX12_areHops_1 : decode cX12_areHops 1 = .ok (.iload_n 1, 1) := by decide +kernel
theorem dX12_areHops_2 : decode cX12_areHops 2 = .ok (.invokevirtual 491, 3) := by decide +kernel
theorem dX12_areHops_5 : decode cX12_areHops 5 = .ok (.ifCond .eq 28, 3) := by decide +kernel
theorem dX12_areHops_8 : decode cX12_areHops 8 = .ok (.aload_n 0, 1) := by decide +kernel
theorem dX12_areHops_9 : decode cX12_areHops 9 = .ok (.iload_n 2, 1) := by decide +kernel
theorem dX12_areHops_10 : decode cX12_areHops 10 = .ok (.invokevirtual 491, 3) := by decide +kernel
theorem dX12_areHops_13 : decode cX12_areHops 13 = .ok (.ifCond .eq 20, 3) := by decide +kernel
theorem dX12_areHops_16 : decode cX12_areHops 16 = .ok (.aload_n 0, 1) := by decide +kernel
theorem dX12_areHops_17 : decode cX12_areHops 17 = .ok (.iload_n 1, 1) := by decide +kernel
theorem dX12_areHops_18 : decode cX12_areHops 18 = .ok (.invokevirtual 488, 3) := by decide +kernel
theorem dX12_areHops_21 : decode cX12_areHops 21 = .ok (.aload_n 0, 1) := by decide +kernel
theorem dX12_areHops_22 : decode cX12_areHops 22 = .ok (.iload_n 2, 1) := by decide +kernel
theorem dX12_areHops_23 : decode cX12_areHops 23 = .ok (.invokevirtual 488, 3) := by decide +kernel
theorem dX12_areHops_26 : decode cX12_areHops 26 = .ok (.if_icmp .ne 7, 3) := by decide +kernel
theorem dX12_areHops_29 : decode cX12_areHops 29 = .ok (.iconst 1, 1) := by decide +kernel
theorem dX12_areHops_30 : decode cX12_areHops 30 = .ok (.goto 4, 3) := by decide +kernel
theorem dX12_areHops_33 : decode cX12_areHops 33 = .ok (.iconst 0, 1) := by decide +kernel
theorem dX12_areHops_34 : decode cX12_areHops 34 = .ok (.ireturn, 1) := by decide +kernel
set_option maxRecDepth 100000 in
theorem c_X12_areHops (l : Launch) (D : q_D) (al : q_Al) (dt : q_Dt) (x0 : Nat) (x1 : Int32) (x2 : Int32) (kx0 : al.1 x0 = 13) (r0 : Int32) (hm : X12_areHops al dt x0 x1 x2 = some r0) : q_Mt l yX12_areHops cX12_areHops 3 (some FieldType.boolean) 2 43 D al [.ref x0, .int x1, .int x2] dt 0 (some (.int r0)) dt := by
  refine q_Mt.of (by decide) (Nat.le_of_ble_eq_true rfl) ?_
  intro p e s m args below meth c ls C hargs hW hl
  have hx := C.1
  have hb := C.2.1
  have hown := C.2.2.2.2.2.1
  have hts := C.2.2.2.2.2.2.1
  have hS : va_S (q_A al) s.heap s.heap [] := va_S.rf
  have hl : lv_has ls 3 [(0, .ref x0), (1, .int x1), (2, .int x2)] := hl
  unfold X12_areHops at hm
  refine lv_aload_n hx hb dX12_areHops_0 rfl (lv_at hl 0 rfl) ?_
  refine lv_iload_n hx hb dX12_areHops_1 rfl (lv_at hl 1 rfl) ?_
  obtain ⟨v1000002, hc1000001, hm⟩ := q_b1i hm
  refine q_callV C hW hS (As := [.int x1]) (rest := []) (st1 := [.int v1000002]) (c_X12_isHop l D al dt x0 x1 kx0 v1000002 hc1000001) yl_X12_isHop vl_X12_isHop ml_RX12_491 (ci := 12) rfl kx0 (by decide) rfl ⟨Nat.le_of_ble_eq_true rfl, Nat.le_of_ble_eq_true rfl⟩ hl rfl (Nat.le_of_ble_eq_true rfl) dX12_areHops_2 ⟨Nat.le_refl _, Nat.le_refl _⟩ rfl (fun H locs k1000003 hW hS => ?_)
  refine q_ifc hm (fun c1000004 hm => ?_) (fun c1000004 hm => ?_)
  · refine lv_if_eq (tgt := 33) hx hb dX12_areHops_5 (by decide) (fun _ => ?_) (fun h => absurd c1000004 h)
    refine lv_iconst (v := 0) hx hb dX12_areHops_33 (by decide) ?_
    exact e_zl C hW hS (Or.inl rfl) hm dX12_areHops_34
  refine lv_if_eq (tgt := 33) hx hb dX12_areHops_5 (by decide) (fun h => absurd h c1000004) (fun _ => ?_)
  refine lv_aload_n hx hb dX12_areHops_8 rfl (lv_at hl 0 rfl) ?_
  refine lv_iload_n hx hb dX12_areHops_9 rfl (lv_at hl 2 rfl) ?_
  obtain ⟨v1000006, hc1000005, hm⟩ := q_b1i hm
  refine q_callV C hW hS (As := [.int x2]) (rest := []) (st1 := [.int v1000006]) (c_X12_isHop l D al dt x0 x2 kx0 v1000006 hc1000005) yl_X12_isHop vl_X12_isHop ml_RX12_491 (ci := 12) rfl kx0 (by decide) rfl ⟨Nat.le_of_ble_eq_true rfl, Nat.le_of_ble_eq_true rfl⟩ hl rfl (Nat.le_of_ble_eq_true rfl) dX12_areHops_10 ⟨Nat.le_refl _, Nat.le_refl _⟩ rfl (fun H locs k1000007 hW hS => ?_)
  refine q_ifc hm (fun c1000008 hm => ?_) (fun c1000008 hm => ?_)
  · refine lv_if_eq (tgt := 33) hx hb dX12_areHops_13 (by decide) (fun _ => ?_) (fun h => absurd c1000008 h)
    refine lv_iconst (v := 0) hx hb dX12_areHops_33 (by decide) ?_
    exact e_zl C hW hS (Or.inl rfl) hm dX12_areHops_34
  refine lv_if_eq (tgt := 33) hx hb dX12_areHops_13 (by decide) (fun h => absurd h c1000008) (fun _ => ?_)
  refine lv_aload_n hx hb dX12_areHops_16 rfl (lv_at hl 0 rfl) ?_
  refine lv_iload_n hx hb dX12_areHops_17 rfl (lv_at hl 1 rfl) ?_
  obtain ⟨v1000010, hc1000009, hm⟩ := q_b1i hm
  refine q_callV C hW hS (As := [.int x1]) (rest := []) (st1 := [.int v1000010]) (c_X12_p l D al dt x0 x1 kx0 v1000010 hc1000009) yl_X12_p vl_X12_p ml_RX12_488 (ci := 12) rfl kx0 (by decide) rfl ⟨Nat.le_of_ble_eq_true rfl, Nat.le_of_ble_eq_true rfl⟩ hl rfl (Nat.le_of_ble_eq_true rfl) dX12_areHops_18 ⟨Nat.le_refl _, Nat.le_refl _⟩ rfl (fun H locs k1000011 hW hS => ?_)
  refine lv_aload_n hx hb dX12_areHops_21 rfl (lv_at hl 0 rfl) ?_
  refine lv_iload_n hx hb dX12_areHops_22 rfl (lv_at hl 2 rfl) ?_
  obtain ⟨v1000013, hc1000012, hm⟩ := q_b1i hm
  refine q_callV C hW hS (As := [.int x2]) (rest := [.int v1000010]) (st1 := [.int v1000013, .int v1000010]) (c_X12_p l D al dt x0 x2 kx0 v1000013 hc1000012) yl_X12_p vl_X12_p ml_RX12_488 (ci := 12) rfl kx0 (by decide) rfl ⟨Nat.le_of_ble_eq_true rfl, Nat.le_of_ble_eq_true rfl⟩ hl rfl (Nat.le_of_ble_eq_true rfl) dX12_areHops_23 ⟨Nat.le_refl _, Nat.le_refl _⟩ rfl (fun H locs k1000014 hW hS => ?_)
  refine q_ifc hm (fun c1000015 hm => ?_) (fun c1000015 hm => ?_)
  · refine lv_icmp_ne (tgt := 33) hx hb dX12_areHops_26 (by decide) (fun h => absurd c1000015 h) (fun _ => ?_)
    refine lv_iconst (v := 1) hx hb dX12_areHops_29 (by decide) ?_
    refine lv_goto (tgt := 34) hx hb dX12_areHops_30 (by decide) ?_
    exact e_zl C hW hS (Or.inr rfl) hm dX12_areHops_34
  refine lv_icmp_ne (tgt := 33) hx hb dX12_areHops_26 (by decide) (fun _ => ?_) (fun h => absurd h c1000015)
  refine lv_iconst (v := 0) hx hb dX12_areHops_33 (by decide) ?_
  exact e_zl C hW hS (Or.inl rfl) hm dX12_areHops_34
theorem dX12_hits_0 : decode cX12_hits 0 = .ok (.aload_n 0, 1) := by decide +kernel
theorem dX12_hits_1 : decode cX12_hits 1 = .ok (.iload_n 1, 1) := by decide +kernel
theorem dX12_hits_2 : decode cX12_hits 2 = .ok (.iload_n 2, 1) := by decide +kernel
theorem dX12_hits_3 : decode cX12_hits 3 = .ok (.invokevirtual 497, 3) := by decide +kernel
theorem dX12_hits_6 : decode cX12_hits 6 = .ok (.ifCond .eq 28, 3) := by decide +kernel
theorem dX12_hits_9 : decode cX12_hits 9 = .ok (.iload_n 3, 1) := by decide +kernel
theorem dX12_hits_10 : decode cX12_hits 10 = .ok (.iconst 0, 1) := by decide +kernel
theorem dX12_hits_11 : decode cX12_hits 11 = .ok (.aload_n 0, 1) := by decide +kernel
theorem dX12_hits_12 : decode cX12_hits 12 = .ok (.iload_n 1, 1) := by decide +kernel
theorem dX12_hits_13 : decode cX12_hits 13 = .ok (.invokevirtual 488, 3) := by decide +kernel
theorem dX12_hits_16 : decode cX12_hits 16 = .ok (.iconst 1, 1) := by decide +kernel
theorem dX12_hits_17 : decode cX12_hits 17 = .ok (.isub, 1) := by decide +kernel
theorem dX12_hits_18 : decode cX12_hits 18 = .ok (.invokestatic 376, 3) := by decide +kernel
theorem dX12_hits_21 : decode cX12_hits 21 = .ok (.ifCond .eq 13, 3) := by decide +kernel
theorem dX12_hits_24 : decode cX12_hits 24 = .ok (.aload_n 0, 1) := by decide +kernel
theorem dX12_hits_25 : decode cX12_hits 25 = .ok (.iload_n 1, 1) := by decide +kernel
theorem dX12_hits_26 : decode cX12_hits 26 = .ok (.iload_n 2, 1) := by decide +kernel
theorem dX12_hits_27 : decode cX12_hits 27 = .ok (.iload_n 3, 1) := by decide +kernel
theorem dX12_hits_28 : decode cX12_hits 28 = .ok (.invokevirtual 500, 3) := by decide +kernel
theorem dX12_hits_31 : decode cX12_hits 31 = .ok (.goto 4, 3) := by decide +kernel
theorem dX12_hits_34 : decode cX12_hits 34 = .ok (.iconst (-1), 1) := by decide +kernel
theorem dX12_hits_35 : decode cX12_hits 35 = .ok (.ireturn, 1) := by decide +kernel
set_option maxRecDepth 100000 in
theorem c_X12_hits (l : Launch) (D : q_D) (al : q_Al) (dt : q_Dt) (x0 : Nat) (x1 : Int32) (x2 : Int32) (x3 : Int32) (kx0 : al.1 x0 = 13) (r0 : Int32) (hm : X12_hits al dt x0 x1 x2 x3 = some r0) : q_Mt l yX12_hits cX12_hits 4 (some FieldType.int) 3 69 D al [.ref x0, .int x1, .int x2, .int x3] dt 0 (some (.int r0)) dt := by
  refine q_Mt.of (by decide) (Nat.le_of_ble_eq_true rfl) ?_
  intro p e s m args below meth c ls C hargs hW hl
  have hx := C.1
  have hb := C.2.1
  have hown := C.2.2.2.2.2.1
  have hts := C.2.2.2.2.2.2.1
  have hS : va_S (q_A al) s.heap s.heap [] := va_S.rf
  have hl : lv_has ls 4 [(0, .ref x0), (1, .int x1), (2, .int x2), (3, .int x3)] := hl
  unfold X12_hits at hm
  refine lv_aload_n hx hb dX12_hits_0 rfl (lv_at hl 0 rfl) ?_
  refine lv_iload_n hx hb dX12_hits_1 rfl (lv_at hl 1 rfl) ?_
  refine lv_iload_n hx hb dX12_hits_2 rfl (lv_at hl 2 rfl) ?_
  obtain ⟨v1000002, hc1000001, hm⟩ := q_b1i hm
  refine q_callV C hW hS (As := [.int x1, .int x2]) (rest := []) (st1 := [.int v1000002]) (c_X12_areHops l D al dt x0 x1 x2 kx0 v1000002 hc1000001) yl_X12_areHops vl_X12_areHops ml_RX12_497 (ci := 12) rfl kx0 (by decide) rfl ⟨Nat.le_of_ble_eq_true rfl, Nat.le_of_ble_eq_true rfl⟩ hl rfl (Nat.le_of_ble_eq_true rfl) dX12_hits_3 ⟨Nat.le_refl _, Nat.le_refl _⟩ rfl (fun H locs k1000003 hW hS => ?_)
  refine q_ifc hm (fun c1000004 hm => ?_) (fun c1000004 hm => ?_)
  · refine lv_if_eq (tgt := 34) hx hb dX12_hits_6 (by decide) (fun _ => ?_) (fun h => absurd c1000004 h)
    refine lv_iconst (v := (-1)) hx hb dX12_hits_34 (by decide) ?_
    exact e_i C hW hS hm dX12_hits_35
  refine lv_if_eq (tgt := 34) hx hb dX12_hits_6 (by decide) (fun h => absurd h c1000004) (fun _ => ?_)
  refine lv_iload_n hx hb dX12_hits_9 rfl (lv_at hl 3 rfl) ?_
  refine lv_iconst (v := 0) hx hb dX12_hits_10 (by decide) ?_
  refine lv_aload_n hx hb dX12_hits_11 rfl (lv_at hl 0 rfl) ?_
  refine lv_iload_n hx hb dX12_hits_12 rfl (lv_at hl 1 rfl) ?_
  obtain ⟨v1000006, hc1000005, hm⟩ := q_b1i hm
  refine q_callV C hW hS (As := [.int x1]) (rest := [.int 0, .int x3]) (st1 := [.int v1000006, .int 0, .int x3]) (c_X12_p l D al dt x0 x1 kx0 v1000006 hc1000005) yl_X12_p vl_X12_p ml_RX12_488 (ci := 12) rfl kx0 (by decide) rfl ⟨Nat.le_of_ble_eq_true rfl, Nat.le_of_ble_eq_true rfl⟩ hl rfl (Nat.le_of_ble_eq_true rfl) dX12_hits_13 ⟨Nat.le_refl _, Nat.le_refl _⟩ rfl (fun H locs k1000007 hW hS => ?_)
  refine lv_iconst (v := 1) hx hb dX12_hits_16 (by decide) ?_
  refine lv_isub hx hb dX12_hits_17 ?_
  obtain ⟨v1000009, hc1000008, hm⟩ := q_b1i hm
  refine q_callS C hW hS (As := [.int x3, .int 0, .int (v1000006 - 1)]) (rest := []) (st1 := [.int v1000009]) (c_X12_in l D al dt x3 0 (v1000006 - 1) v1000009 hc1000008) yl_X12_in sl_X12_in ml_RX12_376 rfl ⟨Nat.le_of_ble_eq_true rfl, Nat.le_of_ble_eq_true rfl⟩ hl rfl (Nat.le_of_ble_eq_true rfl) dX12_hits_18 ⟨Nat.le_refl _, Nat.le_refl _⟩ rfl (fun H locs k1000010 hW hS => ?_)
  refine q_ifc hm (fun c1000011 hm => ?_) (fun c1000011 hm => ?_)
  · refine lv_if_eq (tgt := 34) hx hb dX12_hits_21 (by decide) (fun _ => ?_) (fun h => absurd c1000011 h)
    refine lv_iconst (v := (-1)) hx hb dX12_hits_34 (by decide) ?_
    exact e_i C hW hS hm dX12_hits_35
  refine lv_if_eq (tgt := 34) hx hb dX12_hits_21 (by decide) (fun h => absurd h c1000011) (fun _ => ?_)
  refine lv_aload_n hx hb dX12_hits_24 rfl (lv_at hl 0 rfl) ?_
  refine lv_iload_n hx hb dX12_hits_25 rfl (lv_at hl 1 rfl) ?_
  refine lv_iload_n hx hb dX12_hits_26 rfl (lv_at hl 2 rfl) ?_
  refine lv_iload_n hx hb dX12_hits_27 rfl (lv_at hl 3 rfl) ?_
  obtain ⟨v1000013, hc1000012, hm⟩ := q_b1i hm
  refine q_callV C hW hS (As := [.int x1, .int x2, .int x3]) (rest := []) (st1 := [.int v1000013]) (c_X12_hitsAt l D al dt x0 x1 x2 x3 kx0 v1000013 hc1000012) yl_X12_hitsAt vl_X12_hitsAt ml_RX12_500 (ci := 12) rfl kx0 (by decide) rfl ⟨Nat.le_of_ble_eq_true rfl, Nat.le_of_ble_eq_true rfl⟩ hl rfl (Nat.le_of_ble_eq_true rfl) dX12_hits_28 ⟨Nat.le_refl _, Nat.le_refl _⟩ rfl (fun H locs k1000014 hW hS => ?_)
  refine lv_goto (tgt := 35) hx hb dX12_hits_31 (by decide) ?_
  exact e_i C hW hS hm dX12_hits_35
theorem dX12_worstHits_0 : decode cX12_worstHits 0 = .ok (.aload_n 0, 1) := by decide +kernel
theorem dX12_worstHits_1 : decode cX12_worstHits 1 = .ok (.iload_n 1, 1) := by decide +kernel
theorem dX12_worstHits_2 : decode cX12_worstHits 2 = .ok (.iload_n 2, 1) := by decide +kernel
theorem dX12_worstHits_3 : decode cX12_worstHits 3 = .ok (.invokevirtual 497, 3) := by decide +kernel
theorem dX12_worstHits_6 : decode cX12_worstHits 6 = .ok (.ifCond .ne 5, 3) := by decide +kernel
theorem dX12_worstHits_9 : decode cX12_worstHits 9 = .ok (.iconst (-1), 1) := by decide +kernel
theorem dX12_worstHits_10 : decode cX12_worstHits 10 = .ok (.ireturn, 1) := by decide +kernel
theorem dX12_worstHits_11 : decode cX12_worstHits 11 = .ok (.iconst 0, 1) := by decide +kernel
theorem dX12_worstHits_12 : decode cX12_worstHits 12 = .ok (.istore_n 3, 1) := by decide +kernel
theorem dX12_worstHits_13 : decode cX12_worstHits 13 = .ok (.iload_n 1, 1) := by decide +kernel
theorem dX12_worstHits_14 : decode cX12_worstHits 14 = .ok (.iload_n 2, 1) := by decide +kernel
theorem dX12_worstHits_15 : decode cX12_worstHits 15 = .ok (.if_icmp .ne 7, 3) := by decide +kernel
theorem dX12_worstHits_18 : decode cX12_worstHits 18 = .ok (.iconst 1, 1) := by decide +kernel
theorem dX12_worstHits_19 : decode cX12_worstHits 19 = .ok (.goto 4, 3) := by decide +kernel
theorem dX12_worstHits_22 : decode cX12_worstHits 22 = .ok (.iconst 0, 1) := by decide +kernel
theorem dX12_worstHits_23 : decode cX12_worstHits 23 = .ok (.istore 4, 2) := by decide +kernel
theorem dX12_worstHits_25 : decode cX12_worstHits 25 = .ok (.iload 4, 2) := by decide +kernel
theorem dX12_worstHits_27 : decode cX12_worstHits 27 = .ok (.aload_n 0, 1) := by decide +kernel
theorem dX12_worstHits_28 : decode cX12_worstHits 28 = .ok (.iload_n 1, 1) := by decide +kernel
theorem dX12_worstHits_29 : decode cX12_worstHits 29 = .ok (.invokevirtual 488, 3) := by decide +kernel
theorem dX12_worstHits_32 : decode cX12_worstHits 32 = .ok (.if_icmp .ge 30, 3) := by decide +kernel
theorem dX12_worstHits_35 : decode cX12_worstHits 35 = .ok (.aload_n 0, 1) := by decide +kernel
theorem dX12_worstHits_36 : decode cX12_worstHits 36 = .ok (.iload_n 1, 1) := by decide +kernel
theorem dX12_worstHits_37 : decode cX12_worstHits 37 = .ok (.iload_n 2, 1) := by decide +kernel
theorem dX12_worstHits_38 : decode cX12_worstHits 38 = .ok (.iload 4, 2) := by decide +kernel
theorem dX12_worstHits_40 : decode cX12_worstHits 40 = .ok (.invokevirtual 500, 3) := by decide +kernel
theorem dX12_worstHits_43 : decode cX12_worstHits 43 = .ok (.iload_n 3, 1) := by decide +kernel
theorem dX12_worstHits_44 : decode cX12_worstHits 44 = .ok (.if_icmp .le 12, 3) := by decide +kernel
theorem dX12_worstHits_47 : decode cX12_worstHits 47 = .ok (.aload_n 0, 1) := by decide +kernel
theorem dX12_worstHits_48 : decode cX12_worstHits 48 = .ok (.iload_n 1, 1) := by decide +kernel
theorem dX12_worstHits_49 : decode cX12_worstHits 49 = .ok (.iload_n 2, 1) := by decide +kernel
theorem dX12_worstHits_50 : decode cX12_worstHits 50 = .ok (.iload 4, 2) := by decide +kernel
theorem dX12_worstHits_52 : decode cX12_worstHits 52 = .ok (.invokevirtual 500, 3) := by decide +kernel
theorem dX12_worstHits_55 : decode cX12_worstHits 55 = .ok (.istore_n 3, 1) := by decide +kernel
theorem dX12_worstHits_56 : decode cX12_worstHits 56 = .ok (.iinc 4 1, 3) := by decide +kernel
theorem dX12_worstHits_59 : decode cX12_worstHits 59 = .ok (.goto (-34), 3) := by decide +kernel
theorem dX12_worstHits_62 : decode cX12_worstHits 62 = .ok (.iload_n 3, 1) := by decide +kernel
theorem dX12_worstHits_63 : decode cX12_worstHits 63 = .ok (.ireturn, 1) := by decide +kernel
set_option maxRecDepth 100000 in
theorem c_X12_worstHits (l : Launch) (D : q_D) (al : q_Al) (dt : q_Dt) (x0 : Nat) (x1 : Int32) (x2 : Int32) (kx0 : al.1 x0 = 13) (r0 : Int32) (hm : X12_worstHits al dt x0 x1 x2 = some r0) : q_Mt l yX12_worstHits cX12_worstHits 5 (some FieldType.int) 3 69 D al [.ref x0, .int x1, .int x2] dt 0 (some (.int r0)) dt := by
  refine q_Mt.of (by decide) (Nat.le_of_ble_eq_true rfl) ?_
  intro p e s m args below meth c ls C hargs hW hl
  have hx := C.1
  have hb := C.2.1
  have hown := C.2.2.2.2.2.1
  have hts := C.2.2.2.2.2.2.1
  have hS : va_S (q_A al) s.heap s.heap [] := va_S.rf
  have hl : lv_has ls 5 [(0, .ref x0), (1, .int x1), (2, .int x2)] := hl
  unfold X12_worstHits at hm
  have hB25 : ∀ (x0_25 : Nat) (x1_25 : Int32) (x2_25 : Int32) (kx0_25 : al.1 x0_25 = 13) (n_25 : Nat) (x3_25 : Int32) (x4_25 : Int32) (H : Heap) (locs : List Loc) (ls : Array Slot) (hm : X12_worstHits_b25 al dt x0_25 x1_25 x2_25 n_25 x3_25 x4_25 = some r0) (hW : q_W D al dt H) (hS : va_S (q_A al) s.heap H locs) (hl : lv_has ls 5 [(0, .ref x0_25), (1, .int x1_25), (2, .int x2_25), (3, .int x3_25), (4, .int x4_25)]), W p l e { frames := 3, cells := 0, slots := 0, locals := 69 } s m args below meth c H locs 0 0 (MQ below (q_Q (some (.int r0)) (fun H => q_W D al dt H ∧ q_Rk al 0 (some (.int r0))) (q_A al)) args s 0 0 (q_A al)) (F0 m 25 ls []) := by
    intro x0_25 x1_25 x2_25 kx0_25
    intro n_25
    induction n_25 with
    | zero => intro x3_25 x4_25 H locs ls hm hW hS hl; cases hm
    | succ n_25 ih25 =>
      have hB56 : ∀ (x3_56 : Int32) (x4_56 : Int32) (H : Heap) (locs : List Loc) (ls : Array Slot) (hm : X12_worstHits_b56 al dt (X12_worstHits_b25 al dt x0_25 x1_25 x2_25 n_25) x0_25 x1_25 x2_25 x3_56 x4_56 = some r0) (hW : q_W D al dt H) (hS : va_S (q_A al) s.heap H locs) (hl : lv_has ls 5 [(0, .ref x0_25), (1, .int x1_25), (2, .int x2_25), (3, .int x3_56), (4, .int x4_56)]), W p l e { frames := 3, cells := 0, slots := 0, locals := 69 } s m args below meth c H locs 0 0 (MQ below (q_Q (some (.int r0)) (fun H => q_W D al dt H ∧ q_Rk al 0 (some (.int r0))) (q_A al)) args s 0 0 (q_A al)) (F0 m 56 ls []) := by
        intro x3_56 x4_56 H locs ls hm hW hS hl
        unfold X12_worstHits_b56 at hm
        refine lv_iinc (v := (x4_56 + 1)) (lv' := [(4, .int (x4_56 + 1)), (0, .ref x0_25), (1, .int x1_25), (2, .int x2_25), (3, .int x3_56)]) hx hb dX12_worstHits_56 hl (k := 4) rfl rfl (by decide) rfl (fun ls hl => ?_)
        refine lv_goto (tgt := 25) hx hb dX12_worstHits_59 (by decide) ?_
        exact ih25 x3_56 (x4_56 + 1) _ _ _ hm hW hS (lv_sub hl [1, 2, 3, 4, 0] rfl)
      intro x3_25 x4_25 H locs ls hm hW hS hl
      rw [X12_worstHits_b25] at hm
      refine lv_iload hx hb dX12_worstHits_25 (lv_at hl 4 rfl) ?_
      refine lv_aload_n hx hb dX12_worstHits_27 rfl (lv_at hl 0 rfl) ?_
      refine lv_iload_n hx hb dX12_worstHits_28 rfl (lv_at hl 1 rfl) ?_
      obtain ⟨v25002, hc25001, hm⟩ := q_b1i hm
      refine q_callV C hW hS (As := [.int x1_25]) (rest := [.int x4_25]) (st1 := [.int v25002, .int x4_25]) (c_X12_p l D al dt x0_25 x1_25 kx0_25 v25002 hc25001) yl_X12_p vl_X12_p ml_RX12_488 (ci := 12) rfl kx0_25 (by decide) rfl ⟨Nat.le_of_ble_eq_true rfl, Nat.le_of_ble_eq_true rfl⟩ hl rfl (Nat.le_of_ble_eq_true rfl) dX12_worstHits_29 ⟨Nat.le_refl _, Nat.le_refl _⟩ rfl (fun H locs k25003 hW hS => ?_)
      refine q_ifc hm (fun c25004 hm => ?_) (fun c25004 hm => ?_)
      · refine lv_icmp_ge (tgt := 62) hx hb dX12_worstHits_32 (by decide) (fun _ => ?_) (fun h => absurd c25004 h)
        refine lv_iload_n hx hb dX12_worstHits_62 rfl (lv_at hl 3 rfl) ?_
        exact e_i C hW hS hm dX12_worstHits_63
      refine lv_icmp_ge (tgt := 62) hx hb dX12_worstHits_32 (by decide) (fun h => absurd h c25004) (fun _ => ?_)
      refine lv_aload_n hx hb dX12_worstHits_35 rfl (lv_at hl 0 rfl) ?_
      refine lv_iload_n hx hb dX12_worstHits_36 rfl (lv_at hl 1 rfl) ?_
      refine lv_iload_n hx hb dX12_worstHits_37 rfl (lv_at hl 2 rfl) ?_
      refine lv_iload hx hb dX12_worstHits_38 (lv_at hl 4 rfl) ?_
      obtain ⟨v25006, hc25005, hm⟩ := q_b1i hm
      refine q_callV C hW hS (As := [.int x1_25, .int x2_25, .int x4_25]) (rest := []) (st1 := [.int v25006]) (c_X12_hitsAt l D al dt x0_25 x1_25 x2_25 x4_25 kx0_25 v25006 hc25005) yl_X12_hitsAt vl_X12_hitsAt ml_RX12_500 (ci := 12) rfl kx0_25 (by decide) rfl ⟨Nat.le_of_ble_eq_true rfl, Nat.le_of_ble_eq_true rfl⟩ hl rfl (Nat.le_of_ble_eq_true rfl) dX12_worstHits_40 ⟨Nat.le_refl _, Nat.le_refl _⟩ rfl (fun H locs k25007 hW hS => ?_)
      refine lv_iload_n hx hb dX12_worstHits_43 rfl (lv_at hl 3 rfl) ?_
      refine q_ifc hm (fun c25008 hm => ?_) (fun c25008 hm => ?_)
      · refine lv_icmp_le (tgt := 56) hx hb dX12_worstHits_44 (by decide) (fun _ => ?_) (fun h => absurd c25008 h)
        exact hB56 x3_25 x4_25 _ _ _ hm hW hS (lv_sub hl [0, 1, 2, 3, 4] rfl)
      refine lv_icmp_le (tgt := 56) hx hb dX12_worstHits_44 (by decide) (fun h => absurd h c25008) (fun _ => ?_)
      refine lv_aload_n hx hb dX12_worstHits_47 rfl (lv_at hl 0 rfl) ?_
      refine lv_iload_n hx hb dX12_worstHits_48 rfl (lv_at hl 1 rfl) ?_
      refine lv_iload_n hx hb dX12_worstHits_49 rfl (lv_at hl 2 rfl) ?_
      refine lv_iload hx hb dX12_worstHits_50 (lv_at hl 4 rfl) ?_
      obtain ⟨v25010, hc25009, hm⟩ := q_b1i hm
      refine q_callV C hW hS (As := [.int x1_25, .int x2_25, .int x4_25]) (rest := []) (st1 := [.int v25010]) (c_X12_hitsAt l D al dt x0_25 x1_25 x2_25 x4_25 kx0_25 v25010 hc25009) yl_X12_hitsAt vl_X12_hitsAt ml_RX12_500 (ci := 12) rfl kx0_25 (by decide) rfl ⟨Nat.le_of_ble_eq_true rfl, Nat.le_of_ble_eq_true rfl⟩ hl rfl (Nat.le_of_ble_eq_true rfl) dX12_worstHits_52 ⟨Nat.le_refl _, Nat.le_refl _⟩ rfl (fun H locs k25011 hW hS => ?_)
      refine lv_istore_n (i := 3) (lv' := [(3, .int v25010), (0, .ref x0_25), (1, .int x1_25), (2, .int x2_25), (4, .int x4_25)]) hx hb dX12_worstHits_55 rfl hl (by decide) rfl (fun ls hl => ?_)
      exact hB56 v25010 x4_25 _ _ _ hm hW hS (lv_sub hl [1, 2, 3, 0, 4] rfl)
  have hB23 : ∀ (x0_23 : Nat) (x1_23 : Int32) (x2_23 : Int32) (x3_23 : Int32) (t0_23 : Int32) (kx0_23 : al.1 x0_23 = 13) (H : Heap) (locs : List Loc) (ls : Array Slot) (hm : X12_worstHits_b23 al dt x0_23 x1_23 x2_23 x3_23 t0_23 = some r0) (hW : q_W D al dt H) (hS : va_S (q_A al) s.heap H locs) (hl : lv_has ls 5 [(0, .ref x0_23), (1, .int x1_23), (2, .int x2_23), (3, .int x3_23)]), W p l e { frames := 3, cells := 0, slots := 0, locals := 69 } s m args below meth c H locs 0 0 (MQ below (q_Q (some (.int r0)) (fun H => q_W D al dt H ∧ q_Rk al 0 (some (.int r0))) (q_A al)) args s 0 0 (q_A al)) (F0 m 23 ls [.int t0_23]) := by
    intro x0_23 x1_23 x2_23 x3_23 t0_23 kx0_23 H locs ls hm hW hS hl
    unfold X12_worstHits_b23 at hm
    refine lv_istore (i := 4) (lv' := [(4, .int t0_23), (0, .ref x0_23), (1, .int x1_23), (2, .int x2_23), (3, .int x3_23)]) hx hb dX12_worstHits_23 hl (by decide) rfl (fun ls hl => ?_)
    exact hB25 x0_23 x1_23 x2_23 kx0_23 q_FU x3_23 t0_23 _ _ _ hm hW hS (lv_sub hl [1, 2, 3, 4, 0] rfl)
  refine lv_aload_n hx hb dX12_worstHits_0 rfl (lv_at hl 0 rfl) ?_
  refine lv_iload_n hx hb dX12_worstHits_1 rfl (lv_at hl 1 rfl) ?_
  refine lv_iload_n hx hb dX12_worstHits_2 rfl (lv_at hl 2 rfl) ?_
  obtain ⟨v1000002, hc1000001, hm⟩ := q_b1i hm
  refine q_callV C hW hS (As := [.int x1, .int x2]) (rest := []) (st1 := [.int v1000002]) (c_X12_areHops l D al dt x0 x1 x2 kx0 v1000002 hc1000001) yl_X12_areHops vl_X12_areHops ml_RX12_497 (ci := 12) rfl kx0 (by decide) rfl ⟨Nat.le_of_ble_eq_true rfl, Nat.le_of_ble_eq_true rfl⟩ hl rfl (Nat.le_of_ble_eq_true rfl) dX12_worstHits_3 ⟨Nat.le_refl _, Nat.le_refl _⟩ rfl (fun H locs k1000003 hW hS => ?_)
  refine q_ifc hm (fun c1000004 hm => ?_) (fun c1000004 hm => ?_)
  · refine lv_if_ne (tgt := 11) hx hb dX12_worstHits_6 (by decide) (fun h => absurd c1000004 h) (fun _ => ?_)
    refine lv_iconst (v := (-1)) hx hb dX12_worstHits_9 (by decide) ?_
    exact e_i C hW hS hm dX12_worstHits_10
  refine lv_if_ne (tgt := 11) hx hb dX12_worstHits_6 (by decide) (fun _ => ?_) (fun h => absurd h c1000004)
  refine lv_iconst (v := 0) hx hb dX12_worstHits_11 (by decide) ?_
  refine lv_istore_n (i := 3) (lv' := [(3, .int 0), (0, .ref x0), (1, .int x1), (2, .int x2)]) hx hb dX12_worstHits_12 rfl hl (by decide) rfl (fun ls hl => ?_)
  refine lv_iload_n hx hb dX12_worstHits_13 rfl (lv_at hl 2 rfl) ?_
  refine lv_iload_n hx hb dX12_worstHits_14 rfl (lv_at hl 3 rfl) ?_
  refine q_ifc hm (fun c1000005 hm => ?_) (fun c1000005 hm => ?_)
  · refine lv_icmp_ne (tgt := 22) hx hb dX12_worstHits_15 (by decide) (fun h => absurd c1000005 h) (fun _ => ?_)
    refine lv_iconst (v := 1) hx hb dX12_worstHits_18 (by decide) ?_
    refine lv_goto (tgt := 23) hx hb dX12_worstHits_19 (by decide) ?_
    exact hB23 x0 x1 x2 0 1 kx0 _ _ _ hm hW hS (lv_sub hl [1, 2, 3, 0] rfl)
  refine lv_icmp_ne (tgt := 22) hx hb dX12_worstHits_15 (by decide) (fun _ => ?_) (fun h => absurd h c1000005)
  refine lv_iconst (v := 0) hx hb dX12_worstHits_22 (by decide) ?_
  exact hB23 x0 x1 x2 0 0 kx0 _ _ _ hm hW hS (lv_sub hl [1, 2, 3, 0] rfl)
theorem dX12_isCrowded_0 : decode cX12_isCrowded 0 = .ok (.iconst 0, 1) := by decide +kernel
theorem dX12_isCrowded_1 : decode cX12_isCrowded 1 = .ok (.istore_n 3, 1) := by decide +kernel
theorem dX12_isCrowded_2 : decode cX12_isCrowded 2 = .ok (.iload_n 3, 1) := by decide +kernel
theorem dX12_isCrowded_3 : decode cX12_isCrowded 3 = .ok (.aload_n 0, 1) := by decide +kernel
theorem dX12_isCrowded_4 : decode cX12_isCrowded 4 = .ok (.getfield 58, 3) := by decide +kernel
theorem dX12_isCrowded_7 : decode cX12_isCrowded 7 = .ok (.aload_n 0, 1) := by decide +kernel
theorem dX12_isCrowded_8 : decode cX12_isCrowded 8 = .ok (.getfield 242, 3) := by decide +kernel
theorem dX12_isCrowded_11 : decode cX12_isCrowded 11 = .ok (.iaload, 1) := by decide +kernel
theorem dX12_isCrowded_12 : decode cX12_isCrowded 12 = .ok (.if_icmp .ge 61, 3) := by decide +kernel
theorem dX12_isCrowded_15 : decode cX12_isCrowded 15 = .ok (.iconst 0, 1) := by decide +kernel
theorem dX12_isCrowded_16 : decode cX12_isCrowded 16 = .ok (.istore 4, 2) := by decide +kernel
theorem dX12_isCrowded_18 : decode cX12_isCrowded 18 = .ok (.iload 4, 2) := by decide +kernel
theorem dX12_isCrowded_20 : decode cX12_isCrowded 20 = .ok (.iload_n 3, 1) := by decide +kernel
theorem dX12_isCrowded_21 : decode cX12_isCrowded 21 = .ok (.if_icmp .ge 46, 3) := by decide +kernel
theorem dX12_isCrowded_24 : decode cX12_isCrowded 24 = .ok (.iload_n 1, 1) := by decide +kernel
theorem dX12_isCrowded_25 : decode cX12_isCrowded 25 = .ok (.iload_n 3, 1) := by decide +kernel
theorem dX12_isCrowded_26 : decode cX12_isCrowded 26 = .ok (.ishr, 1) := by decide +kernel
theorem dX12_isCrowded_27 : decode cX12_isCrowded 27 = .ok (.iconst 1, 1) := by decide +kernel
theorem dX12_isCrowded_28 : decode cX12_isCrowded 28 = .ok (.iand, 1) := by decide +kernel
theorem dX12_isCrowded_29 : decode cX12_isCrowded 29 = .ok (.iconst 1, 1) := by decide +kernel
theorem dX12_isCrowded_30 : decode cX12_isCrowded 30 = .ok (.if_icmp .ne 31, 3) := by decide +kernel
theorem dX12_isCrowded_33 : decode cX12_isCrowded 33 = .ok (.iload_n 1, 1) := by decide +kernel
theorem dX12_isCrowded_34 : decode cX12_isCrowded 34 = .ok (.iload 4, 2) := by decide +kernel
theorem dX12_isCrowded_36 : decode cX12_isCrowded 36 = .ok (.ishr, 1) := by decide +kernel
theorem dX12_isCrowded_37 : decode cX12_isCrowded 37 = .ok (.iconst 1, 1) := by decide +kernel
theorem dX12_isCrowded_38 : decode cX12_isCrowded 38 = .ok (.iand, 1) := by decide +kernel
theorem dX12_isCrowded_39 : decode cX12_isCrowded 39 = .ok (.iconst 1, 1) := by decide +kernel
theorem dX12_isCrowded_40 : decode cX12_isCrowded 40 = .ok (.if_icmp .ne 21, 3) := by decide +kernel
theorem dX12_isCrowded_43 : decode cX12_isCrowded 43 = .ok (.aload_n 0, 1) := by decide +kernel
theorem dX12_isCrowded_44 : decode cX12_isCrowded 44 = .ok (.iload_n 3, 1) := by decide +kernel
theorem dX12_isCrowded_45 : decode cX12_isCrowded 45 = .ok (.iload_n 2, 1) := by decide +kernel
theorem dX12_isCrowded_46 : decode cX12_isCrowded 46 = .ok (.invokevirtual 494, 3) := by decide +kernel
theorem dX12_isCrowded_49 : decode cX12_isCrowded 49 = .ok (.aload_n 0, 1) := by decide +kernel
theorem dX12_isCrowded_50 : decode cX12_isCrowded 50 = .ok (.iload 4, 2) := by decide +kernel
theorem dX12_isCrowded_52 : decode cX12_isCrowded 52 = .ok (.iload_n 2, 1) := by decide +kernel
theorem dX12_isCrowded_53 : decode cX12_isCrowded 53 = .ok (.invokevirtual 494, 3) := by decide +kernel
theorem dX12_isCrowded_56 : decode cX12_isCrowded 56 = .ok (.if_icmp .ne 5, 3) := by decide +kernel
theorem dX12_isCrowded_59 : decode cX12_isCrowded 59 = .ok (.iconst 1, 1) := by decide +kernel
theorem dX12_isCrowded_60 : decode cX12_isCrowded 60 = .ok (.ireturn, 1) := by decide +kernel
theorem dX12_isCrowded_61 : decode cX12_isCrowded 61 = .ok (.iinc 4 1, 3) := by decide +kernel
theorem dX12_isCrowded_64 : decode cX12_isCrowded 64 = .ok (.goto (-46), 3) := by decide +kernel
theorem dX12_isCrowded_67 : decode cX12_isCrowded 67 = .ok (.iinc 3 1, 3) := by decide +kernel
theorem dX12_isCrowded_70 : decode cX12_isCrowded 70 = .ok (.goto (-68), 3) := by decide +kernel
theorem dX12_isCrowded_73 : decode cX12_isCrowded 73 = .ok (.iconst 0, 1) := by decide +kernel
theorem dX12_isCrowded_74 : decode cX12_isCrowded 74 = .ok (.ireturn, 1) := by decide +kernel
set_option maxRecDepth 100000 in
theorem c_X12_isCrowded (l : Launch) (D : q_D) (al : q_Al) (dt : q_Dt) (x0 : Nat) (x1 : Int32) (x2 : Int32) (kx0 : al.1 x0 = 13) (r0 : Int32) (hm : X12_isCrowded al dt x0 x1 x2 = some r0) : q_Mt l yX12_isCrowded cX12_isCrowded 5 (some FieldType.boolean) 2 44 D al [.ref x0, .int x1, .int x2] dt 0 (some (.int r0)) dt := by
  refine q_Mt.of (by decide) (Nat.le_of_ble_eq_true rfl) ?_
  intro p e s m args below meth c ls C hargs hW hl
  have hx := C.1
  have hb := C.2.1
  have hown := C.2.2.2.2.2.1
  have hts := C.2.2.2.2.2.2.1
  have hS : va_S (q_A al) s.heap s.heap [] := va_S.rf
  have hl : lv_has ls 5 [(0, .ref x0), (1, .int x1), (2, .int x2)] := hl
  unfold X12_isCrowded at hm
  have hB2 : ∀ (x0_2 : Nat) (x1_2 : Int32) (x2_2 : Int32) (kx0_2 : al.1 x0_2 = 13) (n_2 : Nat) (x3_2 : Int32) (H : Heap) (locs : List Loc) (ls : Array Slot) (hm : X12_isCrowded_b2 al dt x0_2 x1_2 x2_2 n_2 x3_2 = some r0) (hW : q_W D al dt H) (hS : va_S (q_A al) s.heap H locs) (hl : lv_has ls 5 [(0, .ref x0_2), (1, .int x1_2), (2, .int x2_2), (3, .int x3_2)]), W p l e { frames := 2, cells := 0, slots := 0, locals := 44 } s m args below meth c H locs 0 0 (MQ below (q_Q (some (.int r0)) (fun H => q_W D al dt H ∧ q_Rk al 0 (some (.int r0))) (q_A al)) args s 0 0 (q_A al)) (F0 m 2 ls []) := by
    intro x0_2 x1_2 x2_2 kx0_2
    intro n_2
    induction n_2 with
    | zero => intro x3_2 H locs ls hm hW hS hl; cases hm
    | succ n_2 ih2 =>
      have hB18 : ∀ (x3_18 : Int32) (n_18 : Nat) (x4_18 : Int32) (H : Heap) (locs : List Loc) (ls : Array Slot) (hm : X12_isCrowded_b18 al dt (X12_isCrowded_b2 al dt x0_2 x1_2 x2_2 n_2) x0_2 x1_2 x2_2 x3_18 n_18 x4_18 = some r0) (hW : q_W D al dt H) (hS : va_S (q_A al) s.heap H locs) (hl : lv_has ls 5 [(0, .ref x0_2), (1, .int x1_2), (2, .int x2_2), (3, .int x3_18), (4, .int x4_18)]), W p l e { frames := 2, cells := 0, slots := 0, locals := 44 } s m args below meth c H locs 0 0 (MQ below (q_Q (some (.int r0)) (fun H => q_W D al dt H ∧ q_Rk al 0 (some (.int r0))) (q_A al)) args s 0 0 (q_A al)) (F0 m 18 ls []) := by
        intro x3_18
        intro n_18
        induction n_18 with
        | zero => intro x4_18 H locs ls hm hW hS hl; cases hm
        | succ n_18 ih18 =>
          have hB61 : ∀ (x4_61 : Int32) (H : Heap) (locs : List Loc) (ls : Array Slot) (hm : X12_isCrowded_b61 al dt (X12_isCrowded_b2 al dt x0_2 x1_2 x2_2 n_2) (X12_isCrowded_b18 al dt (X12_isCrowded_b2 al dt x0_2 x1_2 x2_2 n_2) x0_2 x1_2 x2_2 x3_18 n_18) x0_2 x1_2 x2_2 x3_18 x4_61 = some r0) (hW : q_W D al dt H) (hS : va_S (q_A al) s.heap H locs) (hl : lv_has ls 5 [(0, .ref x0_2), (1, .int x1_2), (2, .int x2_2), (3, .int x3_18), (4, .int x4_61)]), W p l e { frames := 2, cells := 0, slots := 0, locals := 44 } s m args below meth c H locs 0 0 (MQ below (q_Q (some (.int r0)) (fun H => q_W D al dt H ∧ q_Rk al 0 (some (.int r0))) (q_A al)) args s 0 0 (q_A al)) (F0 m 61 ls []) := by
            intro x4_61 H locs ls hm hW hS hl
            unfold X12_isCrowded_b61 at hm
            refine lv_iinc (v := (x4_61 + 1)) (lv' := [(4, .int (x4_61 + 1)), (0, .ref x0_2), (1, .int x1_2), (2, .int x2_2), (3, .int x3_18)]) hx hb dX12_isCrowded_61 hl (k := 4) rfl rfl (by decide) rfl (fun ls hl => ?_)
            refine lv_goto (tgt := 18) hx hb dX12_isCrowded_64 (by decide) ?_
            exact ih18 (x4_61 + 1) _ _ _ hm hW hS (lv_sub hl [1, 2, 3, 4, 0] rfl)
          intro x4_18 H locs ls hm hW hS hl
          rw [X12_isCrowded_b18] at hm
          refine lv_iload hx hb dX12_isCrowded_18 (lv_at hl 4 rfl) ?_
          refine lv_iload_n hx hb dX12_isCrowded_20 rfl (lv_at hl 3 rfl) ?_
          refine q_ifc hm (fun c18001 hm => ?_) (fun c18001 hm => ?_)
          · refine lv_icmp_ge (tgt := 67) hx hb dX12_isCrowded_21 (by decide) (fun _ => ?_) (fun h => absurd c18001 h)
            refine lv_iinc (v := (x3_18 + 1)) (lv' := [(3, .int (x3_18 + 1)), (0, .ref x0_2), (1, .int x1_2), (2, .int x2_2), (4, .int x4_18)]) hx hb dX12_isCrowded_67 hl (k := 3) rfl rfl (by decide) rfl (fun ls hl => ?_)
            refine lv_goto (tgt := 2) hx hb dX12_isCrowded_70 (by decide) ?_
            exact ih2 (x3_18 + 1) _ _ _ hm hW hS (lv_sub hl [1, 2, 3, 0] rfl)
          refine lv_icmp_ge (tgt := 67) hx hb dX12_isCrowded_21 (by decide) (fun h => absurd h c18001) (fun _ => ?_)
          refine lv_iload_n hx hb dX12_isCrowded_24 rfl (lv_at hl 1 rfl) ?_
          refine lv_iload_n hx hb dX12_isCrowded_25 rfl (lv_at hl 3 rfl) ?_
          refine lv_ishr hx hb dX12_isCrowded_26 ?_
          refine lv_iconst (v := 1) hx hb dX12_isCrowded_27 (by decide) ?_
          refine lv_iand hx hb dX12_isCrowded_28 ?_
          refine lv_iconst (v := 1) hx hb dX12_isCrowded_29 (by decide) ?_
          refine q_ifc hm (fun c18002 hm => ?_) (fun c18002 hm => ?_)
          · refine lv_icmp_ne (tgt := 61) hx hb dX12_isCrowded_30 (by decide) (fun h => absurd c18002 h) (fun _ => ?_)
            refine lv_iload_n hx hb dX12_isCrowded_33 rfl (lv_at hl 1 rfl) ?_
            refine lv_iload hx hb dX12_isCrowded_34 (lv_at hl 4 rfl) ?_
            refine lv_ishr hx hb dX12_isCrowded_36 ?_
            refine lv_iconst (v := 1) hx hb dX12_isCrowded_37 (by decide) ?_
            refine lv_iand hx hb dX12_isCrowded_38 ?_
            refine lv_iconst (v := 1) hx hb dX12_isCrowded_39 (by decide) ?_
            refine q_ifc hm (fun c18003 hm => ?_) (fun c18003 hm => ?_)
            · refine lv_icmp_ne (tgt := 61) hx hb dX12_isCrowded_40 (by decide) (fun h => absurd c18003 h) (fun _ => ?_)
              refine lv_aload_n hx hb dX12_isCrowded_43 rfl (lv_at hl 0 rfl) ?_
              refine lv_iload_n hx hb dX12_isCrowded_44 rfl (lv_at hl 3 rfl) ?_
              refine lv_iload_n hx hb dX12_isCrowded_45 rfl (lv_at hl 2 rfl) ?_
              obtain ⟨v18005, hc18004, hm⟩ := q_b1i hm
              refine q_callV C hW hS (As := [.int x3_18, .int x2_2]) (rest := []) (st1 := [.int v18005]) (c_X12_channel l D al dt x0_2 x3_18 x2_2 kx0_2 v18005 hc18004) yl_X12_channel vl_X12_channel ml_RX12_494 (ci := 12) rfl kx0_2 (by decide) rfl ⟨Nat.le_of_ble_eq_true rfl, Nat.le_of_ble_eq_true rfl⟩ hl rfl (Nat.le_of_ble_eq_true rfl) dX12_isCrowded_46 ⟨Nat.le_refl _, Nat.le_refl _⟩ rfl (fun H locs k18006 hW hS => ?_)
              refine lv_aload_n hx hb dX12_isCrowded_49 rfl (lv_at hl 0 rfl) ?_
              refine lv_iload hx hb dX12_isCrowded_50 (lv_at hl 4 rfl) ?_
              refine lv_iload_n hx hb dX12_isCrowded_52 rfl (lv_at hl 2 rfl) ?_
              obtain ⟨v18008, hc18007, hm⟩ := q_b1i hm
              refine q_callV C hW hS (As := [.int x4_18, .int x2_2]) (rest := [.int v18005]) (st1 := [.int v18008, .int v18005]) (c_X12_channel l D al dt x0_2 x4_18 x2_2 kx0_2 v18008 hc18007) yl_X12_channel vl_X12_channel ml_RX12_494 (ci := 12) rfl kx0_2 (by decide) rfl ⟨Nat.le_of_ble_eq_true rfl, Nat.le_of_ble_eq_true rfl⟩ hl rfl (Nat.le_of_ble_eq_true rfl) dX12_isCrowded_53 ⟨Nat.le_refl _, Nat.le_refl _⟩ rfl (fun H locs k18009 hW hS => ?_)
              refine q_ifc hm (fun c18010 hm => ?_) (fun c18010 hm => ?_)
              · refine lv_icmp_ne (tgt := 61) hx hb dX12_isCrowded_56 (by decide) (fun h => absurd c18010 h) (fun _ => ?_)
                refine lv_iconst (v := 1) hx hb dX12_isCrowded_59 (by decide) ?_
                exact e_zl C hW hS (Or.inr rfl) hm dX12_isCrowded_60
              refine lv_icmp_ne (tgt := 61) hx hb dX12_isCrowded_56 (by decide) (fun _ => ?_) (fun h => absurd h c18010)
              exact hB61 x4_18 _ _ _ hm hW hS (lv_sub hl [0, 1, 2, 3, 4] rfl)
            refine lv_icmp_ne (tgt := 61) hx hb dX12_isCrowded_40 (by decide) (fun _ => ?_) (fun h => absurd h c18003)
            exact hB61 x4_18 _ _ _ hm hW hS (lv_sub hl [0, 1, 2, 3, 4] rfl)
          refine lv_icmp_ne (tgt := 61) hx hb dX12_isCrowded_30 (by decide) (fun _ => ?_) (fun h => absurd h c18002)
          exact hB61 x4_18 _ _ _ hm hW hS (lv_sub hl [0, 1, 2, 3, 4] rfl)
      intro x3_2 H locs ls hm hW hS hl
      rw [X12_isCrowded_b2] at hm
      refine lv_iload_n hx hb dX12_isCrowded_2 rfl (lv_at hl 3 rfl) ?_
      refine lv_aload_n hx hb dX12_isCrowded_3 rfl (lv_at hl 0 rfl) ?_
      refine r_getF C hW (ci := 12) kx0_2 ff_12_27 cl_12 fl_RX12_58 dX12_isCrowded_4 (fun k2001 => ?_)
      refine lv_aload_n hx hb dX12_isCrowded_7 rfl (lv_at hl 0 rfl) ?_
      refine r_getI C hW (ci := 12) kx0_2 ff_12_18 cl_12 fl_RX12_242 dX12_isCrowded_8 ?_
      refine r_iald C hW hm k2001 dX12_isCrowded_11 (fun hm => ?_)
      refine q_ifc hm (fun c2002 hm => ?_) (fun c2002 hm => ?_)
      · refine lv_icmp_ge (tgt := 73) hx hb dX12_isCrowded_12 (by decide) (fun _ => ?_) (fun h => absurd c2002 h)
        refine lv_iconst (v := 0) hx hb dX12_isCrowded_73 (by decide) ?_
        exact e_zl C hW hS (Or.inl rfl) hm dX12_isCrowded_74
      refine lv_icmp_ge (tgt := 73) hx hb dX12_isCrowded_12 (by decide) (fun h => absurd h c2002) (fun _ => ?_)
      refine lv_iconst (v := 0) hx hb dX12_isCrowded_15 (by decide) ?_
      refine lv_istore (i := 4) (lv' := [(4, .int 0), (0, .ref x0_2), (1, .int x1_2), (2, .int x2_2), (3, .int x3_2)]) hx hb dX12_isCrowded_16 hl (by decide) rfl (fun ls hl => ?_)
      exact hB18 x3_2 q_FU 0 _ _ _ hm hW hS (lv_sub hl [1, 2, 3, 4, 0] rfl)
  refine lv_iconst (v := 0) hx hb dX12_isCrowded_0 (by decide) ?_
  refine lv_istore_n (i := 3) (lv' := [(3, .int 0), (0, .ref x0), (1, .int x1), (2, .int x2)]) hx hb dX12_isCrowded_1 rfl hl (by decide) rfl (fun ls hl => ?_)
  exact hB2 x0 x1 x2 kx0 q_FU 0 _ _ _ hm hW hS (lv_sub hl [1, 2, 3, 0] rfl)
theorem dX12_crowded_0 : decode cX12_crowded 0 = .ok (.iload_n 1, 1) := by decide +kernel
theorem dX12_crowded_1 : decode cX12_crowded 1 = .ok (.iconst 0, 1) := by decide +kernel
theorem dX12_crowded_2 : decode cX12_crowded 2 = .ok (.iconst 1, 1) := by decide +kernel
theorem dX12_crowded_3 : decode cX12_crowded 3 = .ok (.aload_n 0, 1) := by decide +kernel
theorem dX12_crowded_4 : decode cX12_crowded 4 = .ok (.getfield 58, 3) := by decide +kernel
theorem dX12_crowded_7 : decode cX12_crowded 7 = .ok (.aload_n 0, 1) := by decide +kernel
theorem dX12_crowded_8 : decode cX12_crowded 8 = .ok (.getfield 242, 3) := by decide +kernel
theorem dX12_crowded_11 : decode cX12_crowded 11 = .ok (.iaload, 1) := by decide +kernel
theorem dX12_crowded_12 : decode cX12_crowded 12 = .ok (.ishl, 1) := by decide +kernel
theorem dX12_crowded_13 : decode cX12_crowded 13 = .ok (.iconst 1, 1) := by decide +kernel
theorem dX12_crowded_14 : decode cX12_crowded 14 = .ok (.isub, 1) := by decide +kernel
theorem dX12_crowded_15 : decode cX12_crowded 15 = .ok (.invokestatic 376, 3) := by decide +kernel
theorem dX12_crowded_18 : decode cX12_crowded 18 = .ok (.ifCond .eq 25, 3) := by decide +kernel
theorem dX12_crowded_21 : decode cX12_crowded 21 = .ok (.iload_n 2, 1) := by decide +kernel
theorem dX12_crowded_22 : decode cX12_crowded 22 = .ok (.iconst 0, 1) := by decide +kernel
theorem dX12_crowded_23 : decode cX12_crowded 23 = .ok (.sipush 999, 3) := by decide +kernel
theorem dX12_crowded_26 : decode cX12_crowded 26 = .ok (.invokestatic 376, 3) := by decide +kernel
theorem dX12_crowded_29 : decode cX12_crowded 29 = .ok (.ifCond .eq 14, 3) := by decide +kernel
theorem dX12_crowded_32 : decode cX12_crowded 32 = .ok (.iload_n 3, 1) := by decide +kernel
theorem dX12_crowded_33 : decode cX12_crowded 33 = .ok (.iload_n 2, 1) := by decide +kernel
theorem dX12_crowded_34 : decode cX12_crowded 34 = .ok (.sipush 999, 3) := by decide +kernel
theorem dX12_crowded_37 : decode cX12_crowded 37 = .ok (.invokestatic 376, 3) := by decide +kernel
theorem dX12_crowded_40 : decode cX12_crowded 40 = .ok (.ifCond .ne 5, 3) := by decide +kernel
theorem dX12_crowded_43 : decode cX12_crowded 43 = .ok (.iconst (-1), 1) := by decide +kernel
theorem dX12_crowded_44 : decode cX12_crowded 44 = .ok (.ireturn, 1) := by decide +kernel
theorem dX12_crowded_45 : decode cX12_crowded 45 = .ok (.iconst 0, 1) := by decide +kernel
theorem dX12_crowded_46 : decode cX12_crowded 46 = .ok (.istore 4, 2) := by decide +kernel
theorem dX12_crowded_48 : decode cX12_crowded 48 = .ok (.iload_n 2, 1) := by decide +kernel
theorem dX12_crowded_49 : decode cX12_crowded 49 = .ok (.istore 5, 2) := by decide +kernel
theorem dX12_crowded_51 : decode cX12_crowded 51 = .ok (.iload 5, 2) := by decide +kernel
theorem dX12_crowded_53 : decode cX12_crowded 53 = .ok (.iload_n 3, 1) := by decide +kernel
theorem dX12_crowded_54 : decode cX12_crowded 54 = .ok (.if_icmp .gt 22, 3) := by decide +kernel
theorem dX12_crowded_57 : decode cX12_crowded 57 = .ok (.aload_n 0, 1) := by decide +kernel
theorem dX12_crowded_58 : decode cX12_crowded 58 = .ok (.iload_n 1, 1) := by decide +kernel
theorem dX12_crowded_59 : decode cX12_crowded 59 = .ok (.iload 5, 2) := by decide +kernel
theorem dX12_crowded_61 : decode cX12_crowded 61 = .ok (.invokevirtual 503, 3) := by decide +kernel
theorem dX12_crowded_64 : decode cX12_crowded 64 = .ok (.ifCond .eq 6, 3) := by decide +kernel
theorem dX12_crowded_67 : decode cX12_crowded 67 = .ok (.iinc 4 1, 3) := by decide +kernel
theorem dX12_crowded_70 : decode cX12_crowded 70 = .ok (.iinc 5 1, 3) := by decide +kernel
theorem dX12_crowded_73 : decode cX12_crowded 73 = .ok (.goto (-22), 3) := by decide +kernel
theorem dX12_crowded_76 : decode cX12_crowded 76 = .ok (.iload 4, 2) := by decide +kernel
theorem dX12_crowded_78 : decode cX12_crowded 78 = .ok (.ireturn, 1) := by decide +kernel
set_option maxRecDepth 100000 in
theorem c_X12_crowded (l : Launch) (D : q_D) (al : q_Al) (dt : q_Dt) (x0 : Nat) (x1 : Int32) (x2 : Int32) (x3 : Int32) (kx0 : al.1 x0 = 13) (r0 : Int32) (hm : X12_crowded al dt x0 x1 x2 x3 = some r0) : q_Mt l yX12_crowded cX12_crowded 6 (some FieldType.int) 3 68 D al [.ref x0, .int x1, .int x2, .int x3] dt 0 (some (.int r0)) dt := by
  refine q_Mt.of (by decide) (Nat.le_of_ble_eq_true rfl) ?_
  intro p e s m args below meth c ls C hargs hW hl
  have hx := C.1
  have hb := C.2.1
  have hown := C.2.2.2.2.2.1
  have hts := C.2.2.2.2.2.2.1
  have hS : va_S (q_A al) s.heap s.heap [] := va_S.rf
  have hl : lv_has ls 6 [(0, .ref x0), (1, .int x1), (2, .int x2), (3, .int x3)] := hl
  unfold X12_crowded at hm
  have hB51 : ∀ (x0_51 : Nat) (x1_51 : Int32) (x3_51 : Int32) (kx0_51 : al.1 x0_51 = 13) (n_51 : Nat) (x4_51 : Int32) (x5_51 : Int32) (H : Heap) (locs : List Loc) (ls : Array Slot) (hm : X12_crowded_b51 al dt x0_51 x1_51 x3_51 n_51 x4_51 x5_51 = some r0) (hW : q_W D al dt H) (hS : va_S (q_A al) s.heap H locs) (hl : lv_has ls 6 [(0, .ref x0_51), (1, .int x1_51), (3, .int x3_51), (4, .int x4_51), (5, .int x5_51)]), W p l e { frames := 3, cells := 0, slots := 0, locals := 68 } s m args below meth c H locs 0 0 (MQ below (q_Q (some (.int r0)) (fun H => q_W D al dt H ∧ q_Rk al 0 (some (.int r0))) (q_A al)) args s 0 0 (q_A al)) (F0 m 51 ls []) := by
    intro x0_51 x1_51 x3_51 kx0_51
    intro n_51
    induction n_51 with
    | zero => intro x4_51 x5_51 H locs ls hm hW hS hl; cases hm
    | succ n_51 ih51 =>
      have hB70 : ∀ (x4_70 : Int32) (x5_70 : Int32) (H : Heap) (locs : List Loc) (ls : Array Slot) (hm : X12_crowded_b70 al dt (X12_crowded_b51 al dt x0_51 x1_51 x3_51 n_51) x0_51 x1_51 x3_51 x4_70 x5_70 = some r0) (hW : q_W D al dt H) (hS : va_S (q_A al) s.heap H locs) (hl : lv_has ls 6 [(0, .ref x0_51), (1, .int x1_51), (3, .int x3_51), (4, .int x4_70), (5, .int x5_70)]), W p l e { frames := 3, cells := 0, slots := 0, locals := 68 } s m args below meth c H locs 0 0 (MQ below (q_Q (some (.int r0)) (fun H => q_W D al dt H ∧ q_Rk al 0 (some (.int r0))) (q_A al)) args s 0 0 (q_A al)) (F0 m 70 ls []) := by
        intro x4_70 x5_70 H locs ls hm hW hS hl
        unfold X12_crowded_b70 at hm
        refine lv_iinc (v := (x5_70 + 1)) (lv' := [(5, .int (x5_70 + 1)), (0, .ref x0_51), (1, .int x1_51), (3, .int x3_51), (4, .int x4_70)]) hx hb dX12_crowded_70 hl (k := 4) rfl rfl (by decide) rfl (fun ls hl => ?_)
        refine lv_goto (tgt := 51) hx hb dX12_crowded_73 (by decide) ?_
        exact ih51 x4_70 (x5_70 + 1) _ _ _ hm hW hS (lv_sub hl [1, 2, 3, 4, 0] rfl)
      intro x4_51 x5_51 H locs ls hm hW hS hl
      rw [X12_crowded_b51] at hm
      refine lv_iload hx hb dX12_crowded_51 (lv_at hl 4 rfl) ?_
      refine lv_iload_n hx hb dX12_crowded_53 rfl (lv_at hl 2 rfl) ?_
      refine q_ifc hm (fun c51001 hm => ?_) (fun c51001 hm => ?_)
      · refine lv_icmp_gt (tgt := 76) hx hb dX12_crowded_54 (by decide) (fun _ => ?_) (fun h => absurd c51001 h)
        refine lv_iload hx hb dX12_crowded_76 (lv_at hl 3 rfl) ?_
        exact e_i C hW hS hm dX12_crowded_78
      refine lv_icmp_gt (tgt := 76) hx hb dX12_crowded_54 (by decide) (fun h => absurd h c51001) (fun _ => ?_)
      refine lv_aload_n hx hb dX12_crowded_57 rfl (lv_at hl 0 rfl) ?_
      refine lv_iload_n hx hb dX12_crowded_58 rfl (lv_at hl 1 rfl) ?_
      refine lv_iload hx hb dX12_crowded_59 (lv_at hl 4 rfl) ?_
      obtain ⟨v51003, hc51002, hm⟩ := q_b1i hm
      refine q_callV C hW hS (As := [.int x1_51, .int x5_51]) (rest := []) (st1 := [.int v51003]) (c_X12_isCrowded l D al dt x0_51 x1_51 x5_51 kx0_51 v51003 hc51002) yl_X12_isCrowded vl_X12_isCrowded ml_RX12_503 (ci := 12) rfl kx0_51 (by decide) rfl ⟨Nat.le_of_ble_eq_true rfl, Nat.le_of_ble_eq_true rfl⟩ hl rfl (Nat.le_of_ble_eq_true rfl) dX12_crowded_61 ⟨Nat.le_refl _, Nat.le_refl _⟩ rfl (fun H locs k51004 hW hS => ?_)
      refine q_ifc hm (fun c51005 hm => ?_) (fun c51005 hm => ?_)
      · refine lv_if_eq (tgt := 70) hx hb dX12_crowded_64 (by decide) (fun _ => ?_) (fun h => absurd c51005 h)
        exact hB70 x4_51 x5_51 _ _ _ hm hW hS (lv_sub hl [0, 1, 2, 3, 4] rfl)
      refine lv_if_eq (tgt := 70) hx hb dX12_crowded_64 (by decide) (fun h => absurd h c51005) (fun _ => ?_)
      refine lv_iinc (v := (x4_51 + 1)) (lv' := [(4, .int (x4_51 + 1)), (0, .ref x0_51), (1, .int x1_51), (3, .int x3_51), (5, .int x5_51)]) hx hb dX12_crowded_67 hl (k := 3) rfl rfl (by decide) rfl (fun ls hl => ?_)
      exact hB70 (x4_51 + 1) x5_51 _ _ _ hm hW hS (lv_sub hl [1, 2, 3, 0, 4] rfl)
  refine lv_iload_n hx hb dX12_crowded_0 rfl (lv_at hl 1 rfl) ?_
  refine lv_iconst (v := 0) hx hb dX12_crowded_1 (by decide) ?_
  refine lv_iconst (v := 1) hx hb dX12_crowded_2 (by decide) ?_
  refine lv_aload_n hx hb dX12_crowded_3 rfl (lv_at hl 0 rfl) ?_
  refine r_getF C hW (ci := 12) kx0 ff_12_27 cl_12 fl_RX12_58 dX12_crowded_4 (fun k1000001 => ?_)
  refine lv_aload_n hx hb dX12_crowded_7 rfl (lv_at hl 0 rfl) ?_
  refine r_getI C hW (ci := 12) kx0 ff_12_18 cl_12 fl_RX12_242 dX12_crowded_8 ?_
  refine r_iald C hW hm k1000001 dX12_crowded_11 (fun hm => ?_)
  refine lv_ishl hx hb dX12_crowded_12 ?_
  refine lv_iconst (v := 1) hx hb dX12_crowded_13 (by decide) ?_
  refine lv_isub hx hb dX12_crowded_14 ?_
  obtain ⟨v1000003, hc1000002, hm⟩ := q_b1i hm
  refine q_callS C hW hS (As := [.int x1, .int 0, .int ((1 <<< ((dt.1 (al.2.2 x0 27) (Int32.toNatClampNeg (dt.1 x0 18))) &&& 31)) - 1)]) (rest := []) (st1 := [.int v1000003]) (c_X12_in l D al dt x1 0 ((1 <<< ((dt.1 (al.2.2 x0 27) (Int32.toNatClampNeg (dt.1 x0 18))) &&& 31)) - 1) v1000003 hc1000002) yl_X12_in sl_X12_in ml_RX12_376 rfl ⟨Nat.le_of_ble_eq_true rfl, Nat.le_of_ble_eq_true rfl⟩ hl rfl (Nat.le_of_ble_eq_true rfl) dX12_crowded_15 ⟨Nat.le_refl _, Nat.le_refl _⟩ rfl (fun H locs k1000004 hW hS => ?_)
  refine q_ifc hm (fun c1000005 hm => ?_) (fun c1000005 hm => ?_)
  · refine lv_if_eq (tgt := 43) hx hb dX12_crowded_18 (by decide) (fun _ => ?_) (fun h => absurd c1000005 h)
    refine lv_iconst (v := (-1)) hx hb dX12_crowded_43 (by decide) ?_
    exact e_i C hW hS hm dX12_crowded_44
  refine lv_if_eq (tgt := 43) hx hb dX12_crowded_18 (by decide) (fun h => absurd h c1000005) (fun _ => ?_)
  refine lv_iload_n hx hb dX12_crowded_21 rfl (lv_at hl 2 rfl) ?_
  refine lv_iconst (v := 0) hx hb dX12_crowded_22 (by decide) ?_
  refine lv_sipush (v := 999) hx hb dX12_crowded_23 (by decide) ?_
  obtain ⟨v1000007, hc1000006, hm⟩ := q_b1i hm
  refine q_callS C hW hS (As := [.int x2, .int 0, .int 999]) (rest := []) (st1 := [.int v1000007]) (c_X12_in l D al dt x2 0 999 v1000007 hc1000006) yl_X12_in sl_X12_in ml_RX12_376 rfl ⟨Nat.le_of_ble_eq_true rfl, Nat.le_of_ble_eq_true rfl⟩ hl rfl (Nat.le_of_ble_eq_true rfl) dX12_crowded_26 ⟨Nat.le_refl _, Nat.le_refl _⟩ rfl (fun H locs k1000008 hW hS => ?_)
  refine q_ifc hm (fun c1000009 hm => ?_) (fun c1000009 hm => ?_)
  · refine lv_if_eq (tgt := 43) hx hb dX12_crowded_29 (by decide) (fun _ => ?_) (fun h => absurd c1000009 h)
    refine lv_iconst (v := (-1)) hx hb dX12_crowded_43 (by decide) ?_
    exact e_i C hW hS hm dX12_crowded_44
  refine lv_if_eq (tgt := 43) hx hb dX12_crowded_29 (by decide) (fun h => absurd h c1000009) (fun _ => ?_)
  refine lv_iload_n hx hb dX12_crowded_32 rfl (lv_at hl 3 rfl) ?_
  refine lv_iload_n hx hb dX12_crowded_33 rfl (lv_at hl 2 rfl) ?_
  refine lv_sipush (v := 999) hx hb dX12_crowded_34 (by decide) ?_
  obtain ⟨v1000011, hc1000010, hm⟩ := q_b1i hm
  refine q_callS C hW hS (As := [.int x3, .int x2, .int 999]) (rest := []) (st1 := [.int v1000011]) (c_X12_in l D al dt x3 x2 999 v1000011 hc1000010) yl_X12_in sl_X12_in ml_RX12_376 rfl ⟨Nat.le_of_ble_eq_true rfl, Nat.le_of_ble_eq_true rfl⟩ hl rfl (Nat.le_of_ble_eq_true rfl) dX12_crowded_37 ⟨Nat.le_refl _, Nat.le_refl _⟩ rfl (fun H locs k1000012 hW hS => ?_)
  refine q_ifc hm (fun c1000013 hm => ?_) (fun c1000013 hm => ?_)
  · refine lv_if_ne (tgt := 45) hx hb dX12_crowded_40 (by decide) (fun h => absurd c1000013 h) (fun _ => ?_)
    refine lv_iconst (v := (-1)) hx hb dX12_crowded_43 (by decide) ?_
    exact e_i C hW hS hm dX12_crowded_44
  refine lv_if_ne (tgt := 45) hx hb dX12_crowded_40 (by decide) (fun _ => ?_) (fun h => absurd h c1000013)
  refine lv_iconst (v := 0) hx hb dX12_crowded_45 (by decide) ?_
  refine lv_istore (i := 4) (lv' := [(4, .int 0), (0, .ref x0), (1, .int x1), (2, .int x2), (3, .int x3)]) hx hb dX12_crowded_46 hl (by decide) rfl (fun ls hl => ?_)
  refine lv_iload_n hx hb dX12_crowded_48 rfl (lv_at hl 3 rfl) ?_
  refine lv_istore (i := 5) (lv' := [(5, .int x2), (4, .int 0), (0, .ref x0), (1, .int x1), (2, .int x2), (3, .int x3)]) hx hb dX12_crowded_49 hl (by decide) rfl (fun ls hl => ?_)
  exact hB51 x0 x1 x3 kx0 q_FU 0 x2 _ _ _ hm hW hS (lv_sub hl [2, 3, 5, 1, 0] rfl)
theorem dX12_jammed_0 : decode cX12_jammed 0 = .ok (.aload_n 0, 1) := by decide +kernel
theorem dX12_jammed_1 : decode cX12_jammed 1 = .ok (.iload_n 1, 1) := by decide +kernel
theorem dX12_jammed_2 : decode cX12_jammed 2 = .ok (.invokevirtual 491, 3) := by decide +kernel
theorem dX12_jammed_5 : decode cX12_jammed 5 = .ok (.ifCond .ne 5, 3) := by decide +kernel
theorem dX12_jammed_8 : decode cX12_jammed 8 = .ok (.iconst (-1), 1) := by decide +kernel
theorem dX12_jammed_9 : decode cX12_jammed 9 = .ok (.ireturn, 1) := by decide +kernel
theorem dX12_jammed_10 : decode cX12_jammed 10 = .ok (.iconst 0, 1) := by decide +kernel
theorem dX12_jammed_11 : decode cX12_jammed 11 = .ok (.istore_n 3, 1) := by decide +kernel
theorem dX12_jammed_12 : decode cX12_jammed 12 = .ok (.iconst 0, 1) := by decide +kernel
theorem dX12_jammed_13 : decode cX12_jammed 13 = .ok (.istore 4, 2) := by decide +kernel
theorem dX12_jammed_15 : decode cX12_jammed 15 = .ok (.iload 4, 2) := by decide +kernel
theorem dX12_jammed_17 : decode cX12_jammed 17 = .ok (.aload_n 0, 1) := by decide +kernel
theorem dX12_jammed_18 : decode cX12_jammed 18 = .ok (.iload_n 1, 1) := by decide +kernel
theorem dX12_jammed_19 : decode cX12_jammed 19 = .ok (.invokevirtual 488, 3) := by decide +kernel
theorem dX12_jammed_22 : decode cX12_jammed 22 = .ok (.if_icmp .ge 23, 3) := by decide +kernel
theorem dX12_jammed_25 : decode cX12_jammed 25 = .ok (.iload_n 3, 1) := by decide +kernel
theorem dX12_jammed_26 : decode cX12_jammed 26 = .ok (.iload_n 2, 1) := by decide +kernel
theorem dX12_jammed_27 : decode cX12_jammed 27 = .ok (.aload_n 0, 1) := by decide +kernel
theorem dX12_jammed_28 : decode cX12_jammed 28 = .ok (.iload_n 1, 1) := by decide +kernel
theorem dX12_jammed_29 : decode cX12_jammed 29 = .ok (.iload 4, 2) := by decide +kernel
theorem dX12_jammed_31 : decode cX12_jammed 31 = .ok (.invokevirtual 494, 3) := by decide +kernel
theorem dX12_jammed_34 : decode cX12_jammed 34 = .ok (.ishr, 1) := by decide +kernel
theorem dX12_jammed_35 : decode cX12_jammed 35 = .ok (.iconst 1, 1) := by decide +kernel
theorem dX12_jammed_36 : decode cX12_jammed 36 = .ok (.iand, 1) := by decide +kernel
theorem dX12_jammed_37 : decode cX12_jammed 37 = .ok (.iadd, 1) := by decide +kernel
theorem dX12_jammed_38 : decode cX12_jammed 38 = .ok (.istore_n 3, 1) := by decide +kernel
theorem dX12_jammed_39 : decode cX12_jammed 39 = .ok (.iinc 4 1, 3) := by decide +kernel
theorem dX12_jammed_42 : decode cX12_jammed 42 = .ok (.goto (-27), 3) := by decide +kernel
theorem dX12_jammed_45 : decode cX12_jammed 45 = .ok (.iload_n 3, 1) := by decide +kernel
theorem dX12_jammed_46 : decode cX12_jammed 46 = .ok (.ireturn, 1) := by decide +kernel
set_option maxRecDepth 100000 in
theorem c_X12_jammed (l : Launch) (D : q_D) (al : q_Al) (dt : q_Dt) (x0 : Nat) (x1 : Int32) (x2 : Int32) (kx0 : al.1 x0 = 13) (r0 : Int32) (hm : X12_jammed al dt x0 x1 x2 = some r0) : q_Mt l yX12_jammed cX12_jammed 5 (some FieldType.int) 2 44 D al [.ref x0, .int x1, .int x2] dt 0 (some (.int r0)) dt := by
  refine q_Mt.of (by decide) (Nat.le_of_ble_eq_true rfl) ?_
  intro p e s m args below meth c ls C hargs hW hl
  have hx := C.1
  have hb := C.2.1
  have hown := C.2.2.2.2.2.1
  have hts := C.2.2.2.2.2.2.1
  have hS : va_S (q_A al) s.heap s.heap [] := va_S.rf
  have hl : lv_has ls 5 [(0, .ref x0), (1, .int x1), (2, .int x2)] := hl
  unfold X12_jammed at hm
  have hB15 : ∀ (x0_15 : Nat) (x1_15 : Int32) (x2_15 : Int32) (kx0_15 : al.1 x0_15 = 13) (n_15 : Nat) (x3_15 : Int32) (x4_15 : Int32) (H : Heap) (locs : List Loc) (ls : Array Slot) (hm : X12_jammed_b15 al dt x0_15 x1_15 x2_15 n_15 x3_15 x4_15 = some r0) (hW : q_W D al dt H) (hS : va_S (q_A al) s.heap H locs) (hl : lv_has ls 5 [(0, .ref x0_15), (1, .int x1_15), (2, .int x2_15), (3, .int x3_15), (4, .int x4_15)]), W p l e { frames := 2, cells := 0, slots := 0, locals := 44 } s m args below meth c H locs 0 0 (MQ below (q_Q (some (.int r0)) (fun H => q_W D al dt H ∧ q_Rk al 0 (some (.int r0))) (q_A al)) args s 0 0 (q_A al)) (F0 m 15 ls []) := by
    intro x0_15 x1_15 x2_15 kx0_15
    intro n_15
    induction n_15 with
    | zero => intro x3_15 x4_15 H locs ls hm hW hS hl; cases hm
    | succ n_15 ih15 =>
      intro x3_15 x4_15 H locs ls hm hW hS hl
      rw [X12_jammed_b15] at hm
      refine lv_iload hx hb dX12_jammed_15 (lv_at hl 4 rfl) ?_
      refine lv_aload_n hx hb dX12_jammed_17 rfl (lv_at hl 0 rfl) ?_
      refine lv_iload_n hx hb dX12_jammed_18 rfl (lv_at hl 1 rfl) ?_
      obtain ⟨v15002, hc15001, hm⟩ := q_b1i hm
      refine q_callV C hW hS (As := [.int x1_15]) (rest := [.int x4_15]) (st1 := [.int v15002, .int x4_15]) (c_X12_p l D al dt x0_15 x1_15 kx0_15 v15002 hc15001) yl_X12_p vl_X12_p ml_RX12_488 (ci := 12) rfl kx0_15 (by decide) rfl ⟨Nat.le_of_ble_eq_true rfl, Nat.le_of_ble_eq_true rfl⟩ hl rfl (Nat.le_of_ble_eq_true rfl) dX12_jammed_19 ⟨Nat.le_refl _, Nat.le_refl _⟩ rfl (fun H locs k15003 hW hS => ?_)
      refine q_ifc hm (fun c15004 hm => ?_) (fun c15004 hm => ?_)
      · refine lv_icmp_ge (tgt := 45) hx hb dX12_jammed_22 (by decide) (fun _ => ?_) (fun h => absurd c15004 h)
        refine lv_iload_n hx hb dX12_jammed_45 rfl (lv_at hl 3 rfl) ?_
        exact e_i C hW hS hm dX12_jammed_46
      refine lv_icmp_ge (tgt := 45) hx hb dX12_jammed_22 (by decide) (fun h => absurd h c15004) (fun _ => ?_)
      refine lv_iload_n hx hb dX12_jammed_25 rfl (lv_at hl 3 rfl) ?_
      refine lv_iload_n hx hb dX12_jammed_26 rfl (lv_at hl 2 rfl) ?_
      refine lv_aload_n hx hb dX12_jammed_27 rfl (lv_at hl 0 rfl) ?_
      refine lv_iload_n hx hb dX12_jammed_28 rfl (lv_at hl 1 rfl) ?_
      refine lv_iload hx hb dX12_jammed_29 (lv_at hl 4 rfl) ?_
      obtain ⟨v15006, hc15005, hm⟩ := q_b1i hm
      refine q_callV C hW hS (As := [.int x1_15, .int x4_15]) (rest := [.int x2_15, .int x3_15]) (st1 := [.int v15006, .int x2_15, .int x3_15]) (c_X12_channel l D al dt x0_15 x1_15 x4_15 kx0_15 v15006 hc15005) yl_X12_channel vl_X12_channel ml_RX12_494 (ci := 12) rfl kx0_15 (by decide) rfl ⟨Nat.le_of_ble_eq_true rfl, Nat.le_of_ble_eq_true rfl⟩ hl rfl (Nat.le_of_ble_eq_true rfl) dX12_jammed_31 ⟨Nat.le_refl _, Nat.le_refl _⟩ rfl (fun H locs k15007 hW hS => ?_)
      refine lv_ishr hx hb dX12_jammed_34 ?_
      refine lv_iconst (v := 1) hx hb dX12_jammed_35 (by decide) ?_
      refine lv_iand hx hb dX12_jammed_36 ?_
      refine lv_iadd hx hb dX12_jammed_37 ?_
      refine q_nmI hm (fun v15008 ev15008 hm => ?_)
      refine lv_istore_n (i := 3) (lv' := [(3, .int v15008), (0, .ref x0_15), (1, .int x1_15), (2, .int x2_15), (4, .int x4_15)]) hx hb dX12_jammed_38 rfl hl (by decide) rfl (fun ls hl => ?_)
      refine lv_iinc (v := (x4_15 + 1)) (lv' := [(4, .int (x4_15 + 1)), (3, .int v15008), (0, .ref x0_15), (1, .int x1_15), (2, .int x2_15)]) hx hb dX12_jammed_39 hl (k := 4) rfl rfl (by decide) rfl (fun ls hl => ?_)
      refine lv_goto (tgt := 15) hx hb dX12_jammed_42 (by decide) ?_
      exact ih15 v15008 (x4_15 + 1) _ _ _ hm hW hS (lv_sub hl [2, 3, 4, 1, 0] rfl)
  refine lv_aload_n hx hb dX12_jammed_0 rfl (lv_at hl 0 rfl) ?_
  refine lv_iload_n hx hb dX12_jammed_1 rfl (lv_at hl 1 rfl) ?_
  obtain ⟨v1000002, hc1000001, hm⟩ := q_b1i hm
  refine q_callV C hW hS (As := [.int x1]) (rest := []) (st1 := [.int v1000002]) (c_X12_isHop l D al dt x0 x1 kx0 v1000002 hc1000001) yl_X12_isHop vl_X12_isHop ml_RX12_491 (ci := 12) rfl kx0 (by decide) rfl ⟨Nat.le_of_ble_eq_true rfl, Nat.le_of_ble_eq_true rfl⟩ hl rfl (Nat.le_of_ble_eq_true rfl) dX12_jammed_2 ⟨Nat.le_refl _, Nat.le_refl _⟩ rfl (fun H locs k1000003 hW hS => ?_)
  refine q_ifc hm (fun c1000004 hm => ?_) (fun c1000004 hm => ?_)
  · refine lv_if_ne (tgt := 10) hx hb dX12_jammed_5 (by decide) (fun h => absurd c1000004 h) (fun _ => ?_)
    refine lv_iconst (v := (-1)) hx hb dX12_jammed_8 (by decide) ?_
    exact e_i C hW hS hm dX12_jammed_9
  refine lv_if_ne (tgt := 10) hx hb dX12_jammed_5 (by decide) (fun _ => ?_) (fun h => absurd h c1000004)
  refine lv_iconst (v := 0) hx hb dX12_jammed_10 (by decide) ?_
  refine lv_istore_n (i := 3) (lv' := [(3, .int 0), (0, .ref x0), (1, .int x1), (2, .int x2)]) hx hb dX12_jammed_11 rfl hl (by decide) rfl (fun ls hl => ?_)
  refine lv_iconst (v := 0) hx hb dX12_jammed_12 (by decide) ?_
  refine lv_istore (i := 4) (lv' := [(4, .int 0), (3, .int 0), (0, .ref x0), (1, .int x1), (2, .int x2)]) hx hb dX12_jammed_13 hl (by decide) rfl (fun ls hl => ?_)
  exact hB15 x0 x1 x2 kx0 q_FU 0 0 _ _ _ hm hW hS (lv_sub hl [2, 3, 4, 1, 0] rfl)
theorem dX12_slotsOn_0 : decode cX12_slotsOn 0 = .ok (.iconst 0, 1) := by decide +kernel
theorem dX12_slotsOn_1 : decode cX12_slotsOn 1 = .ok (.istore_n 3, 1) := by decide +kernel
theorem dX12_slotsOn_2 : decode cX12_slotsOn 2 = .ok (.iconst 0, 1) := by decide +kernel
theorem dX12_slotsOn_3 : decode cX12_slotsOn 3 = .ok (.istore 4, 2) := by decide +kernel
theorem dX12_slotsOn_5 : decode cX12_slotsOn 5 = .ok (.iload 4, 2) := by decide +kernel
theorem dX12_slotsOn_7 : decode cX12_slotsOn 7 = .ok (.aload_n 0, 1) := by decide +kernel
theorem dX12_slotsOn_8 : decode cX12_slotsOn 8 = .ok (.iload_n 1, 1) := by decide +kernel
theorem dX12_slotsOn_9 : decode cX12_slotsOn 9 = .ok (.invokevirtual 488, 3) := by decide +kernel
theorem dX12_slotsOn_12 : decode cX12_slotsOn 12 = .ok (.if_icmp .ge 23, 3) := by decide +kernel
theorem dX12_slotsOn_15 : decode cX12_slotsOn 15 = .ok (.aload_n 0, 1) := by decide +kernel
theorem dX12_slotsOn_16 : decode cX12_slotsOn 16 = .ok (.iload_n 1, 1) := by decide +kernel
theorem dX12_slotsOn_17 : decode cX12_slotsOn 17 = .ok (.iload 4, 2) := by decide +kernel
theorem dX12_slotsOn_19 : decode cX12_slotsOn 19 = .ok (.invokevirtual 494, 3) := by decide +kernel
theorem dX12_slotsOn_22 : decode cX12_slotsOn 22 = .ok (.iload_n 2, 1) := by decide +kernel
theorem dX12_slotsOn_23 : decode cX12_slotsOn 23 = .ok (.if_icmp .ne 6, 3) := by decide +kernel
theorem dX12_slotsOn_26 : decode cX12_slotsOn 26 = .ok (.iinc 3 1, 3) := by decide +kernel
theorem dX12_slotsOn_29 : decode cX12_slotsOn 29 = .ok (.iinc 4 1, 3) := by decide +kernel
theorem dX12_slotsOn_32 : decode cX12_slotsOn 32 = .ok (.goto (-27), 3) := by decide +kernel
theorem dX12_slotsOn_35 : decode cX12_slotsOn 35 = .ok (.iload_n 3, 1) := by decide +kernel
theorem dX12_slotsOn_36 : decode cX12_slotsOn 36 = .ok (.ireturn, 1) := by decide +kernel
set_option maxRecDepth 100000 in
theorem c_X12_slotsOn (l : Launch) (D : q_D) (al : q_Al) (dt : q_Dt) (x0 : Nat) (x1 : Int32) (x2 : Int32) (kx0 : al.1 x0 = 13) (r0 : Int32) (hm : X12_slotsOn al dt x0 x1 x2 = some r0) : q_Mt l yX12_slotsOn cX12_slotsOn 5 (some FieldType.int) 2 44 D al [.ref x0, .int x1, .int x2] dt 0 (some (.int r0)) dt := by
  refine q_Mt.of (by decide) (Nat.le_of_ble_eq_true rfl) ?_
  intro p e s m args below meth c ls C hargs hW hl
  have hx := C.1
  have hb := C.2.1
  have hown := C.2.2.2.2.2.1
  have hts := C.2.2.2.2.2.2.1
  have hS : va_S (q_A al) s.heap s.heap [] := va_S.rf
  have hl : lv_has ls 5 [(0, .ref x0), (1, .int x1), (2, .int x2)] := hl
  unfold X12_slotsOn at hm
  have hB5 : ∀ (x0_5 : Nat) (x1_5 : Int32) (x2_5 : Int32) (kx0_5 : al.1 x0_5 = 13) (n_5 : Nat) (x3_5 : Int32) (x4_5 : Int32) (H : Heap) (locs : List Loc) (ls : Array Slot) (hm : X12_slotsOn_b5 al dt x0_5 x1_5 x2_5 n_5 x3_5 x4_5 = some r0) (hW : q_W D al dt H) (hS : va_S (q_A al) s.heap H locs) (hl : lv_has ls 5 [(0, .ref x0_5), (1, .int x1_5), (2, .int x2_5), (3, .int x3_5), (4, .int x4_5)]), W p l e { frames := 2, cells := 0, slots := 0, locals := 44 } s m args below meth c H locs 0 0 (MQ below (q_Q (some (.int r0)) (fun H => q_W D al dt H ∧ q_Rk al 0 (some (.int r0))) (q_A al)) args s 0 0 (q_A al)) (F0 m 5 ls []) := by
    intro x0_5 x1_5 x2_5 kx0_5
    intro n_5
    induction n_5 with
    | zero => intro x3_5 x4_5 H locs ls hm hW hS hl; cases hm
    | succ n_5 ih5 =>
      have hB29 : ∀ (x3_29 : Int32) (x4_29 : Int32) (H : Heap) (locs : List Loc) (ls : Array Slot) (hm : X12_slotsOn_b29 al dt (X12_slotsOn_b5 al dt x0_5 x1_5 x2_5 n_5) x0_5 x1_5 x2_5 x3_29 x4_29 = some r0) (hW : q_W D al dt H) (hS : va_S (q_A al) s.heap H locs) (hl : lv_has ls 5 [(0, .ref x0_5), (1, .int x1_5), (2, .int x2_5), (3, .int x3_29), (4, .int x4_29)]), W p l e { frames := 2, cells := 0, slots := 0, locals := 44 } s m args below meth c H locs 0 0 (MQ below (q_Q (some (.int r0)) (fun H => q_W D al dt H ∧ q_Rk al 0 (some (.int r0))) (q_A al)) args s 0 0 (q_A al)) (F0 m 29 ls []) := by
        intro x3_29 x4_29 H locs ls hm hW hS hl
        unfold X12_slotsOn_b29 at hm
        refine lv_iinc (v := (x4_29 + 1)) (lv' := [(4, .int (x4_29 + 1)), (0, .ref x0_5), (1, .int x1_5), (2, .int x2_5), (3, .int x3_29)]) hx hb dX12_slotsOn_29 hl (k := 4) rfl rfl (by decide) rfl (fun ls hl => ?_)
        refine lv_goto (tgt := 5) hx hb dX12_slotsOn_32 (by decide) ?_
        exact ih5 x3_29 (x4_29 + 1) _ _ _ hm hW hS (lv_sub hl [1, 2, 3, 4, 0] rfl)
      intro x3_5 x4_5 H locs ls hm hW hS hl
      rw [X12_slotsOn_b5] at hm
      refine lv_iload hx hb dX12_slotsOn_5 (lv_at hl 4 rfl) ?_
      refine lv_aload_n hx hb dX12_slotsOn_7 rfl (lv_at hl 0 rfl) ?_
      refine lv_iload_n hx hb dX12_slotsOn_8 rfl (lv_at hl 1 rfl) ?_
      obtain ⟨v5002, hc5001, hm⟩ := q_b1i hm
      refine q_callV C hW hS (As := [.int x1_5]) (rest := [.int x4_5]) (st1 := [.int v5002, .int x4_5]) (c_X12_p l D al dt x0_5 x1_5 kx0_5 v5002 hc5001) yl_X12_p vl_X12_p ml_RX12_488 (ci := 12) rfl kx0_5 (by decide) rfl ⟨Nat.le_of_ble_eq_true rfl, Nat.le_of_ble_eq_true rfl⟩ hl rfl (Nat.le_of_ble_eq_true rfl) dX12_slotsOn_9 ⟨Nat.le_refl _, Nat.le_refl _⟩ rfl (fun H locs k5003 hW hS => ?_)
      refine q_ifc hm (fun c5004 hm => ?_) (fun c5004 hm => ?_)
      · refine lv_icmp_ge (tgt := 35) hx hb dX12_slotsOn_12 (by decide) (fun _ => ?_) (fun h => absurd c5004 h)
        refine lv_iload_n hx hb dX12_slotsOn_35 rfl (lv_at hl 3 rfl) ?_
        exact e_i C hW hS hm dX12_slotsOn_36
      refine lv_icmp_ge (tgt := 35) hx hb dX12_slotsOn_12 (by decide) (fun h => absurd h c5004) (fun _ => ?_)
      refine lv_aload_n hx hb dX12_slotsOn_15 rfl (lv_at hl 0 rfl) ?_
      refine lv_iload_n hx hb dX12_slotsOn_16 rfl (lv_at hl 1 rfl) ?_
      refine lv_iload hx hb dX12_slotsOn_17 (lv_at hl 4 rfl) ?_
      obtain ⟨v5006, hc5005, hm⟩ := q_b1i hm
      refine q_callV C hW hS (As := [.int x1_5, .int x4_5]) (rest := []) (st1 := [.int v5006]) (c_X12_channel l D al dt x0_5 x1_5 x4_5 kx0_5 v5006 hc5005) yl_X12_channel vl_X12_channel ml_RX12_494 (ci := 12) rfl kx0_5 (by decide) rfl ⟨Nat.le_of_ble_eq_true rfl, Nat.le_of_ble_eq_true rfl⟩ hl rfl (Nat.le_of_ble_eq_true rfl) dX12_slotsOn_19 ⟨Nat.le_refl _, Nat.le_refl _⟩ rfl (fun H locs k5007 hW hS => ?_)
      refine lv_iload_n hx hb dX12_slotsOn_22 rfl (lv_at hl 2 rfl) ?_
      refine q_ifc hm (fun c5008 hm => ?_) (fun c5008 hm => ?_)
      · refine lv_icmp_ne (tgt := 29) hx hb dX12_slotsOn_23 (by decide) (fun h => absurd c5008 h) (fun _ => ?_)
        refine lv_iinc (v := (x3_5 + 1)) (lv' := [(3, .int (x3_5 + 1)), (0, .ref x0_5), (1, .int x1_5), (2, .int x2_5), (4, .int x4_5)]) hx hb dX12_slotsOn_26 hl (k := 3) rfl rfl (by decide) rfl (fun ls hl => ?_)
        exact hB29 (x3_5 + 1) x4_5 _ _ _ hm hW hS (lv_sub hl [1, 2, 3, 0, 4] rfl)
      refine lv_icmp_ne (tgt := 29) hx hb dX12_slotsOn_23 (by decide) (fun _ => ?_) (fun h => absurd h c5008)
      exact hB29 x3_5 x4_5 _ _ _ hm hW hS (lv_sub hl [0, 1, 2, 3, 4] rfl)
  refine lv_iconst (v := 0) hx hb dX12_slotsOn_0 (by decide) ?_
  refine lv_istore_n (i := 3) (lv' := [(3, .int 0), (0, .ref x0), (1, .int x1), (2, .int x2)]) hx hb dX12_slotsOn_1 rfl hl (by decide) rfl (fun ls hl => ?_)
  refine lv_iconst (v := 0) hx hb dX12_slotsOn_2 (by decide) ?_
  refine lv_istore (i := 4) (lv' := [(4, .int 0), (3, .int 0), (0, .ref x0), (1, .int x1), (2, .int x2)]) hx hb dX12_slotsOn_3 hl (by decide) rfl (fun ls hl => ?_)
  exact hB5 x0 x1 x2 kx0 q_FU 0 0 _ _ _ hm hW hS (lv_sub hl [2, 3, 4, 1, 0] rfl)
