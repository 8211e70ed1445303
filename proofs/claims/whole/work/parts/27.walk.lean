theorem dX12_wave_0 : decode cX12_wave 0 = .ok (.aload_n 0, 1) := by decide +kernel
theorem dX12_wave_1 : decode cX12_wave 1 = .ok (.iload_n 1, 1) := by decide +kernel
theorem dX12_wave_2 : decode cX12_wave 2 = .ok (.invokevirtual 415, 3) := by decide +kernel
theorem dX12_wave_5 : decode cX12_wave 5 = .ok (.ifCond .eq 11, 3) := by decide +kernel
theorem dX12_wave_8 : decode cX12_wave 8 = .ok (.aload_n 0, 1) := by decide +kernel
theorem dX12_wave_9 : decode cX12_wave 9 = .ok (.iload_n 2, 1) := by decide +kernel
theorem dX12_wave_10 : decode cX12_wave 10 = .ok (.invokevirtual 401, 3) := by decide +kernel
theorem dX12_wave_13 : decode cX12_wave 13 = .ok (.ifCond .ne 7, 3) := by decide +kernel
theorem dX12_wave_16 : decode cX12_wave 16 = .ok (.ldc_w 404, 3) := by decide +kernel
theorem dX12_wave_19 : decode cX12_wave 19 = .ok (.ireturn, 1) := by decide +kernel
theorem dX12_wave_20 : decode cX12_wave 20 = .ok (.aload_n 0, 1) := by decide +kernel
theorem dX12_wave_21 : decode cX12_wave 21 = .ok (.iload_n 1, 1) := by decide +kernel
theorem dX12_wave_22 : decode cX12_wave 22 = .ok (.iload_n 2, 1) := by decide +kernel
theorem dX12_wave_23 : decode cX12_wave 23 = .ok (.invokevirtual 345, 3) := by decide +kernel
theorem dX12_wave_26 : decode cX12_wave 26 = .ok (.istore 4, 2) := by decide +kernel
theorem dX12_wave_28 : decode cX12_wave 28 = .ok (.iload 4, 2) := by decide +kernel
theorem dX12_wave_30 : decode cX12_wave 30 = .ok (.ifCond .lt 13, 3) := by decide +kernel
theorem dX12_wave_33 : decode cX12_wave 33 = .ok (.aload_n 0, 1) := by decide +kernel
theorem dX12_wave_34 : decode cX12_wave 34 = .ok (.iload_n 1, 1) := by decide +kernel
theorem dX12_wave_35 : decode cX12_wave 35 = .ok (.iload_n 2, 1) := by decide +kernel
theorem dX12_wave_36 : decode cX12_wave 36 = .ok (.invokevirtual 351, 3) := by decide +kernel
theorem dX12_wave_39 : decode cX12_wave 39 = .ok (.iload_n 3, 1) := by decide +kernel
theorem dX12_wave_40 : decode cX12_wave 40 = .ok (.if_icmp .eq 5, 3) := by decide +kernel
theorem dX12_wave_43 : decode cX12_wave 43 = .ok (.iconst 0, 1) := by decide +kernel
theorem dX12_wave_44 : decode cX12_wave 44 = .ok (.ireturn, 1) := by decide +kernel
theorem dX12_wave_45 : decode cX12_wave 45 = .ok (.aload_n 0, 1) := by decide +kernel
theorem dX12_wave_46 : decode cX12_wave 46 = .ok (.iload_n 1, 1) := by decide +kernel
theorem dX12_wave_47 : decode cX12_wave 47 = .ok (.iload_n 2, 1) := by decide +kernel
theorem dX12_wave_48 : decode cX12_wave 48 = .ok (.invokevirtual 348, 3) := by decide +kernel
theorem dX12_wave_51 : decode cX12_wave 51 = .ok (.aload_n 0, 1) := by decide +kernel
theorem dX12_wave_52 : decode cX12_wave 52 = .ok (.getfield 76, 3) := by decide +kernel
theorem dX12_wave_55 : decode cX12_wave 55 = .ok (.bipush 6, 2) := by decide +kernel
theorem dX12_wave_57 : decode cX12_wave 57 = .ok (.aload_n 0, 1) := by decide +kernel
theorem dX12_wave_58 : decode cX12_wave 58 = .ok (.getfield 242, 3) := by decide +kernel
theorem dX12_wave_61 : decode cX12_wave 61 = .ok (.imul, 1) := by decide +kernel
theorem dX12_wave_62 : decode cX12_wave 62 = .ok (.iload_n 1, 1) := by decide +kernel
theorem dX12_wave_63 : decode cX12_wave 63 = .ok (.iadd, 1) := by decide +kernel
theorem dX12_wave_64 : decode cX12_wave 64 = .ok (.iaload, 1) := by decide +kernel
theorem dX12_wave_65 : decode cX12_wave 65 = .ok (.imul, 1) := by decide +kernel
theorem dX12_wave_66 : decode cX12_wave 66 = .ok (.istore 5, 2) := by decide +kernel
theorem dX12_wave_68 : decode cX12_wave 68 = .ok (.aload_n 0, 1) := by decide +kernel
theorem dX12_wave_69 : decode cX12_wave 69 = .ok (.iload_n 1, 1) := by decide +kernel
theorem dX12_wave_70 : decode cX12_wave 70 = .ok (.iload 4, 2) := by decide +kernel
theorem dX12_wave_72 : decode cX12_wave 72 = .ok (.invokevirtual 339, 3) := by decide +kernel
theorem dX12_wave_75 : decode cX12_wave 75 = .ok (.iconst 1, 1) := by decide +kernel
theorem dX12_wave_76 : decode cX12_wave 76 = .ok (.if_icmp .ne 9, 3) := by decide +kernel
theorem dX12_wave_79 : decode cX12_wave 79 = .ok (.iload 5, 2) := by decide +kernel
theorem dX12_wave_81 : decode cX12_wave 81 = .ok (.ineg, 1) := by decide +kernel
theorem dX12_wave_82 : decode cX12_wave 82 = .ok (.goto 5, 3) := by decide +kernel
theorem dX12_wave_85 : decode cX12_wave 85 = .ok (.iload 5, 2) := by decide +kernel
theorem dX12_wave_87 : decode cX12_wave 87 = .ok (.ireturn, 1) := by decide +kernel
set_option maxRecDepth 100000 in
theorem c_X12_wave (l : Launch) (D : q_D) (al : q_Al) (dt : q_Dt) (x0 : Nat) (x1 : Int32) (x2 : Int32) (x3 : Int32) (kx0 : al.1 x0 = 13) (r0 : Int32) (hm : X12_wave al dt x0 x1 x2 x3 = some r0) : q_Mt l yX12_wave cX12_wave 6 (some FieldType.int) 3 68 D al [.ref x0, .int x1, .int x2, .int x3] dt 0 (some (.int r0)) dt := by
  refine q_Mt.of (by decide) (Nat.le_of_ble_eq_true rfl) ?_
  intro p e s m args below meth c ls C hargs hW hl
  have hx := C.1
  have hb := C.2.1
  have hown := C.2.2.2.2.2.1
  have hts := C.2.2.2.2.2.2.1
  have hS : va_S (q_A al) s.heap s.heap [] := va_S.rf
  have hl : lv_has ls 6 [(0, .ref x0), (1, .int x1), (2, .int x2), (3, .int x3)] := hl
  unfold X12_wave at hm
  have hB16 : ∀ (H : Heap) (locs : List Loc) (ls : Array Slot) (hm : X12_wave_b16 al dt = some r0) (hW : q_W D al dt H) (hS : va_S (q_A al) s.heap H locs) (hl : lv_has ls 6 []), W p l e { frames := 3, cells := 0, slots := 0, locals := 68 } s m args below meth c H locs 0 0 (MQ below (q_Q (some (.int r0)) (fun H => q_W D al dt H ∧ q_Rk al 0 (some (.int r0))) (q_A al)) args s 0 0 (q_A al)) (F0 m 16 ls []) := by
    intro H locs ls hm hW hS hl
    unfold X12_wave_b16 at hm
    refine lv_ldcw (own := RX12) (v := (-1000000)) hx hb hown (hts _ wc_RX12_404) dX12_wave_16 ?_
    exact e_i C hW hS hm dX12_wave_19
  refine lv_aload_n hx hb dX12_wave_0 rfl (lv_at hl 0 rfl) ?_
  refine lv_iload_n hx hb dX12_wave_1 rfl (lv_at hl 1 rfl) ?_
  obtain ⟨v1000002, hc1000001, hm⟩ := q_b1i hm
  refine q_callV C hW hS (As := [.int x1]) (rest := []) (st1 := [.int v1000002]) (c_X12_isSender l D al dt x0 x1 kx0 v1000002 hc1000001) yl_X12_isSender vl_X12_isSender ml_RX12_415 (ci := 12) rfl kx0 (by decide) rfl ⟨Nat.le_of_ble_eq_true rfl, Nat.le_of_ble_eq_true rfl⟩ hl rfl (Nat.le_of_ble_eq_true rfl) dX12_wave_2 ⟨Nat.le_refl _, Nat.le_refl _⟩ rfl (fun H locs k1000003 hW hS => ?_)
  refine q_ifc hm (fun c1000004 hm => ?_) (fun c1000004 hm => ?_)
  · refine lv_if_eq (tgt := 16) hx hb dX12_wave_5 (by decide) (fun _ => ?_) (fun h => absurd c1000004 h)
    exact hB16 _ _ _ hm hW hS (lv_sub hl [] rfl)
  refine lv_if_eq (tgt := 16) hx hb dX12_wave_5 (by decide) (fun h => absurd h c1000004) (fun _ => ?_)
  refine lv_aload_n hx hb dX12_wave_8 rfl (lv_at hl 0 rfl) ?_
  refine lv_iload_n hx hb dX12_wave_9 rfl (lv_at hl 2 rfl) ?_
  obtain ⟨v1000006, hc1000005, hm⟩ := q_b1i hm
  refine q_callV C hW hS (As := [.int x2]) (rest := []) (st1 := [.int v1000006]) (c_X12_isSample l D al dt x0 x2 kx0 v1000006 hc1000005) yl_X12_isSample vl_X12_isSample ml_RX12_401 (ci := 12) rfl kx0 (by decide) rfl ⟨Nat.le_of_ble_eq_true rfl, Nat.le_of_ble_eq_true rfl⟩ hl rfl (Nat.le_of_ble_eq_true rfl) dX12_wave_10 ⟨Nat.le_refl _, Nat.le_refl _⟩ rfl (fun H locs k1000007 hW hS => ?_)
  refine q_ifc hm (fun c1000008 hm => ?_) (fun c1000008 hm => ?_)
  · refine lv_if_ne (tgt := 20) hx hb dX12_wave_13 (by decide) (fun h => absurd c1000008 h) (fun _ => ?_)
    exact hB16 _ _ _ hm hW hS (lv_sub hl [] rfl)
  refine lv_if_ne (tgt := 20) hx hb dX12_wave_13 (by decide) (fun _ => ?_) (fun h => absurd h c1000008)
  refine lv_aload_n hx hb dX12_wave_20 rfl (lv_at hl 0 rfl) ?_
  refine lv_iload_n hx hb dX12_wave_21 rfl (lv_at hl 1 rfl) ?_
  refine lv_iload_n hx hb dX12_wave_22 rfl (lv_at hl 2 rfl) ?_
  obtain ⟨v1000010, hc1000009, hm⟩ := q_b1i hm
  refine q_callV C hW hS (As := [.int x1, .int x2]) (rest := []) (st1 := [.int v1000010]) (c_X12_periodAt l D al dt x0 x1 x2 kx0 v1000010 hc1000009) yl_X12_periodAt vl_X12_periodAt ml_RX12_345 (ci := 12) rfl kx0 (by decide) rfl ⟨Nat.le_of_ble_eq_true rfl, Nat.le_of_ble_eq_true rfl⟩ hl rfl (Nat.le_of_ble_eq_true rfl) dX12_wave_23 ⟨Nat.le_refl _, Nat.le_refl _⟩ rfl (fun H locs k1000011 hW hS => ?_)
  refine lv_istore (i := 4) (lv' := [(4, .int v1000010), (0, .ref x0), (1, .int x1), (2, .int x2), (3, .int x3)]) hx hb dX12_wave_26 hl (by decide) rfl (fun ls hl => ?_)
  refine lv_iload hx hb dX12_wave_28 (lv_at hl 0 rfl) ?_
  refine q_ifc hm (fun c1000012 hm => ?_) (fun c1000012 hm => ?_)
  · refine lv_if_lt (tgt := 43) hx hb dX12_wave_30 (by decide) (fun _ => ?_) (fun h => absurd c1000012 h)
    refine lv_iconst (v := 0) hx hb dX12_wave_43 (by decide) ?_
    exact e_i C hW hS hm dX12_wave_44
  refine lv_if_lt (tgt := 43) hx hb dX12_wave_30 (by decide) (fun h => absurd h c1000012) (fun _ => ?_)
  refine lv_aload_n hx hb dX12_wave_33 rfl (lv_at hl 1 rfl) ?_
  refine lv_iload_n hx hb dX12_wave_34 rfl (lv_at hl 2 rfl) ?_
  refine lv_iload_n hx hb dX12_wave_35 rfl (lv_at hl 3 rfl) ?_
  obtain ⟨v1000014, hc1000013, hm⟩ := q_b1i hm
  refine q_callV C hW hS (As := [.int x1, .int x2]) (rest := []) (st1 := [.int v1000014]) (c_X12_isIm l D al dt x0 x1 x2 kx0 v1000014 hc1000013) yl_X12_isIm vl_X12_isIm ml_RX12_351 (ci := 12) rfl kx0 (by decide) rfl ⟨Nat.le_of_ble_eq_true rfl, Nat.le_of_ble_eq_true rfl⟩ hl rfl (Nat.le_of_ble_eq_true rfl) dX12_wave_36 ⟨Nat.le_refl _, Nat.le_refl _⟩ rfl (fun H locs k1000015 hW hS => ?_)
  refine lv_iload_n hx hb dX12_wave_39 rfl (lv_at hl 4 rfl) ?_
  refine q_ifc hm (fun c1000016 hm => ?_) (fun c1000016 hm => ?_)
  · refine lv_icmp_eq (tgt := 45) hx hb dX12_wave_40 (by decide) (fun _ => ?_) (fun h => absurd c1000016 h)
    refine lv_aload_n hx hb dX12_wave_45 rfl (lv_at hl 1 rfl) ?_
    refine lv_iload_n hx hb dX12_wave_46 rfl (lv_at hl 2 rfl) ?_
    refine lv_iload_n hx hb dX12_wave_47 rfl (lv_at hl 3 rfl) ?_
    obtain ⟨v1000018, hc1000017, hm⟩ := q_b1i hm
    refine q_callV C hW hS (As := [.int x1, .int x2]) (rest := []) (st1 := [.int v1000018]) (c_X12_signAt l D al dt x0 x1 x2 kx0 v1000018 hc1000017) yl_X12_signAt vl_X12_signAt ml_RX12_348 (ci := 12) rfl kx0 (by decide) rfl ⟨Nat.le_of_ble_eq_true rfl, Nat.le_of_ble_eq_true rfl⟩ hl rfl (Nat.le_of_ble_eq_true rfl) dX12_wave_48 ⟨Nat.le_refl _, Nat.le_refl _⟩ rfl (fun H locs k1000019 hW hS => ?_)
    refine lv_aload_n hx hb dX12_wave_51 rfl (lv_at hl 1 rfl) ?_
    refine r_getF C hW (ci := 12) kx0 ff_12_33 cl_12 fl_RX12_76 dX12_wave_52 (fun k1000020 => ?_)
    refine lv_bipush (v := 6) hx hb dX12_wave_55 (by decide) ?_
    refine lv_aload_n hx hb dX12_wave_57 rfl (lv_at hl 1 rfl) ?_
    refine r_getI C hW (ci := 12) kx0 ff_12_18 cl_12 fl_RX12_242 dX12_wave_58 ?_
    refine lv_imul hx hb dX12_wave_61 ?_
    refine lv_iload_n hx hb dX12_wave_62 rfl (lv_at hl 2 rfl) ?_
    refine lv_iadd hx hb dX12_wave_63 ?_
    refine r_iald C hW hm k1000020 dX12_wave_64 (fun hm => ?_)
    refine lv_imul hx hb dX12_wave_65 ?_
    refine q_nmI hm (fun v1000021 ev1000021 hm => ?_)
    refine lv_istore (i := 5) (lv' := [(5, .int v1000021), (4, .int v1000010), (0, .ref x0), (1, .int x1), (2, .int x2), (3, .int x3)]) hx hb dX12_wave_66 hl (by decide) rfl (fun ls hl => ?_)
    refine lv_aload_n hx hb dX12_wave_68 rfl (lv_at hl 2 rfl) ?_
    refine lv_iload_n hx hb dX12_wave_69 rfl (lv_at hl 3 rfl) ?_
    refine lv_iload hx hb dX12_wave_70 (lv_at hl 1 rfl) ?_
    obtain ⟨v1000023, hc1000022, hm⟩ := q_b1i hm
    refine q_callV C hW hS (As := [.int x1, .int v1000010]) (rest := []) (st1 := [.int v1000023]) (c_X12_dataBit l D al dt x0 x1 v1000010 kx0 v1000023 hc1000022) yl_X12_dataBit vl_X12_dataBit ml_RX12_339 (ci := 12) rfl kx0 (by decide) rfl ⟨Nat.le_of_ble_eq_true rfl, Nat.le_of_ble_eq_true rfl⟩ hl rfl (Nat.le_of_ble_eq_true rfl) dX12_wave_72 ⟨Nat.le_refl _, Nat.le_refl _⟩ rfl (fun H locs k1000024 hW hS => ?_)
    refine lv_iconst (v := 1) hx hb dX12_wave_75 (by decide) ?_
    refine q_ifc hm (fun c1000025 hm => ?_) (fun c1000025 hm => ?_)
    · refine lv_icmp_ne (tgt := 85) hx hb dX12_wave_76 (by decide) (fun h => absurd c1000025 h) (fun _ => ?_)
      refine lv_iload hx hb dX12_wave_79 (lv_at hl 0 rfl) ?_
      refine lv_ineg hx hb dX12_wave_81 ?_
      refine lv_goto (tgt := 87) hx hb dX12_wave_82 (by decide) ?_
      exact e_i C hW hS hm dX12_wave_87
    refine lv_icmp_ne (tgt := 85) hx hb dX12_wave_76 (by decide) (fun _ => ?_) (fun h => absurd h c1000025)
    refine lv_iload hx hb dX12_wave_85 (lv_at hl 0 rfl) ?_
    exact e_i C hW hS hm dX12_wave_87
  refine lv_icmp_eq (tgt := 45) hx hb dX12_wave_40 (by decide) (fun h => absurd h c1000016) (fun _ => ?_)
  refine lv_iconst (v := 0) hx hb dX12_wave_43 (by decide) ?_
  exact e_i C hW hS hm dX12_wave_44
theorem dX12_add_0 : decode cX12_add 0 = .ok (.aload_n 0, 1) := by decide +kernel
theorem dX12_add_1 : decode cX12_add 1 = .ok (.iload_n 1, 1) := by decide +kernel
theorem dX12_add_2 : decode cX12_add 2 = .ok (.invokevirtual 415, 3) := by decide +kernel
theorem dX12_add_5 : decode cX12_add 5 = .ok (.ifCond .eq 14, 3) := by decide +kernel
theorem dX12_add_8 : decode cX12_add 8 = .ok (.iload_n 2, 1) := by decide +kernel
theorem dX12_add_9 : decode cX12_add 9 = .ok (.bipush (-9), 2) := by decide +kernel
theorem dX12_add_11 : decode cX12_add 11 = .ok (.bipush 9, 2) := by decide +kernel
theorem dX12_add_13 : decode cX12_add 13 = .ok (.invokestatic 376, 3) := by decide +kernel
theorem dX12_add_16 : decode cX12_add 16 = .ok (.ifCond .ne 5, 3) := by decide +kernel
theorem dX12_add_19 : decode cX12_add 19 = .ok (.iconst 0, 1) := by decide +kernel
theorem dX12_add_20 : decode cX12_add 20 = .ok (.ireturn, 1) := by decide +kernel
theorem dX12_add_21 : decode cX12_add 21 = .ok (.aload_n 0, 1) := by decide +kernel
theorem dX12_add_22 : decode cX12_add 22 = .ok (.iload_n 1, 1) := by decide +kernel
theorem dX12_add_23 : decode cX12_add 23 = .ok (.invokevirtual 366, 3) := by decide +kernel
theorem dX12_add_26 : decode cX12_add 26 = .ok (.aload_n 0, 1) := by decide +kernel
theorem dX12_add_27 : decode cX12_add 27 = .ok (.aload_n 0, 1) := by decide +kernel
theorem dX12_add_28 : decode cX12_add 28 = .ok (.getfield 133, 3) := by decide +kernel
theorem dX12_add_31 : decode cX12_add 31 = .ok (.iload_n 1, 1) := by decide +kernel
theorem dX12_add_32 : decode cX12_add 32 = .ok (.iload_n 2, 1) := by decide +kernel
theorem dX12_add_33 : decode cX12_add 33 = .ok (.invokevirtual 369, 3) := by decide +kernel
theorem dX12_add_36 : decode cX12_add 36 = .ok (.iconst 1, 1) := by decide +kernel
theorem dX12_add_37 : decode cX12_add 37 = .ok (.ireturn, 1) := by decide +kernel
set_option maxRecDepth 100000 in
theorem c_X12_add (l : Launch) (D : q_D) (al : q_Al) (dt : q_Dt) (x0 : Nat) (x1 : Int32) (x2 : Int32) (kx0 : al.1 x0 = 13) (r0 : Int32) (dt0 : q_Dt) (hm : X12_add al dt x0 x1 x2 = some (r0, dt0)) : q_Mt l yX12_add cX12_add 3 (some FieldType.boolean) 4 97 D al [.ref x0, .int x1, .int x2] dt 0 (some (.int r0)) dt0 := by
  refine q_Mt.of (by decide) (Nat.le_of_ble_eq_true rfl) ?_
  intro p e s m args below meth c ls C hargs hW hl
  have hx := C.1
  have hb := C.2.1
  have hown := C.2.2.2.2.2.1
  have hts := C.2.2.2.2.2.2.1
  have hS : va_S (q_A al) s.heap s.heap [] := va_S.rf
  have hl : lv_has ls 3 [(0, .ref x0), (1, .int x1), (2, .int x2)] := hl
  unfold X12_add at hm
  refine lv_aload_n hx hb dX12_add_0 rfl (lv_at hl 0 rfl) ?_
  refine lv_iload_n hx hb dX12_add_1 rfl (lv_at hl 1 rfl) ?_
  obtain ⟨v1000002, hc1000001, hm⟩ := q_b1i hm
  refine q_callV C hW hS (As := [.int x1]) (rest := []) (st1 := [.int v1000002]) (c_X12_isSender l D al dt x0 x1 kx0 v1000002 hc1000001) yl_X12_isSender vl_X12_isSender ml_RX12_415 (ci := 12) rfl kx0 (by decide) rfl ⟨Nat.le_of_ble_eq_true rfl, Nat.le_of_ble_eq_true rfl⟩ hl rfl (Nat.le_of_ble_eq_true rfl) dX12_add_2 ⟨Nat.le_refl _, Nat.le_refl _⟩ rfl (fun H locs k1000003 hW hS => ?_)
  refine q_ifc hm (fun c1000004 hm => ?_) (fun c1000004 hm => ?_)
  · refine lv_if_eq (tgt := 19) hx hb dX12_add_5 (by decide) (fun _ => ?_) (fun h => absurd c1000004 h)
    refine lv_iconst (v := 0) hx hb dX12_add_19 (by decide) ?_
    exact e_zlD C hW hS (Or.inl rfl) hm dX12_add_20
  refine lv_if_eq (tgt := 19) hx hb dX12_add_5 (by decide) (fun h => absurd h c1000004) (fun _ => ?_)
  refine lv_iload_n hx hb dX12_add_8 rfl (lv_at hl 2 rfl) ?_
  refine lv_bipush (v := (-9)) hx hb dX12_add_9 (by decide) ?_
  refine lv_bipush (v := 9) hx hb dX12_add_11 (by decide) ?_
  obtain ⟨v1000006, hc1000005, hm⟩ := q_b1i hm
  refine q_callS C hW hS (As := [.int x2, .int (-9), .int 9]) (rest := []) (st1 := [.int v1000006]) (c_X12_in l D al dt x2 (-9) 9 v1000006 hc1000005) yl_X12_in sl_X12_in ml_RX12_376 rfl ⟨Nat.le_of_ble_eq_true rfl, Nat.le_of_ble_eq_true rfl⟩ hl rfl (Nat.le_of_ble_eq_true rfl) dX12_add_13 ⟨Nat.le_refl _, Nat.le_refl _⟩ rfl (fun H locs k1000007 hW hS => ?_)
  refine q_ifc hm (fun c1000008 hm => ?_) (fun c1000008 hm => ?_)
  · refine lv_if_ne (tgt := 21) hx hb dX12_add_16 (by decide) (fun h => absurd c1000008 h) (fun _ => ?_)
    refine lv_iconst (v := 0) hx hb dX12_add_19 (by decide) ?_
    exact e_zlD C hW hS (Or.inl rfl) hm dX12_add_20
  refine lv_if_ne (tgt := 21) hx hb dX12_add_16 (by decide) (fun _ => ?_) (fun h => absurd h c1000008)
  refine lv_aload_n hx hb dX12_add_21 rfl (lv_at hl 0 rfl) ?_
  refine lv_iload_n hx hb dX12_add_22 rfl (lv_at hl 1 rfl) ?_
  obtain ⟨dt1000010, hc1000009, hm⟩ := q_b1i hm
  refine q_callV C hW hS (As := [.int x1]) (rest := []) (st1 := []) (c_X12_laysData l D al dt x0 x1 kx0 dt1000010 hc1000009) yl_X12_laysData vl_X12_laysData ml_RX12_366 (ci := 12) rfl kx0 (by decide) rfl ⟨Nat.le_of_ble_eq_true rfl, Nat.le_of_ble_eq_true rfl⟩ hl rfl (Nat.le_of_ble_eq_true rfl) dX12_add_23 ⟨Nat.le_refl _, Nat.le_refl _⟩ rfl (fun H locs k1000011 hW hS => ?_)
  refine lv_aload_n hx hb dX12_add_26 rfl (lv_at hl 0 rfl) ?_
  refine lv_aload_n hx hb dX12_add_27 rfl (lv_at hl 0 rfl) ?_
  refine r_getF C hW (ci := 12) kx0 ff_12_53 cl_12 fl_RX12_133 dX12_add_28 (fun k1000012 => ?_)
  refine lv_iload_n hx hb dX12_add_31 rfl (lv_at hl 1 rfl) ?_
  refine lv_iload_n hx hb dX12_add_32 rfl (lv_at hl 2 rfl) ?_
  obtain ⟨dt1000014, hc1000013, hm⟩ := q_b1i hm
  refine q_callV C hW hS (As := [.ref (al.2.2 x0 53), .int x1, .int x2]) (rest := []) (st1 := []) (c_X12_addsWave l D al dt1000010 x0 (al.2.2 x0 53) x1 x2 kx0 k1000012 dt1000014 hc1000013) yl_X12_addsWave vl_X12_addsWave ml_RX12_369 (ci := 12) rfl kx0 (by decide) rfl ⟨Nat.le_of_ble_eq_true rfl, Nat.le_of_ble_eq_true rfl⟩ hl rfl (Nat.le_of_ble_eq_true rfl) dX12_add_33 ⟨Nat.le_refl _, Nat.le_refl _⟩ rfl (fun H locs k1000015 hW hS => ?_)
  refine lv_iconst (v := 1) hx hb dX12_add_36 (by decide) ?_
  exact e_zlD C hW hS (Or.inr rfl) hm dX12_add_37
theorem dX12_noise_0 : decode cX12_noise 0 = .ok (.iload_n 1, 1) := by decide +kernel
theorem dX12_noise_1 : decode cX12_noise 1 = .ok (.iconst 0, 1) := by decide +kernel
theorem dX12_noise_2 : decode cX12_noise 2 = .ok (.bipush 50, 2) := by decide +kernel
theorem dX12_noise_4 : decode cX12_noise 4 = .ok (.invokestatic 376, 3) := by decide +kernel
theorem dX12_noise_7 : decode cX12_noise 7 = .ok (.ifCond .ne 5, 3) := by decide +kernel
theorem dX12_noise_10 : decode cX12_noise 10 = .ok (.iconst 0, 1) := by decide +kernel
theorem dX12_noise_11 : decode cX12_noise 11 = .ok (.ireturn, 1) := by decide +kernel
theorem dX12_noise_12 : decode cX12_noise 12 = .ok (.aload_n 0, 1) := by decide +kernel
theorem dX12_noise_13 : decode cX12_noise 13 = .ok (.iload_n 1, 1) := by decide +kernel
theorem dX12_noise_14 : decode cX12_noise 14 = .ok (.iload_n 2, 1) := by decide +kernel
theorem dX12_noise_15 : decode cX12_noise 15 = .ok (.invokevirtual 373, 3) := by decide +kernel
theorem dX12_noise_18 : decode cX12_noise 18 = .ok (.iconst 1, 1) := by decide +kernel
theorem dX12_noise_19 : decode cX12_noise 19 = .ok (.ireturn, 1) := by decide +kernel
set_option maxRecDepth 100000 in
theorem c_X12_noise (l : Launch) (D : q_D) (al : q_Al) (dt : q_Dt) (x0 : Nat) (x1 : Int32) (x2 : Int32) (kx0 : al.1 x0 = 13) (r0 : Int32) (dt0 : q_Dt) (hm : X12_noise al dt x0 x1 x2 = some (r0, dt0)) : q_Mt l yX12_noise cX12_noise 3 (some FieldType.boolean) 3 67 D al [.ref x0, .int x1, .int x2] dt 0 (some (.int r0)) dt0 := by
  refine q_Mt.of (by decide) (Nat.le_of_ble_eq_true rfl) ?_
  intro p e s m args below meth c ls C hargs hW hl
  have hx := C.1
  have hb := C.2.1
  have hown := C.2.2.2.2.2.1
  have hts := C.2.2.2.2.2.2.1
  have hS : va_S (q_A al) s.heap s.heap [] := va_S.rf
  have hl : lv_has ls 3 [(0, .ref x0), (1, .int x1), (2, .int x2)] := hl
  unfold X12_noise at hm
  refine lv_iload_n hx hb dX12_noise_0 rfl (lv_at hl 1 rfl) ?_
  refine lv_iconst (v := 0) hx hb dX12_noise_1 (by decide) ?_
  refine lv_bipush (v := 50) hx hb dX12_noise_2 (by decide) ?_
  obtain ⟨v1000002, hc1000001, hm⟩ := q_b1i hm
  refine q_callS C hW hS (As := [.int x1, .int 0, .int 50]) (rest := []) (st1 := [.int v1000002]) (c_X12_in l D al dt x1 0 50 v1000002 hc1000001) yl_X12_in sl_X12_in ml_RX12_376 rfl ⟨Nat.le_of_ble_eq_true rfl, Nat.le_of_ble_eq_true rfl⟩ hl rfl (Nat.le_of_ble_eq_true rfl) dX12_noise_4 ⟨Nat.le_refl _, Nat.le_refl _⟩ rfl (fun H locs k1000003 hW hS => ?_)
  refine q_ifc hm (fun c1000004 hm => ?_) (fun c1000004 hm => ?_)
  · refine lv_if_ne (tgt := 12) hx hb dX12_noise_7 (by decide) (fun h => absurd c1000004 h) (fun _ => ?_)
    refine lv_iconst (v := 0) hx hb dX12_noise_10 (by decide) ?_
    exact e_zlD C hW hS (Or.inl rfl) hm dX12_noise_11
  refine lv_if_ne (tgt := 12) hx hb dX12_noise_7 (by decide) (fun _ => ?_) (fun h => absurd h c1000004)
  refine lv_aload_n hx hb dX12_noise_12 rfl (lv_at hl 0 rfl) ?_
  refine lv_iload_n hx hb dX12_noise_13 rfl (lv_at hl 1 rfl) ?_
  refine lv_iload_n hx hb dX12_noise_14 rfl (lv_at hl 2 rfl) ?_
  obtain ⟨dt1000006, hc1000005, hm⟩ := q_b1i hm
  refine q_callV C hW hS (As := [.int x1, .int x2]) (rest := []) (st1 := []) (c_X12_addsNoise l D al dt x0 x1 x2 kx0 dt1000006 hc1000005) yl_X12_addsNoise vl_X12_addsNoise ml_RX12_373 (ci := 12) rfl kx0 (by decide) rfl ⟨Nat.le_of_ble_eq_true rfl, Nat.le_of_ble_eq_true rfl⟩ hl rfl (Nat.le_of_ble_eq_true rfl) dX12_noise_15 ⟨Nat.le_refl _, Nat.le_refl _⟩ rfl (fun H locs k1000007 hW hS => ?_)
  refine lv_iconst (v := 1) hx hb dX12_noise_18 (by decide) ?_
  exact e_zlD C hW hS (Or.inr rfl) hm dX12_noise_19
theorem dX12_anew_0 : decode cX12_anew 0 = .ok (.aload_n 0, 1) := by decide +kernel
theorem dX12_anew_1 : decode cX12_anew 1 = .ok (.invokevirtual 254, 3) := by decide +kernel
theorem dX12_anew_4 : decode cX12_anew 4 = .ok (.iconst 1, 1) := by decide +kernel
theorem dX12_anew_5 : decode cX12_anew 5 = .ok (.ireturn, 1) := by decide +kernel
set_option maxRecDepth 100000 in
theorem c_X12_anew (l : Launch) (D : q_D) (al : q_Al) (dt : q_Dt) (x0 : Nat) (kx0 : al.1 x0 = 13) (r0 : Int32) (dt0 : q_Dt) (hm : X12_anew al dt x0 = some (r0, dt0)) : q_Mt l yX12_anew cX12_anew 1 (some FieldType.boolean) 5 120 D al [.ref x0] dt 0 (some (.int r0)) dt0 := by
  refine q_Mt.of (by decide) (Nat.le_of_ble_eq_true rfl) ?_
  intro p e s m args below meth c ls C hargs hW hl
  have hx := C.1
  have hb := C.2.1
  have hown := C.2.2.2.2.2.1
  have hts := C.2.2.2.2.2.2.1
  have hS : va_S (q_A al) s.heap s.heap [] := va_S.rf
  have hl : lv_has ls 1 [(0, .ref x0)] := hl
  unfold X12_anew at hm
  refine lv_aload_n hx hb dX12_anew_0 rfl (lv_at hl 0 rfl) ?_
  obtain ⟨dt1000002, hc1000001, hm⟩ := q_b1i hm
  refine q_callV C hW hS (As := []) (rest := []) (st1 := []) (c_X12_lays l D al dt x0 kx0 dt1000002 hc1000001) yl_X12_lays vl_X12_lays ml_RX12_254 (ci := 12) rfl kx0 (by decide) rfl ⟨Nat.le_of_ble_eq_true rfl, Nat.le_of_ble_eq_true rfl⟩ hl rfl (Nat.le_of_ble_eq_true rfl) dX12_anew_1 ⟨Nat.le_refl _, Nat.le_refl _⟩ rfl (fun H locs k1000003 hW hS => ?_)
  refine lv_iconst (v := 1) hx hb dX12_anew_4 (by decide) ?_
  exact e_zlD C hW hS (Or.inr rfl) hm dX12_anew_5
theorem dX12_sums_0 : decode cX12_sums 0 = .ok (.aload_n 0, 1) := by decide +kernel
theorem dX12_sums_1 : decode cX12_sums 1 = .ok (.iconst 0, 1) := by decide +kernel
theorem dX12_sums_2 : decode cX12_sums 2 = .ok (.putfield 418, 3) := by decide +kernel
theorem dX12_sums_5 : decode cX12_sums 5 = .ok (.aload_n 0, 1) := by decide +kernel
theorem dX12_sums_6 : decode cX12_sums 6 = .ok (.iconst 0, 1) := by decide +kernel
theorem dX12_sums_7 : decode cX12_sums 7 = .ok (.putfield 421, 3) := by decide +kernel
theorem dX12_sums_10 : decode cX12_sums 10 = .ok (.aload_n 0, 1) := by decide +kernel
theorem dX12_sums_11 : decode cX12_sums 11 = .ok (.iload_n 1, 1) := by decide +kernel
theorem dX12_sums_12 : decode cX12_sums 12 = .ok (.invokevirtual 327, 3) := by decide +kernel
theorem dX12_sums_15 : decode cX12_sums 15 = .ok (.istore 5, 2) := by decide +kernel
theorem dX12_sums_17 : decode cX12_sums 17 = .ok (.iconst 0, 1) := by decide +kernel
theorem dX12_sums_18 : decode cX12_sums 18 = .ok (.istore 6, 2) := by decide +kernel
theorem dX12_sums_20 : decode cX12_sums 20 = .ok (.iload 6, 2) := by decide +kernel
theorem dX12_sums_22 : decode cX12_sums 22 = .ok (.iload 5, 2) := by decide +kernel
theorem dX12_sums_24 : decode cX12_sums 24 = .ok (.if_icmp .ge 173, 3) := by decide +kernel
theorem dX12_sums_27 : decode cX12_sums 27 = .ok (.iload 4, 2) := by decide +kernel
theorem dX12_sums_29 : decode cX12_sums 29 = .ok (.iload 6, 2) := by decide +kernel
theorem dX12_sums_31 : decode cX12_sums 31 = .ok (.iadd, 1) := by decide +kernel
theorem dX12_sums_32 : decode cX12_sums 32 = .ok (.aload_n 0, 1) := by decide +kernel
theorem dX12_sums_33 : decode cX12_sums 33 = .ok (.invokevirtual 342, 3) := by decide +kernel
theorem dX12_sums_36 : decode cX12_sums 36 = .ok (.if_icmp .ge 161, 3) := by decide +kernel
theorem dX12_sums_39 : decode cX12_sums 39 = .ok (.aload_n 0, 1) := by decide +kernel
theorem dX12_sums_40 : decode cX12_sums 40 = .ok (.getfield 133, 3) := by decide +kernel
theorem dX12_sums_43 : decode cX12_sums 43 = .ok (.iload 4, 2) := by decide +kernel
theorem dX12_sums_45 : decode cX12_sums 45 = .ok (.iload 6, 2) := by decide +kernel
theorem dX12_sums_47 : decode cX12_sums 47 = .ok (.iadd, 1) := by decide +kernel
theorem dX12_sums_48 : decode cX12_sums 48 = .ok (.iaload, 1) := by decide +kernel
theorem dX12_sums_49 : decode cX12_sums 49 = .ok (.istore 7, 2) := by decide +kernel
theorem dX12_sums_51 : decode cX12_sums 51 = .ok (.aload_n 0, 1) := by decide +kernel
theorem dX12_sums_52 : decode cX12_sums 52 = .ok (.getfield 133, 3) := by decide +kernel
theorem dX12_sums_55 : decode cX12_sums 55 = .ok (.sipush 512, 3) := by decide +kernel
theorem dX12_sums_58 : decode cX12_sums 58 = .ok (.iload 4, 2) := by decide +kernel
theorem dX12_sums_60 : decode cX12_sums 60 = .ok (.iadd, 1) := by decide +kernel
theorem dX12_sums_61 : decode cX12_sums 61 = .ok (.iload 6, 2) := by decide +kernel
theorem dX12_sums_63 : decode cX12_sums 63 = .ok (.iadd, 1) := by decide +kernel
theorem dX12_sums_64 : decode cX12_sums 64 = .ok (.iaload, 1) := by decide +kernel
theorem dX12_sums_65 : decode cX12_sums 65 = .ok (.istore 8, 2) := by decide +kernel
theorem dX12_sums_67 : decode cX12_sums 67 = .ok (.aload_n 0, 1) := by decide +kernel
theorem dX12_sums_68 : decode cX12_sums 68 = .ok (.iload_n 1, 1) := by decide +kernel
theorem dX12_sums_69 : decode cX12_sums 69 = .ok (.iload 6, 2) := by decide +kernel
theorem dX12_sums_71 : decode cX12_sums 71 = .ok (.iload 5, 2) := by decide +kernel
theorem dX12_sums_73 : decode cX12_sums 73 = .ok (.iadd, 1) := by decide +kernel
theorem dX12_sums_74 : decode cX12_sums 74 = .ok (.iload_n 2, 1) := by decide +kernel
theorem dX12_sums_75 : decode cX12_sums 75 = .ok (.isub, 1) := by decide +kernel
theorem dX12_sums_76 : decode cX12_sums 76 = .ok (.iload 5, 2) := by decide +kernel
theorem dX12_sums_78 : decode cX12_sums 78 = .ok (.irem, 1) := by decide +kernel
theorem dX12_sums_79 : decode cX12_sums 79 = .ok (.invokevirtual 333, 3) := by decide +kernel
theorem dX12_sums_82 : decode cX12_sums 82 = .ok (.istore 9, 2) := by decide +kernel
theorem dX12_sums_84 : decode cX12_sums 84 = .ok (.iload_n 3, 1) := by decide +kernel
theorem dX12_sums_85 : decode cX12_sums 85 = .ok (.iload 4, 2) := by decide +kernel
theorem dX12_sums_87 : decode cX12_sums 87 = .ok (.iload 6, 2) := by decide +kernel
theorem dX12_sums_89 : decode cX12_sums 89 = .ok (.iadd, 1) := by decide +kernel
theorem dX12_sums_90 : decode cX12_sums 90 = .ok (.invokestatic 336, 3) := by decide +kernel
theorem dX12_sums_93 : decode cX12_sums 93 = .ok (.istore 10, 2) := by decide +kernel
theorem dX12_sums_95 : decode cX12_sums 95 = .ok (.aload_n 0, 1) := by decide +kernel
theorem dX12_sums_96 : decode cX12_sums 96 = .ok (.dup, 1) := by decide +kernel
theorem dX12_sums_97 : decode cX12_sums 97 = .ok (.getfield 418, 3) := by decide +kernel
theorem dX12_sums_100 : decode cX12_sums 100 = .ok (.iload 9, 2) := by decide +kernel
theorem dX12_sums_102 : decode cX12_sums 102 = .ok (.iload 10, 2) := by decide +kernel
theorem dX12_sums_104 : decode cX12_sums 104 = .ok (.ifCond .ne 8, 3) := by decide +kernel
theorem dX12_sums_107 : decode cX12_sums 107 = .ok (.iload 7, 2) := by decide +kernel
theorem dX12_sums_109 : decode cX12_sums 109 = .ok (.goto 29, 3) := by decide +kernel
theorem dX12_sums_112 : decode cX12_sums 112 = .ok (.iload 10, 2) := by decide +kernel
theorem dX12_sums_114 : decode cX12_sums 114 = .ok (.iconst 1, 1) := by decide +kernel
theorem dX12_sums_115 : decode cX12_sums 115 = .ok (.if_icmp .ne 8, 3) := by decide +kernel
theorem dX12_sums_118 : decode cX12_sums 118 = .ok (.iload 8, 2) := by decide +kernel
theorem dX12_sums_120 : decode cX12_sums 120 = .ok (.goto 18, 3) := by decide +kernel
theorem dX12_sums_123 : decode cX12_sums 123 = .ok (.iload 10, 2) := by decide +kernel
theorem dX12_sums_125 : decode cX12_sums 125 = .ok (.iconst 2, 1) := by decide +kernel
theorem dX12_sums_126 : decode cX12_sums 126 = .ok (.if_icmp .ne 9, 3) := by decide +kernel
theorem dX12_sums_129 : decode cX12_sums 129 = .ok (.iload 7, 2) := by decide +kernel
theorem dX12_sums_131 : decode cX12_sums 131 = .ok (.ineg, 1) := by decide +kernel
theorem dX12_sums_132 : decode cX12_sums 132 = .ok (.goto 6, 3) := by decide +kernel
theorem dX12_sums_135 : decode cX12_sums 135 = .ok (.iload 8, 2) := by decide +kernel
theorem dX12_sums_137 : decode cX12_sums 137 = .ok (.ineg, 1) := by decide +kernel
theorem dX12_sums_138 : decode cX12_sums 138 = .ok (.imul, 1) := by decide +kernel
theorem dX12_sums_139 : decode cX12_sums 139 = .ok (.iadd, 1) := by decide +kernel
theorem dX12_sums_140 : decode cX12_sums 140 = .ok (.putfield 418, 3) := by decide +kernel
theorem dX12_sums_143 : decode cX12_sums 143 = .ok (.aload_n 0, 1) := by decide +kernel
theorem dX12_sums_144 : decode cX12_sums 144 = .ok (.dup, 1) := by decide +kernel
theorem dX12_sums_145 : decode cX12_sums 145 = .ok (.getfield 421, 3) := by decide +kernel
theorem dX12_sums_148 : decode cX12_sums 148 = .ok (.iload 9, 2) := by decide +kernel
theorem dX12_sums_150 : decode cX12_sums 150 = .ok (.iload 10, 2) := by decide +kernel
theorem dX12_sums_152 : decode cX12_sums 152 = .ok (.ifCond .ne 8, 3) := by decide +kernel
theorem dX12_sums_155 : decode cX12_sums 155 = .ok (.iload 8, 2) := by decide +kernel
theorem dX12_sums_157 : decode cX12_sums 157 = .ok (.goto 29, 3) := by decide +kernel
theorem dX12_sums_160 : decode cX12_sums 160 = .ok (.iload 10, 2) := by decide +kernel
theorem dX12_sums_162 : decode cX12_sums 162 = .ok (.iconst 1, 1) := by decide +kernel
theorem dX12_sums_163 : decode cX12_sums 163 = .ok (.if_icmp .ne 9, 3) := by decide +kernel
theorem dX12_sums_166 : decode cX12_sums 166 = .ok (.iload 7, 2) := by decide +kernel
theorem dX12_sums_168 : decode cX12_sums 168 = .ok (.ineg, 1) := by decide +kernel
theorem dX12_sums_169 : decode cX12_sums 169 = .ok (.goto 17, 3) := by decide +kernel
theorem dX12_sums_172 : decode cX12_sums 172 = .ok (.iload 10, 2) := by decide +kernel
theorem dX12_sums_174 : decode cX12_sums 174 = .ok (.iconst 2, 1) := by decide +kernel
theorem dX12_sums_175 : decode cX12_sums 175 = .ok (.if_icmp .ne 9, 3) := by decide +kernel
theorem dX12_sums_178 : decode cX12_sums 178 = .ok (.iload 8, 2) := by decide +kernel
theorem dX12_sums_180 : decode cX12_sums 180 = .ok (.ineg, 1) := by decide +kernel
theorem dX12_sums_181 : decode cX12_sums 181 = .ok (.goto 5, 3) := by decide +kernel
theorem dX12_sums_184 : decode cX12_sums 184 = .ok (.iload 7, 2) := by decide +kernel
theorem dX12_sums_186 : decode cX12_sums 186 = .ok (.imul, 1) := by decide +kernel
theorem dX12_sums_187 : decode cX12_sums 187 = .ok (.iadd, 1) := by decide +kernel
theorem dX12_sums_188 : decode cX12_sums 188 = .ok (.putfield 421, 3) := by decide +kernel
theorem dX12_sums_191 : decode cX12_sums 191 = .ok (.iinc 6 1, 3) := by decide +kernel
theorem dX12_sums_194 : decode cX12_sums 194 = .ok (.goto (-174), 3) := by decide +kernel
theorem dX12_sums_197 : decode cX12_sums 197 = .ok (.return_, 1) := by decide +kernel
set_option maxRecDepth 100000 in
theorem c_X12_sums (l : Launch) (D : q_D) (al : q_Al) (dt : q_Dt) (x0 : Nat) (x1 : Int32) (x2 : Int32) (x3 : Int32) (x4 : Int32) (kx0 : al.1 x0 = 13) (dt0 : q_Dt) (hm : X12_sums al dt x0 x1 x2 x3 x4 = some dt0) : q_Mt l yX12_sums cX12_sums 11 (none) 1 22 D al [.ref x0, .int x1, .int x2, .int x3, .int x4] dt 0 none dt0 := by
  refine q_Mt.of (by decide) (Nat.le_of_ble_eq_true rfl) ?_
  intro p e s m args below meth c ls C hargs hW hl
  have hx := C.1
  have hb := C.2.1
  have hown := C.2.2.2.2.2.1
  have hts := C.2.2.2.2.2.2.1
  have hS : va_S (q_A al) s.heap s.heap [] := va_S.rf
  have hl : lv_has ls 11 [(0, .ref x0), (1, .int x1), (2, .int x2), (3, .int x3), (4, .int x4)] := hl
  unfold X12_sums at hm
  have hB20 : ∀ (x0_20 : Nat) (x1_20 : Int32) (x2_20 : Int32) (x3_20 : Int32) (x4_20 : Int32) (x5_20 : Int32) (kx0_20 : al.1 x0_20 = 13) (n_20 : Nat) (x6_20 : Int32) (dt : q_Dt) (H : Heap) (locs : List Loc) (ls : Array Slot) (hm : X12_sums_b20 al x0_20 x1_20 x2_20 x3_20 x4_20 x5_20 n_20 x6_20 dt = some dt0) (hW : q_W D al dt H) (hS : va_S (q_A al) s.heap H locs) (hl : lv_has ls 11 [(0, .ref x0_20), (1, .int x1_20), (2, .int x2_20), (3, .int x3_20), (4, .int x4_20), (5, .int x5_20), (6, .int x6_20)]), W p l e { frames := 1, cells := 0, slots := 0, locals := 22 } s m args below meth c H locs 0 0 (MQ below (q_Q none (fun H => q_W D al dt0 H ∧ q_Rk al 0 none) (q_A al)) args s 0 0 (q_A al)) (F0 m 20 ls []) := by
    intro x0_20 x1_20 x2_20 x3_20 x4_20 x5_20 kx0_20
    intro n_20
    induction n_20 with
    | zero => intro x6_20 dt H locs ls hm hW hS hl; cases hm
    | succ n_20 ih20 =>
      have hB186 : ∀ (x6_186 : Int32) (t0_186 : Nat) (t1_186 : Int32) (t2_186 : Int32) (t3_186 : Int32) (kt0_186 : al.1 t0_186 = 13) (dt : q_Dt) (H : Heap) (locs : List Loc) (ls : Array Slot) (hm : X12_sums_b186 al (X12_sums_b20 al x0_20 x1_20 x2_20 x3_20 x4_20 x5_20 n_20) x0_20 x1_20 x2_20 x3_20 x4_20 x5_20 x6_186 t0_186 t1_186 t2_186 t3_186 dt = some dt0) (hW : q_W D al dt H) (hS : va_S (q_A al) s.heap H locs) (hl : lv_has ls 11 [(0, .ref x0_20), (1, .int x1_20), (2, .int x2_20), (3, .int x3_20), (4, .int x4_20), (5, .int x5_20), (6, .int x6_186)]), W p l e { frames := 1, cells := 0, slots := 0, locals := 22 } s m args below meth c H locs 0 0 (MQ below (q_Q none (fun H => q_W D al dt0 H ∧ q_Rk al 0 none) (q_A al)) args s 0 0 (q_A al)) (F0 m 186 ls [.int t3_186, .int t2_186, .int t1_186, .ref t0_186]) := by
        intro x6_186 t0_186 t1_186 t2_186 t3_186 kt0_186 dt H locs ls hm hW hS hl
        unfold X12_sums_b186 at hm
        refine lv_imul hx hb dX12_sums_186 ?_
        refine lv_iadd hx hb dX12_sums_187 ?_
        refine r_putI C hW hS hm (ci := 12) kt0_186 ff_12_61 cl_12 fl_RX12_421 (nf_12_61) rfl dX12_sums_188 (fun dt186001 H locs hm hW hS => ?_)
        refine lv_iinc (v := (x6_186 + 1)) (lv' := [(6, .int (x6_186 + 1)), (0, .ref x0_20), (1, .int x1_20), (2, .int x2_20), (3, .int x3_20), (4, .int x4_20), (5, .int x5_20)]) hx hb dX12_sums_191 hl (k := 6) rfl rfl (by decide) rfl (fun ls hl => ?_)
        refine lv_goto (tgt := 20) hx hb dX12_sums_194 (by decide) ?_
        exact ih20 (x6_186 + 1) dt186001 _ _ _ hm hW hS (lv_sub hl [1, 2, 3, 4, 5, 6, 0] rfl)
      have hB138 : ∀ (x6_138 : Int32) (x7_138 : Int32) (x8_138 : Int32) (x9_138 : Int32) (x10_138 : Int32) (t0_138 : Nat) (t1_138 : Int32) (t2_138 : Int32) (t3_138 : Int32) (kt0_138 : al.1 t0_138 = 13) (dt : q_Dt) (H : Heap) (locs : List Loc) (ls : Array Slot) (hm : X12_sums_b138 al (X12_sums_b20 al x0_20 x1_20 x2_20 x3_20 x4_20 x5_20 n_20) x0_20 x1_20 x2_20 x3_20 x4_20 x5_20 x6_138 x7_138 x8_138 x9_138 x10_138 t0_138 t1_138 t2_138 t3_138 dt = some dt0) (hW : q_W D al dt H) (hS : va_S (q_A al) s.heap H locs) (hl : lv_has ls 11 [(0, .ref x0_20), (1, .int x1_20), (2, .int x2_20), (3, .int x3_20), (4, .int x4_20), (5, .int x5_20), (6, .int x6_138), (7, .int x7_138), (8, .int x8_138), (9, .int x9_138), (10, .int x10_138)]), W p l e { frames := 1, cells := 0, slots := 0, locals := 22 } s m args below meth c H locs 0 0 (MQ below (q_Q none (fun H => q_W D al dt0 H ∧ q_Rk al 0 none) (q_A al)) args s 0 0 (q_A al)) (F0 m 138 ls [.int t3_138, .int t2_138, .int t1_138, .ref t0_138]) := by
        intro x6_138 x7_138 x8_138 x9_138 x10_138 t0_138 t1_138 t2_138 t3_138 kt0_138 dt H locs ls hm hW hS hl
        unfold X12_sums_b138 at hm
        refine lv_imul hx hb dX12_sums_138 ?_
        refine lv_iadd hx hb dX12_sums_139 ?_
        refine r_putI C hW hS hm (ci := 12) kt0_138 ff_12_60 cl_12 fl_RX12_418 (nf_12_60) rfl dX12_sums_140 (fun dt138001 H locs hm hW hS => ?_)
        refine lv_aload_n hx hb dX12_sums_143 rfl (lv_at hl 0 rfl) ?_
        refine lv_dup hx hb dX12_sums_144 rfl ?_
        refine r_getI C hW (ci := 12) kx0_20 ff_12_61 cl_12 fl_RX12_421 dX12_sums_145 ?_
        refine lv_iload hx hb dX12_sums_148 (lv_at hl 9 rfl) ?_
        refine lv_iload hx hb dX12_sums_150 (lv_at hl 10 rfl) ?_
        refine q_ifc hm (fun c138002 hm => ?_) (fun c138002 hm => ?_)
        · refine lv_if_ne (tgt := 160) hx hb dX12_sums_152 (by decide) (fun h => absurd c138002 h) (fun _ => ?_)
          refine lv_iload hx hb dX12_sums_155 (lv_at hl 8 rfl) ?_
          refine lv_goto (tgt := 186) hx hb dX12_sums_157 (by decide) ?_
          exact hB186 x6_138 x0_20 (dt138001.1 x0_20 61) x9_138 x8_138 kx0_20 dt138001 _ _ _ hm hW hS (lv_sub hl [0, 1, 2, 3, 4, 5, 6] rfl)
        refine lv_if_ne (tgt := 160) hx hb dX12_sums_152 (by decide) (fun _ => ?_) (fun h => absurd h c138002)
        refine lv_iload hx hb dX12_sums_160 (lv_at hl 10 rfl) ?_
        refine lv_iconst (v := 1) hx hb dX12_sums_162 (by decide) ?_
        refine q_ifc hm (fun c138003 hm => ?_) (fun c138003 hm => ?_)
        · refine lv_icmp_ne (tgt := 172) hx hb dX12_sums_163 (by decide) (fun h => absurd c138003 h) (fun _ => ?_)
          refine lv_iload hx hb dX12_sums_166 (lv_at hl 7 rfl) ?_
          refine lv_ineg hx hb dX12_sums_168 ?_
          refine lv_goto (tgt := 186) hx hb dX12_sums_169 (by decide) ?_
          exact hB186 x6_138 x0_20 (dt138001.1 x0_20 61) x9_138 (-x7_138) kx0_20 dt138001 _ _ _ hm hW hS (lv_sub hl [0, 1, 2, 3, 4, 5, 6] rfl)
        refine lv_icmp_ne (tgt := 172) hx hb dX12_sums_163 (by decide) (fun _ => ?_) (fun h => absurd h c138003)
        refine lv_iload hx hb dX12_sums_172 (lv_at hl 10 rfl) ?_
        refine lv_iconst (v := 2) hx hb dX12_sums_174 (by decide) ?_
        refine q_ifc hm (fun c138004 hm => ?_) (fun c138004 hm => ?_)
        · refine lv_icmp_ne (tgt := 184) hx hb dX12_sums_175 (by decide) (fun h => absurd c138004 h) (fun _ => ?_)
          refine lv_iload hx hb dX12_sums_178 (lv_at hl 8 rfl) ?_
          refine lv_ineg hx hb dX12_sums_180 ?_
          refine lv_goto (tgt := 186) hx hb dX12_sums_181 (by decide) ?_
          exact hB186 x6_138 x0_20 (dt138001.1 x0_20 61) x9_138 (-x8_138) kx0_20 dt138001 _ _ _ hm hW hS (lv_sub hl [0, 1, 2, 3, 4, 5, 6] rfl)
        refine lv_icmp_ne (tgt := 184) hx hb dX12_sums_175 (by decide) (fun _ => ?_) (fun h => absurd h c138004)
        refine lv_iload hx hb dX12_sums_184 (lv_at hl 7 rfl) ?_
        exact hB186 x6_138 x0_20 (dt138001.1 x0_20 61) x9_138 x7_138 kx0_20 dt138001 _ _ _ hm hW hS (lv_sub hl [0, 1, 2, 3, 4, 5, 6] rfl)
      intro x6_20 dt H locs ls hm hW hS hl
      rw [X12_sums_b20] at hm
      refine lv_iload hx hb dX12_sums_20 (lv_at hl 6 rfl) ?_
      refine lv_iload hx hb dX12_sums_22 (lv_at hl 5 rfl) ?_
      refine q_ifc hm (fun c20001 hm => ?_) (fun c20001 hm => ?_)
      · refine lv_icmp_ge (tgt := 197) hx hb dX12_sums_24 (by decide) (fun _ => ?_) (fun h => absurd c20001 h)
        exact e_vD C hW hS hm dX12_sums_197
      refine lv_icmp_ge (tgt := 197) hx hb dX12_sums_24 (by decide) (fun h => absurd h c20001) (fun _ => ?_)
      refine lv_iload hx hb dX12_sums_27 (lv_at hl 4 rfl) ?_
      refine lv_iload hx hb dX12_sums_29 (lv_at hl 6 rfl) ?_
      refine lv_iadd hx hb dX12_sums_31 ?_
      refine lv_aload_n hx hb dX12_sums_32 rfl (lv_at hl 0 rfl) ?_
      obtain ⟨v20003, hc20002, hm⟩ := q_b1i hm
      refine q_callV C hW hS (As := []) (rest := [.int (x4_20 + x6_20)]) (st1 := [.int v20003, .int (x4_20 + x6_20)]) (c_X12_n l D al dt x0_20 kx0_20 v20003 hc20002) yl_X12_n vl_X12_n ml_RX12_342 (ci := 12) rfl kx0_20 (by decide) rfl ⟨Nat.le_of_ble_eq_true rfl, Nat.le_of_ble_eq_true rfl⟩ hl rfl (Nat.le_of_ble_eq_true rfl) dX12_sums_33 ⟨Nat.le_refl _, Nat.le_refl _⟩ rfl (fun H locs k20004 hW hS => ?_)
      refine q_ifc hm (fun c20005 hm => ?_) (fun c20005 hm => ?_)
      · refine lv_icmp_ge (tgt := 197) hx hb dX12_sums_36 (by decide) (fun _ => ?_) (fun h => absurd c20005 h)
        exact e_vD C hW hS hm dX12_sums_197
      refine lv_icmp_ge (tgt := 197) hx hb dX12_sums_36 (by decide) (fun h => absurd h c20005) (fun _ => ?_)
      refine lv_aload_n hx hb dX12_sums_39 rfl (lv_at hl 0 rfl) ?_
      refine r_getF C hW (ci := 12) kx0_20 ff_12_53 cl_12 fl_RX12_133 dX12_sums_40 (fun k20006 => ?_)
      refine lv_iload hx hb dX12_sums_43 (lv_at hl 4 rfl) ?_
      refine lv_iload hx hb dX12_sums_45 (lv_at hl 6 rfl) ?_
      refine lv_iadd hx hb dX12_sums_47 ?_
      refine r_iald C hW hm k20006 dX12_sums_48 (fun hm => ?_)
      refine q_nmI hm (fun v20007 ev20007 hm => ?_)
      refine lv_istore (i := 7) (lv' := [(7, .int v20007), (0, .ref x0_20), (1, .int x1_20), (2, .int x2_20), (3, .int x3_20), (4, .int x4_20), (5, .int x5_20), (6, .int x6_20)]) hx hb dX12_sums_49 hl (by decide) rfl (fun ls hl => ?_)
      refine lv_aload_n hx hb dX12_sums_51 rfl (lv_at hl 1 rfl) ?_
      refine r_getF C hW (ci := 12) kx0_20 ff_12_53 cl_12 fl_RX12_133 dX12_sums_52 (fun k20008 => ?_)
      refine lv_sipush (v := 512) hx hb dX12_sums_55 (by decide) ?_
      refine lv_iload hx hb dX12_sums_58 (lv_at hl 5 rfl) ?_
      refine lv_iadd hx hb dX12_sums_60 ?_
      refine lv_iload hx hb dX12_sums_61 (lv_at hl 7 rfl) ?_
      refine lv_iadd hx hb dX12_sums_63 ?_
      refine r_iald C hW hm k20008 dX12_sums_64 (fun hm => ?_)
      refine q_nmI hm (fun v20009 ev20009 hm => ?_)
      refine lv_istore (i := 8) (lv' := [(8, .int v20009), (7, .int v20007), (0, .ref x0_20), (1, .int x1_20), (2, .int x2_20), (3, .int x3_20), (4, .int x4_20), (5, .int x5_20), (6, .int x6_20)]) hx hb dX12_sums_65 hl (by decide) rfl (fun ls hl => ?_)
      refine lv_aload_n hx hb dX12_sums_67 rfl (lv_at hl 2 rfl) ?_
      refine lv_iload_n hx hb dX12_sums_68 rfl (lv_at hl 3 rfl) ?_
      refine lv_iload hx hb dX12_sums_69 (lv_at hl 8 rfl) ?_
      refine lv_iload hx hb dX12_sums_71 (lv_at hl 7 rfl) ?_
      refine lv_iadd hx hb dX12_sums_73 ?_
      refine lv_iload_n hx hb dX12_sums_74 rfl (lv_at hl 4 rfl) ?_
      refine lv_isub hx hb dX12_sums_75 ?_
      refine lv_iload hx hb dX12_sums_76 (lv_at hl 7 rfl) ?_
      obtain ⟨c20010, hm⟩ := q_ini hm
      refine lv_irem hx hb dX12_sums_78 c20010 ?_
      obtain ⟨v20012, hc20011, hm⟩ := q_b1i hm
      refine q_callV C hW hS (As := [.int x1_20, .int (q_ir ((x6_20 + x5_20) - x2_20) x5_20)]) (rest := []) (st1 := [.int v20012]) (c_X12_chipOf l D al dt x0_20 x1_20 (q_ir ((x6_20 + x5_20) - x2_20) x5_20) kx0_20 v20012 hc20011) yl_X12_chipOf vl_X12_chipOf ml_RX12_333 (ci := 12) rfl kx0_20 (by decide) rfl ⟨Nat.le_of_ble_eq_true rfl, Nat.le_of_ble_eq_true rfl⟩ hl rfl (Nat.le_of_ble_eq_true rfl) dX12_sums_79 ⟨Nat.le_refl _, Nat.le_refl _⟩ rfl (fun H locs k20013 hW hS => ?_)
      refine lv_istore (i := 9) (lv' := [(9, .int v20012), (8, .int v20009), (7, .int v20007), (0, .ref x0_20), (1, .int x1_20), (2, .int x2_20), (3, .int x3_20), (4, .int x4_20), (5, .int x5_20), (6, .int x6_20)]) hx hb dX12_sums_82 hl (by decide) rfl (fun ls hl => ?_)
      refine lv_iload_n hx hb dX12_sums_84 rfl (lv_at hl 6 rfl) ?_
      refine lv_iload hx hb dX12_sums_85 (lv_at hl 7 rfl) ?_
      refine lv_iload hx hb dX12_sums_87 (lv_at hl 9 rfl) ?_
      refine lv_iadd hx hb dX12_sums_89 ?_
      obtain ⟨v20015, hc20014, hm⟩ := q_b1i hm
      refine q_callS C hW hS (As := [.int x3_20, .int (x4_20 + x6_20)]) (rest := []) (st1 := [.int v20015]) (c_X12_turnOf l D al dt x3_20 (x4_20 + x6_20) v20015 hc20014) yl_X12_turnOf sl_X12_turnOf ml_RX12_336 rfl ⟨Nat.le_of_ble_eq_true rfl, Nat.le_of_ble_eq_true rfl⟩ hl rfl (Nat.le_of_ble_eq_true rfl) dX12_sums_90 ⟨Nat.le_refl _, Nat.le_refl _⟩ rfl (fun H locs k20016 hW hS => ?_)
      refine lv_istore (i := 10) (lv' := [(10, .int v20015), (9, .int v20012), (8, .int v20009), (7, .int v20007), (0, .ref x0_20), (1, .int x1_20), (2, .int x2_20), (3, .int x3_20), (4, .int x4_20), (5, .int x5_20), (6, .int x6_20)]) hx hb dX12_sums_93 hl (by decide) rfl (fun ls hl => ?_)
      refine lv_aload_n hx hb dX12_sums_95 rfl (lv_at hl 4 rfl) ?_
      refine lv_dup hx hb dX12_sums_96 rfl ?_
      refine r_getI C hW (ci := 12) kx0_20 ff_12_60 cl_12 fl_RX12_418 dX12_sums_97 ?_
      refine lv_iload hx hb dX12_sums_100 (lv_at hl 1 rfl) ?_
      refine lv_iload hx hb dX12_sums_102 (lv_at hl 0 rfl) ?_
      refine q_ifc hm (fun c20017 hm => ?_) (fun c20017 hm => ?_)
      · refine lv_if_ne (tgt := 112) hx hb dX12_sums_104 (by decide) (fun h => absurd c20017 h) (fun _ => ?_)
        refine lv_iload hx hb dX12_sums_107 (lv_at hl 3 rfl) ?_
        refine lv_goto (tgt := 138) hx hb dX12_sums_109 (by decide) ?_
        exact hB138 x6_20 v20007 v20009 v20012 v20015 x0_20 (dt.1 x0_20 60) v20012 v20007 kx0_20 dt _ _ _ hm hW hS (lv_sub hl [4, 5, 6, 7, 8, 9, 10, 3, 2, 1, 0] rfl)
      refine lv_if_ne (tgt := 112) hx hb dX12_sums_104 (by decide) (fun _ => ?_) (fun h => absurd h c20017)
      refine lv_iload hx hb dX12_sums_112 (lv_at hl 0 rfl) ?_
      refine lv_iconst (v := 1) hx hb dX12_sums_114 (by decide) ?_
      refine q_ifc hm (fun c20018 hm => ?_) (fun c20018 hm => ?_)
      · refine lv_icmp_ne (tgt := 123) hx hb dX12_sums_115 (by decide) (fun h => absurd c20018 h) (fun _ => ?_)
        refine lv_iload hx hb dX12_sums_118 (lv_at hl 2 rfl) ?_
        refine lv_goto (tgt := 138) hx hb dX12_sums_120 (by decide) ?_
        exact hB138 x6_20 v20007 v20009 v20012 v20015 x0_20 (dt.1 x0_20 60) v20012 v20009 kx0_20 dt _ _ _ hm hW hS (lv_sub hl [4, 5, 6, 7, 8, 9, 10, 3, 2, 1, 0] rfl)
      refine lv_icmp_ne (tgt := 123) hx hb dX12_sums_115 (by decide) (fun _ => ?_) (fun h => absurd h c20018)
      refine lv_iload hx hb dX12_sums_123 (lv_at hl 0 rfl) ?_
      refine lv_iconst (v := 2) hx hb dX12_sums_125 (by decide) ?_
      refine q_ifc hm (fun c20019 hm => ?_) (fun c20019 hm => ?_)
      · refine lv_icmp_ne (tgt := 135) hx hb dX12_sums_126 (by decide) (fun h => absurd c20019 h) (fun _ => ?_)
        refine lv_iload hx hb dX12_sums_129 (lv_at hl 3 rfl) ?_
        refine lv_ineg hx hb dX12_sums_131 ?_
        refine lv_goto (tgt := 138) hx hb dX12_sums_132 (by decide) ?_
        exact hB138 x6_20 v20007 v20009 v20012 v20015 x0_20 (dt.1 x0_20 60) v20012 (-v20007) kx0_20 dt _ _ _ hm hW hS (lv_sub hl [4, 5, 6, 7, 8, 9, 10, 3, 2, 1, 0] rfl)
      refine lv_icmp_ne (tgt := 135) hx hb dX12_sums_126 (by decide) (fun _ => ?_) (fun h => absurd h c20019)
      refine lv_iload hx hb dX12_sums_135 (lv_at hl 2 rfl) ?_
      refine lv_ineg hx hb dX12_sums_137 ?_
      exact hB138 x6_20 v20007 v20009 v20012 v20015 x0_20 (dt.1 x0_20 60) v20012 (-v20009) kx0_20 dt _ _ _ hm hW hS (lv_sub hl [4, 5, 6, 7, 8, 9, 10, 3, 2, 1, 0] rfl)
  refine lv_aload_n hx hb dX12_sums_0 rfl (lv_at hl 0 rfl) ?_
  refine lv_iconst (v := 0) hx hb dX12_sums_1 (by decide) ?_
  refine r_putI C hW hS hm (ci := 12) kx0 ff_12_60 cl_12 fl_RX12_418 (nf_12_60) rfl dX12_sums_2 (fun dt1000001 H locs hm hW hS => ?_)
  refine lv_aload_n hx hb dX12_sums_5 rfl (lv_at hl 0 rfl) ?_
  refine lv_iconst (v := 0) hx hb dX12_sums_6 (by decide) ?_
  refine r_putI C hW hS hm (ci := 12) kx0 ff_12_61 cl_12 fl_RX12_421 (nf_12_61) rfl dX12_sums_7 (fun dt1000002 H locs hm hW hS => ?_)
  refine lv_aload_n hx hb dX12_sums_10 rfl (lv_at hl 0 rfl) ?_
  refine lv_iload_n hx hb dX12_sums_11 rfl (lv_at hl 1 rfl) ?_
  obtain ⟨v1000004, hc1000003, hm⟩ := q_b1i hm
  refine q_callV C hW hS (As := [.int x1]) (rest := []) (st1 := [.int v1000004]) (c_X12_long0 l D al dt1000002 x0 x1 kx0 v1000004 hc1000003) yl_X12_long0 vl_X12_long0 ml_RX12_327 (ci := 12) rfl kx0 (by decide) rfl ⟨Nat.le_of_ble_eq_true rfl, Nat.le_of_ble_eq_true rfl⟩ hl rfl (Nat.le_of_ble_eq_true rfl) dX12_sums_12 ⟨Nat.le_refl _, Nat.le_refl _⟩ rfl (fun H locs k1000005 hW hS => ?_)
  refine lv_istore (i := 5) (lv' := [(5, .int v1000004), (0, .ref x0), (1, .int x1), (2, .int x2), (3, .int x3), (4, .int x4)]) hx hb dX12_sums_15 hl (by decide) rfl (fun ls hl => ?_)
  refine lv_iconst (v := 0) hx hb dX12_sums_17 (by decide) ?_
  refine lv_istore (i := 6) (lv' := [(6, .int 0), (5, .int v1000004), (0, .ref x0), (1, .int x1), (2, .int x2), (3, .int x3), (4, .int x4)]) hx hb dX12_sums_18 hl (by decide) rfl (fun ls hl => ?_)
  exact hB20 x0 x1 x2 x3 x4 v1000004 kx0 q_FU 0 dt1000002 _ _ _ hm hW hS (lv_sub hl [2, 3, 4, 5, 6, 1, 0] rfl)
theorem dX12_sum_0 : decode cX12_sum 0 = .ok (.aload_n 0, 1) := by decide +kernel
theorem dX12_sum_1 : decode cX12_sum 1 = .ok (.iload_n 1, 1) := by decide +kernel
theorem dX12_sum_2 : decode cX12_sum 2 = .ok (.invokevirtual 380, 3) := by decide +kernel
theorem dX12_sum_5 : decode cX12_sum 5 = .ok (.ifCond .eq 36, 3) := by decide +kernel
theorem dX12_sum_8 : decode cX12_sum 8 = .ok (.iload_n 2, 1) := by decide +kernel
theorem dX12_sum_9 : decode cX12_sum 9 = .ok (.iconst 0, 1) := by decide +kernel
theorem dX12_sum_10 : decode cX12_sum 10 = .ok (.aload_n 0, 1) := by decide +kernel
theorem dX12_sum_11 : decode cX12_sum 11 = .ok (.iload_n 1, 1) := by decide +kernel
theorem dX12_sum_12 : decode cX12_sum 12 = .ok (.invokevirtual 327, 3) := by decide +kernel
theorem dX12_sum_15 : decode cX12_sum 15 = .ok (.iconst 1, 1) := by decide +kernel
theorem dX12_sum_16 : decode cX12_sum 16 = .ok (.isub, 1) := by decide +kernel
theorem dX12_sum_17 : decode cX12_sum 17 = .ok (.invokestatic 376, 3) := by decide +kernel
theorem dX12_sum_20 : decode cX12_sum 20 = .ok (.ifCond .eq 21, 3) := by decide +kernel
theorem dX12_sum_23 : decode cX12_sum 23 = .ok (.iload_n 3, 1) := by decide +kernel
theorem dX12_sum_24 : decode cX12_sum 24 = .ok (.iconst 0, 1) := by decide +kernel
theorem dX12_sum_25 : decode cX12_sum 25 = .ok (.iconst 3, 1) := by decide +kernel
theorem dX12_sum_26 : decode cX12_sum 26 = .ok (.invokestatic 376, 3) := by decide +kernel
theorem dX12_sum_29 : decode cX12_sum 29 = .ok (.ifCond .eq 12, 3) := by decide +kernel
theorem dX12_sum_32 : decode cX12_sum 32 = .ok (.aload_n 0, 1) := by decide +kernel
theorem dX12_sum_33 : decode cX12_sum 33 = .ok (.iload 4, 2) := by decide +kernel
theorem dX12_sum_35 : decode cX12_sum 35 = .ok (.invokevirtual 401, 3) := by decide +kernel
theorem dX12_sum_38 : decode cX12_sum 38 = .ok (.ifCond .ne 7, 3) := by decide +kernel
theorem dX12_sum_41 : decode cX12_sum 41 = .ok (.ldc_w 424, 3) := by decide +kernel
theorem dX12_sum_44 : decode cX12_sum 44 = .ok (.ireturn, 1) := by decide +kernel
theorem dX12_sum_45 : decode cX12_sum 45 = .ok (.aload_n 0, 1) := by decide +kernel
theorem dX12_sum_46 : decode cX12_sum 46 = .ok (.iload_n 1, 1) := by decide +kernel
theorem dX12_sum_47 : decode cX12_sum 47 = .ok (.iload_n 2, 1) := by decide +kernel
theorem dX12_sum_48 : decode cX12_sum 48 = .ok (.iload_n 3, 1) := by decide +kernel
theorem dX12_sum_49 : decode cX12_sum 49 = .ok (.iload 4, 2) := by decide +kernel
theorem dX12_sum_51 : decode cX12_sum 51 = .ok (.invokevirtual 425, 3) := by decide +kernel
theorem dX12_sum_54 : decode cX12_sum 54 = .ok (.iload 5, 2) := by decide +kernel
theorem dX12_sum_56 : decode cX12_sum 56 = .ok (.ifCond .eq 10, 3) := by decide +kernel
theorem dX12_sum_59 : decode cX12_sum 59 = .ok (.aload_n 0, 1) := by decide +kernel
theorem dX12_sum_60 : decode cX12_sum 60 = .ok (.getfield 421, 3) := by decide +kernel
theorem dX12_sum_63 : decode cX12_sum 63 = .ok (.goto 7, 3) := by decide +kernel
theorem dX12_sum_66 : decode cX12_sum 66 = .ok (.aload_n 0, 1) := by decide +kernel
theorem dX12_sum_67 : decode cX12_sum 67 = .ok (.getfield 418, 3) := by decide +kernel
theorem dX12_sum_70 : decode cX12_sum 70 = .ok (.ireturn, 1) := by decide +kernel
set_option maxRecDepth 100000 in
theorem c_X12_sum (l : Launch) (D : q_D) (al : q_Al) (dt : q_Dt) (x0 : Nat) (x1 : Int32) (x2 : Int32) (x3 : Int32) (x4 : Int32) (x5 : Int32) (kx0 : al.1 x0 = 13) (r0 : Int32) (dt0 : q_Dt) (hm : X12_sum al dt x0 x1 x2 x3 x4 x5 = some (r0, dt0)) : q_Mt l yX12_sum cX12_sum 6 (some FieldType.int) 2 52 D al [.ref x0, .int x1, .int x2, .int x3, .int x4, .int x5] dt 0 (some (.int r0)) dt0 := by
  refine q_Mt.of (by decide) (Nat.le_of_ble_eq_true rfl) ?_
  intro p e s m args below meth c ls C hargs hW hl
  have hx := C.1
  have hb := C.2.1
  have hown := C.2.2.2.2.2.1
  have hts := C.2.2.2.2.2.2.1
  have hS : va_S (q_A al) s.heap s.heap [] := va_S.rf
  have hl : lv_has ls 6 [(0, .ref x0), (1, .int x1), (2, .int x2), (3, .int x3), (4, .int x4), (5, .int x5)] := hl
  unfold X12_sum at hm
  have hB41 : ∀ (dt : q_Dt) (H : Heap) (locs : List Loc) (ls : Array Slot) (hm : X12_sum_b41 al dt = some (r0, dt0)) (hW : q_W D al dt H) (hS : va_S (q_A al) s.heap H locs) (hl : lv_has ls 6 []), W p l e { frames := 2, cells := 0, slots := 0, locals := 52 } s m args below meth c H locs 0 0 (MQ below (q_Q (some (.int r0)) (fun H => q_W D al dt0 H ∧ q_Rk al 0 (some (.int r0))) (q_A al)) args s 0 0 (q_A al)) (F0 m 41 ls []) := by
    intro dt H locs ls hm hW hS hl
    unfold X12_sum_b41 at hm
    refine lv_ldcw (own := RX12) (v := (-1000000000)) hx hb hown (hts _ wc_RX12_424) dX12_sum_41 ?_
    exact e_iD C hW hS hm dX12_sum_44
  refine lv_aload_n hx hb dX12_sum_0 rfl (lv_at hl 0 rfl) ?_
  refine lv_iload_n hx hb dX12_sum_1 rfl (lv_at hl 1 rfl) ?_
  obtain ⟨v1000002, hc1000001, hm⟩ := q_b1i hm
  refine q_callV C hW hS (As := [.int x1]) (rest := []) (st1 := [.int v1000002]) (c_X12_isCode l D al dt x0 x1 kx0 v1000002 hc1000001) yl_X12_isCode vl_X12_isCode ml_RX12_380 (ci := 12) rfl kx0 (by decide) rfl ⟨Nat.le_of_ble_eq_true rfl, Nat.le_of_ble_eq_true rfl⟩ hl rfl (Nat.le_of_ble_eq_true rfl) dX12_sum_2 ⟨Nat.le_refl _, Nat.le_refl _⟩ rfl (fun H locs k1000003 hW hS => ?_)
  refine q_ifc hm (fun c1000004 hm => ?_) (fun c1000004 hm => ?_)
  · refine lv_if_eq (tgt := 41) hx hb dX12_sum_5 (by decide) (fun _ => ?_) (fun h => absurd c1000004 h)
    exact hB41 dt _ _ _ hm hW hS (lv_sub hl [] rfl)
  refine lv_if_eq (tgt := 41) hx hb dX12_sum_5 (by decide) (fun h => absurd h c1000004) (fun _ => ?_)
  refine lv_iload_n hx hb dX12_sum_8 rfl (lv_at hl 2 rfl) ?_
  refine lv_iconst (v := 0) hx hb dX12_sum_9 (by decide) ?_
  refine lv_aload_n hx hb dX12_sum_10 rfl (lv_at hl 0 rfl) ?_
  refine lv_iload_n hx hb dX12_sum_11 rfl (lv_at hl 1 rfl) ?_
  obtain ⟨v1000006, hc1000005, hm⟩ := q_b1i hm
  refine q_callV C hW hS (As := [.int x1]) (rest := [.int 0, .int x2]) (st1 := [.int v1000006, .int 0, .int x2]) (c_X12_long0 l D al dt x0 x1 kx0 v1000006 hc1000005) yl_X12_long0 vl_X12_long0 ml_RX12_327 (ci := 12) rfl kx0 (by decide) rfl ⟨Nat.le_of_ble_eq_true rfl, Nat.le_of_ble_eq_true rfl⟩ hl rfl (Nat.le_of_ble_eq_true rfl) dX12_sum_12 ⟨Nat.le_refl _, Nat.le_refl _⟩ rfl (fun H locs k1000007 hW hS => ?_)
  refine lv_iconst (v := 1) hx hb dX12_sum_15 (by decide) ?_
  refine lv_isub hx hb dX12_sum_16 ?_
  obtain ⟨v1000009, hc1000008, hm⟩ := q_b1i hm
  refine q_callS C hW hS (As := [.int x2, .int 0, .int (v1000006 - 1)]) (rest := []) (st1 := [.int v1000009]) (c_X12_in l D al dt x2 0 (v1000006 - 1) v1000009 hc1000008) yl_X12_in sl_X12_in ml_RX12_376 rfl ⟨Nat.le_of_ble_eq_true rfl, Nat.le_of_ble_eq_true rfl⟩ hl rfl (Nat.le_of_ble_eq_true rfl) dX12_sum_17 ⟨Nat.le_refl _, Nat.le_refl _⟩ rfl (fun H locs k1000010 hW hS => ?_)
  refine q_ifc hm (fun c1000011 hm => ?_) (fun c1000011 hm => ?_)
  · refine lv_if_eq (tgt := 41) hx hb dX12_sum_20 (by decide) (fun _ => ?_) (fun h => absurd c1000011 h)
    exact hB41 dt _ _ _ hm hW hS (lv_sub hl [] rfl)
  refine lv_if_eq (tgt := 41) hx hb dX12_sum_20 (by decide) (fun h => absurd h c1000011) (fun _ => ?_)
  refine lv_iload_n hx hb dX12_sum_23 rfl (lv_at hl 3 rfl) ?_
  refine lv_iconst (v := 0) hx hb dX12_sum_24 (by decide) ?_
  refine lv_iconst (v := 3) hx hb dX12_sum_25 (by decide) ?_
  obtain ⟨v1000013, hc1000012, hm⟩ := q_b1i hm
  refine q_callS C hW hS (As := [.int x3, .int 0, .int 3]) (rest := []) (st1 := [.int v1000013]) (c_X12_in l D al dt x3 0 3 v1000013 hc1000012) yl_X12_in sl_X12_in ml_RX12_376 rfl ⟨Nat.le_of_ble_eq_true rfl, Nat.le_of_ble_eq_true rfl⟩ hl rfl (Nat.le_of_ble_eq_true rfl) dX12_sum_26 ⟨Nat.le_refl _, Nat.le_refl _⟩ rfl (fun H locs k1000014 hW hS => ?_)
  refine q_ifc hm (fun c1000015 hm => ?_) (fun c1000015 hm => ?_)
  · refine lv_if_eq (tgt := 41) hx hb dX12_sum_29 (by decide) (fun _ => ?_) (fun h => absurd c1000015 h)
    exact hB41 dt _ _ _ hm hW hS (lv_sub hl [] rfl)
  refine lv_if_eq (tgt := 41) hx hb dX12_sum_29 (by decide) (fun h => absurd h c1000015) (fun _ => ?_)
  refine lv_aload_n hx hb dX12_sum_32 rfl (lv_at hl 0 rfl) ?_
  refine lv_iload hx hb dX12_sum_33 (lv_at hl 4 rfl) ?_
  obtain ⟨v1000017, hc1000016, hm⟩ := q_b1i hm
  refine q_callV C hW hS (As := [.int x4]) (rest := []) (st1 := [.int v1000017]) (c_X12_isSample l D al dt x0 x4 kx0 v1000017 hc1000016) yl_X12_isSample vl_X12_isSample ml_RX12_401 (ci := 12) rfl kx0 (by decide) rfl ⟨Nat.le_of_ble_eq_true rfl, Nat.le_of_ble_eq_true rfl⟩ hl rfl (Nat.le_of_ble_eq_true rfl) dX12_sum_35 ⟨Nat.le_refl _, Nat.le_refl _⟩ rfl (fun H locs k1000018 hW hS => ?_)
  refine q_ifc hm (fun c1000019 hm => ?_) (fun c1000019 hm => ?_)
  · refine lv_if_ne (tgt := 45) hx hb dX12_sum_38 (by decide) (fun h => absurd c1000019 h) (fun _ => ?_)
    exact hB41 dt _ _ _ hm hW hS (lv_sub hl [] rfl)
  refine lv_if_ne (tgt := 45) hx hb dX12_sum_38 (by decide) (fun _ => ?_) (fun h => absurd h c1000019)
  refine lv_aload_n hx hb dX12_sum_45 rfl (lv_at hl 0 rfl) ?_
  refine lv_iload_n hx hb dX12_sum_46 rfl (lv_at hl 1 rfl) ?_
  refine lv_iload_n hx hb dX12_sum_47 rfl (lv_at hl 2 rfl) ?_
  refine lv_iload_n hx hb dX12_sum_48 rfl (lv_at hl 3 rfl) ?_
  refine lv_iload hx hb dX12_sum_49 (lv_at hl 4 rfl) ?_
  obtain ⟨dt1000021, hc1000020, hm⟩ := q_b1i hm
  refine q_callV C hW hS (As := [.int x1, .int x2, .int x3, .int x4]) (rest := []) (st1 := []) (c_X12_sums l D al dt x0 x1 x2 x3 x4 kx0 dt1000021 hc1000020) yl_X12_sums vl_X12_sums ml_RX12_425 (ci := 12) rfl kx0 (by decide) rfl ⟨Nat.le_of_ble_eq_true rfl, Nat.le_of_ble_eq_true rfl⟩ hl rfl (Nat.le_of_ble_eq_true rfl) dX12_sum_51 ⟨Nat.le_refl _, Nat.le_refl _⟩ rfl (fun H locs k1000022 hW hS => ?_)
  refine lv_iload hx hb dX12_sum_54 (lv_at hl 5 rfl) ?_
  refine q_ifc hm (fun c1000023 hm => ?_) (fun c1000023 hm => ?_)
  · refine lv_if_eq (tgt := 66) hx hb dX12_sum_56 (by decide) (fun _ => ?_) (fun h => absurd c1000023 h)
    refine lv_aload_n hx hb dX12_sum_66 rfl (lv_at hl 0 rfl) ?_
    refine r_getI C hW (ci := 12) kx0 ff_12_60 cl_12 fl_RX12_418 dX12_sum_67 ?_
    exact e_iD C hW hS hm dX12_sum_70
  refine lv_if_eq (tgt := 66) hx hb dX12_sum_56 (by decide) (fun h => absurd h c1000023) (fun _ => ?_)
  refine lv_aload_n hx hb dX12_sum_59 rfl (lv_at hl 0 rfl) ?_
  refine r_getI C hW (ci := 12) kx0 ff_12_61 cl_12 fl_RX12_421 dX12_sum_60 ?_
  refine lv_goto (tgt := 70) hx hb dX12_sum_63 (by decide) ?_
  exact e_iD C hW hS hm dX12_sum_70
theorem dX12_metricOf_0 : decode cX12_metricOf 0 = .ok (.lconst 0, 1) := by decide +kernel
theorem dX12_metricOf_1 : decode cX12_metricOf 1 = .ok (.lstore 5, 2) := by decide +kernel
theorem dX12_metricOf_3 : decode cX12_metricOf 3 = .ok (.iconst 0, 1) := by decide +kernel
theorem dX12_metricOf_4 : decode cX12_metricOf 4 = .ok (.istore 7, 2) := by decide +kernel
theorem dX12_metricOf_6 : decode cX12_metricOf 6 = .ok (.iload 7, 2) := by decide +kernel
theorem dX12_metricOf_8 : decode cX12_metricOf 8 = .ok (.iload 4, 2) := by decide +kernel
theorem dX12_metricOf_10 : decode cX12_metricOf 10 = .ok (.if_icmp .ge 52, 3) := by decide +kernel
theorem dX12_metricOf_13 : decode cX12_metricOf 13 = .ok (.aload_n 0, 1) := by decide +kernel
theorem dX12_metricOf_14 : decode cX12_metricOf 14 = .ok (.iload_n 1, 1) := by decide +kernel
theorem dX12_metricOf_15 : decode cX12_metricOf 15 = .ok (.iload_n 2, 1) := by decide +kernel
theorem dX12_metricOf_16 : decode cX12_metricOf 16 = .ok (.iconst 4, 1) := by decide +kernel
theorem dX12_metricOf_17 : decode cX12_metricOf 17 = .ok (.idiv, 1) := by decide +kernel
theorem dX12_metricOf_18 : decode cX12_metricOf 18 = .ok (.iload_n 2, 1) := by decide +kernel
theorem dX12_metricOf_19 : decode cX12_metricOf 19 = .ok (.iconst 4, 1) := by decide +kernel
theorem dX12_metricOf_20 : decode cX12_metricOf 20 = .ok (.irem, 1) := by decide +kernel
theorem dX12_metricOf_21 : decode cX12_metricOf 21 = .ok (.iload_n 3, 1) := by decide +kernel
theorem dX12_metricOf_22 : decode cX12_metricOf 22 = .ok (.iload 7, 2) := by decide +kernel
theorem dX12_metricOf_24 : decode cX12_metricOf 24 = .ok (.aload_n 0, 1) := by decide +kernel
theorem dX12_metricOf_25 : decode cX12_metricOf 25 = .ok (.iload_n 1, 1) := by decide +kernel
theorem dX12_metricOf_26 : decode cX12_metricOf 26 = .ok (.invokevirtual 327, 3) := by decide +kernel
theorem dX12_metricOf_29 : decode cX12_metricOf 29 = .ok (.imul, 1) := by decide +kernel
theorem dX12_metricOf_30 : decode cX12_metricOf 30 = .ok (.iadd, 1) := by decide +kernel
theorem dX12_metricOf_31 : decode cX12_metricOf 31 = .ok (.invokevirtual 425, 3) := by decide +kernel
theorem dX12_metricOf_34 : decode cX12_metricOf 34 = .ok (.lload 5, 2) := by decide +kernel
theorem dX12_metricOf_36 : decode cX12_metricOf 36 = .ok (.aload_n 0, 1) := by decide +kernel
theorem dX12_metricOf_37 : decode cX12_metricOf 37 = .ok (.getfield 418, 3) := by decide +kernel
theorem dX12_metricOf_40 : decode cX12_metricOf 40 = .ok (.i2l, 1) := by decide +kernel
theorem dX12_metricOf_41 : decode cX12_metricOf 41 = .ok (.invokestatic 405, 3) := by decide +kernel
theorem dX12_metricOf_44 : decode cX12_metricOf 44 = .ok (.aload_n 0, 1) := by decide +kernel
theorem dX12_metricOf_45 : decode cX12_metricOf 45 = .ok (.getfield 421, 3) := by decide +kernel
theorem dX12_metricOf_48 : decode cX12_metricOf 48 = .ok (.i2l, 1) := by decide +kernel
theorem dX12_metricOf_49 : decode cX12_metricOf 49 = .ok (.invokestatic 405, 3) := by decide +kernel
theorem dX12_metricOf_52 : decode cX12_metricOf 52 = .ok (.ladd, 1) := by decide +kernel
theorem dX12_metricOf_53 : decode cX12_metricOf 53 = .ok (.ladd, 1) := by decide +kernel
theorem dX12_metricOf_54 : decode cX12_metricOf 54 = .ok (.lstore 5, 2) := by decide +kernel
theorem dX12_metricOf_56 : decode cX12_metricOf 56 = .ok (.iinc 7 1, 3) := by decide +kernel
theorem dX12_metricOf_59 : decode cX12_metricOf 59 = .ok (.goto (-53), 3) := by decide +kernel
theorem dX12_metricOf_62 : decode cX12_metricOf 62 = .ok (.lload 5, 2) := by decide +kernel
theorem dX12_metricOf_64 : decode cX12_metricOf 64 = .ok (.lreturn, 1) := by decide +kernel
set_option maxRecDepth 100000 in
theorem c_X12_metricOf (l : Launch) (D : q_D) (al : q_Al) (dt : q_Dt) (x0 : Nat) (x1 : Int32) (x2 : Int32) (x3 : Int32) (x4 : Int32) (kx0 : al.1 x0 = 13) (r0 : Int64) (dt0 : q_Dt) (hm : X12_metricOf al dt x0 x1 x2 x3 x4 = some (r0, dt0)) : q_Mt l yX12_metricOf cX12_metricOf 8 (some FieldType.long) 2 52 D al [.ref x0, .int x1, .int x2, .int x3, .int x4] dt 0 (some (.long r0)) dt0 := by
  refine q_Mt.of (by decide) (Nat.le_of_ble_eq_true rfl) ?_
  intro p e s m args below meth c ls C hargs hW hl
  have hx := C.1
  have hb := C.2.1
  have hown := C.2.2.2.2.2.1
  have hts := C.2.2.2.2.2.2.1
  have hS : va_S (q_A al) s.heap s.heap [] := va_S.rf
  have hl : lv_has ls 8 [(0, .ref x0), (1, .int x1), (2, .int x2), (3, .int x3), (4, .int x4)] := hl
  unfold X12_metricOf at hm
  have hB6 : ∀ (x0_6 : Nat) (x1_6 : Int32) (x2_6 : Int32) (x3_6 : Int32) (x4_6 : Int32) (kx0_6 : al.1 x0_6 = 13) (n_6 : Nat) (x5_6 : Int64) (x7_6 : Int32) (dt : q_Dt) (H : Heap) (locs : List Loc) (ls : Array Slot) (hm : X12_metricOf_b6 al x0_6 x1_6 x2_6 x3_6 x4_6 n_6 x5_6 x7_6 dt = some (r0, dt0)) (hW : q_W D al dt H) (hS : va_S (q_A al) s.heap H locs) (hl : lv_has ls 8 [(0, .ref x0_6), (1, .int x1_6), (2, .int x2_6), (3, .int x3_6), (4, .int x4_6), (5, .long x5_6), (7, .int x7_6)]), W p l e { frames := 2, cells := 0, slots := 0, locals := 52 } s m args below meth c H locs 0 0 (MQ below (q_Q (some (.long r0)) (fun H => q_W D al dt0 H ∧ q_Rk al 0 (some (.long r0))) (q_A al)) args s 0 0 (q_A al)) (F0 m 6 ls []) := by
    intro x0_6 x1_6 x2_6 x3_6 x4_6 kx0_6
    intro n_6
    induction n_6 with
    | zero => intro x5_6 x7_6 dt H locs ls hm hW hS hl; cases hm
    | succ n_6 ih6 =>
      intro x5_6 x7_6 dt H locs ls hm hW hS hl
      rw [X12_metricOf_b6] at hm
      refine lv_iload hx hb dX12_metricOf_6 (lv_at hl 6 rfl) ?_
      refine lv_iload hx hb dX12_metricOf_8 (lv_at hl 4 rfl) ?_
      refine q_ifc hm (fun c6001 hm => ?_) (fun c6001 hm => ?_)
      · refine lv_icmp_ge (tgt := 62) hx hb dX12_metricOf_10 (by decide) (fun _ => ?_) (fun h => absurd c6001 h)
        refine lv_lload hx hb dX12_metricOf_62 (lv_at hl 5 rfl) ?_
        exact e_lD C hW hS hm dX12_metricOf_64
      refine lv_icmp_ge (tgt := 62) hx hb dX12_metricOf_10 (by decide) (fun h => absurd h c6001) (fun _ => ?_)
      refine lv_aload_n hx hb dX12_metricOf_13 rfl (lv_at hl 0 rfl) ?_
      refine lv_iload_n hx hb dX12_metricOf_14 rfl (lv_at hl 1 rfl) ?_
      refine lv_iload_n hx hb dX12_metricOf_15 rfl (lv_at hl 2 rfl) ?_
      refine lv_iconst (v := 4) hx hb dX12_metricOf_16 (by decide) ?_
      refine lv_idiv hx hb dX12_metricOf_17 (by decide) ?_
      refine lv_iload_n hx hb dX12_metricOf_18 rfl (lv_at hl 2 rfl) ?_
      refine lv_iconst (v := 4) hx hb dX12_metricOf_19 (by decide) ?_
      refine lv_irem hx hb dX12_metricOf_20 (by decide) ?_
      refine lv_iload_n hx hb dX12_metricOf_21 rfl (lv_at hl 3 rfl) ?_
      refine lv_iload hx hb dX12_metricOf_22 (lv_at hl 6 rfl) ?_
      refine lv_aload_n hx hb dX12_metricOf_24 rfl (lv_at hl 0 rfl) ?_
      refine lv_iload_n hx hb dX12_metricOf_25 rfl (lv_at hl 1 rfl) ?_
      obtain ⟨v6005, hc6004, hm⟩ := q_b1i hm
      refine q_callV C hW hS (As := [.int x1_6]) (rest := [.int x7_6, .int x3_6, .int (q_ir x2_6 4), .int (x2_6 / 4), .int x1_6, .ref x0_6]) (st1 := [.int v6005, .int x7_6, .int x3_6, .int (q_ir x2_6 4), .int (x2_6 / 4), .int x1_6, .ref x0_6]) (c_X12_long0 l D al dt x0_6 x1_6 kx0_6 v6005 hc6004) yl_X12_long0 vl_X12_long0 ml_RX12_327 (ci := 12) rfl kx0_6 (by decide) rfl ⟨Nat.le_of_ble_eq_true rfl, Nat.le_of_ble_eq_true rfl⟩ hl rfl (Nat.le_of_ble_eq_true rfl) dX12_metricOf_26 ⟨Nat.le_refl _, Nat.le_refl _⟩ rfl (fun H locs k6006 hW hS => ?_)
      refine lv_imul hx hb dX12_metricOf_29 ?_
      refine lv_iadd hx hb dX12_metricOf_30 ?_
      obtain ⟨dt6008, hc6007, hm⟩ := q_b1i hm
      refine q_callV C hW hS (As := [.int x1_6, .int (x2_6 / 4), .int (q_ir x2_6 4), .int (x3_6 + (x7_6 * v6005))]) (rest := []) (st1 := []) (c_X12_sums l D al dt x0_6 x1_6 (x2_6 / 4) (q_ir x2_6 4) (x3_6 + (x7_6 * v6005)) kx0_6 dt6008 hc6007) yl_X12_sums vl_X12_sums ml_RX12_425 (ci := 12) rfl kx0_6 (by decide) rfl ⟨Nat.le_of_ble_eq_true rfl, Nat.le_of_ble_eq_true rfl⟩ hl rfl (Nat.le_of_ble_eq_true rfl) dX12_metricOf_31 ⟨Nat.le_refl _, Nat.le_refl _⟩ rfl (fun H locs k6009 hW hS => ?_)
      refine lv_lload hx hb dX12_metricOf_34 (lv_at hl 5 rfl) ?_
      refine lv_aload_n hx hb dX12_metricOf_36 rfl (lv_at hl 0 rfl) ?_
      refine r_getI C hW (ci := 12) kx0_6 ff_12_60 cl_12 fl_RX12_418 dX12_metricOf_37 ?_
      refine lv_i2l (v := (Int32.toInt64 (dt6008.1 x0_6 60))) hx hb dX12_metricOf_40 rfl ?_
      obtain ⟨v6011, hc6010, hm⟩ := q_b1i hm
      refine q_callS C hW hS (As := [.long (Int32.toInt64 (dt6008.1 x0_6 60))]) (rest := [.long x5_6]) (st1 := [.long v6011, .long x5_6]) (c_X12_square l D al dt6008 (Int32.toInt64 (dt6008.1 x0_6 60)) v6011 hc6010) yl_X12_square sl_X12_square ml_RX12_405 rfl ⟨Nat.le_of_ble_eq_true rfl, Nat.le_of_ble_eq_true rfl⟩ hl rfl (Nat.le_of_ble_eq_true rfl) dX12_metricOf_41 ⟨Nat.le_refl _, Nat.le_refl _⟩ rfl (fun H locs k6012 hW hS => ?_)
      refine lv_aload_n hx hb dX12_metricOf_44 rfl (lv_at hl 0 rfl) ?_
      refine r_getI C hW (ci := 12) kx0_6 ff_12_61 cl_12 fl_RX12_421 dX12_metricOf_45 ?_
      refine lv_i2l (v := (Int32.toInt64 (dt6008.1 x0_6 61))) hx hb dX12_metricOf_48 rfl ?_
      obtain ⟨v6014, hc6013, hm⟩ := q_b1i hm
      refine q_callS C hW hS (As := [.long (Int32.toInt64 (dt6008.1 x0_6 61))]) (rest := [.long v6011, .long x5_6]) (st1 := [.long v6014, .long v6011, .long x5_6]) (c_X12_square l D al dt6008 (Int32.toInt64 (dt6008.1 x0_6 61)) v6014 hc6013) yl_X12_square sl_X12_square ml_RX12_405 rfl ⟨Nat.le_of_ble_eq_true rfl, Nat.le_of_ble_eq_true rfl⟩ hl rfl (Nat.le_of_ble_eq_true rfl) dX12_metricOf_49 ⟨Nat.le_refl _, Nat.le_refl _⟩ rfl (fun H locs k6015 hW hS => ?_)
      refine lv_ladd hx hb dX12_metricOf_52 ?_
      refine lv_ladd hx hb dX12_metricOf_53 ?_
      refine lv_lstore (i := 5) (lv' := [(5, .long (x5_6 + (v6011 + v6014))), (0, .ref x0_6), (1, .int x1_6), (2, .int x2_6), (3, .int x3_6), (4, .int x4_6), (7, .int x7_6)]) hx hb dX12_metricOf_54 hl (by decide) rfl (fun ls hl => ?_)
      refine lv_iinc (v := (x7_6 + 1)) (lv' := [(7, .int (x7_6 + 1)), (5, .long (x5_6 + (v6011 + v6014))), (0, .ref x0_6), (1, .int x1_6), (2, .int x2_6), (3, .int x3_6), (4, .int x4_6)]) hx hb dX12_metricOf_56 hl (k := 6) rfl rfl (by decide) rfl (fun ls hl => ?_)
      refine lv_goto (tgt := 6) hx hb dX12_metricOf_59 (by decide) ?_
      exact ih6 (x5_6 + (v6011 + v6014)) (x7_6 + 1) dt6008 _ _ _ hm hW hS (lv_sub hl [2, 3, 4, 5, 6, 1, 0] rfl)
  refine lv_lconst (v := 0) hx hb dX12_metricOf_0 rfl ?_
  refine lv_lstore (i := 5) (lv' := [(5, .long 0), (0, .ref x0), (1, .int x1), (2, .int x2), (3, .int x3), (4, .int x4)]) hx hb dX12_metricOf_1 hl (by decide) rfl (fun ls hl => ?_)
  refine lv_iconst (v := 0) hx hb dX12_metricOf_3 (by decide) ?_
  refine lv_istore (i := 7) (lv' := [(7, .int 0), (5, .long 0), (0, .ref x0), (1, .int x1), (2, .int x2), (3, .int x3), (4, .int x4)]) hx hb dX12_metricOf_4 hl (by decide) rfl (fun ls hl => ?_)
  exact hB6 x0 x1 x2 x3 x4 kx0 q_FU 0 0 dt _ _ _ hm hW hS (lv_sub hl [2, 3, 4, 5, 6, 1, 0] rfl)
theorem dX12_canLook_0 : decode cX12_canLook 0 = .ok (.aload_n 0, 1) := by decide +kernel
theorem dX12_canLook_1 : decode cX12_canLook 1 = .ok (.iload_n 1, 1) := by decide +kernel
theorem dX12_canLook_2 : decode cX12_canLook 2 = .ok (.invokevirtual 380, 3) := by decide +kernel
theorem dX12_canLook_5 : decode cX12_canLook 5 = .ok (.ifCond .eq 25, 3) := by decide +kernel
theorem dX12_canLook_8 : decode cX12_canLook 8 = .ok (.aload_n 0, 1) := by decide +kernel
theorem dX12_canLook_9 : decode cX12_canLook 9 = .ok (.iload_n 2, 1) := by decide +kernel
theorem dX12_canLook_10 : decode cX12_canLook 10 = .ok (.invokevirtual 401, 3) := by decide +kernel
theorem dX12_canLook_13 : decode cX12_canLook 13 = .ok (.ifCond .eq 17, 3) := by decide +kernel
theorem dX12_canLook_16 : decode cX12_canLook 16 = .ok (.iload_n 3, 1) := by decide +kernel
theorem dX12_canLook_17 : decode cX12_canLook 17 = .ok (.iconst 1, 1) := by decide +kernel
theorem dX12_canLook_18 : decode cX12_canLook 18 = .ok (.bipush 9, 2) := by decide +kernel
theorem dX12_canLook_20 : decode cX12_canLook 20 = .ok (.invokestatic 376, 3) := by decide +kernel
theorem dX12_canLook_23 : decode cX12_canLook 23 = .ok (.ifCond .eq 7, 3) := by decide +kernel
theorem dX12_canLook_26 : decode cX12_canLook 26 = .ok (.iconst 1, 1) := by decide +kernel
theorem dX12_canLook_27 : decode cX12_canLook 27 = .ok (.goto 4, 3) := by decide +kernel
theorem dX12_canLook_30 : decode cX12_canLook 30 = .ok (.iconst 0, 1) := by decide +kernel
theorem dX12_canLook_31 : decode cX12_canLook 31 = .ok (.ireturn, 1) := by decide +kernel
set_option maxRecDepth 100000 in
theorem c_X12_canLook (l : Launch) (D : q_D) (al : q_Al) (dt : q_Dt) (x0 : Nat) (x1 : Int32) (x2 : Int32) (x3 : Int32) (kx0 : al.1 x0 = 13) (r0 : Int32) (hm : X12_canLook al dt x0 x1 x2 x3 = some r0) : q_Mt l yX12_canLook cX12_canLook 4 (some FieldType.boolean) 2 43 D al [.ref x0, .int x1, .int x2, .int x3] dt 0 (some (.int r0)) dt := by
  refine q_Mt.of (by decide) (Nat.le_of_ble_eq_true rfl) ?_
  intro p e s m args below meth c ls C hargs hW hl
  have hx := C.1
  have hb := C.2.1
  have hown := C.2.2.2.2.2.1
  have hts := C.2.2.2.2.2.2.1
  have hS : va_S (q_A al) s.heap s.heap [] := va_S.rf
  have hl : lv_has ls 4 [(0, .ref x0), (1, .int x1), (2, .int x2), (3, .int x3)] := hl
  unfold X12_canLook at hm
  refine lv_aload_n hx hb dX12_canLook_0 rfl (lv_at hl 0 rfl) ?_
  refine lv_iload_n hx hb dX12_canLook_1 rfl (lv_at hl 1 rfl) ?_
  obtain ⟨v1000002, hc1000001, hm⟩ := q_b1i hm
  refine q_callV C hW hS (As := [.int x1]) (rest := []) (st1 := [.int v1000002]) (c_X12_isCode l D al dt x0 x1 kx0 v1000002 hc1000001) yl_X12_isCode vl_X12_isCode ml_RX12_380 (ci := 12) rfl kx0 (by decide) rfl ⟨Nat.le_of_ble_eq_true rfl, Nat.le_of_ble_eq_true rfl⟩ hl rfl (Nat.le_of_ble_eq_true rfl) dX12_canLook_2 ⟨Nat.le_refl _, Nat.le_refl _⟩ rfl (fun H locs k1000003 hW hS => ?_)
  refine q_ifc hm (fun c1000004 hm => ?_) (fun c1000004 hm => ?_)
  · refine lv_if_eq (tgt := 30) hx hb dX12_canLook_5 (by decide) (fun _ => ?_) (fun h => absurd c1000004 h)
    refine lv_iconst (v := 0) hx hb dX12_canLook_30 (by decide) ?_
    exact e_zl C hW hS (Or.inl rfl) hm dX12_canLook_31
  refine lv_if_eq (tgt := 30) hx hb dX12_canLook_5 (by decide) (fun h => absurd h c1000004) (fun _ => ?_)
  refine lv_aload_n hx hb dX12_canLook_8 rfl (lv_at hl 0 rfl) ?_
  refine lv_iload_n hx hb dX12_canLook_9 rfl (lv_at hl 2 rfl) ?_
  obtain ⟨v1000006, hc1000005, hm⟩ := q_b1i hm
  refine q_callV C hW hS (As := [.int x2]) (rest := []) (st1 := [.int v1000006]) (c_X12_isSample l D al dt x0 x2 kx0 v1000006 hc1000005) yl_X12_isSample vl_X12_isSample ml_RX12_401 (ci := 12) rfl kx0 (by decide) rfl ⟨Nat.le_of_ble_eq_true rfl, Nat.le_of_ble_eq_true rfl⟩ hl rfl (Nat.le_of_ble_eq_true rfl) dX12_canLook_10 ⟨Nat.le_refl _, Nat.le_refl _⟩ rfl (fun H locs k1000007 hW hS => ?_)
  refine q_ifc hm (fun c1000008 hm => ?_) (fun c1000008 hm => ?_)
  · refine lv_if_eq (tgt := 30) hx hb dX12_canLook_13 (by decide) (fun _ => ?_) (fun h => absurd c1000008 h)
    refine lv_iconst (v := 0) hx hb dX12_canLook_30 (by decide) ?_
    exact e_zl C hW hS (Or.inl rfl) hm dX12_canLook_31
  refine lv_if_eq (tgt := 30) hx hb dX12_canLook_13 (by decide) (fun h => absurd h c1000008) (fun _ => ?_)
  refine lv_iload_n hx hb dX12_canLook_16 rfl (lv_at hl 3 rfl) ?_
  refine lv_iconst (v := 1) hx hb dX12_canLook_17 (by decide) ?_
  refine lv_bipush (v := 9) hx hb dX12_canLook_18 (by decide) ?_
  obtain ⟨v1000010, hc1000009, hm⟩ := q_b1i hm
  refine q_callS C hW hS (As := [.int x3, .int 1, .int 9]) (rest := []) (st1 := [.int v1000010]) (c_X12_in l D al dt x3 1 9 v1000010 hc1000009) yl_X12_in sl_X12_in ml_RX12_376 rfl ⟨Nat.le_of_ble_eq_true rfl, Nat.le_of_ble_eq_true rfl⟩ hl rfl (Nat.le_of_ble_eq_true rfl) dX12_canLook_20 ⟨Nat.le_refl _, Nat.le_refl _⟩ rfl (fun H locs k1000011 hW hS => ?_)
  refine q_ifc hm (fun c1000012 hm => ?_) (fun c1000012 hm => ?_)
  · refine lv_if_eq (tgt := 30) hx hb dX12_canLook_23 (by decide) (fun _ => ?_) (fun h => absurd c1000012 h)
    refine lv_iconst (v := 0) hx hb dX12_canLook_30 (by decide) ?_
    exact e_zl C hW hS (Or.inl rfl) hm dX12_canLook_31
  refine lv_if_eq (tgt := 30) hx hb dX12_canLook_23 (by decide) (fun h => absurd h c1000012) (fun _ => ?_)
  refine lv_iconst (v := 1) hx hb dX12_canLook_26 (by decide) ?_
  refine lv_goto (tgt := 31) hx hb dX12_canLook_27 (by decide) ?_
  exact e_zl C hW hS (Or.inr rfl) hm dX12_canLook_31
theorem dX12_isCell_0 : decode cX12_isCell 0 = .ok (.iload_n 2, 1) := by decide +kernel
theorem dX12_isCell_1 : decode cX12_isCell 1 = .ok (.iconst 0, 1) := by decide +kernel
theorem dX12_isCell_2 : decode cX12_isCell 2 = .ok (.iconst 4, 1) := by decide +kernel
theorem dX12_isCell_3 : decode cX12_isCell 3 = .ok (.aload_n 0, 1) := by decide +kernel
theorem dX12_isCell_4 : decode cX12_isCell 4 = .ok (.iload_n 1, 1) := by decide +kernel
theorem dX12_isCell_5 : decode cX12_isCell 5 = .ok (.invokevirtual 327, 3) := by decide +kernel
theorem dX12_isCell_8 : decode cX12_isCell 8 = .ok (.imul, 1) := by decide +kernel
theorem dX12_isCell_9 : decode cX12_isCell 9 = .ok (.iconst 1, 1) := by decide +kernel
theorem dX12_isCell_10 : decode cX12_isCell 10 = .ok (.isub, 1) := by decide +kernel
theorem dX12_isCell_11 : decode cX12_isCell 11 = .ok (.invokestatic 376, 3) := by decide +kernel
theorem dX12_isCell_14 : decode cX12_isCell 14 = .ok (.ireturn, 1) := by decide +kernel
set_option maxRecDepth 100000 in
theorem c_X12_isCell (l : Launch) (D : q_D) (al : q_Al) (dt : q_Dt) (x0 : Nat) (x1 : Int32) (x2 : Int32) (kx0 : al.1 x0 = 13) (r0 : Int32) (hm : X12_isCell al dt x0 x1 x2 = some r0) : q_Mt l yX12_isCell cX12_isCell 3 (some FieldType.boolean) 1 22 D al [.ref x0, .int x1, .int x2] dt 0 (some (.int r0)) dt := by
  refine q_Mt.of (by decide) (Nat.le_of_ble_eq_true rfl) ?_
  intro p e s m args below meth c ls C hargs hW hl
  have hx := C.1
  have hb := C.2.1
  have hown := C.2.2.2.2.2.1
  have hts := C.2.2.2.2.2.2.1
  have hS : va_S (q_A al) s.heap s.heap [] := va_S.rf
  have hl : lv_has ls 3 [(0, .ref x0), (1, .int x1), (2, .int x2)] := hl
  unfold X12_isCell at hm
  refine lv_iload_n hx hb dX12_isCell_0 rfl (lv_at hl 2 rfl) ?_
  refine lv_iconst (v := 0) hx hb dX12_isCell_1 (by decide) ?_
  refine lv_iconst (v := 4) hx hb dX12_isCell_2 (by decide) ?_
  refine lv_aload_n hx hb dX12_isCell_3 rfl (lv_at hl 0 rfl) ?_
  refine lv_iload_n hx hb dX12_isCell_4 rfl (lv_at hl 1 rfl) ?_
  obtain ⟨v1000002, hc1000001, hm⟩ := q_b1i hm
  refine q_callV C hW hS (As := [.int x1]) (rest := [.int 4, .int 0, .int x2]) (st1 := [.int v1000002, .int 4, .int 0, .int x2]) (c_X12_long0 l D al dt x0 x1 kx0 v1000002 hc1000001) yl_X12_long0 vl_X12_long0 ml_RX12_327 (ci := 12) rfl kx0 (by decide) rfl ⟨Nat.le_of_ble_eq_true rfl, Nat.le_of_ble_eq_true rfl⟩ hl rfl (Nat.le_of_ble_eq_true rfl) dX12_isCell_5 ⟨Nat.le_refl _, Nat.le_refl _⟩ rfl (fun H locs k1000003 hW hS => ?_)
  refine lv_imul hx hb dX12_isCell_8 ?_
  refine lv_iconst (v := 1) hx hb dX12_isCell_9 (by decide) ?_
  refine lv_isub hx hb dX12_isCell_10 ?_
  obtain ⟨v1000005, hc1000004, hm⟩ := q_b1i hm
  refine q_callS C hW hS (As := [.int x2, .int 0, .int ((4 * v1000002) - 1)]) (rest := []) (st1 := [.int v1000005]) (c_X12_in l D al dt x2 0 ((4 * v1000002) - 1) v1000005 hc1000004) yl_X12_in sl_X12_in ml_RX12_376 rfl ⟨Nat.le_of_ble_eq_true rfl, Nat.le_of_ble_eq_true rfl⟩ hl rfl (Nat.le_of_ble_eq_true rfl) dX12_isCell_11 ⟨Nat.le_refl _, Nat.le_refl _⟩ rfl (fun H locs k1000006 hW hS => ?_)
  exact e_z C hW hS hm dX12_isCell_14
theorem dX12_metric_0 : decode cX12_metric 0 = .ok (.aload_n 0, 1) := by decide +kernel
theorem dX12_metric_1 : decode cX12_metric 1 = .ok (.iload_n 1, 1) := by decide +kernel
theorem dX12_metric_2 : decode cX12_metric 2 = .ok (.iload_n 3, 1) := by decide +kernel
theorem dX12_metric_3 : decode cX12_metric 3 = .ok (.iload 4, 2) := by decide +kernel
theorem dX12_metric_5 : decode cX12_metric 5 = .ok (.invokevirtual 428, 3) := by decide +kernel
theorem dX12_metric_8 : decode cX12_metric 8 = .ok (.ifCond .eq 24, 3) := by decide +kernel
theorem dX12_metric_11 : decode cX12_metric 11 = .ok (.aload_n 0, 1) := by decide +kernel
theorem dX12_metric_12 : decode cX12_metric 12 = .ok (.iload_n 1, 1) := by decide +kernel
theorem dX12_metric_13 : decode cX12_metric 13 = .ok (.iload_n 2, 1) := by decide +kernel
theorem dX12_metric_14 : decode cX12_metric 14 = .ok (.invokevirtual 431, 3) := by decide +kernel
theorem dX12_metric_17 : decode cX12_metric 17 = .ok (.ifCond .eq 15, 3) := by decide +kernel
theorem dX12_metric_20 : decode cX12_metric 20 = .ok (.aload_n 0, 1) := by decide +kernel
theorem dX12_metric_21 : decode cX12_metric 21 = .ok (.iload_n 1, 1) := by decide +kernel
theorem dX12_metric_22 : decode cX12_metric 22 = .ok (.iload_n 2, 1) := by decide +kernel
theorem dX12_metric_23 : decode cX12_metric 23 = .ok (.iload_n 3, 1) := by decide +kernel
theorem dX12_metric_24 : decode cX12_metric 24 = .ok (.iload 4, 2) := by decide +kernel
theorem dX12_metric_26 : decode cX12_metric 26 = .ok (.invokevirtual 434, 3) := by decide +kernel
theorem dX12_metric_29 : decode cX12_metric 29 = .ok (.goto 6, 3) := by decide +kernel
theorem dX12_metric_32 : decode cX12_metric 32 = .ok (.ldc2_w 413, 3) := by decide +kernel
theorem dX12_metric_35 : decode cX12_metric 35 = .ok (.lreturn, 1) := by decide +kernel
set_option maxRecDepth 100000 in
theorem c_X12_metric (l : Launch) (D : q_D) (al : q_Al) (dt : q_Dt) (x0 : Nat) (x1 : Int32) (x2 : Int32) (x3 : Int32) (x4 : Int32) (kx0 : al.1 x0 = 13) (r0 : Int64) (dt0 : q_Dt) (hm : X12_metric al dt x0 x1 x2 x3 x4 = some (r0, dt0)) : q_Mt l yX12_metric cX12_metric 5 (some FieldType.long) 3 79 D al [.ref x0, .int x1, .int x2, .int x3, .int x4] dt 0 (some (.long r0)) dt0 := by
  refine q_Mt.of (by decide) (Nat.le_of_ble_eq_true rfl) ?_
  intro p e s m args below meth c ls C hargs hW hl
  have hx := C.1
  have hb := C.2.1
  have hown := C.2.2.2.2.2.1
  have hts := C.2.2.2.2.2.2.1
  have hS : va_S (q_A al) s.heap s.heap [] := va_S.rf
  have hl : lv_has ls 5 [(0, .ref x0), (1, .int x1), (2, .int x2), (3, .int x3), (4, .int x4)] := hl
  unfold X12_metric at hm
  have hB32 : ∀ (dt : q_Dt) (H : Heap) (locs : List Loc) (ls : Array Slot) (hm : X12_metric_b32 al dt = some (r0, dt0)) (hW : q_W D al dt H) (hS : va_S (q_A al) s.heap H locs) (hl : lv_has ls 5 []), W p l e { frames := 3, cells := 0, slots := 0, locals := 79 } s m args below meth c H locs 0 0 (MQ below (q_Q (some (.long r0)) (fun H => q_W D al dt0 H ∧ q_Rk al 0 (some (.long r0))) (q_A al)) args s 0 0 (q_A al)) (F0 m 32 ls []) := by
    intro dt H locs ls hm hW hS hl
    unfold X12_metric_b32 at hm
    refine lv_ldc2 (own := RX12) (v := (-1)) hx hb hown (hts _ wc_RX12_413) dX12_metric_32 ?_
    exact e_lD C hW hS hm dX12_metric_35
  refine lv_aload_n hx hb dX12_metric_0 rfl (lv_at hl 0 rfl) ?_
  refine lv_iload_n hx hb dX12_metric_1 rfl (lv_at hl 1 rfl) ?_
  refine lv_iload_n hx hb dX12_metric_2 rfl (lv_at hl 3 rfl) ?_
  refine lv_iload hx hb dX12_metric_3 (lv_at hl 4 rfl) ?_
  obtain ⟨v1000002, hc1000001, hm⟩ := q_b1i hm
  refine q_callV C hW hS (As := [.int x1, .int x3, .int x4]) (rest := []) (st1 := [.int v1000002]) (c_X12_canLook l D al dt x0 x1 x3 x4 kx0 v1000002 hc1000001) yl_X12_canLook vl_X12_canLook ml_RX12_428 (ci := 12) rfl kx0 (by decide) rfl ⟨Nat.le_of_ble_eq_true rfl, Nat.le_of_ble_eq_true rfl⟩ hl rfl (Nat.le_of_ble_eq_true rfl) dX12_metric_5 ⟨Nat.le_refl _, Nat.le_refl _⟩ rfl (fun H locs k1000003 hW hS => ?_)
  refine q_ifc hm (fun c1000004 hm => ?_) (fun c1000004 hm => ?_)
  · refine lv_if_eq (tgt := 32) hx hb dX12_metric_8 (by decide) (fun _ => ?_) (fun h => absurd c1000004 h)
    exact hB32 dt _ _ _ hm hW hS (lv_sub hl [] rfl)
  refine lv_if_eq (tgt := 32) hx hb dX12_metric_8 (by decide) (fun h => absurd h c1000004) (fun _ => ?_)
  refine lv_aload_n hx hb dX12_metric_11 rfl (lv_at hl 0 rfl) ?_
  refine lv_iload_n hx hb dX12_metric_12 rfl (lv_at hl 1 rfl) ?_
  refine lv_iload_n hx hb dX12_metric_13 rfl (lv_at hl 2 rfl) ?_
  obtain ⟨v1000006, hc1000005, hm⟩ := q_b1i hm
  refine q_callV C hW hS (As := [.int x1, .int x2]) (rest := []) (st1 := [.int v1000006]) (c_X12_isCell l D al dt x0 x1 x2 kx0 v1000006 hc1000005) yl_X12_isCell vl_X12_isCell ml_RX12_431 (ci := 12) rfl kx0 (by decide) rfl ⟨Nat.le_of_ble_eq_true rfl, Nat.le_of_ble_eq_true rfl⟩ hl rfl (Nat.le_of_ble_eq_true rfl) dX12_metric_14 ⟨Nat.le_refl _, Nat.le_refl _⟩ rfl (fun H locs k1000007 hW hS => ?_)
  refine q_ifc hm (fun c1000008 hm => ?_) (fun c1000008 hm => ?_)
  · refine lv_if_eq (tgt := 32) hx hb dX12_metric_17 (by decide) (fun _ => ?_) (fun h => absurd c1000008 h)
    exact hB32 dt _ _ _ hm hW hS (lv_sub hl [] rfl)
  refine lv_if_eq (tgt := 32) hx hb dX12_metric_17 (by decide) (fun h => absurd h c1000008) (fun _ => ?_)
  refine lv_aload_n hx hb dX12_metric_20 rfl (lv_at hl 0 rfl) ?_
  refine lv_iload_n hx hb dX12_metric_21 rfl (lv_at hl 1 rfl) ?_
  refine lv_iload_n hx hb dX12_metric_22 rfl (lv_at hl 2 rfl) ?_
  refine lv_iload_n hx hb dX12_metric_23 rfl (lv_at hl 3 rfl) ?_
  refine lv_iload hx hb dX12_metric_24 (lv_at hl 4 rfl) ?_
  obtain ⟨v1000010, dt1000011, hc1000009, hm⟩ := q_b2i hm
  refine q_callV C hW hS (As := [.int x1, .int x2, .int x3, .int x4]) (rest := []) (st1 := [.long v1000010]) (c_X12_metricOf l D al dt x0 x1 x2 x3 x4 kx0 v1000010 dt1000011 hc1000009) yl_X12_metricOf vl_X12_metricOf ml_RX12_434 (ci := 12) rfl kx0 (by decide) rfl ⟨Nat.le_of_ble_eq_true rfl, Nat.le_of_ble_eq_true rfl⟩ hl rfl (Nat.le_of_ble_eq_true rfl) dX12_metric_26 ⟨Nat.le_refl _, Nat.le_refl _⟩ rfl (fun H locs k1000012 hW hS => ?_)
  refine lv_goto (tgt := 35) hx hb dX12_metric_29 (by decide) ?_
  exact e_lD C hW hS hm dX12_metric_35
theorem dX12_bestOf_0 : decode cX12_bestOf 0 = .ok (.iconst 0, 1) := by decide +kernel
theorem dX12_bestOf_1 : decode cX12_bestOf 1 = .ok (.istore 4, 2) := by decide +kernel
theorem dX12_bestOf_3 : decode cX12_bestOf 3 = .ok (.ldc2_w 413, 3) := by decide +kernel
theorem dX12_bestOf_6 : decode cX12_bestOf 6 = .ok (.lstore 5, 2) := by decide +kernel
theorem dX12_bestOf_8 : decode cX12_bestOf 8 = .ok (.iconst 0, 1) := by decide +kernel
theorem dX12_bestOf_9 : decode cX12_bestOf 9 = .ok (.istore 7, 2) := by decide +kernel
theorem dX12_bestOf_11 : decode cX12_bestOf 11 = .ok (.iload 7, 2) := by decide +kernel
theorem dX12_bestOf_13 : decode cX12_bestOf 13 = .ok (.iconst 4, 1) := by decide +kernel
theorem dX12_bestOf_14 : decode cX12_bestOf 14 = .ok (.aload_n 0, 1) := by decide +kernel
theorem dX12_bestOf_15 : decode cX12_bestOf 15 = .ok (.iload_n 1, 1) := by decide +kernel
theorem dX12_bestOf_16 : decode cX12_bestOf 16 = .ok (.invokevirtual 327, 3) := by decide +kernel
theorem dX12_bestOf_19 : decode cX12_bestOf 19 = .ok (.imul, 1) := by decide +kernel
theorem dX12_bestOf_20 : decode cX12_bestOf 20 = .ok (.if_icmp .ge 39, 3) := by decide +kernel
theorem dX12_bestOf_23 : decode cX12_bestOf 23 = .ok (.aload_n 0, 1) := by decide +kernel
theorem dX12_bestOf_24 : decode cX12_bestOf 24 = .ok (.iload_n 1, 1) := by decide +kernel
theorem dX12_bestOf_25 : decode cX12_bestOf 25 = .ok (.iload 7, 2) := by decide +kernel
theorem dX12_bestOf_27 : decode cX12_bestOf 27 = .ok (.iload_n 2, 1) := by decide +kernel
theorem dX12_bestOf_28 : decode cX12_bestOf 28 = .ok (.iload_n 3, 1) := by decide +kernel
theorem dX12_bestOf_29 : decode cX12_bestOf 29 = .ok (.invokevirtual 434, 3) := by decide +kernel
theorem dX12_bestOf_32 : decode cX12_bestOf 32 = .ok (.lstore 8, 2) := by decide +kernel
theorem dX12_bestOf_34 : decode cX12_bestOf 34 = .ok (.lload 8, 2) := by decide +kernel
theorem dX12_bestOf_36 : decode cX12_bestOf 36 = .ok (.lload 5, 2) := by decide +kernel
theorem dX12_bestOf_38 : decode cX12_bestOf 38 = .ok (.lcmp, 1) := by decide +kernel
theorem dX12_bestOf_39 : decode cX12_bestOf 39 = .ok (.ifCond .gt 6, 3) := by decide +kernel
theorem dX12_bestOf_42 : decode cX12_bestOf 42 = .ok (.goto 11, 3) := by decide +kernel
theorem dX12_bestOf_45 : decode cX12_bestOf 45 = .ok (.iload 7, 2) := by decide +kernel
theorem dX12_bestOf_47 : decode cX12_bestOf 47 = .ok (.istore 4, 2) := by decide +kernel
theorem dX12_bestOf_49 : decode cX12_bestOf 49 = .ok (.lload 8, 2) := by decide +kernel
theorem dX12_bestOf_51 : decode cX12_bestOf 51 = .ok (.lstore 5, 2) := by decide +kernel
theorem dX12_bestOf_53 : decode cX12_bestOf 53 = .ok (.iinc 7 1, 3) := by decide +kernel
theorem dX12_bestOf_56 : decode cX12_bestOf 56 = .ok (.goto (-45), 3) := by decide +kernel
theorem dX12_bestOf_59 : decode cX12_bestOf 59 = .ok (.iload 4, 2) := by decide +kernel
theorem dX12_bestOf_61 : decode cX12_bestOf 61 = .ok (.ireturn, 1) := by decide +kernel
set_option maxRecDepth 100000 in
theorem c_X12_bestOf (l : Launch) (D : q_D) (al : q_Al) (dt : q_Dt) (x0 : Nat) (x1 : Int32) (x2 : Int32) (x3 : Int32) (kx0 : al.1 x0 = 13) (r0 : Int32) (dt0 : q_Dt) (hm : X12_bestOf al dt x0 x1 x2 x3 = some (r0, dt0)) : q_Mt l yX12_bestOf cX12_bestOf 10 (some FieldType.int) 3 79 D al [.ref x0, .int x1, .int x2, .int x3] dt 0 (some (.int r0)) dt0 := by
  refine q_Mt.of (by decide) (Nat.le_of_ble_eq_true rfl) ?_
  intro p e s m args below meth c ls C hargs hW hl
  have hx := C.1
  have hb := C.2.1
  have hown := C.2.2.2.2.2.1
  have hts := C.2.2.2.2.2.2.1
  have hS : va_S (q_A al) s.heap s.heap [] := va_S.rf
  have hl : lv_has ls 10 [(0, .ref x0), (1, .int x1), (2, .int x2), (3, .int x3)] := hl
  unfold X12_bestOf at hm
  have hB11 : ∀ (x0_11 : Nat) (x1_11 : Int32) (x2_11 : Int32) (x3_11 : Int32) (kx0_11 : al.1 x0_11 = 13) (n_11 : Nat) (x4_11 : Int32) (x5_11 : Int64) (x7_11 : Int32) (dt : q_Dt) (H : Heap) (locs : List Loc) (ls : Array Slot) (hm : X12_bestOf_b11 al x0_11 x1_11 x2_11 x3_11 n_11 x4_11 x5_11 x7_11 dt = some (r0, dt0)) (hW : q_W D al dt H) (hS : va_S (q_A al) s.heap H locs) (hl : lv_has ls 10 [(0, .ref x0_11), (1, .int x1_11), (2, .int x2_11), (3, .int x3_11), (4, .int x4_11), (5, .long x5_11), (7, .int x7_11)]), W p l e { frames := 3, cells := 0, slots := 0, locals := 79 } s m args below meth c H locs 0 0 (MQ below (q_Q (some (.int r0)) (fun H => q_W D al dt0 H ∧ q_Rk al 0 (some (.int r0))) (q_A al)) args s 0 0 (q_A al)) (F0 m 11 ls []) := by
    intro x0_11 x1_11 x2_11 x3_11 kx0_11
    intro n_11
    induction n_11 with
    | zero => intro x4_11 x5_11 x7_11 dt H locs ls hm hW hS hl; cases hm
    | succ n_11 ih11 =>
      have hB53 : ∀ (x4_53 : Int32) (x5_53 : Int64) (x7_53 : Int32) (dt : q_Dt) (H : Heap) (locs : List Loc) (ls : Array Slot) (hm : X12_bestOf_b53 al (X12_bestOf_b11 al x0_11 x1_11 x2_11 x3_11 n_11) x0_11 x1_11 x2_11 x3_11 x4_53 x5_53 x7_53 dt = some (r0, dt0)) (hW : q_W D al dt H) (hS : va_S (q_A al) s.heap H locs) (hl : lv_has ls 10 [(0, .ref x0_11), (1, .int x1_11), (2, .int x2_11), (3, .int x3_11), (4, .int x4_53), (5, .long x5_53), (7, .int x7_53)]), W p l e { frames := 3, cells := 0, slots := 0, locals := 79 } s m args below meth c H locs 0 0 (MQ below (q_Q (some (.int r0)) (fun H => q_W D al dt0 H ∧ q_Rk al 0 (some (.int r0))) (q_A al)) args s 0 0 (q_A al)) (F0 m 53 ls []) := by
        intro x4_53 x5_53 x7_53 dt H locs ls hm hW hS hl
        unfold X12_bestOf_b53 at hm
        refine lv_iinc (v := (x7_53 + 1)) (lv' := [(7, .int (x7_53 + 1)), (0, .ref x0_11), (1, .int x1_11), (2, .int x2_11), (3, .int x3_11), (4, .int x4_53), (5, .long x5_53)]) hx hb dX12_bestOf_53 hl (k := 6) rfl rfl (by decide) rfl (fun ls hl => ?_)
        refine lv_goto (tgt := 11) hx hb dX12_bestOf_56 (by decide) ?_
        exact ih11 x4_53 x5_53 (x7_53 + 1) dt _ _ _ hm hW hS (lv_sub hl [1, 2, 3, 4, 5, 6, 0] rfl)
      intro x4_11 x5_11 x7_11 dt H locs ls hm hW hS hl
      rw [X12_bestOf_b11] at hm
      refine lv_iload hx hb dX12_bestOf_11 (lv_at hl 6 rfl) ?_
      refine lv_iconst (v := 4) hx hb dX12_bestOf_13 (by decide) ?_
      refine lv_aload_n hx hb dX12_bestOf_14 rfl (lv_at hl 0 rfl) ?_
      refine lv_iload_n hx hb dX12_bestOf_15 rfl (lv_at hl 1 rfl) ?_
      obtain ⟨v11002, hc11001, hm⟩ := q_b1i hm
      refine q_callV C hW hS (As := [.int x1_11]) (rest := [.int 4, .int x7_11]) (st1 := [.int v11002, .int 4, .int x7_11]) (c_X12_long0 l D al dt x0_11 x1_11 kx0_11 v11002 hc11001) yl_X12_long0 vl_X12_long0 ml_RX12_327 (ci := 12) rfl kx0_11 (by decide) rfl ⟨Nat.le_of_ble_eq_true rfl, Nat.le_of_ble_eq_true rfl⟩ hl rfl (Nat.le_of_ble_eq_true rfl) dX12_bestOf_16 ⟨Nat.le_refl _, Nat.le_refl _⟩ rfl (fun H locs k11003 hW hS => ?_)
      refine lv_imul hx hb dX12_bestOf_19 ?_
      refine q_ifc hm (fun c11004 hm => ?_) (fun c11004 hm => ?_)
      · refine lv_icmp_ge (tgt := 59) hx hb dX12_bestOf_20 (by decide) (fun _ => ?_) (fun h => absurd c11004 h)
        refine lv_iload hx hb dX12_bestOf_59 (lv_at hl 4 rfl) ?_
        exact e_iD C hW hS hm dX12_bestOf_61
      refine lv_icmp_ge (tgt := 59) hx hb dX12_bestOf_20 (by decide) (fun h => absurd h c11004) (fun _ => ?_)
      refine lv_aload_n hx hb dX12_bestOf_23 rfl (lv_at hl 0 rfl) ?_
      refine lv_iload_n hx hb dX12_bestOf_24 rfl (lv_at hl 1 rfl) ?_
      refine lv_iload hx hb dX12_bestOf_25 (lv_at hl 6 rfl) ?_
      refine lv_iload_n hx hb dX12_bestOf_27 rfl (lv_at hl 2 rfl) ?_
      refine lv_iload_n hx hb dX12_bestOf_28 rfl (lv_at hl 3 rfl) ?_
      obtain ⟨v11006, dt11007, hc11005, hm⟩ := q_b2i hm
      refine q_callV C hW hS (As := [.int x1_11, .int x7_11, .int x2_11, .int x3_11]) (rest := []) (st1 := [.long v11006]) (c_X12_metricOf l D al dt x0_11 x1_11 x7_11 x2_11 x3_11 kx0_11 v11006 dt11007 hc11005) yl_X12_metricOf vl_X12_metricOf ml_RX12_434 (ci := 12) rfl kx0_11 (by decide) rfl ⟨Nat.le_of_ble_eq_true rfl, Nat.le_of_ble_eq_true rfl⟩ hl rfl (Nat.le_of_ble_eq_true rfl) dX12_bestOf_29 ⟨Nat.le_refl _, Nat.le_refl _⟩ rfl (fun H locs k11008 hW hS => ?_)
      refine lv_lstore (i := 8) (lv' := [(8, .long v11006), (0, .ref x0_11), (1, .int x1_11), (2, .int x2_11), (3, .int x3_11), (4, .int x4_11), (5, .long x5_11), (7, .int x7_11)]) hx hb dX12_bestOf_32 hl (by decide) rfl (fun ls hl => ?_)
      refine lv_lload hx hb dX12_bestOf_34 (lv_at hl 0 rfl) ?_
      refine lv_lload hx hb dX12_bestOf_36 (lv_at hl 6 rfl) ?_
      refine W.lcmp hx hb dX12_bestOf_38 ?_
      refine q_ifc hm (fun c11009 hm => ?_) (fun c11009 hm => ?_)
      · refine lv_if_gt (tgt := 45) hx hb dX12_bestOf_39 (by decide) (fun _ => ?_) (fun h => absurd (q_cmp_gt.mpr c11009) h)
        refine lv_iload hx hb dX12_bestOf_45 (lv_at hl 7 rfl) ?_
        refine lv_istore (i := 4) (lv' := [(4, .int x7_11), (8, .long v11006), (0, .ref x0_11), (1, .int x1_11), (2, .int x2_11), (3, .int x3_11), (5, .long x5_11), (7, .int x7_11)]) hx hb dX12_bestOf_47 hl (by decide) rfl (fun ls hl => ?_)
        refine lv_lload hx hb dX12_bestOf_49 (lv_at hl 1 rfl) ?_
        refine lv_lstore (i := 5) (lv' := [(5, .long v11006), (4, .int x7_11), (8, .long v11006), (0, .ref x0_11), (1, .int x1_11), (2, .int x2_11), (3, .int x3_11), (7, .int x7_11)]) hx hb dX12_bestOf_51 hl (by decide) rfl (fun ls hl => ?_)
        exact hB53 x7_11 v11006 x7_11 dt11007 _ _ _ hm hW hS (lv_sub hl [3, 4, 5, 6, 1, 0, 7] rfl)
      refine lv_if_gt (tgt := 45) hx hb dX12_bestOf_39 (by decide) (fun h => absurd (q_cmp_gt.mp h) c11009) (fun _ => ?_)
      refine lv_goto (tgt := 53) hx hb dX12_bestOf_42 (by decide) ?_
      exact hB53 x4_11 x5_11 x7_11 dt11007 _ _ _ hm hW hS (lv_sub hl [1, 2, 3, 4, 5, 6, 7] rfl)
  refine lv_iconst (v := 0) hx hb dX12_bestOf_0 (by decide) ?_
  refine lv_istore (i := 4) (lv' := [(4, .int 0), (0, .ref x0), (1, .int x1), (2, .int x2), (3, .int x3)]) hx hb dX12_bestOf_1 hl (by decide) rfl (fun ls hl => ?_)
  refine lv_ldc2 (own := RX12) (v := (-1)) hx hb hown (hts _ wc_RX12_413) dX12_bestOf_3 ?_
  refine lv_lstore (i := 5) (lv' := [(5, .long (-1)), (4, .int 0), (0, .ref x0), (1, .int x1), (2, .int x2), (3, .int x3)]) hx hb dX12_bestOf_6 hl (by decide) rfl (fun ls hl => ?_)
  refine lv_iconst (v := 0) hx hb dX12_bestOf_8 (by decide) ?_
  refine lv_istore (i := 7) (lv' := [(7, .int 0), (5, .long (-1)), (4, .int 0), (0, .ref x0), (1, .int x1), (2, .int x2), (3, .int x3)]) hx hb dX12_bestOf_9 hl (by decide) rfl (fun ls hl => ?_)
  exact hB11 x0 x1 x2 x3 kx0 q_FU 0 (-1) 0 dt _ _ _ hm hW hS (lv_sub hl [3, 4, 5, 6, 2, 1, 0] rfl)
theorem dX12_best_0 : decode cX12_best 0 = .ok (.aload_n 0, 1) := by decide +kernel
theorem dX12_best_1 : decode cX12_best 1 = .ok (.iload_n 1, 1) := by decide +kernel
theorem dX12_best_2 : decode cX12_best 2 = .ok (.iload_n 2, 1) := by decide +kernel
theorem dX12_best_3 : decode cX12_best 3 = .ok (.iload_n 3, 1) := by decide +kernel
theorem dX12_best_4 : decode cX12_best 4 = .ok (.invokevirtual 428, 3) := by decide +kernel
theorem dX12_best_7 : decode cX12_best 7 = .ok (.ifCond .eq 13, 3) := by decide +kernel
theorem dX12_best_10 : decode cX12_best 10 = .ok (.aload_n 0, 1) := by decide +kernel
theorem dX12_best_11 : decode cX12_best 11 = .ok (.iload_n 1, 1) := by decide +kernel
theorem dX12_best_12 : decode cX12_best 12 = .ok (.iload_n 2, 1) := by decide +kernel
theorem dX12_best_13 : decode cX12_best 13 = .ok (.iload_n 3, 1) := by decide +kernel
theorem dX12_best_14 : decode cX12_best 14 = .ok (.invokevirtual 438, 3) := by decide +kernel
theorem dX12_best_17 : decode cX12_best 17 = .ok (.goto 4, 3) := by decide +kernel
theorem dX12_best_20 : decode cX12_best 20 = .ok (.iconst (-1), 1) := by decide +kernel
theorem dX12_best_21 : decode cX12_best 21 = .ok (.ireturn, 1) := by decide +kernel
set_option maxRecDepth 100000 in
theorem c_X12_best (l : Launch) (D : q_D) (al : q_Al) (dt : q_Dt) (x0 : Nat) (x1 : Int32) (x2 : Int32) (x3 : Int32) (kx0 : al.1 x0 = 13) (r0 : Int32) (dt0 : q_Dt) (hm : X12_best al dt x0 x1 x2 x3 = some (r0, dt0)) : q_Mt l yX12_best cX12_best 4 (some FieldType.int) 4 108 D al [.ref x0, .int x1, .int x2, .int x3] dt 0 (some (.int r0)) dt0 := by
  refine q_Mt.of (by decide) (Nat.le_of_ble_eq_true rfl) ?_
  intro p e s m args below meth c ls C hargs hW hl
  have hx := C.1
  have hb := C.2.1
  have hown := C.2.2.2.2.2.1
  have hts := C.2.2.2.2.2.2.1
  have hS : va_S (q_A al) s.heap s.heap [] := va_S.rf
  have hl : lv_has ls 4 [(0, .ref x0), (1, .int x1), (2, .int x2), (3, .int x3)] := hl
  unfold X12_best at hm
  refine lv_aload_n hx hb dX12_best_0 rfl (lv_at hl 0 rfl) ?_
  refine lv_iload_n hx hb dX12_best_1 rfl (lv_at hl 1 rfl) ?_
  refine lv_iload_n hx hb dX12_best_2 rfl (lv_at hl 2 rfl) ?_
  refine lv_iload_n hx hb dX12_best_3 rfl (lv_at hl 3 rfl) ?_
  obtain ⟨v1000002, hc1000001, hm⟩ := q_b1i hm
  refine q_callV C hW hS (As := [.int x1, .int x2, .int x3]) (rest := []) (st1 := [.int v1000002]) (c_X12_canLook l D al dt x0 x1 x2 x3 kx0 v1000002 hc1000001) yl_X12_canLook vl_X12_canLook ml_RX12_428 (ci := 12) rfl kx0 (by decide) rfl ⟨Nat.le_of_ble_eq_true rfl, Nat.le_of_ble_eq_true rfl⟩ hl rfl (Nat.le_of_ble_eq_true rfl) dX12_best_4 ⟨Nat.le_refl _, Nat.le_refl _⟩ rfl (fun H locs k1000003 hW hS => ?_)
  refine q_ifc hm (fun c1000004 hm => ?_) (fun c1000004 hm => ?_)
  · refine lv_if_eq (tgt := 20) hx hb dX12_best_7 (by decide) (fun _ => ?_) (fun h => absurd c1000004 h)
    refine lv_iconst (v := (-1)) hx hb dX12_best_20 (by decide) ?_
    exact e_iD C hW hS hm dX12_best_21
  refine lv_if_eq (tgt := 20) hx hb dX12_best_7 (by decide) (fun h => absurd h c1000004) (fun _ => ?_)
  refine lv_aload_n hx hb dX12_best_10 rfl (lv_at hl 0 rfl) ?_
  refine lv_iload_n hx hb dX12_best_11 rfl (lv_at hl 1 rfl) ?_
  refine lv_iload_n hx hb dX12_best_12 rfl (lv_at hl 2 rfl) ?_
  refine lv_iload_n hx hb dX12_best_13 rfl (lv_at hl 3 rfl) ?_
  obtain ⟨v1000006, dt1000007, hc1000005, hm⟩ := q_b2i hm
  refine q_callV C hW hS (As := [.int x1, .int x2, .int x3]) (rest := []) (st1 := [.int v1000006]) (c_X12_bestOf l D al dt x0 x1 x2 x3 kx0 v1000006 dt1000007 hc1000005) yl_X12_bestOf vl_X12_bestOf ml_RX12_438 (ci := 12) rfl kx0 (by decide) rfl ⟨Nat.le_of_ble_eq_true rfl, Nat.le_of_ble_eq_true rfl⟩ hl rfl (Nat.le_of_ble_eq_true rfl) dX12_best_14 ⟨Nat.le_refl _, Nat.le_refl _⟩ rfl (fun H locs k1000008 hW hS => ?_)
  refine lv_goto (tgt := 21) hx hb dX12_best_17 (by decide) ?_
  exact e_iD C hW hS hm dX12_best_21
theorem dX12_apart_0 : decode cX12_apart 0 = .ok (.iload_n 0, 1) := by decide +kernel
theorem dX12_apart_1 : decode cX12_apart 1 = .ok (.iload_n 1, 1) := by decide +kernel
theorem dX12_apart_2 : decode cX12_apart 2 = .ok (.isub, 1) := by decide +kernel
theorem dX12_apart_3 : decode cX12_apart 3 = .ok (.iload_n 2, 1) := by decide +kernel
theorem dX12_apart_4 : decode cX12_apart 4 = .ok (.irem, 1) := by decide +kernel
theorem dX12_apart_5 : decode cX12_apart 5 = .ok (.istore_n 3, 1) := by decide +kernel
theorem dX12_apart_6 : decode cX12_apart 6 = .ok (.iload_n 3, 1) := by decide +kernel
theorem dX12_apart_7 : decode cX12_apart 7 = .ok (.ifCond .ge 7, 3) := by decide +kernel
theorem dX12_apart_10 : decode cX12_apart 10 = .ok (.iload_n 3, 1) := by decide +kernel
theorem dX12_apart_11 : decode cX12_apart 11 = .ok (.iload_n 2, 1) := by decide +kernel
theorem dX12_apart_12 : decode cX12_apart 12 = .ok (.iadd, 1) := by decide +kernel
theorem dX12_apart_13 : decode cX12_apart 13 = .ok (.istore_n 3, 1) := by decide +kernel
theorem dX12_apart_14 : decode cX12_apart 14 = .ok (.iload_n 3, 1) := by decide +kernel
theorem dX12_apart_15 : decode cX12_apart 15 = .ok (.iload_n 2, 1) := by decide +kernel
theorem dX12_apart_16 : decode cX12_apart 16 = .ok (.iload_n 3, 1) := by decide +kernel
theorem dX12_apart_17 : decode cX12_apart 17 = .ok (.isub, 1) := by decide +kernel
theorem dX12_apart_18 : decode cX12_apart 18 = .ok (.if_icmp .ge 7, 3) := by decide +kernel
theorem dX12_apart_21 : decode cX12_apart 21 = .ok (.iload_n 3, 1) := by decide +kernel
theorem dX12_apart_22 : decode cX12_apart 22 = .ok (.goto 6, 3) := by decide +kernel
theorem dX12_apart_25 : decode cX12_apart 25 = .ok (.iload_n 2, 1) := by decide +kernel
theorem dX12_apart_26 : decode cX12_apart 26 = .ok (.iload_n 3, 1) := by decide +kernel
theorem dX12_apart_27 : decode cX12_apart 27 = .ok (.isub, 1) := by decide +kernel
theorem dX12_apart_28 : decode cX12_apart 28 = .ok (.ireturn, 1) := by decide +kernel
set_option maxRecDepth 100000 in
theorem c_X12_apart (l : Launch) (D : q_D) (al : q_Al) (dt : q_Dt) (x0 : Int32) (x1 : Int32) (x2 : Int32) (r0 : Int32) (hm : X12_apart x0 x1 x2 = some r0) : q_Mt l yX12_apart cX12_apart 4 (some FieldType.int) 0 0 D al [.int x0, .int x1, .int x2] dt 0 (some (.int r0)) dt := by
  refine q_Mt.of (by decide) (Nat.le_of_ble_eq_true rfl) ?_
  intro p e s m args below meth c ls C hargs hW hl
  have hx := C.1
  have hb := C.2.1
  have hown := C.2.2.2.2.2.1
  have hts := C.2.2.2.2.2.2.1
  have hS : va_S (q_A al) s.heap s.heap [] := va_S.rf
  have hl : lv_has ls 4 [(0, .int x0), (1, .int x1), (2, .int x2)] := hl
  unfold X12_apart at hm
  have hB14 : ∀ (x2_14 : Int32) (x3_14 : Int32) (H : Heap) (locs : List Loc) (ls : Array Slot) (hm : X12_apart_b14 x2_14 x3_14 = some r0) (hW : q_W D al dt H) (hS : va_S (q_A al) s.heap H locs) (hl : lv_has ls 4 [(2, .int x2_14), (3, .int x3_14)]), W p l e { frames := 0, cells := 0, slots := 0, locals := 0 } s m args below meth c H locs 0 0 (MQ below (q_Q (some (.int r0)) (fun H => q_W D al dt H ∧ q_Rk al 0 (some (.int r0))) (q_A al)) args s 0 0 (q_A al)) (F0 m 14 ls []) := by
    intro x2_14 x3_14 H locs ls hm hW hS hl
    unfold X12_apart_b14 at hm
    refine lv_iload_n hx hb dX12_apart_14 rfl (lv_at hl 1 rfl) ?_
    refine lv_iload_n hx hb dX12_apart_15 rfl (lv_at hl 0 rfl) ?_
    refine lv_iload_n hx hb dX12_apart_16 rfl (lv_at hl 1 rfl) ?_
    refine lv_isub hx hb dX12_apart_17 ?_
    refine q_ifc hm (fun c14001 hm => ?_) (fun c14001 hm => ?_)
    · refine lv_icmp_ge (tgt := 25) hx hb dX12_apart_18 (by decide) (fun _ => ?_) (fun h => absurd c14001 h)
      refine lv_iload_n hx hb dX12_apart_25 rfl (lv_at hl 0 rfl) ?_
      refine lv_iload_n hx hb dX12_apart_26 rfl (lv_at hl 1 rfl) ?_
      refine lv_isub hx hb dX12_apart_27 ?_
      exact e_i C hW hS hm dX12_apart_28
    refine lv_icmp_ge (tgt := 25) hx hb dX12_apart_18 (by decide) (fun h => absurd h c14001) (fun _ => ?_)
    refine lv_iload_n hx hb dX12_apart_21 rfl (lv_at hl 1 rfl) ?_
    refine lv_goto (tgt := 28) hx hb dX12_apart_22 (by decide) ?_
    exact e_i C hW hS hm dX12_apart_28
  refine lv_iload_n hx hb dX12_apart_0 rfl (lv_at hl 0 rfl) ?_
  refine lv_iload_n hx hb dX12_apart_1 rfl (lv_at hl 1 rfl) ?_
  refine lv_isub hx hb dX12_apart_2 ?_
  refine lv_iload_n hx hb dX12_apart_3 rfl (lv_at hl 2 rfl) ?_
  obtain ⟨c1000001, hm⟩ := q_ini hm
  refine lv_irem hx hb dX12_apart_4 c1000001 ?_
  refine lv_istore_n (i := 3) (lv' := [(3, .int (q_ir (x0 - x1) x2)), (0, .int x0), (1, .int x1), (2, .int x2)]) hx hb dX12_apart_5 rfl hl (by decide) rfl (fun ls hl => ?_)
  refine lv_iload_n hx hb dX12_apart_6 rfl (lv_at hl 0 rfl) ?_
  refine q_ifc hm (fun c1000002 hm => ?_) (fun c1000002 hm => ?_)
  · refine lv_if_ge (tgt := 14) hx hb dX12_apart_7 (by decide) (fun _ => ?_) (fun h => absurd c1000002 h)
    exact hB14 x2 (q_ir (x0 - x1) x2) _ _ _ hm hW hS (lv_sub hl [3, 0] rfl)
  refine lv_if_ge (tgt := 14) hx hb dX12_apart_7 (by decide) (fun h => absurd h c1000002) (fun _ => ?_)
  refine lv_iload_n hx hb dX12_apart_10 rfl (lv_at hl 0 rfl) ?_
  refine lv_iload_n hx hb dX12_apart_11 rfl (lv_at hl 3 rfl) ?_
  refine lv_iadd hx hb dX12_apart_12 ?_
  refine lv_istore_n (i := 3) (lv' := [(3, .int ((q_ir (x0 - x1) x2) + x2)), (0, .int x0), (1, .int x1), (2, .int x2)]) hx hb dX12_apart_13 rfl hl (by decide) rfl (fun ls hl => ?_)
  exact hB14 x2 ((q_ir (x0 - x1) x2) + x2) _ _ _ hm hW hS (lv_sub hl [3, 0] rfl)
theorem dX12_second_0 : decode cX12_second 0 = .ok (.aload_n 0, 1) := by decide +kernel
theorem dX12_second_1 : decode cX12_second 1 = .ok (.iload_n 1, 1) := by decide +kernel
theorem dX12_second_2 : decode cX12_second 2 = .ok (.iload_n 2, 1) := by decide +kernel
theorem dX12_second_3 : decode cX12_second 3 = .ok (.iload_n 3, 1) := by decide +kernel
theorem dX12_second_4 : decode cX12_second 4 = .ok (.invokevirtual 428, 3) := by decide +kernel
theorem dX12_second_7 : decode cX12_second 7 = .ok (.ifCond .eq 14, 3) := by decide +kernel
theorem dX12_second_10 : decode cX12_second 10 = .ok (.iload 4, 2) := by decide +kernel
theorem dX12_second_12 : decode cX12_second 12 = .ok (.iconst 0, 1) := by decide +kernel
theorem dX12_second_13 : decode cX12_second 13 = .ok (.bipush 60, 2) := by decide +kernel
theorem dX12_second_15 : decode cX12_second 15 = .ok (.invokestatic 376, 3) := by decide +kernel
theorem dX12_second_18 : decode cX12_second 18 = .ok (.ifCond .ne 5, 3) := by decide +kernel
theorem dX12_second_21 : decode cX12_second 21 = .ok (.iconst (-1), 1) := by decide +kernel
theorem dX12_second_22 : decode cX12_second 22 = .ok (.ireturn, 1) := by decide +kernel
theorem dX12_second_23 : decode cX12_second 23 = .ok (.aload_n 0, 1) := by decide +kernel
theorem dX12_second_24 : decode cX12_second 24 = .ok (.iload_n 1, 1) := by decide +kernel
theorem dX12_second_25 : decode cX12_second 25 = .ok (.iload_n 2, 1) := by decide +kernel
theorem dX12_second_26 : decode cX12_second 26 = .ok (.iload_n 3, 1) := by decide +kernel
theorem dX12_second_27 : decode cX12_second 27 = .ok (.invokevirtual 438, 3) := by decide +kernel
theorem dX12_second_30 : decode cX12_second 30 = .ok (.istore 5, 2) := by decide +kernel
theorem dX12_second_32 : decode cX12_second 32 = .ok (.bipush (-2), 2) := by decide +kernel
theorem dX12_second_34 : decode cX12_second 34 = .ok (.istore 6, 2) := by decide +kernel
theorem dX12_second_36 : decode cX12_second 36 = .ok (.ldc2_w 413, 3) := by decide +kernel
theorem dX12_second_39 : decode cX12_second 39 = .ok (.lstore 7, 2) := by decide +kernel
theorem dX12_second_41 : decode cX12_second 41 = .ok (.iconst 0, 1) := by decide +kernel
theorem dX12_second_42 : decode cX12_second 42 = .ok (.istore 9, 2) := by decide +kernel
theorem dX12_second_44 : decode cX12_second 44 = .ok (.iload 9, 2) := by decide +kernel
theorem dX12_second_46 : decode cX12_second 46 = .ok (.iconst 4, 1) := by decide +kernel
theorem dX12_second_47 : decode cX12_second 47 = .ok (.aload_n 0, 1) := by decide +kernel
theorem dX12_second_48 : decode cX12_second 48 = .ok (.iload_n 1, 1) := by decide +kernel
theorem dX12_second_49 : decode cX12_second 49 = .ok (.invokevirtual 327, 3) := by decide +kernel
theorem dX12_second_52 : decode cX12_second 52 = .ok (.imul, 1) := by decide +kernel
theorem dX12_second_53 : decode cX12_second 53 = .ok (.if_icmp .ge 74, 3) := by decide +kernel
theorem dX12_second_56 : decode cX12_second 56 = .ok (.iload 9, 2) := by decide +kernel
theorem dX12_second_58 : decode cX12_second 58 = .ok (.iconst 4, 1) := by decide +kernel
theorem dX12_second_59 : decode cX12_second 59 = .ok (.irem, 1) := by decide +kernel
theorem dX12_second_60 : decode cX12_second 60 = .ok (.iload 5, 2) := by decide +kernel
theorem dX12_second_62 : decode cX12_second 62 = .ok (.iconst 4, 1) := by decide +kernel
theorem dX12_second_63 : decode cX12_second 63 = .ok (.irem, 1) := by decide +kernel
theorem dX12_second_64 : decode cX12_second 64 = .ok (.if_icmp .ne 27, 3) := by decide +kernel
theorem dX12_second_67 : decode cX12_second 67 = .ok (.iload 9, 2) := by decide +kernel
theorem dX12_second_69 : decode cX12_second 69 = .ok (.iconst 4, 1) := by decide +kernel
theorem dX12_second_70 : decode cX12_second 70 = .ok (.idiv, 1) := by decide +kernel
theorem dX12_second_71 : decode cX12_second 71 = .ok (.iload 5, 2) := by decide +kernel
theorem dX12_second_73 : decode cX12_second 73 = .ok (.iconst 4, 1) := by decide +kernel
theorem dX12_second_74 : decode cX12_second 74 = .ok (.idiv, 1) := by decide +kernel
theorem dX12_second_75 : decode cX12_second 75 = .ok (.aload_n 0, 1) := by decide +kernel
theorem dX12_second_76 : decode cX12_second 76 = .ok (.iload_n 1, 1) := by decide +kernel
theorem dX12_second_77 : decode cX12_second 77 = .ok (.invokevirtual 327, 3) := by decide +kernel
theorem dX12_second_80 : decode cX12_second 80 = .ok (.invokestatic 441, 3) := by decide +kernel
theorem dX12_second_83 : decode cX12_second 83 = .ok (.iload 4, 2) := by decide +kernel
theorem dX12_second_85 : decode cX12_second 85 = .ok (.if_icmp .gt 6, 3) := by decide +kernel
theorem dX12_second_88 : decode cX12_second 88 = .ok (.goto 33, 3) := by decide +kernel
theorem dX12_second_91 : decode cX12_second 91 = .ok (.aload_n 0, 1) := by decide +kernel
theorem dX12_second_92 : decode cX12_second 92 = .ok (.iload_n 1, 1) := by decide +kernel
theorem dX12_second_93 : decode cX12_second 93 = .ok (.iload 9, 2) := by decide +kernel
theorem dX12_second_95 : decode cX12_second 95 = .ok (.iload_n 2, 1) := by decide +kernel
theorem dX12_second_96 : decode cX12_second 96 = .ok (.iload_n 3, 1) := by decide +kernel
theorem dX12_second_97 : decode cX12_second 97 = .ok (.invokevirtual 434, 3) := by decide +kernel
theorem dX12_second_100 : decode cX12_second 100 = .ok (.lstore 10, 2) := by decide +kernel
theorem dX12_second_102 : decode cX12_second 102 = .ok (.lload 10, 2) := by decide +kernel
theorem dX12_second_104 : decode cX12_second 104 = .ok (.lload 7, 2) := by decide +kernel
theorem dX12_second_106 : decode cX12_second 106 = .ok (.lcmp, 1) := by decide +kernel
theorem dX12_second_107 : decode cX12_second 107 = .ok (.ifCond .gt 6, 3) := by decide +kernel
theorem dX12_second_110 : decode cX12_second 110 = .ok (.goto 11, 3) := by decide +kernel
theorem dX12_second_113 : decode cX12_second 113 = .ok (.iload 9, 2) := by decide +kernel
theorem dX12_second_115 : decode cX12_second 115 = .ok (.istore 6, 2) := by decide +kernel
theorem dX12_second_117 : decode cX12_second 117 = .ok (.lload 10, 2) := by decide +kernel
theorem dX12_second_119 : decode cX12_second 119 = .ok (.lstore 7, 2) := by decide +kernel
theorem dX12_second_121 : decode cX12_second 121 = .ok (.iinc 9 1, 3) := by decide +kernel
theorem dX12_second_124 : decode cX12_second 124 = .ok (.goto (-80), 3) := by decide +kernel
theorem dX12_second_127 : decode cX12_second 127 = .ok (.iload 6, 2) := by decide +kernel
theorem dX12_second_129 : decode cX12_second 129 = .ok (.ireturn, 1) := by decide +kernel
set_option maxRecDepth 100000 in
theorem c_X12_second (l : Launch) (D : q_D) (al : q_Al) (dt : q_Dt) (x0 : Nat) (x1 : Int32) (x2 : Int32) (x3 : Int32) (x4 : Int32) (kx0 : al.1 x0 = 13) (r0 : Int32) (dt0 : q_Dt) (hm : X12_second al dt x0 x1 x2 x3 x4 = some (r0, dt0)) : q_Mt l yX12_second cX12_second 12 (some FieldType.int) 4 108 D al [.ref x0, .int x1, .int x2, .int x3, .int x4] dt 0 (some (.int r0)) dt0 := by
  refine q_Mt.of (by decide) (Nat.le_of_ble_eq_true rfl) ?_
  intro p e s m args below meth c ls C hargs hW hl
  have hx := C.1
  have hb := C.2.1
  have hown := C.2.2.2.2.2.1
  have hts := C.2.2.2.2.2.2.1
  have hS : va_S (q_A al) s.heap s.heap [] := va_S.rf
  have hl : lv_has ls 12 [(0, .ref x0), (1, .int x1), (2, .int x2), (3, .int x3), (4, .int x4)] := hl
  unfold X12_second at hm
  have hB44 : ∀ (x0_44 : Nat) (x1_44 : Int32) (x2_44 : Int32) (x3_44 : Int32) (x4_44 : Int32) (x5_44 : Int32) (kx0_44 : al.1 x0_44 = 13) (n_44 : Nat) (x6_44 : Int32) (x7_44 : Int64) (x9_44 : Int32) (dt : q_Dt) (H : Heap) (locs : List Loc) (ls : Array Slot) (hm : X12_second_b44 al x0_44 x1_44 x2_44 x3_44 x4_44 x5_44 n_44 x6_44 x7_44 x9_44 dt = some (r0, dt0)) (hW : q_W D al dt H) (hS : va_S (q_A al) s.heap H locs) (hl : lv_has ls 12 [(0, .ref x0_44), (1, .int x1_44), (2, .int x2_44), (3, .int x3_44), (4, .int x4_44), (5, .int x5_44), (6, .int x6_44), (7, .long x7_44), (9, .int x9_44)]), W p l e { frames := 4, cells := 0, slots := 0, locals := 108 } s m args below meth c H locs 0 0 (MQ below (q_Q (some (.int r0)) (fun H => q_W D al dt0 H ∧ q_Rk al 0 (some (.int r0))) (q_A al)) args s 0 0 (q_A al)) (F0 m 44 ls []) := by
    intro x0_44 x1_44 x2_44 x3_44 x4_44 x5_44 kx0_44
    intro n_44
    induction n_44 with
    | zero => intro x6_44 x7_44 x9_44 dt H locs ls hm hW hS hl; cases hm
    | succ n_44 ih44 =>
      have hB121 : ∀ (x6_121 : Int32) (x7_121 : Int64) (x9_121 : Int32) (dt : q_Dt) (H : Heap) (locs : List Loc) (ls : Array Slot) (hm : X12_second_b121 al (X12_second_b44 al x0_44 x1_44 x2_44 x3_44 x4_44 x5_44 n_44) x0_44 x1_44 x2_44 x3_44 x4_44 x5_44 x6_121 x7_121 x9_121 dt = some (r0, dt0)) (hW : q_W D al dt H) (hS : va_S (q_A al) s.heap H locs) (hl : lv_has ls 12 [(0, .ref x0_44), (1, .int x1_44), (2, .int x2_44), (3, .int x3_44), (4, .int x4_44), (5, .int x5_44), (6, .int x6_121), (7, .long x7_121), (9, .int x9_121)]), W p l e { frames := 4, cells := 0, slots := 0, locals := 108 } s m args below meth c H locs 0 0 (MQ below (q_Q (some (.int r0)) (fun H => q_W D al dt0 H ∧ q_Rk al 0 (some (.int r0))) (q_A al)) args s 0 0 (q_A al)) (F0 m 121 ls []) := by
        intro x6_121 x7_121 x9_121 dt H locs ls hm hW hS hl
        unfold X12_second_b121 at hm
        refine lv_iinc (v := (x9_121 + 1)) (lv' := [(9, .int (x9_121 + 1)), (0, .ref x0_44), (1, .int x1_44), (2, .int x2_44), (3, .int x3_44), (4, .int x4_44), (5, .int x5_44), (6, .int x6_121), (7, .long x7_121)]) hx hb dX12_second_121 hl (k := 8) rfl rfl (by decide) rfl (fun ls hl => ?_)
        refine lv_goto (tgt := 44) hx hb dX12_second_124 (by decide) ?_
        exact ih44 x6_121 x7_121 (x9_121 + 1) dt _ _ _ hm hW hS (lv_sub hl [1, 2, 3, 4, 5, 6, 7, 8, 0] rfl)
      have hB91 : ∀ (x6_91 : Int32) (x7_91 : Int64) (x9_91 : Int32) (dt : q_Dt) (H : Heap) (locs : List Loc) (ls : Array Slot) (hm : X12_second_b91 al (X12_second_b44 al x0_44 x1_44 x2_44 x3_44 x4_44 x5_44 n_44) x0_44 x1_44 x2_44 x3_44 x4_44 x5_44 x6_91 x7_91 x9_91 dt = some (r0, dt0)) (hW : q_W D al dt H) (hS : va_S (q_A al) s.heap H locs) (hl : lv_has ls 12 [(0, .ref x0_44), (1, .int x1_44), (2, .int x2_44), (3, .int x3_44), (4, .int x4_44), (5, .int x5_44), (6, .int x6_91), (7, .long x7_91), (9, .int x9_91)]), W p l e { frames := 4, cells := 0, slots := 0, locals := 108 } s m args below meth c H locs 0 0 (MQ below (q_Q (some (.int r0)) (fun H => q_W D al dt0 H ∧ q_Rk al 0 (some (.int r0))) (q_A al)) args s 0 0 (q_A al)) (F0 m 91 ls []) := by
        intro x6_91 x7_91 x9_91 dt H locs ls hm hW hS hl
        unfold X12_second_b91 at hm
        refine lv_aload_n hx hb dX12_second_91 rfl (lv_at hl 0 rfl) ?_
        refine lv_iload_n hx hb dX12_second_92 rfl (lv_at hl 1 rfl) ?_
        refine lv_iload hx hb dX12_second_93 (lv_at hl 8 rfl) ?_
        refine lv_iload_n hx hb dX12_second_95 rfl (lv_at hl 2 rfl) ?_
        refine lv_iload_n hx hb dX12_second_96 rfl (lv_at hl 3 rfl) ?_
        obtain ⟨v91002, dt91003, hc91001, hm⟩ := q_b2i hm
        refine q_callV C hW hS (As := [.int x1_44, .int x9_91, .int x2_44, .int x3_44]) (rest := []) (st1 := [.long v91002]) (c_X12_metricOf l D al dt x0_44 x1_44 x9_91 x2_44 x3_44 kx0_44 v91002 dt91003 hc91001) yl_X12_metricOf vl_X12_metricOf ml_RX12_434 (ci := 12) rfl kx0_44 (by decide) rfl ⟨Nat.le_of_ble_eq_true rfl, Nat.le_of_ble_eq_true rfl⟩ hl rfl (Nat.le_of_ble_eq_true rfl) dX12_second_97 ⟨Nat.le_refl _, Nat.le_refl _⟩ rfl (fun H locs k91004 hW hS => ?_)
        refine lv_lstore (i := 10) (lv' := [(10, .long v91002), (0, .ref x0_44), (1, .int x1_44), (2, .int x2_44), (3, .int x3_44), (4, .int x4_44), (5, .int x5_44), (6, .int x6_91), (7, .long x7_91), (9, .int x9_91)]) hx hb dX12_second_100 hl (by decide) rfl (fun ls hl => ?_)
        refine lv_lload hx hb dX12_second_102 (lv_at hl 0 rfl) ?_
        refine lv_lload hx hb dX12_second_104 (lv_at hl 8 rfl) ?_
        refine W.lcmp hx hb dX12_second_106 ?_
        refine q_ifc hm (fun c91005 hm => ?_) (fun c91005 hm => ?_)
        · refine lv_if_gt (tgt := 113) hx hb dX12_second_107 (by decide) (fun _ => ?_) (fun h => absurd (q_cmp_gt.mpr c91005) h)
          refine lv_iload hx hb dX12_second_113 (lv_at hl 9 rfl) ?_
          refine lv_istore (i := 6) (lv' := [(6, .int x9_91), (10, .long v91002), (0, .ref x0_44), (1, .int x1_44), (2, .int x2_44), (3, .int x3_44), (4, .int x4_44), (5, .int x5_44), (7, .long x7_91), (9, .int x9_91)]) hx hb dX12_second_115 hl (by decide) rfl (fun ls hl => ?_)
          refine lv_lload hx hb dX12_second_117 (lv_at hl 1 rfl) ?_
          refine lv_lstore (i := 7) (lv' := [(7, .long v91002), (6, .int x9_91), (10, .long v91002), (0, .ref x0_44), (1, .int x1_44), (2, .int x2_44), (3, .int x3_44), (4, .int x4_44), (5, .int x5_44), (9, .int x9_91)]) hx hb dX12_second_119 hl (by decide) rfl (fun ls hl => ?_)
          exact hB121 x9_91 v91002 x9_91 dt91003 _ _ _ hm hW hS (lv_sub hl [3, 4, 5, 6, 7, 8, 1, 0, 9] rfl)
        refine lv_if_gt (tgt := 113) hx hb dX12_second_107 (by decide) (fun h => absurd (q_cmp_gt.mp h) c91005) (fun _ => ?_)
        refine lv_goto (tgt := 121) hx hb dX12_second_110 (by decide) ?_
        exact hB121 x6_91 x7_91 x9_91 dt91003 _ _ _ hm hW hS (lv_sub hl [1, 2, 3, 4, 5, 6, 7, 8, 9] rfl)
      intro x6_44 x7_44 x9_44 dt H locs ls hm hW hS hl
      rw [X12_second_b44] at hm
      refine lv_iload hx hb dX12_second_44 (lv_at hl 8 rfl) ?_
      refine lv_iconst (v := 4) hx hb dX12_second_46 (by decide) ?_
      refine lv_aload_n hx hb dX12_second_47 rfl (lv_at hl 0 rfl) ?_
      refine lv_iload_n hx hb dX12_second_48 rfl (lv_at hl 1 rfl) ?_
      obtain ⟨v44002, hc44001, hm⟩ := q_b1i hm
      refine q_callV C hW hS (As := [.int x1_44]) (rest := [.int 4, .int x9_44]) (st1 := [.int v44002, .int 4, .int x9_44]) (c_X12_long0 l D al dt x0_44 x1_44 kx0_44 v44002 hc44001) yl_X12_long0 vl_X12_long0 ml_RX12_327 (ci := 12) rfl kx0_44 (by decide) rfl ⟨Nat.le_of_ble_eq_true rfl, Nat.le_of_ble_eq_true rfl⟩ hl rfl (Nat.le_of_ble_eq_true rfl) dX12_second_49 ⟨Nat.le_refl _, Nat.le_refl _⟩ rfl (fun H locs k44003 hW hS => ?_)
      refine lv_imul hx hb dX12_second_52 ?_
      refine q_ifc hm (fun c44004 hm => ?_) (fun c44004 hm => ?_)
      · refine lv_icmp_ge (tgt := 127) hx hb dX12_second_53 (by decide) (fun _ => ?_) (fun h => absurd c44004 h)
        refine lv_iload hx hb dX12_second_127 (lv_at hl 6 rfl) ?_
        exact e_iD C hW hS hm dX12_second_129
      refine lv_icmp_ge (tgt := 127) hx hb dX12_second_53 (by decide) (fun h => absurd h c44004) (fun _ => ?_)
      refine lv_iload hx hb dX12_second_56 (lv_at hl 8 rfl) ?_
      refine lv_iconst (v := 4) hx hb dX12_second_58 (by decide) ?_
      refine lv_irem hx hb dX12_second_59 (by decide) ?_
      refine lv_iload hx hb dX12_second_60 (lv_at hl 5 rfl) ?_
      refine lv_iconst (v := 4) hx hb dX12_second_62 (by decide) ?_
      refine lv_irem hx hb dX12_second_63 (by decide) ?_
      refine q_ifc hm (fun c44007 hm => ?_) (fun c44007 hm => ?_)
      · refine lv_icmp_ne (tgt := 91) hx hb dX12_second_64 (by decide) (fun h => absurd c44007 h) (fun _ => ?_)
        refine lv_iload hx hb dX12_second_67 (lv_at hl 8 rfl) ?_
        refine lv_iconst (v := 4) hx hb dX12_second_69 (by decide) ?_
        refine lv_idiv hx hb dX12_second_70 (by decide) ?_
        refine lv_iload hx hb dX12_second_71 (lv_at hl 5 rfl) ?_
        refine lv_iconst (v := 4) hx hb dX12_second_73 (by decide) ?_
        refine lv_idiv hx hb dX12_second_74 (by decide) ?_
        refine lv_aload_n hx hb dX12_second_75 rfl (lv_at hl 0 rfl) ?_
        refine lv_iload_n hx hb dX12_second_76 rfl (lv_at hl 1 rfl) ?_
        obtain ⟨v44011, hc44010, hm⟩ := q_b1i hm
        refine q_callV C hW hS (As := [.int x1_44]) (rest := [.int (x5_44 / 4), .int (x9_44 / 4)]) (st1 := [.int v44011, .int (x5_44 / 4), .int (x9_44 / 4)]) (c_X12_long0 l D al dt x0_44 x1_44 kx0_44 v44011 hc44010) yl_X12_long0 vl_X12_long0 ml_RX12_327 (ci := 12) rfl kx0_44 (by decide) rfl ⟨Nat.le_of_ble_eq_true rfl, Nat.le_of_ble_eq_true rfl⟩ hl rfl (Nat.le_of_ble_eq_true rfl) dX12_second_77 ⟨Nat.le_refl _, Nat.le_refl _⟩ rfl (fun H locs k44012 hW hS => ?_)
        obtain ⟨v44014, hc44013, hm⟩ := q_b1i hm
        refine q_callS C hW hS (As := [.int (x9_44 / 4), .int (x5_44 / 4), .int v44011]) (rest := []) (st1 := [.int v44014]) (c_X12_apart l D al dt (x9_44 / 4) (x5_44 / 4) v44011 v44014 hc44013) yl_X12_apart sl_X12_apart ml_RX12_441 rfl ⟨Nat.le_of_ble_eq_true rfl, Nat.le_of_ble_eq_true rfl⟩ hl rfl (Nat.le_of_ble_eq_true rfl) dX12_second_80 ⟨Nat.le_refl _, Nat.le_refl _⟩ rfl (fun H locs k44015 hW hS => ?_)
        refine lv_iload hx hb dX12_second_83 (lv_at hl 4 rfl) ?_
        refine q_ifc hm (fun c44016 hm => ?_) (fun c44016 hm => ?_)
        · refine lv_icmp_gt (tgt := 91) hx hb dX12_second_85 (by decide) (fun _ => ?_) (fun h => absurd c44016 h)
          exact hB91 x6_44 x7_44 x9_44 dt _ _ _ hm hW hS (lv_sub hl [0, 1, 2, 3, 4, 5, 6, 7, 8] rfl)
        refine lv_icmp_gt (tgt := 91) hx hb dX12_second_85 (by decide) (fun h => absurd h c44016) (fun _ => ?_)
        refine lv_goto (tgt := 121) hx hb dX12_second_88 (by decide) ?_
        exact hB121 x6_44 x7_44 x9_44 dt _ _ _ hm hW hS (lv_sub hl [0, 1, 2, 3, 4, 5, 6, 7, 8] rfl)
      refine lv_icmp_ne (tgt := 91) hx hb dX12_second_64 (by decide) (fun _ => ?_) (fun h => absurd h c44007)
      exact hB91 x6_44 x7_44 x9_44 dt _ _ _ hm hW hS (lv_sub hl [0, 1, 2, 3, 4, 5, 6, 7, 8] rfl)
  refine lv_aload_n hx hb dX12_second_0 rfl (lv_at hl 0 rfl) ?_
  refine lv_iload_n hx hb dX12_second_1 rfl (lv_at hl 1 rfl) ?_
  refine lv_iload_n hx hb dX12_second_2 rfl (lv_at hl 2 rfl) ?_
  refine lv_iload_n hx hb dX12_second_3 rfl (lv_at hl 3 rfl) ?_
  obtain ⟨v1000002, hc1000001, hm⟩ := q_b1i hm
  refine q_callV C hW hS (As := [.int x1, .int x2, .int x3]) (rest := []) (st1 := [.int v1000002]) (c_X12_canLook l D al dt x0 x1 x2 x3 kx0 v1000002 hc1000001) yl_X12_canLook vl_X12_canLook ml_RX12_428 (ci := 12) rfl kx0 (by decide) rfl ⟨Nat.le_of_ble_eq_true rfl, Nat.le_of_ble_eq_true rfl⟩ hl rfl (Nat.le_of_ble_eq_true rfl) dX12_second_4 ⟨Nat.le_refl _, Nat.le_refl _⟩ rfl (fun H locs k1000003 hW hS => ?_)
  refine q_ifc hm (fun c1000004 hm => ?_) (fun c1000004 hm => ?_)
  · refine lv_if_eq (tgt := 21) hx hb dX12_second_7 (by decide) (fun _ => ?_) (fun h => absurd c1000004 h)
    refine lv_iconst (v := (-1)) hx hb dX12_second_21 (by decide) ?_
    exact e_iD C hW hS hm dX12_second_22
  refine lv_if_eq (tgt := 21) hx hb dX12_second_7 (by decide) (fun h => absurd h c1000004) (fun _ => ?_)
  refine lv_iload hx hb dX12_second_10 (lv_at hl 4 rfl) ?_
  refine lv_iconst (v := 0) hx hb dX12_second_12 (by decide) ?_
  refine lv_bipush (v := 60) hx hb dX12_second_13 (by decide) ?_
  obtain ⟨v1000006, hc1000005, hm⟩ := q_b1i hm
  refine q_callS C hW hS (As := [.int x4, .int 0, .int 60]) (rest := []) (st1 := [.int v1000006]) (c_X12_in l D al dt x4 0 60 v1000006 hc1000005) yl_X12_in sl_X12_in ml_RX12_376 rfl ⟨Nat.le_of_ble_eq_true rfl, Nat.le_of_ble_eq_true rfl⟩ hl rfl (Nat.le_of_ble_eq_true rfl) dX12_second_15 ⟨Nat.le_refl _, Nat.le_refl _⟩ rfl (fun H locs k1000007 hW hS => ?_)
  refine q_ifc hm (fun c1000008 hm => ?_) (fun c1000008 hm => ?_)
  · refine lv_if_ne (tgt := 23) hx hb dX12_second_18 (by decide) (fun h => absurd c1000008 h) (fun _ => ?_)
    refine lv_iconst (v := (-1)) hx hb dX12_second_21 (by decide) ?_
    exact e_iD C hW hS hm dX12_second_22
  refine lv_if_ne (tgt := 23) hx hb dX12_second_18 (by decide) (fun _ => ?_) (fun h => absurd h c1000008)
  refine lv_aload_n hx hb dX12_second_23 rfl (lv_at hl 0 rfl) ?_
  refine lv_iload_n hx hb dX12_second_24 rfl (lv_at hl 1 rfl) ?_
  refine lv_iload_n hx hb dX12_second_25 rfl (lv_at hl 2 rfl) ?_
  refine lv_iload_n hx hb dX12_second_26 rfl (lv_at hl 3 rfl) ?_
  obtain ⟨v1000010, dt1000011, hc1000009, hm⟩ := q_b2i hm
  refine q_callV C hW hS (As := [.int x1, .int x2, .int x3]) (rest := []) (st1 := [.int v1000010]) (c_X12_bestOf l D al dt x0 x1 x2 x3 kx0 v1000010 dt1000011 hc1000009) yl_X12_bestOf vl_X12_bestOf ml_RX12_438 (ci := 12) rfl kx0 (by decide) rfl ⟨Nat.le_of_ble_eq_true rfl, Nat.le_of_ble_eq_true rfl⟩ hl rfl (Nat.le_of_ble_eq_true rfl) dX12_second_27 ⟨Nat.le_refl _, Nat.le_refl _⟩ rfl (fun H locs k1000012 hW hS => ?_)
  refine lv_istore (i := 5) (lv' := [(5, .int v1000010), (0, .ref x0), (1, .int x1), (2, .int x2), (3, .int x3), (4, .int x4)]) hx hb dX12_second_30 hl (by decide) rfl (fun ls hl => ?_)
  refine lv_bipush (v := (-2)) hx hb dX12_second_32 (by decide) ?_
  refine lv_istore (i := 6) (lv' := [(6, .int (-2)), (5, .int v1000010), (0, .ref x0), (1, .int x1), (2, .int x2), (3, .int x3), (4, .int x4)]) hx hb dX12_second_34 hl (by decide) rfl (fun ls hl => ?_)
  refine lv_ldc2 (own := RX12) (v := (-1)) hx hb hown (hts _ wc_RX12_413) dX12_second_36 ?_
  refine lv_lstore (i := 7) (lv' := [(7, .long (-1)), (6, .int (-2)), (5, .int v1000010), (0, .ref x0), (1, .int x1), (2, .int x2), (3, .int x3), (4, .int x4)]) hx hb dX12_second_39 hl (by decide) rfl (fun ls hl => ?_)
  refine lv_iconst (v := 0) hx hb dX12_second_41 (by decide) ?_
  refine lv_istore (i := 9) (lv' := [(9, .int 0), (7, .long (-1)), (6, .int (-2)), (5, .int v1000010), (0, .ref x0), (1, .int x1), (2, .int x2), (3, .int x3), (4, .int x4)]) hx hb dX12_second_42 hl (by decide) rfl (fun ls hl => ?_)
  exact hB44 x0 x1 x2 x3 x4 v1000010 kx0 q_FU (-2) (-1) 0 dt1000011 _ _ _ hm hW hS (lv_sub hl [4, 5, 6, 7, 8, 3, 2, 1, 0] rfl)
