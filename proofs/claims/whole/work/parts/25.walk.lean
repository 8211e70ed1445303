theorem dX12_signAt_0 : decode cX12_signAt 0 = .ok (.aload_n 0, 1) := by decide +kernel
theorem dX12_signAt_1 : decode cX12_signAt 1 = .ok (.aload_n 0, 1) := by decide +kernel
theorem dX12_signAt_2 : decode cX12_signAt 2 = .ok (.iload_n 1, 1) := by decide +kernel
theorem dX12_signAt_3 : decode cX12_signAt 3 = .ok (.invokevirtual 324, 3) := by decide +kernel
theorem dX12_signAt_6 : decode cX12_signAt 6 = .ok (.iload_n 2, 1) := by decide +kernel
theorem dX12_signAt_7 : decode cX12_signAt 7 = .ok (.aload_n 0, 1) := by decide +kernel
theorem dX12_signAt_8 : decode cX12_signAt 8 = .ok (.iload_n 1, 1) := by decide +kernel
theorem dX12_signAt_9 : decode cX12_signAt 9 = .ok (.iload_n 2, 1) := by decide +kernel
theorem dX12_signAt_10 : decode cX12_signAt 10 = .ok (.invokevirtual 330, 3) := by decide +kernel
theorem dX12_signAt_13 : decode cX12_signAt 13 = .ok (.isub, 1) := by decide +kernel
theorem dX12_signAt_14 : decode cX12_signAt 14 = .ok (.aload_n 0, 1) := by decide +kernel
theorem dX12_signAt_15 : decode cX12_signAt 15 = .ok (.aload_n 0, 1) := by decide +kernel
theorem dX12_signAt_16 : decode cX12_signAt 16 = .ok (.iload_n 1, 1) := by decide +kernel
theorem dX12_signAt_17 : decode cX12_signAt 17 = .ok (.invokevirtual 324, 3) := by decide +kernel
theorem dX12_signAt_20 : decode cX12_signAt 20 = .ok (.invokevirtual 327, 3) := by decide +kernel
theorem dX12_signAt_23 : decode cX12_signAt 23 = .ok (.irem, 1) := by decide +kernel
theorem dX12_signAt_24 : decode cX12_signAt 24 = .ok (.invokevirtual 333, 3) := by decide +kernel
theorem dX12_signAt_27 : decode cX12_signAt 27 = .ok (.istore_n 3, 1) := by decide +kernel
theorem dX12_signAt_28 : decode cX12_signAt 28 = .ok (.aload_n 0, 1) := by decide +kernel
theorem dX12_signAt_29 : decode cX12_signAt 29 = .ok (.getfield 82, 3) := by decide +kernel
theorem dX12_signAt_32 : decode cX12_signAt 32 = .ok (.bipush 6, 2) := by decide +kernel
theorem dX12_signAt_34 : decode cX12_signAt 34 = .ok (.aload_n 0, 1) := by decide +kernel
theorem dX12_signAt_35 : decode cX12_signAt 35 = .ok (.getfield 242, 3) := by decide +kernel
theorem dX12_signAt_38 : decode cX12_signAt 38 = .ok (.imul, 1) := by decide +kernel
theorem dX12_signAt_39 : decode cX12_signAt 39 = .ok (.iload_n 1, 1) := by decide +kernel
theorem dX12_signAt_40 : decode cX12_signAt 40 = .ok (.iadd, 1) := by decide +kernel
theorem dX12_signAt_41 : decode cX12_signAt 41 = .ok (.iaload, 1) := by decide +kernel
theorem dX12_signAt_42 : decode cX12_signAt 42 = .ok (.iload_n 2, 1) := by decide +kernel
theorem dX12_signAt_43 : decode cX12_signAt 43 = .ok (.invokestatic 336, 3) := by decide +kernel
theorem dX12_signAt_46 : decode cX12_signAt 46 = .ok (.iconst 2, 1) := by decide +kernel
theorem dX12_signAt_47 : decode cX12_signAt 47 = .ok (.if_icmp .ge 7, 3) := by decide +kernel
theorem dX12_signAt_50 : decode cX12_signAt 50 = .ok (.iload_n 3, 1) := by decide +kernel
theorem dX12_signAt_51 : decode cX12_signAt 51 = .ok (.goto 5, 3) := by decide +kernel
theorem dX12_signAt_54 : decode cX12_signAt 54 = .ok (.iload_n 3, 1) := by decide +kernel
theorem dX12_signAt_55 : decode cX12_signAt 55 = .ok (.ineg, 1) := by decide +kernel
theorem dX12_signAt_56 : decode cX12_signAt 56 = .ok (.ireturn, 1) := by decide +kernel
set_option maxRecDepth 100000 in
theorem c_X12_signAt (l : Launch) (D : q_D) (al : q_Al) (dt : q_Dt) (x0 : Nat) (x1 : Int32) (x2 : Int32) (kx0 : al.1 x0 = 13) (r0 : Int32) (hm : X12_signAt al dt x0 x1 x2 = some r0) : q_Mt l yX12_signAt cX12_signAt 4 (some FieldType.int) 2 45 D al [.ref x0, .int x1, .int x2] dt 0 (some (.int r0)) dt := by
  refine q_Mt.of (by decide) (Nat.le_of_ble_eq_true rfl) ?_
  intro p e s m args below meth c ls C hargs hW hl
  have hx := C.1
  have hb := C.2.1
  have hown := C.2.2.2.2.2.1
  have hts := C.2.2.2.2.2.2.1
  have hS : va_S (q_A al) s.heap s.heap [] := va_S.rf
  have hl : lv_has ls 4 [(0, .ref x0), (1, .int x1), (2, .int x2)] := hl
  unfold X12_signAt at hm
  refine lv_aload_n hx hb dX12_signAt_0 rfl (lv_at hl 0 rfl) ?_
  refine lv_aload_n hx hb dX12_signAt_1 rfl (lv_at hl 0 rfl) ?_
  refine lv_iload_n hx hb dX12_signAt_2 rfl (lv_at hl 1 rfl) ?_
  obtain ⟨v1000002, hc1000001, hm⟩ := q_b1i hm
  refine q_callV C hW hS (As := [.int x1]) (rest := [.ref x0]) (st1 := [.int v1000002, .ref x0]) (c_X12_codeOf l D al dt x0 x1 kx0 v1000002 hc1000001) yl_X12_codeOf vl_X12_codeOf ml_RX12_324 (ci := 12) rfl kx0 (by decide) rfl ⟨Nat.le_of_ble_eq_true rfl, Nat.le_of_ble_eq_true rfl⟩ hl rfl (Nat.le_of_ble_eq_true rfl) dX12_signAt_3 ⟨Nat.le_refl _, Nat.le_refl _⟩ rfl (fun H locs k1000003 hW hS => ?_)
  refine lv_iload_n hx hb dX12_signAt_6 rfl (lv_at hl 2 rfl) ?_
  refine lv_aload_n hx hb dX12_signAt_7 rfl (lv_at hl 0 rfl) ?_
  refine lv_iload_n hx hb dX12_signAt_8 rfl (lv_at hl 1 rfl) ?_
  refine lv_iload_n hx hb dX12_signAt_9 rfl (lv_at hl 2 rfl) ?_
  obtain ⟨v1000005, hc1000004, hm⟩ := q_b1i hm
  refine q_callV C hW hS (As := [.int x1, .int x2]) (rest := [.int x2, .int v1000002, .ref x0]) (st1 := [.int v1000005, .int x2, .int v1000002, .ref x0]) (c_X12_delayAt l D al dt x0 x1 x2 kx0 v1000005 hc1000004) yl_X12_delayAt vl_X12_delayAt ml_RX12_330 (ci := 12) rfl kx0 (by decide) rfl ⟨Nat.le_of_ble_eq_true rfl, Nat.le_of_ble_eq_true rfl⟩ hl rfl (Nat.le_of_ble_eq_true rfl) dX12_signAt_10 ⟨Nat.le_refl _, Nat.le_refl _⟩ rfl (fun H locs k1000006 hW hS => ?_)
  refine lv_isub hx hb dX12_signAt_13 ?_
  refine lv_aload_n hx hb dX12_signAt_14 rfl (lv_at hl 0 rfl) ?_
  refine lv_aload_n hx hb dX12_signAt_15 rfl (lv_at hl 0 rfl) ?_
  refine lv_iload_n hx hb dX12_signAt_16 rfl (lv_at hl 1 rfl) ?_
  obtain ⟨v1000008, hc1000007, hm⟩ := q_b1i hm
  refine q_callV C hW hS (As := [.int x1]) (rest := [.ref x0, .int (x2 - v1000005), .int v1000002, .ref x0]) (st1 := [.int v1000008, .ref x0, .int (x2 - v1000005), .int v1000002, .ref x0]) (c_X12_codeOf l D al dt x0 x1 kx0 v1000008 hc1000007) yl_X12_codeOf vl_X12_codeOf ml_RX12_324 (ci := 12) rfl kx0 (by decide) rfl ⟨Nat.le_of_ble_eq_true rfl, Nat.le_of_ble_eq_true rfl⟩ hl rfl (Nat.le_of_ble_eq_true rfl) dX12_signAt_17 ⟨Nat.le_refl _, Nat.le_refl _⟩ rfl (fun H locs k1000009 hW hS => ?_)
  obtain ⟨v1000011, hc1000010, hm⟩ := q_b1i hm
  refine q_callV C hW hS (As := [.int v1000008]) (rest := [.int (x2 - v1000005), .int v1000002, .ref x0]) (st1 := [.int v1000011, .int (x2 - v1000005), .int v1000002, .ref x0]) (c_X12_long0 l D al dt x0 v1000008 kx0 v1000011 hc1000010) yl_X12_long0 vl_X12_long0 ml_RX12_327 (ci := 12) rfl kx0 (by decide) rfl ⟨Nat.le_of_ble_eq_true rfl, Nat.le_of_ble_eq_true rfl⟩ hl rfl (Nat.le_of_ble_eq_true rfl) dX12_signAt_20 ⟨Nat.le_refl _, Nat.le_refl _⟩ rfl (fun H locs k1000012 hW hS => ?_)
  obtain ⟨c1000013, hm⟩ := q_ini hm
  refine lv_irem hx hb dX12_signAt_23 c1000013 ?_
  obtain ⟨v1000015, hc1000014, hm⟩ := q_b1i hm
  refine q_callV C hW hS (As := [.int v1000002, .int (q_ir (x2 - v1000005) v1000011)]) (rest := []) (st1 := [.int v1000015]) (c_X12_chipOf l D al dt x0 v1000002 (q_ir (x2 - v1000005) v1000011) kx0 v1000015 hc1000014) yl_X12_chipOf vl_X12_chipOf ml_RX12_333 (ci := 12) rfl kx0 (by decide) rfl ⟨Nat.le_of_ble_eq_true rfl, Nat.le_of_ble_eq_true rfl⟩ hl rfl (Nat.le_of_ble_eq_true rfl) dX12_signAt_24 ⟨Nat.le_refl _, Nat.le_refl _⟩ rfl (fun H locs k1000016 hW hS => ?_)
  refine lv_istore_n (i := 3) (lv' := [(3, .int v1000015), (0, .ref x0), (1, .int x1), (2, .int x2)]) hx hb dX12_signAt_27 rfl hl (by decide) rfl (fun ls hl => ?_)
  refine lv_aload_n hx hb dX12_signAt_28 rfl (lv_at hl 1 rfl) ?_
  refine r_getF C hW (ci := 12) kx0 ff_12_35 cl_12 fl_RX12_82 dX12_signAt_29 (fun k1000017 => ?_)
  refine lv_bipush (v := 6) hx hb dX12_signAt_32 (by decide) ?_
  refine lv_aload_n hx hb dX12_signAt_34 rfl (lv_at hl 1 rfl) ?_
  refine r_getI C hW (ci := 12) kx0 ff_12_18 cl_12 fl_RX12_242 dX12_signAt_35 ?_
  refine lv_imul hx hb dX12_signAt_38 ?_
  refine lv_iload_n hx hb dX12_signAt_39 rfl (lv_at hl 2 rfl) ?_
  refine lv_iadd hx hb dX12_signAt_40 ?_
  refine r_iald C hW hm k1000017 dX12_signAt_41 (fun hm => ?_)
  refine lv_iload_n hx hb dX12_signAt_42 rfl (lv_at hl 3 rfl) ?_
  obtain ⟨v1000019, hc1000018, hm⟩ := q_b1i hm
  refine q_callS C hW hS (As := [.int (dt.1 (al.2.2 x0 35) (Int32.toNatClampNeg ((6 * (dt.1 x0 18)) + x1))), .int x2]) (rest := []) (st1 := [.int v1000019]) (c_X12_turnOf l D al dt (dt.1 (al.2.2 x0 35) (Int32.toNatClampNeg ((6 * (dt.1 x0 18)) + x1))) x2 v1000019 hc1000018) yl_X12_turnOf sl_X12_turnOf ml_RX12_336 rfl ⟨Nat.le_of_ble_eq_true rfl, Nat.le_of_ble_eq_true rfl⟩ hl rfl (Nat.le_of_ble_eq_true rfl) dX12_signAt_43 ⟨Nat.le_refl _, Nat.le_refl _⟩ rfl (fun H locs k1000020 hW hS => ?_)
  refine lv_iconst (v := 2) hx hb dX12_signAt_46 (by decide) ?_
  refine q_ifc hm (fun c1000021 hm => ?_) (fun c1000021 hm => ?_)
  · refine lv_icmp_ge (tgt := 54) hx hb dX12_signAt_47 (by decide) (fun _ => ?_) (fun h => absurd c1000021 h)
    refine lv_iload_n hx hb dX12_signAt_54 rfl (lv_at hl 0 rfl) ?_
    refine lv_ineg hx hb dX12_signAt_55 ?_
    exact e_i C hW hS hm dX12_signAt_56
  refine lv_icmp_ge (tgt := 54) hx hb dX12_signAt_47 (by decide) (fun h => absurd h c1000021) (fun _ => ?_)
  refine lv_iload_n hx hb dX12_signAt_50 rfl (lv_at hl 0 rfl) ?_
  refine lv_goto (tgt := 56) hx hb dX12_signAt_51 (by decide) ?_
  exact e_i C hW hS hm dX12_signAt_56
theorem dX12_isIm_0 : decode cX12_isIm 0 = .ok (.aload_n 0, 1) := by decide +kernel
theorem dX12_isIm_1 : decode cX12_isIm 1 = .ok (.getfield 82, 3) := by decide +kernel
theorem dX12_isIm_4 : decode cX12_isIm 4 = .ok (.bipush 6, 2) := by decide +kernel
theorem dX12_isIm_6 : decode cX12_isIm 6 = .ok (.aload_n 0, 1) := by decide +kernel
theorem dX12_isIm_7 : decode cX12_isIm 7 = .ok (.getfield 242, 3) := by decide +kernel
theorem dX12_isIm_10 : decode cX12_isIm 10 = .ok (.imul, 1) := by decide +kernel
theorem dX12_isIm_11 : decode cX12_isIm 11 = .ok (.iload_n 1, 1) := by decide +kernel
theorem dX12_isIm_12 : decode cX12_isIm 12 = .ok (.iadd, 1) := by decide +kernel
theorem dX12_isIm_13 : decode cX12_isIm 13 = .ok (.iaload, 1) := by decide +kernel
theorem dX12_isIm_14 : decode cX12_isIm 14 = .ok (.iload_n 2, 1) := by decide +kernel
theorem dX12_isIm_15 : decode cX12_isIm 15 = .ok (.invokestatic 336, 3) := by decide +kernel
theorem dX12_isIm_18 : decode cX12_isIm 18 = .ok (.iconst 2, 1) := by decide +kernel
theorem dX12_isIm_19 : decode cX12_isIm 19 = .ok (.irem, 1) := by decide +kernel
theorem dX12_isIm_20 : decode cX12_isIm 20 = .ok (.iconst 1, 1) := by decide +kernel
theorem dX12_isIm_21 : decode cX12_isIm 21 = .ok (.if_icmp .ne 7, 3) := by decide +kernel
theorem dX12_isIm_24 : decode cX12_isIm 24 = .ok (.iconst 1, 1) := by decide +kernel
theorem dX12_isIm_25 : decode cX12_isIm 25 = .ok (.goto 4, 3) := by decide +kernel
theorem dX12_isIm_28 : decode cX12_isIm 28 = .ok (.iconst 0, 1) := by decide +kernel
theorem dX12_isIm_29 : decode cX12_isIm 29 = .ok (.ireturn, 1) := by decide +kernel
set_option maxRecDepth 100000 in
theorem c_X12_isIm (l : Launch) (D : q_D) (al : q_Al) (dt : q_Dt) (x0 : Nat) (x1 : Int32) (x2 : Int32) (kx0 : al.1 x0 = 13) (r0 : Int32) (hm : X12_isIm al dt x0 x1 x2 = some r0) : q_Mt l yX12_isIm cX12_isIm 3 (some FieldType.boolean) 1 21 D al [.ref x0, .int x1, .int x2] dt 0 (some (.int r0)) dt := by
  refine q_Mt.of (by decide) (Nat.le_of_ble_eq_true rfl) ?_
  intro p e s m args below meth c ls C hargs hW hl
  have hx := C.1
  have hb := C.2.1
  have hown := C.2.2.2.2.2.1
  have hts := C.2.2.2.2.2.2.1
  have hS : va_S (q_A al) s.heap s.heap [] := va_S.rf
  have hl : lv_has ls 3 [(0, .ref x0), (1, .int x1), (2, .int x2)] := hl
  unfold X12_isIm at hm
  refine lv_aload_n hx hb dX12_isIm_0 rfl (lv_at hl 0 rfl) ?_
  refine r_getF C hW (ci := 12) kx0 ff_12_35 cl_12 fl_RX12_82 dX12_isIm_1 (fun k1000001 => ?_)
  refine lv_bipush (v := 6) hx hb dX12_isIm_4 (by decide) ?_
  refine lv_aload_n hx hb dX12_isIm_6 rfl (lv_at hl 0 rfl) ?_
  refine r_getI C hW (ci := 12) kx0 ff_12_18 cl_12 fl_RX12_242 dX12_isIm_7 ?_
  refine lv_imul hx hb dX12_isIm_10 ?_
  refine lv_iload_n hx hb dX12_isIm_11 rfl (lv_at hl 1 rfl) ?_
  refine lv_iadd hx hb dX12_isIm_12 ?_
  refine r_iald C hW hm k1000001 dX12_isIm_13 (fun hm => ?_)
  refine lv_iload_n hx hb dX12_isIm_14 rfl (lv_at hl 2 rfl) ?_
  obtain ⟨v1000003, hc1000002, hm⟩ := q_b1i hm
  refine q_callS C hW hS (As := [.int (dt.1 (al.2.2 x0 35) (Int32.toNatClampNeg ((6 * (dt.1 x0 18)) + x1))), .int x2]) (rest := []) (st1 := [.int v1000003]) (c_X12_turnOf l D al dt (dt.1 (al.2.2 x0 35) (Int32.toNatClampNeg ((6 * (dt.1 x0 18)) + x1))) x2 v1000003 hc1000002) yl_X12_turnOf sl_X12_turnOf ml_RX12_336 rfl ⟨Nat.le_of_ble_eq_true rfl, Nat.le_of_ble_eq_true rfl⟩ hl rfl (Nat.le_of_ble_eq_true rfl) dX12_isIm_15 ⟨Nat.le_refl _, Nat.le_refl _⟩ rfl (fun H locs k1000004 hW hS => ?_)
  refine lv_iconst (v := 2) hx hb dX12_isIm_18 (by decide) ?_
  refine lv_irem hx hb dX12_isIm_19 (by decide) ?_
  refine lv_iconst (v := 1) hx hb dX12_isIm_20 (by decide) ?_
  refine q_ifc hm (fun c1000006 hm => ?_) (fun c1000006 hm => ?_)
  · refine lv_icmp_ne (tgt := 28) hx hb dX12_isIm_21 (by decide) (fun h => absurd c1000006 h) (fun _ => ?_)
    refine lv_iconst (v := 1) hx hb dX12_isIm_24 (by decide) ?_
    refine lv_goto (tgt := 29) hx hb dX12_isIm_25 (by decide) ?_
    exact e_zl C hW hS (Or.inr rfl) hm dX12_isIm_29
  refine lv_icmp_ne (tgt := 28) hx hb dX12_isIm_21 (by decide) (fun _ => ?_) (fun h => absurd h c1000006)
  refine lv_iconst (v := 0) hx hb dX12_isIm_28 (by decide) ?_
  exact e_zl C hW hS (Or.inl rfl) hm dX12_isIm_29
theorem dX12_adds_0 : decode cX12_adds 0 = .ok (.aload_n 1, 1) := by decide +kernel
theorem dX12_adds_1 : decode cX12_adds 1 = .ok (.iload_n 3, 1) := by decide +kernel
theorem dX12_adds_2 : decode cX12_adds 2 = .ok (.ifCond .eq 11, 3) := by decide +kernel
theorem dX12_adds_5 : decode cX12_adds 5 = .ok (.sipush 512, 3) := by decide +kernel
theorem dX12_adds_8 : decode cX12_adds 8 = .ok (.iload_n 2, 1) := by decide +kernel
theorem dX12_adds_9 : decode cX12_adds 9 = .ok (.iadd, 1) := by decide +kernel
theorem dX12_adds_10 : decode cX12_adds 10 = .ok (.goto 4, 3) := by decide +kernel
theorem dX12_adds_13 : decode cX12_adds 13 = .ok (.iload_n 2, 1) := by decide +kernel
theorem dX12_adds_14 : decode cX12_adds 14 = .ok (.dup2, 1) := by decide +kernel
theorem dX12_adds_15 : decode cX12_adds 15 = .ok (.iaload, 1) := by decide +kernel
theorem dX12_adds_16 : decode cX12_adds 16 = .ok (.iload 4, 2) := by decide +kernel
theorem dX12_adds_18 : decode cX12_adds 18 = .ok (.iadd, 1) := by decide +kernel
theorem dX12_adds_19 : decode cX12_adds 19 = .ok (.iastore, 1) := by decide +kernel
theorem dX12_adds_20 : decode cX12_adds 20 = .ok (.return_, 1) := by decide +kernel
set_option maxRecDepth 100000 in
theorem c_X12_adds (l : Launch) (D : q_D) (al : q_Al) (dt : q_Dt) (x0 : Nat) (x1 : Nat) (x2 : Int32) (x3 : Int32) (x4 : Int32) (kx0 : al.1 x0 = 13) (kx1 : al.1 x1 = 21) (dt0 : q_Dt) (hm : X12_adds al dt x0 x1 x2 x3 x4 = some dt0) : q_Mt l yX12_adds cX12_adds 5 (none) 0 0 D al [.ref x0, .ref x1, .int x2, .int x3, .int x4] dt 0 none dt0 := by
  refine q_Mt.of (by decide) (Nat.le_of_ble_eq_true rfl) ?_
  intro p e s m args below meth c ls C hargs hW hl
  have hx := C.1
  have hb := C.2.1
  have hown := C.2.2.2.2.2.1
  have hts := C.2.2.2.2.2.2.1
  have hS : va_S (q_A al) s.heap s.heap [] := va_S.rf
  have hl : lv_has ls 5 [(0, .ref x0), (1, .ref x1), (2, .int x2), (3, .int x3), (4, .int x4)] := hl
  unfold X12_adds at hm
  have hB14 : ∀ (x4_14 : Int32) (t0_14 : Nat) (t1_14 : Int32) (kt0_14 : al.1 t0_14 = 21) (dt : q_Dt) (H : Heap) (locs : List Loc) (ls : Array Slot) (hm : X12_adds_b14 al x4_14 t0_14 t1_14 dt = some dt0) (hW : q_W D al dt H) (hS : va_S (q_A al) s.heap H locs) (hl : lv_has ls 5 [(4, .int x4_14)]), W p l e { frames := 0, cells := 0, slots := 0, locals := 0 } s m args below meth c H locs 0 0 (MQ below (q_Q none (fun H => q_W D al dt0 H ∧ q_Rk al 0 none) (q_A al)) args s 0 0 (q_A al)) (F0 m 14 ls [.int t1_14, .ref t0_14]) := by
    intro x4_14 t0_14 t1_14 kt0_14 dt H locs ls hm hW hS hl
    unfold X12_adds_b14 at hm
    refine lv_dup2_11 hx hb dX12_adds_14 rfl rfl ?_
    refine r_iald C hW hm kt0_14 dX12_adds_15 (fun hm => ?_)
    refine lv_iload hx hb dX12_adds_16 (lv_at hl 0 rfl) ?_
    refine lv_iadd hx hb dX12_adds_18 ?_
    refine r_iast C hW hS hm kt0_14 dX12_adds_19 (fun dt14001 H locs hm hW hS => ?_)
    exact e_vD C hW hS hm dX12_adds_20
  refine lv_aload_n hx hb dX12_adds_0 rfl (lv_at hl 1 rfl) ?_
  refine lv_iload_n hx hb dX12_adds_1 rfl (lv_at hl 3 rfl) ?_
  refine q_ifc hm (fun c1000001 hm => ?_) (fun c1000001 hm => ?_)
  · refine lv_if_eq (tgt := 13) hx hb dX12_adds_2 (by decide) (fun _ => ?_) (fun h => absurd c1000001 h)
    refine lv_iload_n hx hb dX12_adds_13 rfl (lv_at hl 2 rfl) ?_
    exact hB14 x4 x1 x2 kx1 dt _ _ _ hm hW hS (lv_sub hl [4] rfl)
  refine lv_if_eq (tgt := 13) hx hb dX12_adds_2 (by decide) (fun h => absurd h c1000001) (fun _ => ?_)
  refine lv_sipush (v := 512) hx hb dX12_adds_5 (by decide) ?_
  refine lv_iload_n hx hb dX12_adds_8 rfl (lv_at hl 2 rfl) ?_
  refine lv_iadd hx hb dX12_adds_9 ?_
  refine lv_goto (tgt := 14) hx hb dX12_adds_10 (by decide) ?_
  exact hB14 x4 x1 (512 + x2) kx1 dt _ _ _ hm hW hS (lv_sub hl [4] rfl)
theorem dX12_addsWave_0 : decode cX12_addsWave 0 = .ok (.iconst 0, 1) := by decide +kernel
theorem dX12_addsWave_1 : decode cX12_addsWave 1 = .ok (.istore 4, 2) := by decide +kernel
theorem dX12_addsWave_3 : decode cX12_addsWave 3 = .ok (.iload 4, 2) := by decide +kernel
theorem dX12_addsWave_5 : decode cX12_addsWave 5 = .ok (.aload_n 0, 1) := by decide +kernel
theorem dX12_addsWave_6 : decode cX12_addsWave 6 = .ok (.invokevirtual 342, 3) := by decide +kernel
theorem dX12_addsWave_9 : decode cX12_addsWave 9 = .ok (.if_icmp .ge 184, 3) := by decide +kernel
theorem dX12_addsWave_12 : decode cX12_addsWave 12 = .ok (.aload_n 0, 1) := by decide +kernel
theorem dX12_addsWave_13 : decode cX12_addsWave 13 = .ok (.iload_n 2, 1) := by decide +kernel
theorem dX12_addsWave_14 : decode cX12_addsWave 14 = .ok (.iload 4, 2) := by decide +kernel
theorem dX12_addsWave_16 : decode cX12_addsWave 16 = .ok (.invokevirtual 345, 3) := by decide +kernel
theorem dX12_addsWave_19 : decode cX12_addsWave 19 = .ok (.istore 5, 2) := by decide +kernel
theorem dX12_addsWave_21 : decode cX12_addsWave 21 = .ok (.iload 5, 2) := by decide +kernel
theorem dX12_addsWave_23 : decode cX12_addsWave 23 = .ok (.ifCond .ge 6, 3) := by decide +kernel
theorem dX12_addsWave_26 : decode cX12_addsWave 26 = .ok (.goto 161, 3) := by decide +kernel
theorem dX12_addsWave_29 : decode cX12_addsWave 29 = .ok (.aload_n 0, 1) := by decide +kernel
theorem dX12_addsWave_30 : decode cX12_addsWave 30 = .ok (.iload_n 2, 1) := by decide +kernel
theorem dX12_addsWave_31 : decode cX12_addsWave 31 = .ok (.iload 4, 2) := by decide +kernel
theorem dX12_addsWave_33 : decode cX12_addsWave 33 = .ok (.invokevirtual 348, 3) := by decide +kernel
theorem dX12_addsWave_36 : decode cX12_addsWave 36 = .ok (.iload_n 3, 1) := by decide +kernel
theorem dX12_addsWave_37 : decode cX12_addsWave 37 = .ok (.imul, 1) := by decide +kernel
theorem dX12_addsWave_38 : decode cX12_addsWave 38 = .ok (.istore 6, 2) := by decide +kernel
theorem dX12_addsWave_40 : decode cX12_addsWave 40 = .ok (.aload_n 0, 1) := by decide +kernel
theorem dX12_addsWave_41 : decode cX12_addsWave 41 = .ok (.getfield 127, 3) := by decide +kernel
theorem dX12_addsWave_44 : decode cX12_addsWave 44 = .ok (.sipush 512, 3) := by decide +kernel
theorem dX12_addsWave_47 : decode cX12_addsWave 47 = .ok (.iload_n 2, 1) := by decide +kernel
theorem dX12_addsWave_48 : decode cX12_addsWave 48 = .ok (.imul, 1) := by decide +kernel
theorem dX12_addsWave_49 : decode cX12_addsWave 49 = .ok (.iload 5, 2) := by decide +kernel
theorem dX12_addsWave_51 : decode cX12_addsWave 51 = .ok (.iadd, 1) := by decide +kernel
theorem dX12_addsWave_52 : decode cX12_addsWave 52 = .ok (.baload, 1) := by decide +kernel
theorem dX12_addsWave_53 : decode cX12_addsWave 53 = .ok (.iconst 1, 1) := by decide +kernel
theorem dX12_addsWave_54 : decode cX12_addsWave 54 = .ok (.if_icmp .ne 8, 3) := by decide +kernel
theorem dX12_addsWave_57 : decode cX12_addsWave 57 = .ok (.iload 6, 2) := by decide +kernel
theorem dX12_addsWave_59 : decode cX12_addsWave 59 = .ok (.ineg, 1) := by decide +kernel
theorem dX12_addsWave_60 : decode cX12_addsWave 60 = .ok (.istore 6, 2) := by decide +kernel
theorem dX12_addsWave_62 : decode cX12_addsWave 62 = .ok (.aload_n 0, 1) := by decide +kernel
theorem dX12_addsWave_63 : decode cX12_addsWave 63 = .ok (.iload_n 2, 1) := by decide +kernel
theorem dX12_addsWave_64 : decode cX12_addsWave 64 = .ok (.iload 4, 2) := by decide +kernel
theorem dX12_addsWave_66 : decode cX12_addsWave 66 = .ok (.invokevirtual 351, 3) := by decide +kernel
theorem dX12_addsWave_69 : decode cX12_addsWave 69 = .ok (.istore 7, 2) := by decide +kernel
theorem dX12_addsWave_71 : decode cX12_addsWave 71 = .ok (.aload_n 0, 1) := by decide +kernel
theorem dX12_addsWave_72 : decode cX12_addsWave 72 = .ok (.aload_n 1, 1) := by decide +kernel
theorem dX12_addsWave_73 : decode cX12_addsWave 73 = .ok (.iload 4, 2) := by decide +kernel
theorem dX12_addsWave_75 : decode cX12_addsWave 75 = .ok (.iload 7, 2) := by decide +kernel
theorem dX12_addsWave_77 : decode cX12_addsWave 77 = .ok (.iload 6, 2) := by decide +kernel
theorem dX12_addsWave_79 : decode cX12_addsWave 79 = .ok (.aload_n 0, 1) := by decide +kernel
theorem dX12_addsWave_80 : decode cX12_addsWave 80 = .ok (.getfield 76, 3) := by decide +kernel
theorem dX12_addsWave_83 : decode cX12_addsWave 83 = .ok (.bipush 6, 2) := by decide +kernel
theorem dX12_addsWave_85 : decode cX12_addsWave 85 = .ok (.aload_n 0, 1) := by decide +kernel
theorem dX12_addsWave_86 : decode cX12_addsWave 86 = .ok (.getfield 242, 3) := by decide +kernel
theorem dX12_addsWave_89 : decode cX12_addsWave 89 = .ok (.imul, 1) := by decide +kernel
theorem dX12_addsWave_90 : decode cX12_addsWave 90 = .ok (.iload_n 2, 1) := by decide +kernel
theorem dX12_addsWave_91 : decode cX12_addsWave 91 = .ok (.iadd, 1) := by decide +kernel
theorem dX12_addsWave_92 : decode cX12_addsWave 92 = .ok (.iaload, 1) := by decide +kernel
theorem dX12_addsWave_93 : decode cX12_addsWave 93 = .ok (.imul, 1) := by decide +kernel
theorem dX12_addsWave_94 : decode cX12_addsWave 94 = .ok (.invokevirtual 355, 3) := by decide +kernel
theorem dX12_addsWave_97 : decode cX12_addsWave 97 = .ok (.iconst 0, 1) := by decide +kernel
theorem dX12_addsWave_98 : decode cX12_addsWave 98 = .ok (.istore 8, 2) := by decide +kernel
theorem dX12_addsWave_100 : decode cX12_addsWave 100 = .ok (.iload 8, 2) := by decide +kernel
theorem dX12_addsWave_102 : decode cX12_addsWave 102 = .ok (.aload_n 0, 1) := by decide +kernel
theorem dX12_addsWave_103 : decode cX12_addsWave 103 = .ok (.getfield 91, 3) := by decide +kernel
theorem dX12_addsWave_106 : decode cX12_addsWave 106 = .ok (.aload_n 0, 1) := by decide +kernel
theorem dX12_addsWave_107 : decode cX12_addsWave 107 = .ok (.getfield 242, 3) := by decide +kernel
theorem dX12_addsWave_110 : decode cX12_addsWave 110 = .ok (.iaload, 1) := by decide +kernel
theorem dX12_addsWave_111 : decode cX12_addsWave 111 = .ok (.if_icmp .ge 76, 3) := by decide +kernel
theorem dX12_addsWave_114 : decode cX12_addsWave 114 = .ok (.bipush 6, 2) := by decide +kernel
theorem dX12_addsWave_116 : decode cX12_addsWave 116 = .ok (.aload_n 0, 1) := by decide +kernel
theorem dX12_addsWave_117 : decode cX12_addsWave 117 = .ok (.getfield 242, 3) := by decide +kernel
theorem dX12_addsWave_120 : decode cX12_addsWave 120 = .ok (.imul, 1) := by decide +kernel
theorem dX12_addsWave_121 : decode cX12_addsWave 121 = .ok (.iload 8, 2) := by decide +kernel
theorem dX12_addsWave_123 : decode cX12_addsWave 123 = .ok (.iadd, 1) := by decide +kernel
theorem dX12_addsWave_124 : decode cX12_addsWave 124 = .ok (.istore 9, 2) := by decide +kernel
theorem dX12_addsWave_126 : decode cX12_addsWave 126 = .ok (.aload_n 0, 1) := by decide +kernel
theorem dX12_addsWave_127 : decode cX12_addsWave 127 = .ok (.getfield 94, 3) := by decide +kernel
theorem dX12_addsWave_130 : decode cX12_addsWave 130 = .ok (.iload 9, 2) := by decide +kernel
theorem dX12_addsWave_132 : decode cX12_addsWave 132 = .ok (.iaload, 1) := by decide +kernel
theorem dX12_addsWave_133 : decode cX12_addsWave 133 = .ok (.iload_n 2, 1) := by decide +kernel
theorem dX12_addsWave_134 : decode cX12_addsWave 134 = .ok (.if_icmp .ne 47, 3) := by decide +kernel
theorem dX12_addsWave_137 : decode cX12_addsWave 137 = .ok (.iload 4, 2) := by decide +kernel
theorem dX12_addsWave_139 : decode cX12_addsWave 139 = .ok (.aload_n 0, 1) := by decide +kernel
theorem dX12_addsWave_140 : decode cX12_addsWave 140 = .ok (.getfield 97, 3) := by decide +kernel
theorem dX12_addsWave_143 : decode cX12_addsWave 143 = .ok (.iload 9, 2) := by decide +kernel
theorem dX12_addsWave_145 : decode cX12_addsWave 145 = .ok (.iaload, 1) := by decide +kernel
theorem dX12_addsWave_146 : decode cX12_addsWave 146 = .ok (.iadd, 1) := by decide +kernel
theorem dX12_addsWave_147 : decode cX12_addsWave 147 = .ok (.aload_n 0, 1) := by decide +kernel
theorem dX12_addsWave_148 : decode cX12_addsWave 148 = .ok (.invokevirtual 342, 3) := by decide +kernel
theorem dX12_addsWave_151 : decode cX12_addsWave 151 = .ok (.if_icmp .ge 30, 3) := by decide +kernel
theorem dX12_addsWave_154 : decode cX12_addsWave 154 = .ok (.aload_n 0, 1) := by decide +kernel
theorem dX12_addsWave_155 : decode cX12_addsWave 155 = .ok (.aload_n 1, 1) := by decide +kernel
theorem dX12_addsWave_156 : decode cX12_addsWave 156 = .ok (.iload 4, 2) := by decide +kernel
theorem dX12_addsWave_158 : decode cX12_addsWave 158 = .ok (.aload_n 0, 1) := by decide +kernel
theorem dX12_addsWave_159 : decode cX12_addsWave 159 = .ok (.getfield 97, 3) := by decide +kernel
theorem dX12_addsWave_162 : decode cX12_addsWave 162 = .ok (.iload 9, 2) := by decide +kernel
theorem dX12_addsWave_164 : decode cX12_addsWave 164 = .ok (.iaload, 1) := by decide +kernel
theorem dX12_addsWave_165 : decode cX12_addsWave 165 = .ok (.iadd, 1) := by decide +kernel
theorem dX12_addsWave_166 : decode cX12_addsWave 166 = .ok (.iload 7, 2) := by decide +kernel
theorem dX12_addsWave_168 : decode cX12_addsWave 168 = .ok (.iload 6, 2) := by decide +kernel
theorem dX12_addsWave_170 : decode cX12_addsWave 170 = .ok (.aload_n 0, 1) := by decide +kernel
theorem dX12_addsWave_171 : decode cX12_addsWave 171 = .ok (.getfield 100, 3) := by decide +kernel
theorem dX12_addsWave_174 : decode cX12_addsWave 174 = .ok (.iload 9, 2) := by decide +kernel
theorem dX12_addsWave_176 : decode cX12_addsWave 176 = .ok (.iaload, 1) := by decide +kernel
theorem dX12_addsWave_177 : decode cX12_addsWave 177 = .ok (.imul, 1) := by decide +kernel
theorem dX12_addsWave_178 : decode cX12_addsWave 178 = .ok (.invokevirtual 355, 3) := by decide +kernel
theorem dX12_addsWave_181 : decode cX12_addsWave 181 = .ok (.iinc 8 1, 3) := by decide +kernel
theorem dX12_addsWave_184 : decode cX12_addsWave 184 = .ok (.goto (-84), 3) := by decide +kernel
theorem dX12_addsWave_187 : decode cX12_addsWave 187 = .ok (.iinc 4 1, 3) := by decide +kernel
theorem dX12_addsWave_190 : decode cX12_addsWave 190 = .ok (.goto (-187), 3) := by decide +kernel
theorem dX12_addsWave_193 : decode cX12_addsWave 193 = .ok (.return_, 1) := by decide +kernel
set_option maxRecDepth 100000 in
theorem c_X12_addsWave (l : Launch) (D : q_D) (al : q_Al) (dt : q_Dt) (x0 : Nat) (x1 : Nat) (x2 : Int32) (x3 : Int32) (kx0 : al.1 x0 = 13) (kx1 : al.1 x1 = 21) (dt0 : q_Dt) (hm : X12_addsWave al dt x0 x1 x2 x3 = some dt0) : q_Mt l yX12_addsWave cX12_addsWave 10 (none) 3 68 D al [.ref x0, .ref x1, .int x2, .int x3] dt 0 none dt0 := by
  refine q_Mt.of (by decide) (Nat.le_of_ble_eq_true rfl) ?_
  intro p e s m args below meth c ls C hargs hW hl
  have hx := C.1
  have hb := C.2.1
  have hown := C.2.2.2.2.2.1
  have hts := C.2.2.2.2.2.2.1
  have hS : va_S (q_A al) s.heap s.heap [] := va_S.rf
  have hl : lv_has ls 10 [(0, .ref x0), (1, .ref x1), (2, .int x2), (3, .int x3)] := hl
  unfold X12_addsWave at hm
  have hB3 : ∀ (x0_3 : Nat) (x1_3 : Nat) (x2_3 : Int32) (x3_3 : Int32) (kx0_3 : al.1 x0_3 = 13) (kx1_3 : al.1 x1_3 = 21) (n_3 : Nat) (x4_3 : Int32) (dt : q_Dt) (H : Heap) (locs : List Loc) (ls : Array Slot) (hm : X12_addsWave_b3 al x0_3 x1_3 x2_3 x3_3 n_3 x4_3 dt = some dt0) (hW : q_W D al dt H) (hS : va_S (q_A al) s.heap H locs) (hl : lv_has ls 10 [(0, .ref x0_3), (1, .ref x1_3), (2, .int x2_3), (3, .int x3_3), (4, .int x4_3)]), W p l e { frames := 3, cells := 0, slots := 0, locals := 68 } s m args below meth c H locs 0 0 (MQ below (q_Q none (fun H => q_W D al dt0 H ∧ q_Rk al 0 none) (q_A al)) args s 0 0 (q_A al)) (F0 m 3 ls []) := by
    intro x0_3 x1_3 x2_3 x3_3 kx0_3 kx1_3
    intro n_3
    induction n_3 with
    | zero => intro x4_3 dt H locs ls hm hW hS hl; cases hm
    | succ n_3 ih3 =>
      have hB187 : ∀ (x4_187 : Int32) (dt : q_Dt) (H : Heap) (locs : List Loc) (ls : Array Slot) (hm : X12_addsWave_b187 al (X12_addsWave_b3 al x0_3 x1_3 x2_3 x3_3 n_3) x0_3 x1_3 x2_3 x3_3 x4_187 dt = some dt0) (hW : q_W D al dt H) (hS : va_S (q_A al) s.heap H locs) (hl : lv_has ls 10 [(0, .ref x0_3), (1, .ref x1_3), (2, .int x2_3), (3, .int x3_3), (4, .int x4_187)]), W p l e { frames := 3, cells := 0, slots := 0, locals := 68 } s m args below meth c H locs 0 0 (MQ below (q_Q none (fun H => q_W D al dt0 H ∧ q_Rk al 0 none) (q_A al)) args s 0 0 (q_A al)) (F0 m 187 ls []) := by
        intro x4_187 dt H locs ls hm hW hS hl
        unfold X12_addsWave_b187 at hm
        refine lv_iinc (v := (x4_187 + 1)) (lv' := [(4, .int (x4_187 + 1)), (0, .ref x0_3), (1, .ref x1_3), (2, .int x2_3), (3, .int x3_3)]) hx hb dX12_addsWave_187 hl (k := 4) rfl rfl (by decide) rfl (fun ls hl => ?_)
        refine lv_goto (tgt := 3) hx hb dX12_addsWave_190 (by decide) ?_
        exact ih3 (x4_187 + 1) dt _ _ _ hm hW hS (lv_sub hl [1, 2, 3, 4, 0] rfl)
      have hB100 : ∀ (x4_100 : Int32) (x6_100 : Int32) (x7_100 : Int32) (n_100 : Nat) (x8_100 : Int32) (dt : q_Dt) (H : Heap) (locs : List Loc) (ls : Array Slot) (hm : X12_addsWave_b100 al (X12_addsWave_b3 al x0_3 x1_3 x2_3 x3_3 n_3) x0_3 x1_3 x2_3 x3_3 x4_100 x6_100 x7_100 n_100 x8_100 dt = some dt0) (hW : q_W D al dt H) (hS : va_S (q_A al) s.heap H locs) (hl : lv_has ls 10 [(0, .ref x0_3), (1, .ref x1_3), (2, .int x2_3), (3, .int x3_3), (4, .int x4_100), (6, .int x6_100), (7, .int x7_100), (8, .int x8_100)]), W p l e { frames := 3, cells := 0, slots := 0, locals := 68 } s m args below meth c H locs 0 0 (MQ below (q_Q none (fun H => q_W D al dt0 H ∧ q_Rk al 0 none) (q_A al)) args s 0 0 (q_A al)) (F0 m 100 ls []) := by
        intro x4_100 x6_100 x7_100
        intro n_100
        induction n_100 with
        | zero => intro x8_100 dt H locs ls hm hW hS hl; cases hm
        | succ n_100 ih100 =>
          have hB181 : ∀ (x8_181 : Int32) (dt : q_Dt) (H : Heap) (locs : List Loc) (ls : Array Slot) (hm : X12_addsWave_b181 al (X12_addsWave_b3 al x0_3 x1_3 x2_3 x3_3 n_3) (X12_addsWave_b100 al (X12_addsWave_b3 al x0_3 x1_3 x2_3 x3_3 n_3) x0_3 x1_3 x2_3 x3_3 x4_100 x6_100 x7_100 n_100) x0_3 x1_3 x2_3 x3_3 x4_100 x6_100 x7_100 x8_181 dt = some dt0) (hW : q_W D al dt H) (hS : va_S (q_A al) s.heap H locs) (hl : lv_has ls 10 [(0, .ref x0_3), (1, .ref x1_3), (2, .int x2_3), (3, .int x3_3), (4, .int x4_100), (6, .int x6_100), (7, .int x7_100), (8, .int x8_181)]), W p l e { frames := 3, cells := 0, slots := 0, locals := 68 } s m args below meth c H locs 0 0 (MQ below (q_Q none (fun H => q_W D al dt0 H ∧ q_Rk al 0 none) (q_A al)) args s 0 0 (q_A al)) (F0 m 181 ls []) := by
            intro x8_181 dt H locs ls hm hW hS hl
            unfold X12_addsWave_b181 at hm
            refine lv_iinc (v := (x8_181 + 1)) (lv' := [(8, .int (x8_181 + 1)), (0, .ref x0_3), (1, .ref x1_3), (2, .int x2_3), (3, .int x3_3), (4, .int x4_100), (6, .int x6_100), (7, .int x7_100)]) hx hb dX12_addsWave_181 hl (k := 7) rfl rfl (by decide) rfl (fun ls hl => ?_)
            refine lv_goto (tgt := 100) hx hb dX12_addsWave_184 (by decide) ?_
            exact ih100 (x8_181 + 1) dt _ _ _ hm hW hS (lv_sub hl [1, 2, 3, 4, 5, 6, 7, 0] rfl)
          intro x8_100 dt H locs ls hm hW hS hl
          rw [X12_addsWave_b100] at hm
          refine lv_iload hx hb dX12_addsWave_100 (lv_at hl 7 rfl) ?_
          refine lv_aload_n hx hb dX12_addsWave_102 rfl (lv_at hl 0 rfl) ?_
          refine r_getF C hW (ci := 12) kx0_3 ff_12_38 cl_12 fl_RX12_91 dX12_addsWave_103 (fun k100001 => ?_)
          refine lv_aload_n hx hb dX12_addsWave_106 rfl (lv_at hl 0 rfl) ?_
          refine r_getI C hW (ci := 12) kx0_3 ff_12_18 cl_12 fl_RX12_242 dX12_addsWave_107 ?_
          refine r_iald C hW hm k100001 dX12_addsWave_110 (fun hm => ?_)
          refine q_ifc hm (fun c100002 hm => ?_) (fun c100002 hm => ?_)
          · refine lv_icmp_ge (tgt := 187) hx hb dX12_addsWave_111 (by decide) (fun _ => ?_) (fun h => absurd c100002 h)
            exact hB187 x4_100 dt _ _ _ hm hW hS (lv_sub hl [0, 1, 2, 3, 4] rfl)
          refine lv_icmp_ge (tgt := 187) hx hb dX12_addsWave_111 (by decide) (fun h => absurd h c100002) (fun _ => ?_)
          refine lv_bipush (v := 6) hx hb dX12_addsWave_114 (by decide) ?_
          refine lv_aload_n hx hb dX12_addsWave_116 rfl (lv_at hl 0 rfl) ?_
          refine r_getI C hW (ci := 12) kx0_3 ff_12_18 cl_12 fl_RX12_242 dX12_addsWave_117 ?_
          refine lv_imul hx hb dX12_addsWave_120 ?_
          refine lv_iload hx hb dX12_addsWave_121 (lv_at hl 7 rfl) ?_
          refine lv_iadd hx hb dX12_addsWave_123 ?_
          refine lv_istore (i := 9) (lv' := [(9, .int ((6 * (dt.1 x0_3 18)) + x8_100)), (0, .ref x0_3), (1, .ref x1_3), (2, .int x2_3), (3, .int x3_3), (4, .int x4_100), (6, .int x6_100), (7, .int x7_100), (8, .int x8_100)]) hx hb dX12_addsWave_124 hl (by decide) rfl (fun ls hl => ?_)
          refine lv_aload_n hx hb dX12_addsWave_126 rfl (lv_at hl 1 rfl) ?_
          refine r_getF C hW (ci := 12) kx0_3 ff_12_39 cl_12 fl_RX12_94 dX12_addsWave_127 (fun k100003 => ?_)
          refine lv_iload hx hb dX12_addsWave_130 (lv_at hl 0 rfl) ?_
          refine r_iald C hW hm k100003 dX12_addsWave_132 (fun hm => ?_)
          refine lv_iload_n hx hb dX12_addsWave_133 rfl (lv_at hl 3 rfl) ?_
          refine q_ifc hm (fun c100004 hm => ?_) (fun c100004 hm => ?_)
          · refine lv_icmp_ne (tgt := 181) hx hb dX12_addsWave_134 (by decide) (fun h => absurd c100004 h) (fun _ => ?_)
            refine lv_iload hx hb dX12_addsWave_137 (lv_at hl 5 rfl) ?_
            refine lv_aload_n hx hb dX12_addsWave_139 rfl (lv_at hl 1 rfl) ?_
            refine r_getF C hW (ci := 12) kx0_3 ff_12_40 cl_12 fl_RX12_97 dX12_addsWave_140 (fun k100005 => ?_)
            refine lv_iload hx hb dX12_addsWave_143 (lv_at hl 0 rfl) ?_
            refine r_iald C hW hm k100005 dX12_addsWave_145 (fun hm => ?_)
            refine lv_iadd hx hb dX12_addsWave_146 ?_
            refine lv_aload_n hx hb dX12_addsWave_147 rfl (lv_at hl 1 rfl) ?_
            obtain ⟨v100007, hc100006, hm⟩ := q_b1i hm
            refine q_callV C hW hS (As := []) (rest := [.int (x4_100 + (dt.1 (al.2.2 x0_3 40) (Int32.toNatClampNeg ((6 * (dt.1 x0_3 18)) + x8_100))))]) (st1 := [.int v100007, .int (x4_100 + (dt.1 (al.2.2 x0_3 40) (Int32.toNatClampNeg ((6 * (dt.1 x0_3 18)) + x8_100))))]) (c_X12_n l D al dt x0_3 kx0_3 v100007 hc100006) yl_X12_n vl_X12_n ml_RX12_342 (ci := 12) rfl kx0_3 (by decide) rfl ⟨Nat.le_of_ble_eq_true rfl, Nat.le_of_ble_eq_true rfl⟩ hl rfl (Nat.le_of_ble_eq_true rfl) dX12_addsWave_148 ⟨Nat.le_refl _, Nat.le_refl _⟩ rfl (fun H locs k100008 hW hS => ?_)
            refine q_ifc hm (fun c100009 hm => ?_) (fun c100009 hm => ?_)
            · refine lv_icmp_ge (tgt := 181) hx hb dX12_addsWave_151 (by decide) (fun _ => ?_) (fun h => absurd c100009 h)
              exact hB181 x8_100 dt _ _ _ hm hW hS (lv_sub hl [1, 2, 3, 4, 5, 6, 7, 8] rfl)
            refine lv_icmp_ge (tgt := 181) hx hb dX12_addsWave_151 (by decide) (fun h => absurd h c100009) (fun _ => ?_)
            refine lv_aload_n hx hb dX12_addsWave_154 rfl (lv_at hl 1 rfl) ?_
            refine lv_aload_n hx hb dX12_addsWave_155 rfl (lv_at hl 2 rfl) ?_
            refine lv_iload hx hb dX12_addsWave_156 (lv_at hl 5 rfl) ?_
            refine lv_aload_n hx hb dX12_addsWave_158 rfl (lv_at hl 1 rfl) ?_
            refine r_getF C hW (ci := 12) kx0_3 ff_12_40 cl_12 fl_RX12_97 dX12_addsWave_159 (fun k100010 => ?_)
            refine lv_iload hx hb dX12_addsWave_162 (lv_at hl 0 rfl) ?_
            refine r_iald C hW hm k100010 dX12_addsWave_164 (fun hm => ?_)
            refine lv_iadd hx hb dX12_addsWave_165 ?_
            refine lv_iload hx hb dX12_addsWave_166 (lv_at hl 7 rfl) ?_
            refine lv_iload hx hb dX12_addsWave_168 (lv_at hl 6 rfl) ?_
            refine lv_aload_n hx hb dX12_addsWave_170 rfl (lv_at hl 1 rfl) ?_
            refine r_getF C hW (ci := 12) kx0_3 ff_12_41 cl_12 fl_RX12_100 dX12_addsWave_171 (fun k100011 => ?_)
            refine lv_iload hx hb dX12_addsWave_174 (lv_at hl 0 rfl) ?_
            refine r_iald C hW hm k100011 dX12_addsWave_176 (fun hm => ?_)
            refine lv_imul hx hb dX12_addsWave_177 ?_
            obtain ⟨dt100013, hc100012, hm⟩ := q_b1i hm
            refine q_callV C hW hS (As := [.ref x1_3, .int (x4_100 + (dt.1 (al.2.2 x0_3 40) (Int32.toNatClampNeg ((6 * (dt.1 x0_3 18)) + x8_100)))), .int x7_100, .int (x6_100 * (dt.1 (al.2.2 x0_3 41) (Int32.toNatClampNeg ((6 * (dt.1 x0_3 18)) + x8_100))))]) (rest := []) (st1 := []) (c_X12_adds l D al dt x0_3 x1_3 (x4_100 + (dt.1 (al.2.2 x0_3 40) (Int32.toNatClampNeg ((6 * (dt.1 x0_3 18)) + x8_100)))) x7_100 (x6_100 * (dt.1 (al.2.2 x0_3 41) (Int32.toNatClampNeg ((6 * (dt.1 x0_3 18)) + x8_100)))) kx0_3 kx1_3 dt100013 hc100012) yl_X12_adds vl_X12_adds ml_RX12_355 (ci := 12) rfl kx0_3 (by decide) rfl ⟨Nat.le_of_ble_eq_true rfl, Nat.le_of_ble_eq_true rfl⟩ hl rfl (Nat.le_of_ble_eq_true rfl) dX12_addsWave_178 ⟨Nat.le_refl _, Nat.le_refl _⟩ rfl (fun H locs k100014 hW hS => ?_)
            exact hB181 x8_100 dt100013 _ _ _ hm hW hS (lv_sub hl [1, 2, 3, 4, 5, 6, 7, 8] rfl)
          refine lv_icmp_ne (tgt := 181) hx hb dX12_addsWave_134 (by decide) (fun _ => ?_) (fun h => absurd h c100004)
          exact hB181 x8_100 dt _ _ _ hm hW hS (lv_sub hl [1, 2, 3, 4, 5, 6, 7, 8] rfl)
      have hB62 : ∀ (x4_62 : Int32) (x6_62 : Int32) (dt : q_Dt) (H : Heap) (locs : List Loc) (ls : Array Slot) (hm : X12_addsWave_b62 al (X12_addsWave_b3 al x0_3 x1_3 x2_3 x3_3 n_3) x0_3 x1_3 x2_3 x3_3 x4_62 x6_62 dt = some dt0) (hW : q_W D al dt H) (hS : va_S (q_A al) s.heap H locs) (hl : lv_has ls 10 [(0, .ref x0_3), (1, .ref x1_3), (2, .int x2_3), (3, .int x3_3), (4, .int x4_62), (6, .int x6_62)]), W p l e { frames := 3, cells := 0, slots := 0, locals := 68 } s m args below meth c H locs 0 0 (MQ below (q_Q none (fun H => q_W D al dt0 H ∧ q_Rk al 0 none) (q_A al)) args s 0 0 (q_A al)) (F0 m 62 ls []) := by
        intro x4_62 x6_62 dt H locs ls hm hW hS hl
        unfold X12_addsWave_b62 at hm
        refine lv_aload_n hx hb dX12_addsWave_62 rfl (lv_at hl 0 rfl) ?_
        refine lv_iload_n hx hb dX12_addsWave_63 rfl (lv_at hl 2 rfl) ?_
        refine lv_iload hx hb dX12_addsWave_64 (lv_at hl 4 rfl) ?_
        obtain ⟨v62002, hc62001, hm⟩ := q_b1i hm
        refine q_callV C hW hS (As := [.int x2_3, .int x4_62]) (rest := []) (st1 := [.int v62002]) (c_X12_isIm l D al dt x0_3 x2_3 x4_62 kx0_3 v62002 hc62001) yl_X12_isIm vl_X12_isIm ml_RX12_351 (ci := 12) rfl kx0_3 (by decide) rfl ⟨Nat.le_of_ble_eq_true rfl, Nat.le_of_ble_eq_true rfl⟩ hl rfl (Nat.le_of_ble_eq_true rfl) dX12_addsWave_66 ⟨Nat.le_refl _, Nat.le_refl _⟩ rfl (fun H locs k62003 hW hS => ?_)
        refine lv_istore (i := 7) (lv' := [(7, .int v62002), (0, .ref x0_3), (1, .ref x1_3), (2, .int x2_3), (3, .int x3_3), (4, .int x4_62), (6, .int x6_62)]) hx hb dX12_addsWave_69 hl (by decide) rfl (fun ls hl => ?_)
        refine lv_aload_n hx hb dX12_addsWave_71 rfl (lv_at hl 1 rfl) ?_
        refine lv_aload_n hx hb dX12_addsWave_72 rfl (lv_at hl 2 rfl) ?_
        refine lv_iload hx hb dX12_addsWave_73 (lv_at hl 5 rfl) ?_
        refine lv_iload hx hb dX12_addsWave_75 (lv_at hl 0 rfl) ?_
        refine lv_iload hx hb dX12_addsWave_77 (lv_at hl 6 rfl) ?_
        refine lv_aload_n hx hb dX12_addsWave_79 rfl (lv_at hl 1 rfl) ?_
        refine r_getF C hW (ci := 12) kx0_3 ff_12_33 cl_12 fl_RX12_76 dX12_addsWave_80 (fun k62004 => ?_)
        refine lv_bipush (v := 6) hx hb dX12_addsWave_83 (by decide) ?_
        refine lv_aload_n hx hb dX12_addsWave_85 rfl (lv_at hl 1 rfl) ?_
        refine r_getI C hW (ci := 12) kx0_3 ff_12_18 cl_12 fl_RX12_242 dX12_addsWave_86 ?_
        refine lv_imul hx hb dX12_addsWave_89 ?_
        refine lv_iload_n hx hb dX12_addsWave_90 rfl (lv_at hl 3 rfl) ?_
        refine lv_iadd hx hb dX12_addsWave_91 ?_
        refine r_iald C hW hm k62004 dX12_addsWave_92 (fun hm => ?_)
        refine lv_imul hx hb dX12_addsWave_93 ?_
        obtain ⟨dt62006, hc62005, hm⟩ := q_b1i hm
        refine q_callV C hW hS (As := [.ref x1_3, .int x4_62, .int v62002, .int (x6_62 * (dt.1 (al.2.2 x0_3 33) (Int32.toNatClampNeg ((6 * (dt.1 x0_3 18)) + x2_3))))]) (rest := []) (st1 := []) (c_X12_adds l D al dt x0_3 x1_3 x4_62 v62002 (x6_62 * (dt.1 (al.2.2 x0_3 33) (Int32.toNatClampNeg ((6 * (dt.1 x0_3 18)) + x2_3)))) kx0_3 kx1_3 dt62006 hc62005) yl_X12_adds vl_X12_adds ml_RX12_355 (ci := 12) rfl kx0_3 (by decide) rfl ⟨Nat.le_of_ble_eq_true rfl, Nat.le_of_ble_eq_true rfl⟩ hl rfl (Nat.le_of_ble_eq_true rfl) dX12_addsWave_94 ⟨Nat.le_refl _, Nat.le_refl _⟩ rfl (fun H locs k62007 hW hS => ?_)
        refine lv_iconst (v := 0) hx hb dX12_addsWave_97 (by decide) ?_
        refine lv_istore (i := 8) (lv' := [(8, .int 0), (7, .int v62002), (0, .ref x0_3), (1, .ref x1_3), (2, .int x2_3), (3, .int x3_3), (4, .int x4_62), (6, .int x6_62)]) hx hb dX12_addsWave_98 hl (by decide) rfl (fun ls hl => ?_)
        exact hB100 x4_62 x6_62 v62002 q_FU 0 dt62006 _ _ _ hm hW hS (lv_sub hl [2, 3, 4, 5, 6, 7, 1, 0] rfl)
      intro x4_3 dt H locs ls hm hW hS hl
      rw [X12_addsWave_b3] at hm
      refine lv_iload hx hb dX12_addsWave_3 (lv_at hl 4 rfl) ?_
      refine lv_aload_n hx hb dX12_addsWave_5 rfl (lv_at hl 0 rfl) ?_
      obtain ⟨v3002, hc3001, hm⟩ := q_b1i hm
      refine q_callV C hW hS (As := []) (rest := [.int x4_3]) (st1 := [.int v3002, .int x4_3]) (c_X12_n l D al dt x0_3 kx0_3 v3002 hc3001) yl_X12_n vl_X12_n ml_RX12_342 (ci := 12) rfl kx0_3 (by decide) rfl ⟨Nat.le_of_ble_eq_true rfl, Nat.le_of_ble_eq_true rfl⟩ hl rfl (Nat.le_of_ble_eq_true rfl) dX12_addsWave_6 ⟨Nat.le_refl _, Nat.le_refl _⟩ rfl (fun H locs k3003 hW hS => ?_)
      refine q_ifc hm (fun c3004 hm => ?_) (fun c3004 hm => ?_)
      · refine lv_icmp_ge (tgt := 193) hx hb dX12_addsWave_9 (by decide) (fun _ => ?_) (fun h => absurd c3004 h)
        exact e_vD C hW hS hm dX12_addsWave_193
      refine lv_icmp_ge (tgt := 193) hx hb dX12_addsWave_9 (by decide) (fun h => absurd h c3004) (fun _ => ?_)
      refine lv_aload_n hx hb dX12_addsWave_12 rfl (lv_at hl 0 rfl) ?_
      refine lv_iload_n hx hb dX12_addsWave_13 rfl (lv_at hl 2 rfl) ?_
      refine lv_iload hx hb dX12_addsWave_14 (lv_at hl 4 rfl) ?_
      obtain ⟨v3006, hc3005, hm⟩ := q_b1i hm
      refine q_callV C hW hS (As := [.int x2_3, .int x4_3]) (rest := []) (st1 := [.int v3006]) (c_X12_periodAt l D al dt x0_3 x2_3 x4_3 kx0_3 v3006 hc3005) yl_X12_periodAt vl_X12_periodAt ml_RX12_345 (ci := 12) rfl kx0_3 (by decide) rfl ⟨Nat.le_of_ble_eq_true rfl, Nat.le_of_ble_eq_true rfl⟩ hl rfl (Nat.le_of_ble_eq_true rfl) dX12_addsWave_16 ⟨Nat.le_refl _, Nat.le_refl _⟩ rfl (fun H locs k3007 hW hS => ?_)
      refine lv_istore (i := 5) (lv' := [(5, .int v3006), (0, .ref x0_3), (1, .ref x1_3), (2, .int x2_3), (3, .int x3_3), (4, .int x4_3)]) hx hb dX12_addsWave_19 hl (by decide) rfl (fun ls hl => ?_)
      refine lv_iload hx hb dX12_addsWave_21 (lv_at hl 0 rfl) ?_
      refine q_ifc hm (fun c3008 hm => ?_) (fun c3008 hm => ?_)
      · refine lv_if_ge (tgt := 29) hx hb dX12_addsWave_23 (by decide) (fun _ => ?_) (fun h => absurd c3008 h)
        refine lv_aload_n hx hb dX12_addsWave_29 rfl (lv_at hl 1 rfl) ?_
        refine lv_iload_n hx hb dX12_addsWave_30 rfl (lv_at hl 3 rfl) ?_
        refine lv_iload hx hb dX12_addsWave_31 (lv_at hl 5 rfl) ?_
        obtain ⟨v3010, hc3009, hm⟩ := q_b1i hm
        refine q_callV C hW hS (As := [.int x2_3, .int x4_3]) (rest := []) (st1 := [.int v3010]) (c_X12_signAt l D al dt x0_3 x2_3 x4_3 kx0_3 v3010 hc3009) yl_X12_signAt vl_X12_signAt ml_RX12_348 (ci := 12) rfl kx0_3 (by decide) rfl ⟨Nat.le_of_ble_eq_true rfl, Nat.le_of_ble_eq_true rfl⟩ hl rfl (Nat.le_of_ble_eq_true rfl) dX12_addsWave_33 ⟨Nat.le_refl _, Nat.le_refl _⟩ rfl (fun H locs k3011 hW hS => ?_)
        refine lv_iload_n hx hb dX12_addsWave_36 rfl (lv_at hl 4 rfl) ?_
        refine lv_imul hx hb dX12_addsWave_37 ?_
        refine lv_istore (i := 6) (lv' := [(6, .int (v3010 * x3_3)), (5, .int v3006), (0, .ref x0_3), (1, .ref x1_3), (2, .int x2_3), (3, .int x3_3), (4, .int x4_3)]) hx hb dX12_addsWave_38 hl (by decide) rfl (fun ls hl => ?_)
        refine lv_aload_n hx hb dX12_addsWave_40 rfl (lv_at hl 2 rfl) ?_
        refine r_getF C hW (ci := 12) kx0_3 ff_12_51 cl_12 fl_RX12_127 dX12_addsWave_41 (fun k3012 => ?_)
        refine lv_sipush (v := 512) hx hb dX12_addsWave_44 (by decide) ?_
        refine lv_iload_n hx hb dX12_addsWave_47 rfl (lv_at hl 4 rfl) ?_
        refine lv_imul hx hb dX12_addsWave_48 ?_
        refine lv_iload hx hb dX12_addsWave_49 (lv_at hl 1 rfl) ?_
        refine lv_iadd hx hb dX12_addsWave_51 ?_
        refine r_bald C hW hm k3012 dX12_addsWave_52 (fun hm => ?_)
        refine lv_iconst (v := 1) hx hb dX12_addsWave_53 (by decide) ?_
        refine q_ifc hm (fun c3013 hm => ?_) (fun c3013 hm => ?_)
        · refine lv_icmp_ne (tgt := 62) hx hb dX12_addsWave_54 (by decide) (fun h => absurd c3013 h) (fun _ => ?_)
          refine lv_iload hx hb dX12_addsWave_57 (lv_at hl 0 rfl) ?_
          refine lv_ineg hx hb dX12_addsWave_59 ?_
          refine lv_istore (i := 6) (lv' := [(6, .int (-(v3010 * x3_3))), (5, .int v3006), (0, .ref x0_3), (1, .ref x1_3), (2, .int x2_3), (3, .int x3_3), (4, .int x4_3)]) hx hb dX12_addsWave_60 hl (by decide) rfl (fun ls hl => ?_)
          exact hB62 x4_3 (-(v3010 * x3_3)) dt _ _ _ hm hW hS (lv_sub hl [2, 3, 4, 5, 6, 0] rfl)
        refine lv_icmp_ne (tgt := 62) hx hb dX12_addsWave_54 (by decide) (fun _ => ?_) (fun h => absurd h c3013)
        exact hB62 x4_3 (v3010 * x3_3) dt _ _ _ hm hW hS (lv_sub hl [2, 3, 4, 5, 6, 0] rfl)
      refine lv_if_ge (tgt := 29) hx hb dX12_addsWave_23 (by decide) (fun h => absurd h c3008) (fun _ => ?_)
      refine lv_goto (tgt := 187) hx hb dX12_addsWave_26 (by decide) ?_
      exact hB187 x4_3 dt _ _ _ hm hW hS (lv_sub hl [1, 2, 3, 4, 5] rfl)
  refine lv_iconst (v := 0) hx hb dX12_addsWave_0 (by decide) ?_
  refine lv_istore (i := 4) (lv' := [(4, .int 0), (0, .ref x0), (1, .ref x1), (2, .int x2), (3, .int x3)]) hx hb dX12_addsWave_1 hl (by decide) rfl (fun ls hl => ?_)
  exact hB3 x0 x1 x2 x3 kx0 kx1 q_FU 0 dt _ _ _ hm hW hS (lv_sub hl [1, 2, 3, 4, 0] rfl)
theorem dX12_mixed_0 : decode cX12_mixed 0 = .ok (.iload_n 0, 1) := by decide +kernel
theorem dX12_mixed_1 : decode cX12_mixed 1 = .ok (.iload_n 1, 1) := by decide +kernel
theorem dX12_mixed_2 : decode cX12_mixed 2 = .ok (.ixor, 1) := by decide +kernel
theorem dX12_mixed_3 : decode cX12_mixed 3 = .ok (.ldc_w 359, 3) := by decide +kernel
theorem dX12_mixed_6 : decode cX12_mixed 6 = .ok (.imul, 1) := by decide +kernel
theorem dX12_mixed_7 : decode cX12_mixed 7 = .ok (.sipush 12345, 3) := by decide +kernel
theorem dX12_mixed_10 : decode cX12_mixed 10 = .ok (.iadd, 1) := by decide +kernel
theorem dX12_mixed_11 : decode cX12_mixed 11 = .ok (.istore_n 2, 1) := by decide +kernel
theorem dX12_mixed_12 : decode cX12_mixed 12 = .ok (.iload_n 2, 1) := by decide +kernel
theorem dX12_mixed_13 : decode cX12_mixed 13 = .ok (.iload_n 2, 1) := by decide +kernel
theorem dX12_mixed_14 : decode cX12_mixed 14 = .ok (.bipush 15, 2) := by decide +kernel
theorem dX12_mixed_16 : decode cX12_mixed 16 = .ok (.iushr, 1) := by decide +kernel
theorem dX12_mixed_17 : decode cX12_mixed 17 = .ok (.ixor, 1) := by decide +kernel
theorem dX12_mixed_18 : decode cX12_mixed 18 = .ok (.ireturn, 1) := by decide +kernel
set_option maxRecDepth 100000 in
theorem c_X12_mixed (l : Launch) (D : q_D) (al : q_Al) (dt : q_Dt) (x0 : Int32) (x1 : Int32) (r0 : Int32) (hm : X12_mixed x0 x1 = some r0) : q_Mt l yX12_mixed cX12_mixed 3 (some FieldType.int) 0 0 D al [.int x0, .int x1] dt 0 (some (.int r0)) dt := by
  refine q_Mt.of (by decide) (Nat.le_of_ble_eq_true rfl) ?_
  intro p e s m args below meth c ls C hargs hW hl
  have hx := C.1
  have hb := C.2.1
  have hown := C.2.2.2.2.2.1
  have hts := C.2.2.2.2.2.2.1
  have hS : va_S (q_A al) s.heap s.heap [] := va_S.rf
  have hl : lv_has ls 3 [(0, .int x0), (1, .int x1)] := hl
  unfold X12_mixed at hm
  refine lv_iload_n hx hb dX12_mixed_0 rfl (lv_at hl 0 rfl) ?_
  refine lv_iload_n hx hb dX12_mixed_1 rfl (lv_at hl 1 rfl) ?_
  refine lv_ixor hx hb dX12_mixed_2 ?_
  refine lv_ldcw (own := RX12) (v := 1103515245) hx hb hown (hts _ wc_RX12_359) dX12_mixed_3 ?_
  refine lv_imul hx hb dX12_mixed_6 ?_
  refine lv_sipush (v := 12345) hx hb dX12_mixed_7 (by decide) ?_
  refine lv_iadd hx hb dX12_mixed_10 ?_
  refine lv_istore_n (i := 2) (lv' := [(2, .int (((x0 ^^^ x1) * 1103515245) + 12345)), (0, .int x0), (1, .int x1)]) hx hb dX12_mixed_11 rfl hl (by decide) rfl (fun ls hl => ?_)
  refine lv_iload_n hx hb dX12_mixed_12 rfl (lv_at hl 0 rfl) ?_
  refine lv_iload_n hx hb dX12_mixed_13 rfl (lv_at hl 0 rfl) ?_
  refine lv_bipush (v := 15) hx hb dX12_mixed_14 (by decide) ?_
  refine lv_iushr (v := (q_ushr (((x0 ^^^ x1) * 1103515245) + 12345) 15)) hx hb dX12_mixed_16 rfl ?_
  refine lv_ixor hx hb dX12_mixed_17 ?_
  exact e_i C hW hS hm dX12_mixed_18
theorem dX12_lot_0 : decode cX12_lot 0 = .ok (.iload_n 0, 1) := by decide +kernel
theorem dX12_lot_1 : decode cX12_lot 1 = .ok (.bipush 21, 2) := by decide +kernel
theorem dX12_lot_3 : decode cX12_lot 3 = .ok (.invokestatic 360, 3) := by decide +kernel
theorem dX12_lot_6 : decode cX12_lot 6 = .ok (.iload_n 1, 1) := by decide +kernel
theorem dX12_lot_7 : decode cX12_lot 7 = .ok (.invokestatic 360, 3) := by decide +kernel
theorem dX12_lot_10 : decode cX12_lot 10 = .ok (.iconst 1, 1) := by decide +kernel
theorem dX12_lot_11 : decode cX12_lot 11 = .ok (.iushr, 1) := by decide +kernel
theorem dX12_lot_12 : decode cX12_lot 12 = .ok (.iload_n 2, 1) := by decide +kernel
theorem dX12_lot_13 : decode cX12_lot 13 = .ok (.irem, 1) := by decide +kernel
theorem dX12_lot_14 : decode cX12_lot 14 = .ok (.ireturn, 1) := by decide +kernel
set_option maxRecDepth 100000 in
theorem c_X12_lot (l : Launch) (D : q_D) (al : q_Al) (dt : q_Dt) (x0 : Int32) (x1 : Int32) (x2 : Int32) (r0 : Int32) (hm : X12_lot x0 x1 x2 = some r0) : q_Mt l yX12_lot cX12_lot 3 (some FieldType.int) 1 22 D al [.int x0, .int x1, .int x2] dt 0 (some (.int r0)) dt := by
  refine q_Mt.of (by decide) (Nat.le_of_ble_eq_true rfl) ?_
  intro p e s m args below meth c ls C hargs hW hl
  have hx := C.1
  have hb := C.2.1
  have hown := C.2.2.2.2.2.1
  have hts := C.2.2.2.2.2.2.1
  have hS : va_S (q_A al) s.heap s.heap [] := va_S.rf
  have hl : lv_has ls 3 [(0, .int x0), (1, .int x1), (2, .int x2)] := hl
  unfold X12_lot at hm
  refine lv_iload_n hx hb dX12_lot_0 rfl (lv_at hl 0 rfl) ?_
  refine lv_bipush (v := 21) hx hb dX12_lot_1 (by decide) ?_
  obtain ⟨v1000002, hc1000001, hm⟩ := q_b1i hm
  refine q_callS C hW hS (As := [.int x0, .int 21]) (rest := []) (st1 := [.int v1000002]) (c_X12_mixed l D al dt x0 21 v1000002 hc1000001) yl_X12_mixed sl_X12_mixed ml_RX12_360 rfl ⟨Nat.le_of_ble_eq_true rfl, Nat.le_of_ble_eq_true rfl⟩ hl rfl (Nat.le_of_ble_eq_true rfl) dX12_lot_3 ⟨Nat.le_refl _, Nat.le_refl _⟩ rfl (fun H locs k1000003 hW hS => ?_)
  refine lv_iload_n hx hb dX12_lot_6 rfl (lv_at hl 1 rfl) ?_
  obtain ⟨v1000005, hc1000004, hm⟩ := q_b1i hm
  refine q_callS C hW hS (As := [.int v1000002, .int x1]) (rest := []) (st1 := [.int v1000005]) (c_X12_mixed l D al dt v1000002 x1 v1000005 hc1000004) yl_X12_mixed sl_X12_mixed ml_RX12_360 rfl ⟨Nat.le_of_ble_eq_true rfl, Nat.le_of_ble_eq_true rfl⟩ hl rfl (Nat.le_of_ble_eq_true rfl) dX12_lot_7 ⟨Nat.le_refl _, Nat.le_refl _⟩ rfl (fun H locs k1000006 hW hS => ?_)
  refine lv_iconst (v := 1) hx hb dX12_lot_10 (by decide) ?_
  refine lv_iushr (v := (q_ushr v1000005 1)) hx hb dX12_lot_11 rfl ?_
  refine lv_iload_n hx hb dX12_lot_12 rfl (lv_at hl 2 rfl) ?_
  obtain ⟨c1000007, hm⟩ := q_ini hm
  refine lv_irem hx hb dX12_lot_13 c1000007 ?_
  exact e_i C hW hS hm dX12_lot_14
theorem dX12_addsNoise_0 : decode cX12_addsNoise 0 = .ok (.iconst 0, 1) := by decide +kernel
theorem dX12_addsNoise_1 : decode cX12_addsNoise 1 = .ok (.istore_n 3, 1) := by decide +kernel
theorem dX12_addsNoise_2 : decode cX12_addsNoise 2 = .ok (.iload_n 3, 1) := by decide +kernel
theorem dX12_addsNoise_3 : decode cX12_addsNoise 3 = .ok (.aload_n 0, 1) := by decide +kernel
theorem dX12_addsNoise_4 : decode cX12_addsNoise 4 = .ok (.invokevirtual 342, 3) := by decide +kernel
theorem dX12_addsNoise_7 : decode cX12_addsNoise 7 = .ok (.if_icmp .ge 61, 3) := by decide +kernel
theorem dX12_addsNoise_10 : decode cX12_addsNoise 10 = .ok (.aload_n 0, 1) := by decide +kernel
theorem dX12_addsNoise_11 : decode cX12_addsNoise 11 = .ok (.getfield 133, 3) := by decide +kernel
theorem dX12_addsNoise_14 : decode cX12_addsNoise 14 = .ok (.iload_n 3, 1) := by decide +kernel
theorem dX12_addsNoise_15 : decode cX12_addsNoise 15 = .ok (.dup2, 1) := by decide +kernel
theorem dX12_addsNoise_16 : decode cX12_addsNoise 16 = .ok (.iaload, 1) := by decide +kernel
theorem dX12_addsNoise_17 : decode cX12_addsNoise 17 = .ok (.iload_n 2, 1) := by decide +kernel
theorem dX12_addsNoise_18 : decode cX12_addsNoise 18 = .ok (.iconst 2, 1) := by decide +kernel
theorem dX12_addsNoise_19 : decode cX12_addsNoise 19 = .ok (.iload_n 3, 1) := by decide +kernel
theorem dX12_addsNoise_20 : decode cX12_addsNoise 20 = .ok (.imul, 1) := by decide +kernel
theorem dX12_addsNoise_21 : decode cX12_addsNoise 21 = .ok (.iconst 2, 1) := by decide +kernel
theorem dX12_addsNoise_22 : decode cX12_addsNoise 22 = .ok (.iload_n 1, 1) := by decide +kernel
theorem dX12_addsNoise_23 : decode cX12_addsNoise 23 = .ok (.imul, 1) := by decide +kernel
theorem dX12_addsNoise_24 : decode cX12_addsNoise 24 = .ok (.iconst 1, 1) := by decide +kernel
theorem dX12_addsNoise_25 : decode cX12_addsNoise 25 = .ok (.iadd, 1) := by decide +kernel
theorem dX12_addsNoise_26 : decode cX12_addsNoise 26 = .ok (.invokestatic 363, 3) := by decide +kernel
theorem dX12_addsNoise_29 : decode cX12_addsNoise 29 = .ok (.iload_n 1, 1) := by decide +kernel
theorem dX12_addsNoise_30 : decode cX12_addsNoise 30 = .ok (.isub, 1) := by decide +kernel
theorem dX12_addsNoise_31 : decode cX12_addsNoise 31 = .ok (.iadd, 1) := by decide +kernel
theorem dX12_addsNoise_32 : decode cX12_addsNoise 32 = .ok (.iastore, 1) := by decide +kernel
theorem dX12_addsNoise_33 : decode cX12_addsNoise 33 = .ok (.aload_n 0, 1) := by decide +kernel
theorem dX12_addsNoise_34 : decode cX12_addsNoise 34 = .ok (.getfield 133, 3) := by decide +kernel
theorem dX12_addsNoise_37 : decode cX12_addsNoise 37 = .ok (.sipush 512, 3) := by decide +kernel
theorem dX12_addsNoise_40 : decode cX12_addsNoise 40 = .ok (.iload_n 3, 1) := by decide +kernel
theorem dX12_addsNoise_41 : decode cX12_addsNoise 41 = .ok (.iadd, 1) := by decide +kernel
theorem dX12_addsNoise_42 : decode cX12_addsNoise 42 = .ok (.dup2, 1) := by decide +kernel
theorem dX12_addsNoise_43 : decode cX12_addsNoise 43 = .ok (.iaload, 1) := by decide +kernel
theorem dX12_addsNoise_44 : decode cX12_addsNoise 44 = .ok (.iload_n 2, 1) := by decide +kernel
theorem dX12_addsNoise_45 : decode cX12_addsNoise 45 = .ok (.iconst 2, 1) := by decide +kernel
theorem dX12_addsNoise_46 : decode cX12_addsNoise 46 = .ok (.iload_n 3, 1) := by decide +kernel
theorem dX12_addsNoise_47 : decode cX12_addsNoise 47 = .ok (.imul, 1) := by decide +kernel
theorem dX12_addsNoise_48 : decode cX12_addsNoise 48 = .ok (.iconst 1, 1) := by decide +kernel
theorem dX12_addsNoise_49 : decode cX12_addsNoise 49 = .ok (.iadd, 1) := by decide +kernel
theorem dX12_addsNoise_50 : decode cX12_addsNoise 50 = .ok (.iconst 2, 1) := by decide +kernel
theorem dX12_addsNoise_51 : decode cX12_addsNoise 51 = .ok (.iload_n 1, 1) := by decide +kernel
theorem dX12_addsNoise_52 : decode cX12_addsNoise 52 = .ok (.imul, 1) := by decide +kernel
theorem dX12_addsNoise_53 : decode cX12_addsNoise 53 = .ok (.iconst 1, 1) := by decide +kernel
theorem dX12_addsNoise_54 : decode cX12_addsNoise 54 = .ok (.iadd, 1) := by decide +kernel
theorem dX12_addsNoise_55 : decode cX12_addsNoise 55 = .ok (.invokestatic 363, 3) := by decide +kernel
theorem dX12_addsNoise_58 : decode cX12_addsNoise 58 = .ok (.iload_n 1, 1) := by decide +kernel
theorem dX12_addsNoise_59 : decode cX12_addsNoise 59 = .ok (.isub, 1) := by decide +kernel
theorem dX12_addsNoise_60 : decode cX12_addsNoise 60 = .ok (.iadd, 1) := by decide +kernel
theorem dX12_addsNoise_61 : decode cX12_addsNoise 61 = .ok (.iastore, 1) := by decide +kernel
theorem dX12_addsNoise_62 : decode cX12_addsNoise 62 = .ok (.iinc 3 1, 3) := by decide +kernel
theorem dX12_addsNoise_65 : decode cX12_addsNoise 65 = .ok (.goto (-63), 3) := by decide +kernel
theorem dX12_addsNoise_68 : decode cX12_addsNoise 68 = .ok (.return_, 1) := by decide +kernel
set_option maxRecDepth 100000 in
theorem c_X12_addsNoise (l : Launch) (D : q_D) (al : q_Al) (dt : q_Dt) (x0 : Nat) (x1 : Int32) (x2 : Int32) (kx0 : al.1 x0 = 13) (dt0 : q_Dt) (hm : X12_addsNoise al dt x0 x1 x2 = some dt0) : q_Mt l yX12_addsNoise cX12_addsNoise 4 (none) 2 44 D al [.ref x0, .int x1, .int x2] dt 0 none dt0 := by
  refine q_Mt.of (by decide) (Nat.le_of_ble_eq_true rfl) ?_
  intro p e s m args below meth c ls C hargs hW hl
  have hx := C.1
  have hb := C.2.1
  have hown := C.2.2.2.2.2.1
  have hts := C.2.2.2.2.2.2.1
  have hS : va_S (q_A al) s.heap s.heap [] := va_S.rf
  have hl : lv_has ls 4 [(0, .ref x0), (1, .int x1), (2, .int x2)] := hl
  unfold X12_addsNoise at hm
  have hB2 : ∀ (x0_2 : Nat) (x1_2 : Int32) (x2_2 : Int32) (kx0_2 : al.1 x0_2 = 13) (n_2 : Nat) (x3_2 : Int32) (dt : q_Dt) (H : Heap) (locs : List Loc) (ls : Array Slot) (hm : X12_addsNoise_b2 al x0_2 x1_2 x2_2 n_2 x3_2 dt = some dt0) (hW : q_W D al dt H) (hS : va_S (q_A al) s.heap H locs) (hl : lv_has ls 4 [(0, .ref x0_2), (1, .int x1_2), (2, .int x2_2), (3, .int x3_2)]), W p l e { frames := 2, cells := 0, slots := 0, locals := 44 } s m args below meth c H locs 0 0 (MQ below (q_Q none (fun H => q_W D al dt0 H ∧ q_Rk al 0 none) (q_A al)) args s 0 0 (q_A al)) (F0 m 2 ls []) := by
    intro x0_2 x1_2 x2_2 kx0_2
    intro n_2
    induction n_2 with
    | zero => intro x3_2 dt H locs ls hm hW hS hl; cases hm
    | succ n_2 ih2 =>
      intro x3_2 dt H locs ls hm hW hS hl
      rw [X12_addsNoise_b2] at hm
      refine lv_iload_n hx hb dX12_addsNoise_2 rfl (lv_at hl 3 rfl) ?_
      refine lv_aload_n hx hb dX12_addsNoise_3 rfl (lv_at hl 0 rfl) ?_
      obtain ⟨v2002, hc2001, hm⟩ := q_b1i hm
      refine q_callV C hW hS (As := []) (rest := [.int x3_2]) (st1 := [.int v2002, .int x3_2]) (c_X12_n l D al dt x0_2 kx0_2 v2002 hc2001) yl_X12_n vl_X12_n ml_RX12_342 (ci := 12) rfl kx0_2 (by decide) rfl ⟨Nat.le_of_ble_eq_true rfl, Nat.le_of_ble_eq_true rfl⟩ hl rfl (Nat.le_of_ble_eq_true rfl) dX12_addsNoise_4 ⟨Nat.le_refl _, Nat.le_refl _⟩ rfl (fun H locs k2003 hW hS => ?_)
      refine q_ifc hm (fun c2004 hm => ?_) (fun c2004 hm => ?_)
      · refine lv_icmp_ge (tgt := 68) hx hb dX12_addsNoise_7 (by decide) (fun _ => ?_) (fun h => absurd c2004 h)
        exact e_vD C hW hS hm dX12_addsNoise_68
      refine lv_icmp_ge (tgt := 68) hx hb dX12_addsNoise_7 (by decide) (fun h => absurd h c2004) (fun _ => ?_)
      refine lv_aload_n hx hb dX12_addsNoise_10 rfl (lv_at hl 0 rfl) ?_
      refine r_getF C hW (ci := 12) kx0_2 ff_12_53 cl_12 fl_RX12_133 dX12_addsNoise_11 (fun k2005 => ?_)
      refine lv_iload_n hx hb dX12_addsNoise_14 rfl (lv_at hl 3 rfl) ?_
      refine lv_dup2_11 hx hb dX12_addsNoise_15 rfl rfl ?_
      refine r_iald C hW hm k2005 dX12_addsNoise_16 (fun hm => ?_)
      refine lv_iload_n hx hb dX12_addsNoise_17 rfl (lv_at hl 2 rfl) ?_
      refine lv_iconst (v := 2) hx hb dX12_addsNoise_18 (by decide) ?_
      refine lv_iload_n hx hb dX12_addsNoise_19 rfl (lv_at hl 3 rfl) ?_
      refine lv_imul hx hb dX12_addsNoise_20 ?_
      refine lv_iconst (v := 2) hx hb dX12_addsNoise_21 (by decide) ?_
      refine lv_iload_n hx hb dX12_addsNoise_22 rfl (lv_at hl 1 rfl) ?_
      refine lv_imul hx hb dX12_addsNoise_23 ?_
      refine lv_iconst (v := 1) hx hb dX12_addsNoise_24 (by decide) ?_
      refine lv_iadd hx hb dX12_addsNoise_25 ?_
      obtain ⟨v2007, hc2006, hm⟩ := q_b1i hm
      refine q_callS C hW hS (As := [.int x2_2, .int (2 * x3_2), .int ((2 * x1_2) + 1)]) (rest := [.int (dt.1 (al.2.2 x0_2 53) (Int32.toNatClampNeg x3_2)), .int x3_2, .ref (al.2.2 x0_2 53)]) (st1 := [.int v2007, .int (dt.1 (al.2.2 x0_2 53) (Int32.toNatClampNeg x3_2)), .int x3_2, .ref (al.2.2 x0_2 53)]) (c_X12_lot l D al dt x2_2 (2 * x3_2) ((2 * x1_2) + 1) v2007 hc2006) yl_X12_lot sl_X12_lot ml_RX12_363 rfl ⟨Nat.le_of_ble_eq_true rfl, Nat.le_of_ble_eq_true rfl⟩ hl rfl (Nat.le_of_ble_eq_true rfl) dX12_addsNoise_26 ⟨Nat.le_refl _, Nat.le_refl _⟩ rfl (fun H locs k2008 hW hS => ?_)
      refine lv_iload_n hx hb dX12_addsNoise_29 rfl (lv_at hl 1 rfl) ?_
      refine lv_isub hx hb dX12_addsNoise_30 ?_
      refine lv_iadd hx hb dX12_addsNoise_31 ?_
      refine r_iast C hW hS hm k2005 dX12_addsNoise_32 (fun dt2009 H locs hm hW hS => ?_)
      refine lv_aload_n hx hb dX12_addsNoise_33 rfl (lv_at hl 0 rfl) ?_
      refine r_getF C hW (ci := 12) kx0_2 ff_12_53 cl_12 fl_RX12_133 dX12_addsNoise_34 (fun k2010 => ?_)
      refine lv_sipush (v := 512) hx hb dX12_addsNoise_37 (by decide) ?_
      refine lv_iload_n hx hb dX12_addsNoise_40 rfl (lv_at hl 3 rfl) ?_
      refine lv_iadd hx hb dX12_addsNoise_41 ?_
      refine lv_dup2_11 hx hb dX12_addsNoise_42 rfl rfl ?_
      refine r_iald C hW hm k2010 dX12_addsNoise_43 (fun hm => ?_)
      refine lv_iload_n hx hb dX12_addsNoise_44 rfl (lv_at hl 2 rfl) ?_
      refine lv_iconst (v := 2) hx hb dX12_addsNoise_45 (by decide) ?_
      refine lv_iload_n hx hb dX12_addsNoise_46 rfl (lv_at hl 3 rfl) ?_
      refine lv_imul hx hb dX12_addsNoise_47 ?_
      refine lv_iconst (v := 1) hx hb dX12_addsNoise_48 (by decide) ?_
      refine lv_iadd hx hb dX12_addsNoise_49 ?_
      refine lv_iconst (v := 2) hx hb dX12_addsNoise_50 (by decide) ?_
      refine lv_iload_n hx hb dX12_addsNoise_51 rfl (lv_at hl 1 rfl) ?_
      refine lv_imul hx hb dX12_addsNoise_52 ?_
      refine lv_iconst (v := 1) hx hb dX12_addsNoise_53 (by decide) ?_
      refine lv_iadd hx hb dX12_addsNoise_54 ?_
      obtain ⟨v2012, hc2011, hm⟩ := q_b1i hm
      refine q_callS C hW hS (As := [.int x2_2, .int ((2 * x3_2) + 1), .int ((2 * x1_2) + 1)]) (rest := [.int (dt2009.1 (al.2.2 x0_2 53) (Int32.toNatClampNeg (512 + x3_2))), .int (512 + x3_2), .ref (al.2.2 x0_2 53)]) (st1 := [.int v2012, .int (dt2009.1 (al.2.2 x0_2 53) (Int32.toNatClampNeg (512 + x3_2))), .int (512 + x3_2), .ref (al.2.2 x0_2 53)]) (c_X12_lot l D al dt2009 x2_2 ((2 * x3_2) + 1) ((2 * x1_2) + 1) v2012 hc2011) yl_X12_lot sl_X12_lot ml_RX12_363 rfl ⟨Nat.le_of_ble_eq_true rfl, Nat.le_of_ble_eq_true rfl⟩ hl rfl (Nat.le_of_ble_eq_true rfl) dX12_addsNoise_55 ⟨Nat.le_refl _, Nat.le_refl _⟩ rfl (fun H locs k2013 hW hS => ?_)
      refine lv_iload_n hx hb dX12_addsNoise_58 rfl (lv_at hl 1 rfl) ?_
      refine lv_isub hx hb dX12_addsNoise_59 ?_
      refine lv_iadd hx hb dX12_addsNoise_60 ?_
      refine r_iast C hW hS hm k2010 dX12_addsNoise_61 (fun dt2014 H locs hm hW hS => ?_)
      refine lv_iinc (v := (x3_2 + 1)) (lv' := [(3, .int (x3_2 + 1)), (0, .ref x0_2), (1, .int x1_2), (2, .int x2_2)]) hx hb dX12_addsNoise_62 hl (k := 3) rfl rfl (by decide) rfl (fun ls hl => ?_)
      refine lv_goto (tgt := 2) hx hb dX12_addsNoise_65 (by decide) ?_
      exact ih2 (x3_2 + 1) dt2014 _ _ _ hm hW hS (lv_sub hl [1, 2, 3, 0] rfl)
  refine lv_iconst (v := 0) hx hb dX12_addsNoise_0 (by decide) ?_
  refine lv_istore_n (i := 3) (lv' := [(3, .int 0), (0, .ref x0), (1, .int x1), (2, .int x2)]) hx hb dX12_addsNoise_1 rfl hl (by decide) rfl (fun ls hl => ?_)
  exact hB2 x0 x1 x2 kx0 q_FU 0 dt _ _ _ hm hW hS (lv_sub hl [1, 2, 3, 0] rfl)
theorem dX12_lays_0 : decode cX12_lays 0 = .ok (.iconst 0, 1) := by decide +kernel
theorem dX12_lays_1 : decode cX12_lays 1 = .ok (.istore_n 1, 1) := by decide +kernel
theorem dX12_lays_2 : decode cX12_lays 2 = .ok (.iload_n 1, 1) := by decide +kernel
theorem dX12_lays_3 : decode cX12_lays 3 = .ok (.sipush 1024, 3) := by decide +kernel
theorem dX12_lays_6 : decode cX12_lays 6 = .ok (.if_icmp .ge 16, 3) := by decide +kernel
theorem dX12_lays_9 : decode cX12_lays 9 = .ok (.aload_n 0, 1) := by decide +kernel
theorem dX12_lays_10 : decode cX12_lays 10 = .ok (.getfield 133, 3) := by decide +kernel
theorem dX12_lays_13 : decode cX12_lays 13 = .ok (.iload_n 1, 1) := by decide +kernel
theorem dX12_lays_14 : decode cX12_lays 14 = .ok (.iconst 0, 1) := by decide +kernel
theorem dX12_lays_15 : decode cX12_lays 15 = .ok (.iastore, 1) := by decide +kernel
theorem dX12_lays_16 : decode cX12_lays 16 = .ok (.iinc 1 1, 3) := by decide +kernel
theorem dX12_lays_19 : decode cX12_lays 19 = .ok (.goto (-17), 3) := by decide +kernel
theorem dX12_lays_22 : decode cX12_lays 22 = .ok (.iconst 0, 1) := by decide +kernel
theorem dX12_lays_23 : decode cX12_lays 23 = .ok (.istore_n 1, 1) := by decide +kernel
theorem dX12_lays_24 : decode cX12_lays 24 = .ok (.iload_n 1, 1) := by decide +kernel
theorem dX12_lays_25 : decode cX12_lays 25 = .ok (.aload_n 0, 1) := by decide +kernel
theorem dX12_lays_26 : decode cX12_lays 26 = .ok (.getfield 70, 3) := by decide +kernel
theorem dX12_lays_29 : decode cX12_lays 29 = .ok (.aload_n 0, 1) := by decide +kernel
theorem dX12_lays_30 : decode cX12_lays 30 = .ok (.getfield 242, 3) := by decide +kernel
theorem dX12_lays_33 : decode cX12_lays 33 = .ok (.iaload, 1) := by decide +kernel
theorem dX12_lays_34 : decode cX12_lays 34 = .ok (.if_icmp .ge 24, 3) := by decide +kernel
theorem dX12_lays_37 : decode cX12_lays 37 = .ok (.aload_n 0, 1) := by decide +kernel
theorem dX12_lays_38 : decode cX12_lays 38 = .ok (.iload_n 1, 1) := by decide +kernel
theorem dX12_lays_39 : decode cX12_lays 39 = .ok (.invokevirtual 366, 3) := by decide +kernel
theorem dX12_lays_42 : decode cX12_lays 42 = .ok (.aload_n 0, 1) := by decide +kernel
theorem dX12_lays_43 : decode cX12_lays 43 = .ok (.aload_n 0, 1) := by decide +kernel
theorem dX12_lays_44 : decode cX12_lays 44 = .ok (.getfield 133, 3) := by decide +kernel
theorem dX12_lays_47 : decode cX12_lays 47 = .ok (.iload_n 1, 1) := by decide +kernel
theorem dX12_lays_48 : decode cX12_lays 48 = .ok (.iconst 1, 1) := by decide +kernel
theorem dX12_lays_49 : decode cX12_lays 49 = .ok (.invokevirtual 369, 3) := by decide +kernel
theorem dX12_lays_52 : decode cX12_lays 52 = .ok (.iinc 1 1, 3) := by decide +kernel
theorem dX12_lays_55 : decode cX12_lays 55 = .ok (.goto (-31), 3) := by decide +kernel
theorem dX12_lays_58 : decode cX12_lays 58 = .ok (.iconst 0, 1) := by decide +kernel
theorem dX12_lays_59 : decode cX12_lays 59 = .ok (.istore_n 1, 1) := by decide +kernel
theorem dX12_lays_60 : decode cX12_lays 60 = .ok (.iload_n 1, 1) := by decide +kernel
theorem dX12_lays_61 : decode cX12_lays 61 = .ok (.aload_n 0, 1) := by decide +kernel
theorem dX12_lays_62 : decode cX12_lays 62 = .ok (.getfield 103, 3) := by decide +kernel
theorem dX12_lays_65 : decode cX12_lays 65 = .ok (.aload_n 0, 1) := by decide +kernel
theorem dX12_lays_66 : decode cX12_lays 66 = .ok (.getfield 242, 3) := by decide +kernel
theorem dX12_lays_69 : decode cX12_lays 69 = .ok (.iaload, 1) := by decide +kernel
theorem dX12_lays_70 : decode cX12_lays 70 = .ok (.if_icmp .ge 70, 3) := by decide +kernel
theorem dX12_lays_73 : decode cX12_lays 73 = .ok (.iconst 4, 1) := by decide +kernel
theorem dX12_lays_74 : decode cX12_lays 74 = .ok (.aload_n 0, 1) := by decide +kernel
theorem dX12_lays_75 : decode cX12_lays 75 = .ok (.getfield 242, 3) := by decide +kernel
theorem dX12_lays_78 : decode cX12_lays 78 = .ok (.imul, 1) := by decide +kernel
theorem dX12_lays_79 : decode cX12_lays 79 = .ok (.iload_n 1, 1) := by decide +kernel
theorem dX12_lays_80 : decode cX12_lays 80 = .ok (.iadd, 1) := by decide +kernel
theorem dX12_lays_81 : decode cX12_lays 81 = .ok (.istore_n 2, 1) := by decide +kernel
theorem dX12_lays_82 : decode cX12_lays 82 = .ok (.aload_n 0, 1) := by decide +kernel
theorem dX12_lays_83 : decode cX12_lays 83 = .ok (.getfield 106, 3) := by decide +kernel
theorem dX12_lays_86 : decode cX12_lays 86 = .ok (.iload_n 2, 1) := by decide +kernel
theorem dX12_lays_87 : decode cX12_lays 87 = .ok (.iaload, 1) := by decide +kernel
theorem dX12_lays_88 : decode cX12_lays 88 = .ok (.istore_n 3, 1) := by decide +kernel
theorem dX12_lays_89 : decode cX12_lays 89 = .ok (.iload_n 3, 1) := by decide +kernel
theorem dX12_lays_90 : decode cX12_lays 90 = .ok (.aload_n 0, 1) := by decide +kernel
theorem dX12_lays_91 : decode cX12_lays 91 = .ok (.getfield 109, 3) := by decide +kernel
theorem dX12_lays_94 : decode cX12_lays 94 = .ok (.iload_n 2, 1) := by decide +kernel
theorem dX12_lays_95 : decode cX12_lays 95 = .ok (.iaload, 1) := by decide +kernel
theorem dX12_lays_96 : decode cX12_lays 96 = .ok (.if_icmp .gt 38, 3) := by decide +kernel
theorem dX12_lays_99 : decode cX12_lays 99 = .ok (.iload_n 3, 1) := by decide +kernel
theorem dX12_lays_100 : decode cX12_lays 100 = .ok (.aload_n 0, 1) := by decide +kernel
theorem dX12_lays_101 : decode cX12_lays 101 = .ok (.invokevirtual 342, 3) := by decide +kernel
theorem dX12_lays_104 : decode cX12_lays 104 = .ok (.if_icmp .ge 30, 3) := by decide +kernel
theorem dX12_lays_107 : decode cX12_lays 107 = .ok (.aload_n 0, 1) := by decide +kernel
theorem dX12_lays_108 : decode cX12_lays 108 = .ok (.getfield 133, 3) := by decide +kernel
theorem dX12_lays_111 : decode cX12_lays 111 = .ok (.iload_n 3, 1) := by decide +kernel
theorem dX12_lays_112 : decode cX12_lays 112 = .ok (.dup2, 1) := by decide +kernel
theorem dX12_lays_113 : decode cX12_lays 113 = .ok (.iaload, 1) := by decide +kernel
theorem dX12_lays_114 : decode cX12_lays 114 = .ok (.aload_n 0, 1) := by decide +kernel
theorem dX12_lays_115 : decode cX12_lays 115 = .ok (.getfield 112, 3) := by decide +kernel
theorem dX12_lays_118 : decode cX12_lays 118 = .ok (.iload_n 2, 1) := by decide +kernel
theorem dX12_lays_119 : decode cX12_lays 119 = .ok (.iaload, 1) := by decide +kernel
theorem dX12_lays_120 : decode cX12_lays 120 = .ok (.iadd, 1) := by decide +kernel
theorem dX12_lays_121 : decode cX12_lays 121 = .ok (.iastore, 1) := by decide +kernel
theorem dX12_lays_122 : decode cX12_lays 122 = .ok (.iload_n 3, 1) := by decide +kernel
theorem dX12_lays_123 : decode cX12_lays 123 = .ok (.aload_n 0, 1) := by decide +kernel
theorem dX12_lays_124 : decode cX12_lays 124 = .ok (.getfield 115, 3) := by decide +kernel
theorem dX12_lays_127 : decode cX12_lays 127 = .ok (.iload_n 2, 1) := by decide +kernel
theorem dX12_lays_128 : decode cX12_lays 128 = .ok (.iaload, 1) := by decide +kernel
theorem dX12_lays_129 : decode cX12_lays 129 = .ok (.iadd, 1) := by decide +kernel
theorem dX12_lays_130 : decode cX12_lays 130 = .ok (.istore_n 3, 1) := by decide +kernel
theorem dX12_lays_131 : decode cX12_lays 131 = .ok (.goto (-42), 3) := by decide +kernel
theorem dX12_lays_134 : decode cX12_lays 134 = .ok (.iinc 1 1, 3) := by decide +kernel
theorem dX12_lays_137 : decode cX12_lays 137 = .ok (.goto (-77), 3) := by decide +kernel
theorem dX12_lays_140 : decode cX12_lays 140 = .ok (.aload_n 0, 1) := by decide +kernel
theorem dX12_lays_141 : decode cX12_lays 141 = .ok (.getfield 118, 3) := by decide +kernel
theorem dX12_lays_144 : decode cX12_lays 144 = .ok (.aload_n 0, 1) := by decide +kernel
theorem dX12_lays_145 : decode cX12_lays 145 = .ok (.getfield 242, 3) := by decide +kernel
theorem dX12_lays_148 : decode cX12_lays 148 = .ok (.iaload, 1) := by decide +kernel
theorem dX12_lays_149 : decode cX12_lays 149 = .ok (.ifCond .le 25, 3) := by decide +kernel
theorem dX12_lays_152 : decode cX12_lays 152 = .ok (.aload_n 0, 1) := by decide +kernel
theorem dX12_lays_153 : decode cX12_lays 153 = .ok (.aload_n 0, 1) := by decide +kernel
theorem dX12_lays_154 : decode cX12_lays 154 = .ok (.getfield 118, 3) := by decide +kernel
theorem dX12_lays_157 : decode cX12_lays 157 = .ok (.aload_n 0, 1) := by decide +kernel
theorem dX12_lays_158 : decode cX12_lays 158 = .ok (.getfield 242, 3) := by decide +kernel
theorem dX12_lays_161 : decode cX12_lays 161 = .ok (.iaload, 1) := by decide +kernel
theorem dX12_lays_162 : decode cX12_lays 162 = .ok (.aload_n 0, 1) := by decide +kernel
theorem dX12_lays_163 : decode cX12_lays 163 = .ok (.getfield 121, 3) := by decide +kernel
theorem dX12_lays_166 : decode cX12_lays 166 = .ok (.aload_n 0, 1) := by decide +kernel
theorem dX12_lays_167 : decode cX12_lays 167 = .ok (.getfield 242, 3) := by decide +kernel
theorem dX12_lays_170 : decode cX12_lays 170 = .ok (.iaload, 1) := by decide +kernel
theorem dX12_lays_171 : decode cX12_lays 171 = .ok (.invokevirtual 373, 3) := by decide +kernel
theorem dX12_lays_174 : decode cX12_lays 174 = .ok (.return_, 1) := by decide +kernel
set_option maxRecDepth 100000 in
theorem c_X12_lays (l : Launch) (D : q_D) (al : q_Al) (dt : q_Dt) (x0 : Nat) (kx0 : al.1 x0 = 13) (dt0 : q_Dt) (hm : X12_lays al dt x0 = some dt0) : q_Mt l yX12_lays cX12_lays 4 (none) 4 97 D al [.ref x0] dt 0 none dt0 := by
  refine q_Mt.of (by decide) (Nat.le_of_ble_eq_true rfl) ?_
  intro p e s m args below meth c ls C hargs hW hl
  have hx := C.1
  have hb := C.2.1
  have hown := C.2.2.2.2.2.1
  have hts := C.2.2.2.2.2.2.1
  have hS : va_S (q_A al) s.heap s.heap [] := va_S.rf
  have hl : lv_has ls 4 [(0, .ref x0)] := hl
  unfold X12_lays at hm
  have hB60 : ∀ (x0_60 : Nat) (kx0_60 : al.1 x0_60 = 13) (n_60 : Nat) (x1_60 : Int32) (dt : q_Dt) (H : Heap) (locs : List Loc) (ls : Array Slot) (hm : X12_lays_b60 al x0_60 n_60 x1_60 dt = some dt0) (hW : q_W D al dt H) (hS : va_S (q_A al) s.heap H locs) (hl : lv_has ls 4 [(0, .ref x0_60), (1, .int x1_60)]), W p l e { frames := 4, cells := 0, slots := 0, locals := 97 } s m args below meth c H locs 0 0 (MQ below (q_Q none (fun H => q_W D al dt0 H ∧ q_Rk al 0 none) (q_A al)) args s 0 0 (q_A al)) (F0 m 60 ls []) := by
    intro x0_60 kx0_60
    intro n_60
    induction n_60 with
    | zero => intro x1_60 dt H locs ls hm hW hS hl; cases hm
    | succ n_60 ih60 =>
      have hB134 : ∀ (x1_134 : Int32) (dt : q_Dt) (H : Heap) (locs : List Loc) (ls : Array Slot) (hm : X12_lays_b134 al (X12_lays_b60 al x0_60 n_60) x0_60 x1_134 dt = some dt0) (hW : q_W D al dt H) (hS : va_S (q_A al) s.heap H locs) (hl : lv_has ls 4 [(0, .ref x0_60), (1, .int x1_134)]), W p l e { frames := 4, cells := 0, slots := 0, locals := 97 } s m args below meth c H locs 0 0 (MQ below (q_Q none (fun H => q_W D al dt0 H ∧ q_Rk al 0 none) (q_A al)) args s 0 0 (q_A al)) (F0 m 134 ls []) := by
        intro x1_134 dt H locs ls hm hW hS hl
        unfold X12_lays_b134 at hm
        refine lv_iinc (v := (x1_134 + 1)) (lv' := [(1, .int (x1_134 + 1)), (0, .ref x0_60)]) hx hb dX12_lays_134 hl (k := 1) rfl rfl (by decide) rfl (fun ls hl => ?_)
        refine lv_goto (tgt := 60) hx hb dX12_lays_137 (by decide) ?_
        exact ih60 (x1_134 + 1) dt _ _ _ hm hW hS (lv_sub hl [1, 0] rfl)
      have hB89 : ∀ (x1_89 : Int32) (x2_89 : Int32) (n_89 : Nat) (x3_89 : Int32) (dt : q_Dt) (H : Heap) (locs : List Loc) (ls : Array Slot) (hm : X12_lays_b89 al (X12_lays_b60 al x0_60 n_60) x0_60 x1_89 x2_89 n_89 x3_89 dt = some dt0) (hW : q_W D al dt H) (hS : va_S (q_A al) s.heap H locs) (hl : lv_has ls 4 [(0, .ref x0_60), (1, .int x1_89), (2, .int x2_89), (3, .int x3_89)]), W p l e { frames := 4, cells := 0, slots := 0, locals := 97 } s m args below meth c H locs 0 0 (MQ below (q_Q none (fun H => q_W D al dt0 H ∧ q_Rk al 0 none) (q_A al)) args s 0 0 (q_A al)) (F0 m 89 ls []) := by
        intro x1_89 x2_89
        intro n_89
        induction n_89 with
        | zero => intro x3_89 dt H locs ls hm hW hS hl; cases hm
        | succ n_89 ih89 =>
          intro x3_89 dt H locs ls hm hW hS hl
          rw [X12_lays_b89] at hm
          refine lv_iload_n hx hb dX12_lays_89 rfl (lv_at hl 3 rfl) ?_
          refine lv_aload_n hx hb dX12_lays_90 rfl (lv_at hl 0 rfl) ?_
          refine r_getF C hW (ci := 12) kx0_60 ff_12_44 cl_12 fl_RX12_109 dX12_lays_91 (fun k89001 => ?_)
          refine lv_iload_n hx hb dX12_lays_94 rfl (lv_at hl 2 rfl) ?_
          refine r_iald C hW hm k89001 dX12_lays_95 (fun hm => ?_)
          refine q_ifc hm (fun c89002 hm => ?_) (fun c89002 hm => ?_)
          · refine lv_icmp_gt (tgt := 134) hx hb dX12_lays_96 (by decide) (fun _ => ?_) (fun h => absurd c89002 h)
            exact hB134 x1_89 dt _ _ _ hm hW hS (lv_sub hl [0, 1] rfl)
          refine lv_icmp_gt (tgt := 134) hx hb dX12_lays_96 (by decide) (fun h => absurd h c89002) (fun _ => ?_)
          refine lv_iload_n hx hb dX12_lays_99 rfl (lv_at hl 3 rfl) ?_
          refine lv_aload_n hx hb dX12_lays_100 rfl (lv_at hl 0 rfl) ?_
          obtain ⟨v89004, hc89003, hm⟩ := q_b1i hm
          refine q_callV C hW hS (As := []) (rest := [.int x3_89]) (st1 := [.int v89004, .int x3_89]) (c_X12_n l D al dt x0_60 kx0_60 v89004 hc89003) yl_X12_n vl_X12_n ml_RX12_342 (ci := 12) rfl kx0_60 (by decide) rfl ⟨Nat.le_of_ble_eq_true rfl, Nat.le_of_ble_eq_true rfl⟩ hl rfl (Nat.le_of_ble_eq_true rfl) dX12_lays_101 ⟨Nat.le_refl _, Nat.le_refl _⟩ rfl (fun H locs k89005 hW hS => ?_)
          refine q_ifc hm (fun c89006 hm => ?_) (fun c89006 hm => ?_)
          · refine lv_icmp_ge (tgt := 134) hx hb dX12_lays_104 (by decide) (fun _ => ?_) (fun h => absurd c89006 h)
            exact hB134 x1_89 dt _ _ _ hm hW hS (lv_sub hl [0, 1] rfl)
          refine lv_icmp_ge (tgt := 134) hx hb dX12_lays_104 (by decide) (fun h => absurd h c89006) (fun _ => ?_)
          refine lv_aload_n hx hb dX12_lays_107 rfl (lv_at hl 0 rfl) ?_
          refine r_getF C hW (ci := 12) kx0_60 ff_12_53 cl_12 fl_RX12_133 dX12_lays_108 (fun k89007 => ?_)
          refine lv_iload_n hx hb dX12_lays_111 rfl (lv_at hl 3 rfl) ?_
          refine lv_dup2_11 hx hb dX12_lays_112 rfl rfl ?_
          refine r_iald C hW hm k89007 dX12_lays_113 (fun hm => ?_)
          refine lv_aload_n hx hb dX12_lays_114 rfl (lv_at hl 0 rfl) ?_
          refine r_getF C hW (ci := 12) kx0_60 ff_12_45 cl_12 fl_RX12_112 dX12_lays_115 (fun k89008 => ?_)
          refine lv_iload_n hx hb dX12_lays_118 rfl (lv_at hl 2 rfl) ?_
          refine r_iald C hW hm k89008 dX12_lays_119 (fun hm => ?_)
          refine lv_iadd hx hb dX12_lays_120 ?_
          refine r_iast C hW hS hm k89007 dX12_lays_121 (fun dt89009 H locs hm hW hS => ?_)
          refine lv_iload_n hx hb dX12_lays_122 rfl (lv_at hl 3 rfl) ?_
          refine lv_aload_n hx hb dX12_lays_123 rfl (lv_at hl 0 rfl) ?_
          refine r_getF C hW (ci := 12) kx0_60 ff_12_46 cl_12 fl_RX12_115 dX12_lays_124 (fun k89010 => ?_)
          refine lv_iload_n hx hb dX12_lays_127 rfl (lv_at hl 2 rfl) ?_
          refine r_iald C hW hm k89010 dX12_lays_128 (fun hm => ?_)
          refine lv_iadd hx hb dX12_lays_129 ?_
          refine q_nmI hm (fun v89011 ev89011 hm => ?_)
          refine lv_istore_n (i := 3) (lv' := [(3, .int v89011), (0, .ref x0_60), (1, .int x1_89), (2, .int x2_89)]) hx hb dX12_lays_130 rfl hl (by decide) rfl (fun ls hl => ?_)
          refine lv_goto (tgt := 89) hx hb dX12_lays_131 (by decide) ?_
          exact ih89 v89011 dt89009 _ _ _ hm hW hS (lv_sub hl [1, 2, 3, 0] rfl)
      intro x1_60 dt H locs ls hm hW hS hl
      rw [X12_lays_b60] at hm
      refine lv_iload_n hx hb dX12_lays_60 rfl (lv_at hl 1 rfl) ?_
      refine lv_aload_n hx hb dX12_lays_61 rfl (lv_at hl 0 rfl) ?_
      refine r_getF C hW (ci := 12) kx0_60 ff_12_42 cl_12 fl_RX12_103 dX12_lays_62 (fun k60001 => ?_)
      refine lv_aload_n hx hb dX12_lays_65 rfl (lv_at hl 0 rfl) ?_
      refine r_getI C hW (ci := 12) kx0_60 ff_12_18 cl_12 fl_RX12_242 dX12_lays_66 ?_
      refine r_iald C hW hm k60001 dX12_lays_69 (fun hm => ?_)
      refine q_ifc hm (fun c60002 hm => ?_) (fun c60002 hm => ?_)
      · refine lv_icmp_ge (tgt := 140) hx hb dX12_lays_70 (by decide) (fun _ => ?_) (fun h => absurd c60002 h)
        refine lv_aload_n hx hb dX12_lays_140 rfl (lv_at hl 0 rfl) ?_
        refine r_getF C hW (ci := 12) kx0_60 ff_12_47 cl_12 fl_RX12_118 dX12_lays_141 (fun k60003 => ?_)
        refine lv_aload_n hx hb dX12_lays_144 rfl (lv_at hl 0 rfl) ?_
        refine r_getI C hW (ci := 12) kx0_60 ff_12_18 cl_12 fl_RX12_242 dX12_lays_145 ?_
        refine r_iald C hW hm k60003 dX12_lays_148 (fun hm => ?_)
        refine q_ifc hm (fun c60004 hm => ?_) (fun c60004 hm => ?_)
        · refine lv_if_le (tgt := 174) hx hb dX12_lays_149 (by decide) (fun _ => ?_) (fun h => absurd c60004 h)
          exact e_vD C hW hS hm dX12_lays_174
        refine lv_if_le (tgt := 174) hx hb dX12_lays_149 (by decide) (fun h => absurd h c60004) (fun _ => ?_)
        refine lv_aload_n hx hb dX12_lays_152 rfl (lv_at hl 0 rfl) ?_
        refine lv_aload_n hx hb dX12_lays_153 rfl (lv_at hl 0 rfl) ?_
        refine r_getF C hW (ci := 12) kx0_60 ff_12_47 cl_12 fl_RX12_118 dX12_lays_154 (fun k60005 => ?_)
        refine lv_aload_n hx hb dX12_lays_157 rfl (lv_at hl 0 rfl) ?_
        refine r_getI C hW (ci := 12) kx0_60 ff_12_18 cl_12 fl_RX12_242 dX12_lays_158 ?_
        refine r_iald C hW hm k60005 dX12_lays_161 (fun hm => ?_)
        refine lv_aload_n hx hb dX12_lays_162 rfl (lv_at hl 0 rfl) ?_
        refine r_getF C hW (ci := 12) kx0_60 ff_12_48 cl_12 fl_RX12_121 dX12_lays_163 (fun k60006 => ?_)
        refine lv_aload_n hx hb dX12_lays_166 rfl (lv_at hl 0 rfl) ?_
        refine r_getI C hW (ci := 12) kx0_60 ff_12_18 cl_12 fl_RX12_242 dX12_lays_167 ?_
        refine r_iald C hW hm k60006 dX12_lays_170 (fun hm => ?_)
        obtain ⟨dt60008, hc60007, hm⟩ := q_b1i hm
        refine q_callV C hW hS (As := [.int (dt.1 (al.2.2 x0_60 47) (Int32.toNatClampNeg (dt.1 x0_60 18))), .int (dt.1 (al.2.2 x0_60 48) (Int32.toNatClampNeg (dt.1 x0_60 18)))]) (rest := []) (st1 := []) (c_X12_addsNoise l D al dt x0_60 (dt.1 (al.2.2 x0_60 47) (Int32.toNatClampNeg (dt.1 x0_60 18))) (dt.1 (al.2.2 x0_60 48) (Int32.toNatClampNeg (dt.1 x0_60 18))) kx0_60 dt60008 hc60007) yl_X12_addsNoise vl_X12_addsNoise ml_RX12_373 (ci := 12) rfl kx0_60 (by decide) rfl ⟨Nat.le_of_ble_eq_true rfl, Nat.le_of_ble_eq_true rfl⟩ hl rfl (Nat.le_of_ble_eq_true rfl) dX12_lays_171 ⟨Nat.le_refl _, Nat.le_refl _⟩ rfl (fun H locs k60009 hW hS => ?_)
        exact e_vD C hW hS hm dX12_lays_174
      refine lv_icmp_ge (tgt := 140) hx hb dX12_lays_70 (by decide) (fun h => absurd h c60002) (fun _ => ?_)
      refine lv_iconst (v := 4) hx hb dX12_lays_73 (by decide) ?_
      refine lv_aload_n hx hb dX12_lays_74 rfl (lv_at hl 0 rfl) ?_
      refine r_getI C hW (ci := 12) kx0_60 ff_12_18 cl_12 fl_RX12_242 dX12_lays_75 ?_
      refine lv_imul hx hb dX12_lays_78 ?_
      refine lv_iload_n hx hb dX12_lays_79 rfl (lv_at hl 1 rfl) ?_
      refine lv_iadd hx hb dX12_lays_80 ?_
      refine lv_istore_n (i := 2) (lv' := [(2, .int ((4 * (dt.1 x0_60 18)) + x1_60)), (0, .ref x0_60), (1, .int x1_60)]) hx hb dX12_lays_81 rfl hl (by decide) rfl (fun ls hl => ?_)
      refine lv_aload_n hx hb dX12_lays_82 rfl (lv_at hl 1 rfl) ?_
      refine r_getF C hW (ci := 12) kx0_60 ff_12_43 cl_12 fl_RX12_106 dX12_lays_83 (fun k60010 => ?_)
      refine lv_iload_n hx hb dX12_lays_86 rfl (lv_at hl 0 rfl) ?_
      refine r_iald C hW hm k60010 dX12_lays_87 (fun hm => ?_)
      refine q_nmI hm (fun v60011 ev60011 hm => ?_)
      refine lv_istore_n (i := 3) (lv' := [(3, .int v60011), (2, .int ((4 * (dt.1 x0_60 18)) + x1_60)), (0, .ref x0_60), (1, .int x1_60)]) hx hb dX12_lays_88 rfl hl (by decide) rfl (fun ls hl => ?_)
      exact hB89 x1_60 ((4 * (dt.1 x0_60 18)) + x1_60) q_FU v60011 dt _ _ _ hm hW hS (lv_sub hl [2, 3, 1, 0] rfl)
  have hB24 : ∀ (x0_24 : Nat) (kx0_24 : al.1 x0_24 = 13) (n_24 : Nat) (x1_24 : Int32) (dt : q_Dt) (H : Heap) (locs : List Loc) (ls : Array Slot) (hm : X12_lays_b24 al x0_24 n_24 x1_24 dt = some dt0) (hW : q_W D al dt H) (hS : va_S (q_A al) s.heap H locs) (hl : lv_has ls 4 [(0, .ref x0_24), (1, .int x1_24)]), W p l e { frames := 4, cells := 0, slots := 0, locals := 97 } s m args below meth c H locs 0 0 (MQ below (q_Q none (fun H => q_W D al dt0 H ∧ q_Rk al 0 none) (q_A al)) args s 0 0 (q_A al)) (F0 m 24 ls []) := by
    intro x0_24 kx0_24
    intro n_24
    induction n_24 with
    | zero => intro x1_24 dt H locs ls hm hW hS hl; cases hm
    | succ n_24 ih24 =>
      intro x1_24 dt H locs ls hm hW hS hl
      rw [X12_lays_b24] at hm
      refine lv_iload_n hx hb dX12_lays_24 rfl (lv_at hl 1 rfl) ?_
      refine lv_aload_n hx hb dX12_lays_25 rfl (lv_at hl 0 rfl) ?_
      refine r_getF C hW (ci := 12) kx0_24 ff_12_31 cl_12 fl_RX12_70 dX12_lays_26 (fun k24001 => ?_)
      refine lv_aload_n hx hb dX12_lays_29 rfl (lv_at hl 0 rfl) ?_
      refine r_getI C hW (ci := 12) kx0_24 ff_12_18 cl_12 fl_RX12_242 dX12_lays_30 ?_
      refine r_iald C hW hm k24001 dX12_lays_33 (fun hm => ?_)
      refine q_ifc hm (fun c24002 hm => ?_) (fun c24002 hm => ?_)
      · refine lv_icmp_ge (tgt := 58) hx hb dX12_lays_34 (by decide) (fun _ => ?_) (fun h => absurd c24002 h)
        refine lv_iconst (v := 0) hx hb dX12_lays_58 (by decide) ?_
        refine lv_istore_n (i := 1) (lv' := [(1, .int 0), (0, .ref x0_24)]) hx hb dX12_lays_59 rfl hl (by decide) rfl (fun ls hl => ?_)
        exact hB60 x0_24 kx0_24 q_FU 0 dt _ _ _ hm hW hS (lv_sub hl [1, 0] rfl)
      refine lv_icmp_ge (tgt := 58) hx hb dX12_lays_34 (by decide) (fun h => absurd h c24002) (fun _ => ?_)
      refine lv_aload_n hx hb dX12_lays_37 rfl (lv_at hl 0 rfl) ?_
      refine lv_iload_n hx hb dX12_lays_38 rfl (lv_at hl 1 rfl) ?_
      obtain ⟨dt24004, hc24003, hm⟩ := q_b1i hm
      refine q_callV C hW hS (As := [.int x1_24]) (rest := []) (st1 := []) (c_X12_laysData l D al dt x0_24 x1_24 kx0_24 dt24004 hc24003) yl_X12_laysData vl_X12_laysData ml_RX12_366 (ci := 12) rfl kx0_24 (by decide) rfl ⟨Nat.le_of_ble_eq_true rfl, Nat.le_of_ble_eq_true rfl⟩ hl rfl (Nat.le_of_ble_eq_true rfl) dX12_lays_39 ⟨Nat.le_refl _, Nat.le_refl _⟩ rfl (fun H locs k24005 hW hS => ?_)
      refine lv_aload_n hx hb dX12_lays_42 rfl (lv_at hl 0 rfl) ?_
      refine lv_aload_n hx hb dX12_lays_43 rfl (lv_at hl 0 rfl) ?_
      refine r_getF C hW (ci := 12) kx0_24 ff_12_53 cl_12 fl_RX12_133 dX12_lays_44 (fun k24006 => ?_)
      refine lv_iload_n hx hb dX12_lays_47 rfl (lv_at hl 1 rfl) ?_
      refine lv_iconst (v := 1) hx hb dX12_lays_48 (by decide) ?_
      obtain ⟨dt24008, hc24007, hm⟩ := q_b1i hm
      refine q_callV C hW hS (As := [.ref (al.2.2 x0_24 53), .int x1_24, .int 1]) (rest := []) (st1 := []) (c_X12_addsWave l D al dt24004 x0_24 (al.2.2 x0_24 53) x1_24 1 kx0_24 k24006 dt24008 hc24007) yl_X12_addsWave vl_X12_addsWave ml_RX12_369 (ci := 12) rfl kx0_24 (by decide) rfl ⟨Nat.le_of_ble_eq_true rfl, Nat.le_of_ble_eq_true rfl⟩ hl rfl (Nat.le_of_ble_eq_true rfl) dX12_lays_49 ⟨Nat.le_refl _, Nat.le_refl _⟩ rfl (fun H locs k24009 hW hS => ?_)
      refine lv_iinc (v := (x1_24 + 1)) (lv' := [(1, .int (x1_24 + 1)), (0, .ref x0_24)]) hx hb dX12_lays_52 hl (k := 1) rfl rfl (by decide) rfl (fun ls hl => ?_)
      refine lv_goto (tgt := 24) hx hb dX12_lays_55 (by decide) ?_
      exact ih24 (x1_24 + 1) dt24008 _ _ _ hm hW hS (lv_sub hl [1, 0] rfl)
  have hB2 : ∀ (x0_2 : Nat) (kx0_2 : al.1 x0_2 = 13) (n_2 : Nat) (x1_2 : Int32) (dt : q_Dt) (H : Heap) (locs : List Loc) (ls : Array Slot) (hm : X12_lays_b2 al x0_2 n_2 x1_2 dt = some dt0) (hW : q_W D al dt H) (hS : va_S (q_A al) s.heap H locs) (hl : lv_has ls 4 [(0, .ref x0_2), (1, .int x1_2)]), W p l e { frames := 4, cells := 0, slots := 0, locals := 97 } s m args below meth c H locs 0 0 (MQ below (q_Q none (fun H => q_W D al dt0 H ∧ q_Rk al 0 none) (q_A al)) args s 0 0 (q_A al)) (F0 m 2 ls []) := by
    intro x0_2 kx0_2
    intro n_2
    induction n_2 with
    | zero => intro x1_2 dt H locs ls hm hW hS hl; cases hm
    | succ n_2 ih2 =>
      intro x1_2 dt H locs ls hm hW hS hl
      rw [X12_lays_b2] at hm
      refine lv_iload_n hx hb dX12_lays_2 rfl (lv_at hl 1 rfl) ?_
      refine lv_sipush (v := 1024) hx hb dX12_lays_3 (by decide) ?_
      refine q_ifc hm (fun c2001 hm => ?_) (fun c2001 hm => ?_)
      · refine lv_icmp_ge (tgt := 22) hx hb dX12_lays_6 (by decide) (fun _ => ?_) (fun h => absurd c2001 h)
        refine lv_iconst (v := 0) hx hb dX12_lays_22 (by decide) ?_
        refine lv_istore_n (i := 1) (lv' := [(1, .int 0), (0, .ref x0_2)]) hx hb dX12_lays_23 rfl hl (by decide) rfl (fun ls hl => ?_)
        exact hB24 x0_2 kx0_2 q_FU 0 dt _ _ _ hm hW hS (lv_sub hl [1, 0] rfl)
      refine lv_icmp_ge (tgt := 22) hx hb dX12_lays_6 (by decide) (fun h => absurd h c2001) (fun _ => ?_)
      refine lv_aload_n hx hb dX12_lays_9 rfl (lv_at hl 0 rfl) ?_
      refine r_getF C hW (ci := 12) kx0_2 ff_12_53 cl_12 fl_RX12_133 dX12_lays_10 (fun k2002 => ?_)
      refine lv_iload_n hx hb dX12_lays_13 rfl (lv_at hl 1 rfl) ?_
      refine lv_iconst (v := 0) hx hb dX12_lays_14 (by decide) ?_
      refine r_iast C hW hS hm k2002 dX12_lays_15 (fun dt2003 H locs hm hW hS => ?_)
      refine lv_iinc (v := (x1_2 + 1)) (lv' := [(1, .int (x1_2 + 1)), (0, .ref x0_2)]) hx hb dX12_lays_16 hl (k := 1) rfl rfl (by decide) rfl (fun ls hl => ?_)
      refine lv_goto (tgt := 2) hx hb dX12_lays_19 (by decide) ?_
      exact ih2 (x1_2 + 1) dt2003 _ _ _ hm hW hS (lv_sub hl [1, 0] rfl)
  refine lv_iconst (v := 0) hx hb dX12_lays_0 (by decide) ?_
  refine lv_istore_n (i := 1) (lv' := [(1, .int 0), (0, .ref x0)]) hx hb dX12_lays_1 rfl hl (by decide) rfl (fun ls hl => ?_)
  exact hB2 x0 kx0 q_FU 0 dt _ _ _ hm hW hS (lv_sub hl [1, 0] rfl)
theorem dX12_read_0 : decode cX12_read 0 = .ok (.aload_n 0, 1) := by decide +kernel
theorem dX12_read_1 : decode cX12_read 1 = .ok (.aload_n 0, 1) := by decide +kernel
theorem dX12_read_2 : decode cX12_read 2 = .ok (.getfield 174, 3) := by decide +kernel
theorem dX12_read_5 : decode cX12_read 5 = .ok (.putfield 181, 3) := by decide +kernel
theorem dX12_read_8 : decode cX12_read 8 = .ok (.iconst 0, 1) := by decide +kernel
theorem dX12_read_9 : decode cX12_read 9 = .ok (.istore_n 1, 1) := by decide +kernel
theorem dX12_read_10 : decode cX12_read 10 = .ok (.iload_n 1, 1) := by decide +kernel
theorem dX12_read_11 : decode cX12_read 11 = .ok (.aload_n 0, 1) := by decide +kernel
theorem dX12_read_12 : decode cX12_read 12 = .ok (.getfield 181, 3) := by decide +kernel
theorem dX12_read_15 : decode cX12_read 15 = .ok (.if_icmp .ge 21, 3) := by decide +kernel
theorem dX12_read_18 : decode cX12_read 18 = .ok (.aload_n 0, 1) := by decide +kernel
theorem dX12_read_19 : decode cX12_read 19 = .ok (.getfield 17, 3) := by decide +kernel
theorem dX12_read_22 : decode cX12_read 22 = .ok (.iload_n 1, 1) := by decide +kernel
theorem dX12_read_23 : decode cX12_read 23 = .ok (.aload_n 0, 1) := by decide +kernel
theorem dX12_read_24 : decode cX12_read 24 = .ok (.getfield 13, 3) := by decide +kernel
theorem dX12_read_27 : decode cX12_read 27 = .ok (.iload_n 1, 1) := by decide +kernel
theorem dX12_read_28 : decode cX12_read 28 = .ok (.baload, 1) := by decide +kernel
theorem dX12_read_29 : decode cX12_read 29 = .ok (.bastore, 1) := by decide +kernel
theorem dX12_read_30 : decode cX12_read 30 = .ok (.iinc 1 1, 3) := by decide +kernel
theorem dX12_read_33 : decode cX12_read 33 = .ok (.goto (-23), 3) := by decide +kernel
theorem dX12_read_36 : decode cX12_read 36 = .ok (.aload_n 0, 1) := by decide +kernel
theorem dX12_read_37 : decode cX12_read 37 = .ok (.iconst 0, 1) := by decide +kernel
theorem dX12_read_38 : decode cX12_read 38 = .ok (.putfield 174, 3) := by decide +kernel
theorem dX12_read_41 : decode cX12_read 41 = .ok (.aload_n 0, 1) := by decide +kernel
theorem dX12_read_42 : decode cX12_read 42 = .ok (.invokevirtual 236, 3) := by decide +kernel
theorem dX12_read_45 : decode cX12_read 45 = .ok (.aload_n 0, 1) := by decide +kernel
theorem dX12_read_46 : decode cX12_read 46 = .ok (.iconst 0, 1) := by decide +kernel
theorem dX12_read_47 : decode cX12_read 47 = .ok (.putfield 215, 3) := by decide +kernel
theorem dX12_read_50 : decode cX12_read 50 = .ok (.aload_n 0, 1) := by decide +kernel
theorem dX12_read_51 : decode cX12_read 51 = .ok (.iconst 0, 1) := by decide +kernel
theorem dX12_read_52 : decode cX12_read 52 = .ok (.putfield 239, 3) := by decide +kernel
theorem dX12_read_55 : decode cX12_read 55 = .ok (.aload_n 0, 1) := by decide +kernel
theorem dX12_read_56 : decode cX12_read 56 = .ok (.iconst 0, 1) := by decide +kernel
theorem dX12_read_57 : decode cX12_read 57 = .ok (.putfield 212, 3) := by decide +kernel
theorem dX12_read_60 : decode cX12_read 60 = .ok (.aload_n 0, 1) := by decide +kernel
theorem dX12_read_61 : decode cX12_read 61 = .ok (.iconst 0, 1) := by decide +kernel
theorem dX12_read_62 : decode cX12_read 62 = .ok (.putfield 221, 3) := by decide +kernel
theorem dX12_read_65 : decode cX12_read 65 = .ok (.aload_n 0, 1) := by decide +kernel
theorem dX12_read_66 : decode cX12_read 66 = .ok (.iconst 1, 1) := by decide +kernel
theorem dX12_read_67 : decode cX12_read 67 = .ok (.aload_n 0, 1) := by decide +kernel
theorem dX12_read_68 : decode cX12_read 68 = .ok (.getfield 242, 3) := by decide +kernel
theorem dX12_read_71 : decode cX12_read 71 = .ok (.isub, 1) := by decide +kernel
theorem dX12_read_72 : decode cX12_read 72 = .ok (.putfield 245, 3) := by decide +kernel
theorem dX12_read_75 : decode cX12_read 75 = .ok (.aload_n 0, 1) := by decide +kernel
theorem dX12_read_76 : decode cX12_read 76 = .ok (.iconst 0, 1) := by decide +kernel
theorem dX12_read_77 : decode cX12_read 77 = .ok (.putfield 248, 3) := by decide +kernel
theorem dX12_read_80 : decode cX12_read 80 = .ok (.aload_n 0, 1) := by decide +kernel
theorem dX12_read_81 : decode cX12_read 81 = .ok (.getfield 49, 3) := by decide +kernel
theorem dX12_read_84 : decode cX12_read 84 = .ok (.aload_n 0, 1) := by decide +kernel
theorem dX12_read_85 : decode cX12_read 85 = .ok (.getfield 245, 3) := by decide +kernel
theorem dX12_read_88 : decode cX12_read 88 = .ok (.iconst 0, 1) := by decide +kernel
theorem dX12_read_89 : decode cX12_read 89 = .ok (.iastore, 1) := by decide +kernel
theorem dX12_read_90 : decode cX12_read 90 = .ok (.aload_n 0, 1) := by decide +kernel
theorem dX12_read_91 : decode cX12_read 91 = .ok (.getfield 58, 3) := by decide +kernel
theorem dX12_read_94 : decode cX12_read 94 = .ok (.aload_n 0, 1) := by decide +kernel
theorem dX12_read_95 : decode cX12_read 95 = .ok (.getfield 245, 3) := by decide +kernel
theorem dX12_read_98 : decode cX12_read 98 = .ok (.iconst 0, 1) := by decide +kernel
theorem dX12_read_99 : decode cX12_read 99 = .ok (.iastore, 1) := by decide +kernel
theorem dX12_read_100 : decode cX12_read 100 = .ok (.aload_n 0, 1) := by decide +kernel
theorem dX12_read_101 : decode cX12_read 101 = .ok (.getfield 70, 3) := by decide +kernel
theorem dX12_read_104 : decode cX12_read 104 = .ok (.aload_n 0, 1) := by decide +kernel
theorem dX12_read_105 : decode cX12_read 105 = .ok (.getfield 245, 3) := by decide +kernel
theorem dX12_read_108 : decode cX12_read 108 = .ok (.iconst 0, 1) := by decide +kernel
theorem dX12_read_109 : decode cX12_read 109 = .ok (.iastore, 1) := by decide +kernel
theorem dX12_read_110 : decode cX12_read 110 = .ok (.aload_n 0, 1) := by decide +kernel
theorem dX12_read_111 : decode cX12_read 111 = .ok (.getfield 91, 3) := by decide +kernel
theorem dX12_read_114 : decode cX12_read 114 = .ok (.aload_n 0, 1) := by decide +kernel
theorem dX12_read_115 : decode cX12_read 115 = .ok (.getfield 245, 3) := by decide +kernel
theorem dX12_read_118 : decode cX12_read 118 = .ok (.iconst 0, 1) := by decide +kernel
theorem dX12_read_119 : decode cX12_read 119 = .ok (.iastore, 1) := by decide +kernel
theorem dX12_read_120 : decode cX12_read 120 = .ok (.aload_n 0, 1) := by decide +kernel
theorem dX12_read_121 : decode cX12_read 121 = .ok (.getfield 103, 3) := by decide +kernel
theorem dX12_read_124 : decode cX12_read 124 = .ok (.aload_n 0, 1) := by decide +kernel
theorem dX12_read_125 : decode cX12_read 125 = .ok (.getfield 245, 3) := by decide +kernel
theorem dX12_read_128 : decode cX12_read 128 = .ok (.iconst 0, 1) := by decide +kernel
theorem dX12_read_129 : decode cX12_read 129 = .ok (.iastore, 1) := by decide +kernel
theorem dX12_read_130 : decode cX12_read 130 = .ok (.aload_n 0, 1) := by decide +kernel
theorem dX12_read_131 : decode cX12_read 131 = .ok (.getfield 118, 3) := by decide +kernel
theorem dX12_read_134 : decode cX12_read 134 = .ok (.aload_n 0, 1) := by decide +kernel
theorem dX12_read_135 : decode cX12_read 135 = .ok (.getfield 245, 3) := by decide +kernel
theorem dX12_read_138 : decode cX12_read 138 = .ok (.iconst 0, 1) := by decide +kernel
theorem dX12_read_139 : decode cX12_read 139 = .ok (.iastore, 1) := by decide +kernel
theorem dX12_read_140 : decode cX12_read 140 = .ok (.aload_n 0, 1) := by decide +kernel
theorem dX12_read_141 : decode cX12_read 141 = .ok (.getfield 121, 3) := by decide +kernel
theorem dX12_read_144 : decode cX12_read 144 = .ok (.aload_n 0, 1) := by decide +kernel
theorem dX12_read_145 : decode cX12_read 145 = .ok (.getfield 245, 3) := by decide +kernel
theorem dX12_read_148 : decode cX12_read 148 = .ok (.iconst 0, 1) := by decide +kernel
theorem dX12_read_149 : decode cX12_read 149 = .ok (.iastore, 1) := by decide +kernel
theorem dX12_read_150 : decode cX12_read 150 = .ok (.aload_n 0, 1) := by decide +kernel
theorem dX12_read_151 : decode cX12_read 151 = .ok (.getfield 124, 3) := by decide +kernel
theorem dX12_read_154 : decode cX12_read 154 = .ok (.aload_n 0, 1) := by decide +kernel
theorem dX12_read_155 : decode cX12_read 155 = .ok (.getfield 245, 3) := by decide +kernel
theorem dX12_read_158 : decode cX12_read 158 = .ok (.sipush 256, 3) := by decide +kernel
theorem dX12_read_161 : decode cX12_read 161 = .ok (.iastore, 1) := by decide +kernel
theorem dX12_read_162 : decode cX12_read 162 = .ok (.aload_n 0, 1) := by decide +kernel
theorem dX12_read_163 : decode cX12_read 163 = .ok (.getfield 212, 3) := by decide +kernel
theorem dX12_read_166 : decode cX12_read 166 = .ok (.ifCond .ne 18, 3) := by decide +kernel
theorem dX12_read_169 : decode cX12_read 169 = .ok (.aload_n 0, 1) := by decide +kernel
theorem dX12_read_170 : decode cX12_read 170 = .ok (.iconst 0, 1) := by decide +kernel
theorem dX12_read_171 : decode cX12_read 171 = .ok (.invokevirtual 230, 3) := by decide +kernel
theorem dX12_read_174 : decode cX12_read 174 = .ok (.ifCond .ne 10, 3) := by decide +kernel
theorem dX12_read_177 : decode cX12_read 177 = .ok (.aload_n 0, 1) := by decide +kernel
theorem dX12_read_178 : decode cX12_read 178 = .ok (.invokevirtual 251, 3) := by decide +kernel
theorem dX12_read_181 : decode cX12_read 181 = .ok (.goto (-19), 3) := by decide +kernel
theorem dX12_read_184 : decode cX12_read 184 = .ok (.aload_n 0, 1) := by decide +kernel
theorem dX12_read_185 : decode cX12_read 185 = .ok (.aload_n 0, 1) := by decide +kernel
theorem dX12_read_186 : decode cX12_read 186 = .ok (.getfield 212, 3) := by decide +kernel
theorem dX12_read_189 : decode cX12_read 189 = .ok (.ifCond .le 10, 3) := by decide +kernel
theorem dX12_read_192 : decode cX12_read 192 = .ok (.aload_n 0, 1) := by decide +kernel
theorem dX12_read_193 : decode cX12_read 193 = .ok (.getfield 218, 3) := by decide +kernel
theorem dX12_read_196 : decode cX12_read 196 = .ok (.goto 18, 3) := by decide +kernel
theorem dX12_read_199 : decode cX12_read 199 = .ok (.aload_n 0, 1) := by decide +kernel
theorem dX12_read_200 : decode cX12_read 200 = .ok (.getfield 221, 3) := by decide +kernel
theorem dX12_read_203 : decode cX12_read 203 = .ok (.ifCond .le 10, 3) := by decide +kernel
theorem dX12_read_206 : decode cX12_read 206 = .ok (.aload_n 0, 1) := by decide +kernel
theorem dX12_read_207 : decode cX12_read 207 = .ok (.getfield 224, 3) := by decide +kernel
theorem dX12_read_210 : decode cX12_read 210 = .ok (.goto 4, 3) := by decide +kernel
theorem dX12_read_213 : decode cX12_read 213 = .ok (.iconst (-1), 1) := by decide +kernel
theorem dX12_read_214 : decode cX12_read 214 = .ok (.putfield 37, 3) := by decide +kernel
theorem dX12_read_217 : decode cX12_read 217 = .ok (.aload_n 0, 1) := by decide +kernel
theorem dX12_read_218 : decode cX12_read 218 = .ok (.getfield 212, 3) := by decide +kernel
theorem dX12_read_221 : decode cX12_read 221 = .ok (.ifCond .le 8, 3) := by decide +kernel
theorem dX12_read_224 : decode cX12_read 224 = .ok (.aload_n 0, 1) := by decide +kernel
theorem dX12_read_225 : decode cX12_read 225 = .ok (.getfield 212, 3) := by decide +kernel
theorem dX12_read_228 : decode cX12_read 228 = .ok (.ireturn, 1) := by decide +kernel
theorem dX12_read_229 : decode cX12_read 229 = .ok (.aload_n 0, 1) := by decide +kernel
theorem dX12_read_230 : decode cX12_read 230 = .ok (.getfield 221, 3) := by decide +kernel
theorem dX12_read_233 : decode cX12_read 233 = .ok (.ifCond .le 8, 3) := by decide +kernel
theorem dX12_read_236 : decode cX12_read 236 = .ok (.aload_n 0, 1) := by decide +kernel
theorem dX12_read_237 : decode cX12_read 237 = .ok (.getfield 221, 3) := by decide +kernel
theorem dX12_read_240 : decode cX12_read 240 = .ok (.ireturn, 1) := by decide +kernel
theorem dX12_read_241 : decode cX12_read 241 = .ok (.aload_n 0, 1) := by decide +kernel
theorem dX12_read_242 : decode cX12_read 242 = .ok (.aload_n 0, 1) := by decide +kernel
theorem dX12_read_243 : decode cX12_read 243 = .ok (.getfield 245, 3) := by decide +kernel
theorem dX12_read_246 : decode cX12_read 246 = .ok (.putfield 242, 3) := by decide +kernel
theorem dX12_read_249 : decode cX12_read 249 = .ok (.aload_n 0, 1) := by decide +kernel
theorem dX12_read_250 : decode cX12_read 250 = .ok (.invokevirtual 254, 3) := by decide +kernel
theorem dX12_read_253 : decode cX12_read 253 = .ok (.iconst 0, 1) := by decide +kernel
theorem dX12_read_254 : decode cX12_read 254 = .ok (.istore_n 1, 1) := by decide +kernel
theorem dX12_read_255 : decode cX12_read 255 = .ok (.iload_n 1, 1) := by decide +kernel
theorem dX12_read_256 : decode cX12_read 256 = .ok (.iconst 3, 1) := by decide +kernel
theorem dX12_read_257 : decode cX12_read 257 = .ok (.if_icmp .ge 16, 3) := by decide +kernel
theorem dX12_read_260 : decode cX12_read 260 = .ok (.aload_n 0, 1) := by decide +kernel
theorem dX12_read_261 : decode cX12_read 261 = .ok (.getfield 164, 3) := by decide +kernel
theorem dX12_read_264 : decode cX12_read 264 = .ok (.iload_n 1, 1) := by decide +kernel
theorem dX12_read_265 : decode cX12_read 265 = .ok (.iconst 0, 1) := by decide +kernel
theorem dX12_read_266 : decode cX12_read 266 = .ok (.bastore, 1) := by decide +kernel
theorem dX12_read_267 : decode cX12_read 267 = .ok (.iinc 1 1, 3) := by decide +kernel
theorem dX12_read_270 : decode cX12_read 270 = .ok (.goto (-15), 3) := by decide +kernel
theorem dX12_read_273 : decode cX12_read 273 = .ok (.iconst 0, 1) := by decide +kernel
theorem dX12_read_274 : decode cX12_read 274 = .ok (.ireturn, 1) := by decide +kernel
set_option maxRecDepth 100000 in
theorem c_X12_read (l : Launch) (D : q_D) (al : q_Al) (dt : q_Dt) (x0 : Nat) (kx0 : al.1 x0 = 13) (r0 : Int32) (dt0 : q_Dt) (hm : X12_read al dt x0 = some (r0, dt0)) : q_Mt l yX12_read cX12_read 2 (some FieldType.int) 7 167 D al [.ref x0] dt 0 (some (.int r0)) dt0 := by
  refine q_Mt.of (by decide) (Nat.le_of_ble_eq_true rfl) ?_
  intro p e s m args below meth c ls C hargs hW hl
  have hx := C.1
  have hb := C.2.1
  have hown := C.2.2.2.2.2.1
  have hts := C.2.2.2.2.2.2.1
  have hS : va_S (q_A al) s.heap s.heap [] := va_S.rf
  have hl : lv_has ls 2 [(0, .ref x0)] := hl
  unfold X12_read at hm
  have hB255 : ∀ (x0_255 : Nat) (kx0_255 : al.1 x0_255 = 13) (n_255 : Nat) (x1_255 : Int32) (dt : q_Dt) (H : Heap) (locs : List Loc) (ls : Array Slot) (hm : X12_read_b255 al x0_255 n_255 x1_255 dt = some (r0, dt0)) (hW : q_W D al dt H) (hS : va_S (q_A al) s.heap H locs) (hl : lv_has ls 2 [(0, .ref x0_255), (1, .int x1_255)]), W p l e { frames := 7, cells := 0, slots := 0, locals := 167 } s m args below meth c H locs 0 0 (MQ below (q_Q (some (.int r0)) (fun H => q_W D al dt0 H ∧ q_Rk al 0 (some (.int r0))) (q_A al)) args s 0 0 (q_A al)) (F0 m 255 ls []) := by
    intro x0_255 kx0_255
    intro n_255
    induction n_255 with
    | zero => intro x1_255 dt H locs ls hm hW hS hl; cases hm
    | succ n_255 ih255 =>
      intro x1_255 dt H locs ls hm hW hS hl
      rw [X12_read_b255] at hm
      refine lv_iload_n hx hb dX12_read_255 rfl (lv_at hl 1 rfl) ?_
      refine lv_iconst (v := 3) hx hb dX12_read_256 (by decide) ?_
      refine q_ifc hm (fun c255001 hm => ?_) (fun c255001 hm => ?_)
      · refine lv_icmp_ge (tgt := 273) hx hb dX12_read_257 (by decide) (fun _ => ?_) (fun h => absurd c255001 h)
        refine lv_iconst (v := 0) hx hb dX12_read_273 (by decide) ?_
        exact e_iD C hW hS hm dX12_read_274
      refine lv_icmp_ge (tgt := 273) hx hb dX12_read_257 (by decide) (fun h => absurd h c255001) (fun _ => ?_)
      refine lv_aload_n hx hb dX12_read_260 rfl (lv_at hl 0 rfl) ?_
      refine r_getF C hW (ci := 12) kx0_255 ff_12_65 cl_12 fl_RX12_164 dX12_read_261 (fun k255002 => ?_)
      refine lv_iload_n hx hb dX12_read_264 rfl (lv_at hl 1 rfl) ?_
      refine lv_iconst (v := 0) hx hb dX12_read_265 (by decide) ?_
      refine r_zast C hW hS hm k255002 dX12_read_266 (fun dt255003 H locs hm hW hS => ?_)
      refine lv_iinc (v := (x1_255 + 1)) (lv' := [(1, .int (x1_255 + 1)), (0, .ref x0_255)]) hx hb dX12_read_267 hl (k := 1) rfl rfl (by decide) rfl (fun ls hl => ?_)
      refine lv_goto (tgt := 255) hx hb dX12_read_270 (by decide) ?_
      exact ih255 (x1_255 + 1) dt255003 _ _ _ hm hW hS (lv_sub hl [1, 0] rfl)
  have hB214 : ∀ (x0_214 : Nat) (t0_214 : Nat) (t1_214 : Int32) (kx0_214 : al.1 x0_214 = 13) (kt0_214 : al.1 t0_214 = 13) (dt : q_Dt) (H : Heap) (locs : List Loc) (ls : Array Slot) (hm : X12_read_b214 al x0_214 t0_214 t1_214 dt = some (r0, dt0)) (hW : q_W D al dt H) (hS : va_S (q_A al) s.heap H locs) (hl : lv_has ls 2 [(0, .ref x0_214)]), W p l e { frames := 7, cells := 0, slots := 0, locals := 167 } s m args below meth c H locs 0 0 (MQ below (q_Q (some (.int r0)) (fun H => q_W D al dt0 H ∧ q_Rk al 0 (some (.int r0))) (q_A al)) args s 0 0 (q_A al)) (F0 m 214 ls [.int t1_214, .ref t0_214]) := by
    intro x0_214 t0_214 t1_214 kx0_214 kt0_214 dt H locs ls hm hW hS hl
    unfold X12_read_b214 at hm
    refine r_putI C hW hS hm (ci := 12) kt0_214 ff_12_17 cl_12 fl_RX12_37 (nf_12_17) rfl dX12_read_214 (fun dt214001 H locs hm hW hS => ?_)
    refine lv_aload_n hx hb dX12_read_217 rfl (lv_at hl 0 rfl) ?_
    refine r_getI C hW (ci := 12) kx0_214 ff_12_13 cl_12 fl_RX12_212 dX12_read_218 ?_
    refine q_ifc hm (fun c214002 hm => ?_) (fun c214002 hm => ?_)
    · refine lv_if_le (tgt := 229) hx hb dX12_read_221 (by decide) (fun _ => ?_) (fun h => absurd c214002 h)
      refine lv_aload_n hx hb dX12_read_229 rfl (lv_at hl 0 rfl) ?_
      refine r_getI C hW (ci := 12) kx0_214 ff_12_15 cl_12 fl_RX12_221 dX12_read_230 ?_
      refine q_ifc hm (fun c214003 hm => ?_) (fun c214003 hm => ?_)
      · refine lv_if_le (tgt := 241) hx hb dX12_read_233 (by decide) (fun _ => ?_) (fun h => absurd c214003 h)
        refine lv_aload_n hx hb dX12_read_241 rfl (lv_at hl 0 rfl) ?_
        refine lv_aload_n hx hb dX12_read_242 rfl (lv_at hl 0 rfl) ?_
        refine r_getI C hW (ci := 12) kx0_214 ff_12_19 cl_12 fl_RX12_245 dX12_read_243 ?_
        refine r_putI C hW hS hm (ci := 12) kx0_214 ff_12_18 cl_12 fl_RX12_242 (nf_12_18) rfl dX12_read_246 (fun dt214004 H locs hm hW hS => ?_)
        refine lv_aload_n hx hb dX12_read_249 rfl (lv_at hl 0 rfl) ?_
        obtain ⟨dt214006, hc214005, hm⟩ := q_b1i hm
        refine q_callV C hW hS (As := []) (rest := []) (st1 := []) (c_X12_lays l D al dt214004 x0_214 kx0_214 dt214006 hc214005) yl_X12_lays vl_X12_lays ml_RX12_254 (ci := 12) rfl kx0_214 (by decide) rfl ⟨Nat.le_of_ble_eq_true rfl, Nat.le_of_ble_eq_true rfl⟩ hl rfl (Nat.le_of_ble_eq_true rfl) dX12_read_250 ⟨Nat.le_refl _, Nat.le_refl _⟩ rfl (fun H locs k214007 hW hS => ?_)
        refine lv_iconst (v := 0) hx hb dX12_read_253 (by decide) ?_
        refine lv_istore_n (i := 1) (lv' := [(1, .int 0), (0, .ref x0_214)]) hx hb dX12_read_254 rfl hl (by decide) rfl (fun ls hl => ?_)
        exact hB255 x0_214 kx0_214 q_FU 0 dt214006 _ _ _ hm hW hS (lv_sub hl [1, 0] rfl)
      refine lv_if_le (tgt := 241) hx hb dX12_read_233 (by decide) (fun h => absurd h c214003) (fun _ => ?_)
      refine lv_aload_n hx hb dX12_read_236 rfl (lv_at hl 0 rfl) ?_
      refine r_getI C hW (ci := 12) kx0_214 ff_12_15 cl_12 fl_RX12_221 dX12_read_237 ?_
      exact e_iD C hW hS hm dX12_read_240
    refine lv_if_le (tgt := 229) hx hb dX12_read_221 (by decide) (fun h => absurd h c214002) (fun _ => ?_)
    refine lv_aload_n hx hb dX12_read_224 rfl (lv_at hl 0 rfl) ?_
    refine r_getI C hW (ci := 12) kx0_214 ff_12_13 cl_12 fl_RX12_212 dX12_read_225 ?_
    exact e_iD C hW hS hm dX12_read_228
  have hB184 : ∀ (x0_184 : Nat) (kx0_184 : al.1 x0_184 = 13) (dt : q_Dt) (H : Heap) (locs : List Loc) (ls : Array Slot) (hm : X12_read_b184 al x0_184 dt = some (r0, dt0)) (hW : q_W D al dt H) (hS : va_S (q_A al) s.heap H locs) (hl : lv_has ls 2 [(0, .ref x0_184)]), W p l e { frames := 7, cells := 0, slots := 0, locals := 167 } s m args below meth c H locs 0 0 (MQ below (q_Q (some (.int r0)) (fun H => q_W D al dt0 H ∧ q_Rk al 0 (some (.int r0))) (q_A al)) args s 0 0 (q_A al)) (F0 m 184 ls []) := by
    intro x0_184 kx0_184 dt H locs ls hm hW hS hl
    unfold X12_read_b184 at hm
    refine lv_aload_n hx hb dX12_read_184 rfl (lv_at hl 0 rfl) ?_
    refine lv_aload_n hx hb dX12_read_185 rfl (lv_at hl 0 rfl) ?_
    refine r_getI C hW (ci := 12) kx0_184 ff_12_13 cl_12 fl_RX12_212 dX12_read_186 ?_
    refine q_ifc hm (fun c184001 hm => ?_) (fun c184001 hm => ?_)
    · refine lv_if_le (tgt := 199) hx hb dX12_read_189 (by decide) (fun _ => ?_) (fun h => absurd c184001 h)
      refine lv_aload_n hx hb dX12_read_199 rfl (lv_at hl 0 rfl) ?_
      refine r_getI C hW (ci := 12) kx0_184 ff_12_15 cl_12 fl_RX12_221 dX12_read_200 ?_
      refine q_ifc hm (fun c184002 hm => ?_) (fun c184002 hm => ?_)
      · refine lv_if_le (tgt := 213) hx hb dX12_read_203 (by decide) (fun _ => ?_) (fun h => absurd c184002 h)
        refine lv_iconst (v := (-1)) hx hb dX12_read_213 (by decide) ?_
        exact hB214 x0_184 x0_184 (-1) kx0_184 kx0_184 dt _ _ _ hm hW hS (lv_sub hl [0] rfl)
      refine lv_if_le (tgt := 213) hx hb dX12_read_203 (by decide) (fun h => absurd h c184002) (fun _ => ?_)
      refine lv_aload_n hx hb dX12_read_206 rfl (lv_at hl 0 rfl) ?_
      refine r_getI C hW (ci := 12) kx0_184 ff_12_16 cl_12 fl_RX12_224 dX12_read_207 ?_
      refine lv_goto (tgt := 214) hx hb dX12_read_210 (by decide) ?_
      exact hB214 x0_184 x0_184 (dt.1 x0_184 16) kx0_184 kx0_184 dt _ _ _ hm hW hS (lv_sub hl [0] rfl)
    refine lv_if_le (tgt := 199) hx hb dX12_read_189 (by decide) (fun h => absurd h c184001) (fun _ => ?_)
    refine lv_aload_n hx hb dX12_read_192 rfl (lv_at hl 0 rfl) ?_
    refine r_getI C hW (ci := 12) kx0_184 ff_12_14 cl_12 fl_RX12_218 dX12_read_193 ?_
    refine lv_goto (tgt := 214) hx hb dX12_read_196 (by decide) ?_
    exact hB214 x0_184 x0_184 (dt.1 x0_184 14) kx0_184 kx0_184 dt _ _ _ hm hW hS (lv_sub hl [0] rfl)
  have hB162 : ∀ (x0_162 : Nat) (kx0_162 : al.1 x0_162 = 13) (n_162 : Nat) (dt : q_Dt) (H : Heap) (locs : List Loc) (ls : Array Slot) (hm : X12_read_b162 al x0_162 n_162 dt = some (r0, dt0)) (hW : q_W D al dt H) (hS : va_S (q_A al) s.heap H locs) (hl : lv_has ls 2 [(0, .ref x0_162)]), W p l e { frames := 7, cells := 0, slots := 0, locals := 167 } s m args below meth c H locs 0 0 (MQ below (q_Q (some (.int r0)) (fun H => q_W D al dt0 H ∧ q_Rk al 0 (some (.int r0))) (q_A al)) args s 0 0 (q_A al)) (F0 m 162 ls []) := by
    intro x0_162 kx0_162
    intro n_162
    induction n_162 with
    | zero => intro dt H locs ls hm hW hS hl; cases hm
    | succ n_162 ih162 =>
      intro dt H locs ls hm hW hS hl
      rw [X12_read_b162] at hm
      refine lv_aload_n hx hb dX12_read_162 rfl (lv_at hl 0 rfl) ?_
      refine r_getI C hW (ci := 12) kx0_162 ff_12_13 cl_12 fl_RX12_212 dX12_read_163 ?_
      refine q_ifc hm (fun c162001 hm => ?_) (fun c162001 hm => ?_)
      · refine lv_if_ne (tgt := 184) hx hb dX12_read_166 (by decide) (fun h => absurd c162001 h) (fun _ => ?_)
        refine lv_aload_n hx hb dX12_read_169 rfl (lv_at hl 0 rfl) ?_
        refine lv_iconst (v := 0) hx hb dX12_read_170 (by decide) ?_
        obtain ⟨v162003, hc162002, hm⟩ := q_b1i hm
        refine q_callV C hW hS (As := [.int 0]) (rest := []) (st1 := [.int v162003]) (c_X12_is l D al dt x0_162 0 kx0_162 v162003 hc162002) yl_X12_is vl_X12_is ml_RX12_230 (ci := 12) rfl kx0_162 (by decide) rfl ⟨Nat.le_of_ble_eq_true rfl, Nat.le_of_ble_eq_true rfl⟩ hl rfl (Nat.le_of_ble_eq_true rfl) dX12_read_171 ⟨Nat.le_refl _, Nat.le_refl _⟩ rfl (fun H locs k162004 hW hS => ?_)
        refine q_ifc hm (fun c162005 hm => ?_) (fun c162005 hm => ?_)
        · refine lv_if_ne (tgt := 184) hx hb dX12_read_174 (by decide) (fun h => absurd c162005 h) (fun _ => ?_)
          refine lv_aload_n hx hb dX12_read_177 rfl (lv_at hl 0 rfl) ?_
          obtain ⟨dt162007, hc162006, hm⟩ := q_b1i hm
          refine q_callV C hW hS (As := []) (rest := []) (st1 := []) (c_X12_tell l D al dt x0_162 kx0_162 dt162007 hc162006) yl_X12_tell vl_X12_tell ml_RX12_251 (ci := 12) rfl kx0_162 (by decide) rfl ⟨Nat.le_of_ble_eq_true rfl, Nat.le_of_ble_eq_true rfl⟩ hl rfl (Nat.le_of_ble_eq_true rfl) dX12_read_178 ⟨Nat.le_refl _, Nat.le_refl _⟩ rfl (fun H locs k162008 hW hS => ?_)
          refine lv_goto (tgt := 162) hx hb dX12_read_181 (by decide) ?_
          exact ih162 dt162007 _ _ _ hm hW hS (lv_sub hl [0] rfl)
        refine lv_if_ne (tgt := 184) hx hb dX12_read_174 (by decide) (fun _ => ?_) (fun h => absurd h c162005)
        exact hB184 x0_162 kx0_162 dt _ _ _ hm hW hS (lv_sub hl [0] rfl)
      refine lv_if_ne (tgt := 184) hx hb dX12_read_166 (by decide) (fun _ => ?_) (fun h => absurd h c162001)
      exact hB184 x0_162 kx0_162 dt _ _ _ hm hW hS (lv_sub hl [0] rfl)
  have hB10 : ∀ (x0_10 : Nat) (kx0_10 : al.1 x0_10 = 13) (n_10 : Nat) (x1_10 : Int32) (dt : q_Dt) (H : Heap) (locs : List Loc) (ls : Array Slot) (hm : X12_read_b10 al x0_10 n_10 x1_10 dt = some (r0, dt0)) (hW : q_W D al dt H) (hS : va_S (q_A al) s.heap H locs) (hl : lv_has ls 2 [(0, .ref x0_10), (1, .int x1_10)]), W p l e { frames := 7, cells := 0, slots := 0, locals := 167 } s m args below meth c H locs 0 0 (MQ below (q_Q (some (.int r0)) (fun H => q_W D al dt0 H ∧ q_Rk al 0 (some (.int r0))) (q_A al)) args s 0 0 (q_A al)) (F0 m 10 ls []) := by
    intro x0_10 kx0_10
    intro n_10
    induction n_10 with
    | zero => intro x1_10 dt H locs ls hm hW hS hl; cases hm
    | succ n_10 ih10 =>
      intro x1_10 dt H locs ls hm hW hS hl
      rw [X12_read_b10] at hm
      refine lv_iload_n hx hb dX12_read_10 rfl (lv_at hl 1 rfl) ?_
      refine lv_aload_n hx hb dX12_read_11 rfl (lv_at hl 0 rfl) ?_
      refine r_getI C hW (ci := 12) kx0_10 ff_12_4 cl_12 fl_RX12_181 dX12_read_12 ?_
      refine q_ifc hm (fun c10001 hm => ?_) (fun c10001 hm => ?_)
      · refine lv_icmp_ge (tgt := 36) hx hb dX12_read_15 (by decide) (fun _ => ?_) (fun h => absurd c10001 h)
        refine lv_aload_n hx hb dX12_read_36 rfl (lv_at hl 0 rfl) ?_
        refine lv_iconst (v := 0) hx hb dX12_read_37 (by decide) ?_
        refine r_putI C hW hS hm (ci := 12) kx0_10 ff_12_2 cl_12 fl_RX12_174 (nf_12_2) rfl dX12_read_38 (fun dt10002 H locs hm hW hS => ?_)
        refine lv_aload_n hx hb dX12_read_41 rfl (lv_at hl 0 rfl) ?_
        obtain ⟨dt10004, hc10003, hm⟩ := q_b1i hm
        refine q_callV C hW hS (As := []) (rest := []) (st1 := []) (c_X12_cut l D al dt10002 x0_10 kx0_10 dt10004 hc10003) yl_X12_cut vl_X12_cut ml_RX12_236 (ci := 12) rfl kx0_10 (by decide) rfl ⟨Nat.le_of_ble_eq_true rfl, Nat.le_of_ble_eq_true rfl⟩ hl rfl (Nat.le_of_ble_eq_true rfl) dX12_read_42 ⟨Nat.le_refl _, Nat.le_refl _⟩ rfl (fun H locs k10005 hW hS => ?_)
        refine lv_aload_n hx hb dX12_read_45 rfl (lv_at hl 0 rfl) ?_
        refine lv_iconst (v := 0) hx hb dX12_read_46 (by decide) ?_
        refine r_putI C hW hS hm (ci := 12) kx0_10 ff_12_11 cl_12 fl_RX12_215 (nf_12_11) rfl dX12_read_47 (fun dt10006 H locs hm hW hS => ?_)
        refine lv_aload_n hx hb dX12_read_50 rfl (lv_at hl 0 rfl) ?_
        refine lv_iconst (v := 0) hx hb dX12_read_51 (by decide) ?_
        refine r_putI C hW hS hm (ci := 12) kx0_10 ff_12_12 cl_12 fl_RX12_239 (nf_12_12) rfl dX12_read_52 (fun dt10007 H locs hm hW hS => ?_)
        refine lv_aload_n hx hb dX12_read_55 rfl (lv_at hl 0 rfl) ?_
        refine lv_iconst (v := 0) hx hb dX12_read_56 (by decide) ?_
        refine r_putI C hW hS hm (ci := 12) kx0_10 ff_12_13 cl_12 fl_RX12_212 (nf_12_13) rfl dX12_read_57 (fun dt10008 H locs hm hW hS => ?_)
        refine lv_aload_n hx hb dX12_read_60 rfl (lv_at hl 0 rfl) ?_
        refine lv_iconst (v := 0) hx hb dX12_read_61 (by decide) ?_
        refine r_putI C hW hS hm (ci := 12) kx0_10 ff_12_15 cl_12 fl_RX12_221 (nf_12_15) rfl dX12_read_62 (fun dt10009 H locs hm hW hS => ?_)
        refine lv_aload_n hx hb dX12_read_65 rfl (lv_at hl 0 rfl) ?_
        refine lv_iconst (v := 1) hx hb dX12_read_66 (by decide) ?_
        refine lv_aload_n hx hb dX12_read_67 rfl (lv_at hl 0 rfl) ?_
        refine r_getI C hW (ci := 12) kx0_10 ff_12_18 cl_12 fl_RX12_242 dX12_read_68 ?_
        refine lv_isub hx hb dX12_read_71 ?_
        refine r_putI C hW hS hm (ci := 12) kx0_10 ff_12_19 cl_12 fl_RX12_245 (nf_12_19) rfl dX12_read_72 (fun dt10010 H locs hm hW hS => ?_)
        refine lv_aload_n hx hb dX12_read_75 rfl (lv_at hl 0 rfl) ?_
        refine lv_iconst (v := 0) hx hb dX12_read_76 (by decide) ?_
        refine r_putI C hW hS hm (ci := 12) kx0_10 ff_12_20 cl_12 fl_RX12_248 (nf_12_20) rfl dX12_read_77 (fun dt10011 H locs hm hW hS => ?_)
        refine lv_aload_n hx hb dX12_read_80 rfl (lv_at hl 0 rfl) ?_
        refine r_getF C hW (ci := 12) kx0_10 ff_12_24 cl_12 fl_RX12_49 dX12_read_81 (fun k10012 => ?_)
        refine lv_aload_n hx hb dX12_read_84 rfl (lv_at hl 0 rfl) ?_
        refine r_getI C hW (ci := 12) kx0_10 ff_12_19 cl_12 fl_RX12_245 dX12_read_85 ?_
        refine lv_iconst (v := 0) hx hb dX12_read_88 (by decide) ?_
        refine r_iast C hW hS hm k10012 dX12_read_89 (fun dt10013 H locs hm hW hS => ?_)
        refine lv_aload_n hx hb dX12_read_90 rfl (lv_at hl 0 rfl) ?_
        refine r_getF C hW (ci := 12) kx0_10 ff_12_27 cl_12 fl_RX12_58 dX12_read_91 (fun k10014 => ?_)
        refine lv_aload_n hx hb dX12_read_94 rfl (lv_at hl 0 rfl) ?_
        refine r_getI C hW (ci := 12) kx0_10 ff_12_19 cl_12 fl_RX12_245 dX12_read_95 ?_
        refine lv_iconst (v := 0) hx hb dX12_read_98 (by decide) ?_
        refine r_iast C hW hS hm k10014 dX12_read_99 (fun dt10015 H locs hm hW hS => ?_)
        refine lv_aload_n hx hb dX12_read_100 rfl (lv_at hl 0 rfl) ?_
        refine r_getF C hW (ci := 12) kx0_10 ff_12_31 cl_12 fl_RX12_70 dX12_read_101 (fun k10016 => ?_)
        refine lv_aload_n hx hb dX12_read_104 rfl (lv_at hl 0 rfl) ?_
        refine r_getI C hW (ci := 12) kx0_10 ff_12_19 cl_12 fl_RX12_245 dX12_read_105 ?_
        refine lv_iconst (v := 0) hx hb dX12_read_108 (by decide) ?_
        refine r_iast C hW hS hm k10016 dX12_read_109 (fun dt10017 H locs hm hW hS => ?_)
        refine lv_aload_n hx hb dX12_read_110 rfl (lv_at hl 0 rfl) ?_
        refine r_getF C hW (ci := 12) kx0_10 ff_12_38 cl_12 fl_RX12_91 dX12_read_111 (fun k10018 => ?_)
        refine lv_aload_n hx hb dX12_read_114 rfl (lv_at hl 0 rfl) ?_
        refine r_getI C hW (ci := 12) kx0_10 ff_12_19 cl_12 fl_RX12_245 dX12_read_115 ?_
        refine lv_iconst (v := 0) hx hb dX12_read_118 (by decide) ?_
        refine r_iast C hW hS hm k10018 dX12_read_119 (fun dt10019 H locs hm hW hS => ?_)
        refine lv_aload_n hx hb dX12_read_120 rfl (lv_at hl 0 rfl) ?_
        refine r_getF C hW (ci := 12) kx0_10 ff_12_42 cl_12 fl_RX12_103 dX12_read_121 (fun k10020 => ?_)
        refine lv_aload_n hx hb dX12_read_124 rfl (lv_at hl 0 rfl) ?_
        refine r_getI C hW (ci := 12) kx0_10 ff_12_19 cl_12 fl_RX12_245 dX12_read_125 ?_
        refine lv_iconst (v := 0) hx hb dX12_read_128 (by decide) ?_
        refine r_iast C hW hS hm k10020 dX12_read_129 (fun dt10021 H locs hm hW hS => ?_)
        refine lv_aload_n hx hb dX12_read_130 rfl (lv_at hl 0 rfl) ?_
        refine r_getF C hW (ci := 12) kx0_10 ff_12_47 cl_12 fl_RX12_118 dX12_read_131 (fun k10022 => ?_)
        refine lv_aload_n hx hb dX12_read_134 rfl (lv_at hl 0 rfl) ?_
        refine r_getI C hW (ci := 12) kx0_10 ff_12_19 cl_12 fl_RX12_245 dX12_read_135 ?_
        refine lv_iconst (v := 0) hx hb dX12_read_138 (by decide) ?_
        refine r_iast C hW hS hm k10022 dX12_read_139 (fun dt10023 H locs hm hW hS => ?_)
        refine lv_aload_n hx hb dX12_read_140 rfl (lv_at hl 0 rfl) ?_
        refine r_getF C hW (ci := 12) kx0_10 ff_12_48 cl_12 fl_RX12_121 dX12_read_141 (fun k10024 => ?_)
        refine lv_aload_n hx hb dX12_read_144 rfl (lv_at hl 0 rfl) ?_
        refine r_getI C hW (ci := 12) kx0_10 ff_12_19 cl_12 fl_RX12_245 dX12_read_145 ?_
        refine lv_iconst (v := 0) hx hb dX12_read_148 (by decide) ?_
        refine r_iast C hW hS hm k10024 dX12_read_149 (fun dt10025 H locs hm hW hS => ?_)
        refine lv_aload_n hx hb dX12_read_150 rfl (lv_at hl 0 rfl) ?_
        refine r_getF C hW (ci := 12) kx0_10 ff_12_49 cl_12 fl_RX12_124 dX12_read_151 (fun k10026 => ?_)
        refine lv_aload_n hx hb dX12_read_154 rfl (lv_at hl 0 rfl) ?_
        refine r_getI C hW (ci := 12) kx0_10 ff_12_19 cl_12 fl_RX12_245 dX12_read_155 ?_
        refine lv_sipush (v := 256) hx hb dX12_read_158 (by decide) ?_
        refine r_iast C hW hS hm k10026 dX12_read_161 (fun dt10027 H locs hm hW hS => ?_)
        exact hB162 x0_10 kx0_10 q_FU dt10027 _ _ _ hm hW hS (lv_sub hl [0] rfl)
      refine lv_icmp_ge (tgt := 36) hx hb dX12_read_15 (by decide) (fun h => absurd h c10001) (fun _ => ?_)
      refine lv_aload_n hx hb dX12_read_18 rfl (lv_at hl 0 rfl) ?_
      refine r_getF C hW (ci := 12) kx0_10 ff_12_3 cl_12 fl_RX12_17 dX12_read_19 (fun k10028 => ?_)
      refine lv_iload_n hx hb dX12_read_22 rfl (lv_at hl 1 rfl) ?_
      refine lv_aload_n hx hb dX12_read_23 rfl (lv_at hl 0 rfl) ?_
      refine r_getF C hW (ci := 12) kx0_10 ff_12_1 cl_12 fl_RX12_13 dX12_read_24 (fun k10029 => ?_)
      refine lv_iload_n hx hb dX12_read_27 rfl (lv_at hl 1 rfl) ?_
      refine r_bald C hW hm k10029 dX12_read_28 (fun hm => ?_)
      refine r_bast C hW hS hm k10028 dX12_read_29 (fun dt10030 H locs hm hW hS => ?_)
      refine lv_iinc (v := (x1_10 + 1)) (lv' := [(1, .int (x1_10 + 1)), (0, .ref x0_10)]) hx hb dX12_read_30 hl (k := 1) rfl rfl (by decide) rfl (fun ls hl => ?_)
      refine lv_goto (tgt := 10) hx hb dX12_read_33 (by decide) ?_
      exact ih10 (x1_10 + 1) dt10030 _ _ _ hm hW hS (lv_sub hl [1, 0] rfl)
  refine lv_aload_n hx hb dX12_read_0 rfl (lv_at hl 0 rfl) ?_
  refine lv_aload_n hx hb dX12_read_1 rfl (lv_at hl 0 rfl) ?_
  refine r_getI C hW (ci := 12) kx0 ff_12_2 cl_12 fl_RX12_174 dX12_read_2 ?_
  refine r_putI C hW hS hm (ci := 12) kx0 ff_12_4 cl_12 fl_RX12_181 (nf_12_4) rfl dX12_read_5 (fun dt1000001 H locs hm hW hS => ?_)
  refine lv_iconst (v := 0) hx hb dX12_read_8 (by decide) ?_
  refine lv_istore_n (i := 1) (lv' := [(1, .int 0), (0, .ref x0)]) hx hb dX12_read_9 rfl hl (by decide) rfl (fun ls hl => ?_)
  exact hB10 x0 kx0 q_FU 0 dt1000001 _ _ _ hm hW hS (lv_sub hl [1, 0] rfl)
theorem dX12_place_0 : decode cX12_place 0 = .ok (.aload_n 0, 1) := by decide +kernel
theorem dX12_place_1 : decode cX12_place 1 = .ok (.getfield 37, 3) := by decide +kernel
theorem dX12_place_4 : decode cX12_place 4 = .ok (.ireturn, 1) := by decide +kernel
set_option maxRecDepth 100000 in
theorem c_X12_place (l : Launch) (D : q_D) (al : q_Al) (dt : q_Dt) (x0 : Nat) (kx0 : al.1 x0 = 13) (r0 : Int32) (hm : X12_place al dt x0 = some r0) : q_Mt l yX12_place cX12_place 1 (some FieldType.int) 0 0 D al [.ref x0] dt 0 (some (.int r0)) dt := by
  refine q_Mt.of (by decide) (Nat.le_of_ble_eq_true rfl) ?_
  intro p e s m args below meth c ls C hargs hW hl
  have hx := C.1
  have hb := C.2.1
  have hown := C.2.2.2.2.2.1
  have hts := C.2.2.2.2.2.2.1
  have hS : va_S (q_A al) s.heap s.heap [] := va_S.rf
  have hl : lv_has ls 1 [(0, .ref x0)] := hl
  unfold X12_place at hm
  refine lv_aload_n hx hb dX12_place_0 rfl (lv_at hl 0 rfl) ?_
  refine r_getI C hW (ci := 12) kx0 ff_12_17 cl_12 fl_RX12_37 dX12_place_1 ?_
  exact e_i C hW hS hm dX12_place_4
theorem dX12_in_0 : decode cX12_in 0 = .ok (.iload_n 0, 1) := by decide +kernel
theorem dX12_in_1 : decode cX12_in 1 = .ok (.iload_n 1, 1) := by decide +kernel
theorem dX12_in_2 : decode cX12_in 2 = .ok (.if_icmp .lt 12, 3) := by decide +kernel
theorem dX12_in_5 : decode cX12_in 5 = .ok (.iload_n 0, 1) := by decide +kernel
theorem dX12_in_6 : decode cX12_in 6 = .ok (.iload_n 2, 1) := by decide +kernel
theorem dX12_in_7 : decode cX12_in 7 = .ok (.if_icmp .gt 7, 3) := by decide +kernel
theorem dX12_in_10 : decode cX12_in 10 = .ok (.iconst 1, 1) := by decide +kernel
theorem dX12_in_11 : decode cX12_in 11 = .ok (.goto 4, 3) := by decide +kernel
theorem dX12_in_14 : decode cX12_in 14 = .ok (.iconst 0, 1) := by decide +kernel
theorem dX12_in_15 : decode cX12_in 15 = .ok (.ireturn, 1) := by decide +kernel
set_option maxRecDepth 100000 in
theorem c_X12_in (l : Launch) (D : q_D) (al : q_Al) (dt : q_Dt) (x0 : Int32) (x1 : Int32) (x2 : Int32) (r0 : Int32) (hm : X12_in x0 x1 x2 = some r0) : q_Mt l yX12_in cX12_in 3 (some FieldType.boolean) 0 0 D al [.int x0, .int x1, .int x2] dt 0 (some (.int r0)) dt := by
  refine q_Mt.of (by decide) (Nat.le_of_ble_eq_true rfl) ?_
  intro p e s m args below meth c ls C hargs hW hl
  have hx := C.1
  have hb := C.2.1
  have hown := C.2.2.2.2.2.1
  have hts := C.2.2.2.2.2.2.1
  have hS : va_S (q_A al) s.heap s.heap [] := va_S.rf
  have hl : lv_has ls 3 [(0, .int x0), (1, .int x1), (2, .int x2)] := hl
  unfold X12_in at hm
  refine lv_iload_n hx hb dX12_in_0 rfl (lv_at hl 0 rfl) ?_
  refine lv_iload_n hx hb dX12_in_1 rfl (lv_at hl 1 rfl) ?_
  refine q_ifc hm (fun c1000001 hm => ?_) (fun c1000001 hm => ?_)
  · refine lv_icmp_lt (tgt := 14) hx hb dX12_in_2 (by decide) (fun _ => ?_) (fun h => absurd c1000001 h)
    refine lv_iconst (v := 0) hx hb dX12_in_14 (by decide) ?_
    exact e_zl C hW hS (Or.inl rfl) hm dX12_in_15
  refine lv_icmp_lt (tgt := 14) hx hb dX12_in_2 (by decide) (fun h => absurd h c1000001) (fun _ => ?_)
  refine lv_iload_n hx hb dX12_in_5 rfl (lv_at hl 0 rfl) ?_
  refine lv_iload_n hx hb dX12_in_6 rfl (lv_at hl 2 rfl) ?_
  refine q_ifc hm (fun c1000002 hm => ?_) (fun c1000002 hm => ?_)
  · refine lv_icmp_gt (tgt := 14) hx hb dX12_in_7 (by decide) (fun _ => ?_) (fun h => absurd c1000002 h)
    refine lv_iconst (v := 0) hx hb dX12_in_14 (by decide) ?_
    exact e_zl C hW hS (Or.inl rfl) hm dX12_in_15
  refine lv_icmp_gt (tgt := 14) hx hb dX12_in_7 (by decide) (fun h => absurd h c1000002) (fun _ => ?_)
  refine lv_iconst (v := 1) hx hb dX12_in_10 (by decide) ?_
  refine lv_goto (tgt := 15) hx hb dX12_in_11 (by decide) ?_
  exact e_zl C hW hS (Or.inr rfl) hm dX12_in_15
theorem dX12_isCode_0 : decode cX12_isCode 0 = .ok (.iload_n 1, 1) := by decide +kernel
theorem dX12_isCode_1 : decode cX12_isCode 1 = .ok (.iconst 0, 1) := by decide +kernel
theorem dX12_isCode_2 : decode cX12_isCode 2 = .ok (.aload_n 0, 1) := by decide +kernel
theorem dX12_isCode_3 : decode cX12_isCode 3 = .ok (.getfield 49, 3) := by decide +kernel
theorem dX12_isCode_6 : decode cX12_isCode 6 = .ok (.aload_n 0, 1) := by decide +kernel
theorem dX12_isCode_7 : decode cX12_isCode 7 = .ok (.getfield 242, 3) := by decide +kernel
theorem dX12_isCode_10 : decode cX12_isCode 10 = .ok (.iaload, 1) := by decide +kernel
theorem dX12_isCode_11 : decode cX12_isCode 11 = .ok (.iconst 1, 1) := by decide +kernel
theorem dX12_isCode_12 : decode cX12_isCode 12 = .ok (.isub, 1) := by decide +kernel
theorem dX12_isCode_13 : decode cX12_isCode 13 = .ok (.invokestatic 376, 3) := by decide +kernel
theorem dX12_isCode_16 : decode cX12_isCode 16 = .ok (.ireturn, 1) := by decide +kernel
set_option maxRecDepth 100000 in
theorem c_X12_isCode (l : Launch) (D : q_D) (al : q_Al) (dt : q_Dt) (x0 : Nat) (x1 : Int32) (kx0 : al.1 x0 = 13) (r0 : Int32) (hm : X12_isCode al dt x0 x1 = some r0) : q_Mt l yX12_isCode cX12_isCode 2 (some FieldType.boolean) 1 22 D al [.ref x0, .int x1] dt 0 (some (.int r0)) dt := by
  refine q_Mt.of (by decide) (Nat.le_of_ble_eq_true rfl) ?_
  intro p e s m args below meth c ls C hargs hW hl
  have hx := C.1
  have hb := C.2.1
  have hown := C.2.2.2.2.2.1
  have hts := C.2.2.2.2.2.2.1
  have hS : va_S (q_A al) s.heap s.heap [] := va_S.rf
  have hl : lv_has ls 2 [(0, .ref x0), (1, .int x1)] := hl
  unfold X12_isCode at hm
  refine lv_iload_n hx hb dX12_isCode_0 rfl (lv_at hl 1 rfl) ?_
  refine lv_iconst (v := 0) hx hb dX12_isCode_1 (by decide) ?_
  refine lv_aload_n hx hb dX12_isCode_2 rfl (lv_at hl 0 rfl) ?_
  refine r_getF C hW (ci := 12) kx0 ff_12_24 cl_12 fl_RX12_49 dX12_isCode_3 (fun k1000001 => ?_)
  refine lv_aload_n hx hb dX12_isCode_6 rfl (lv_at hl 0 rfl) ?_
  refine r_getI C hW (ci := 12) kx0 ff_12_18 cl_12 fl_RX12_242 dX12_isCode_7 ?_
  refine r_iald C hW hm k1000001 dX12_isCode_10 (fun hm => ?_)
  refine lv_iconst (v := 1) hx hb dX12_isCode_11 (by decide) ?_
  refine lv_isub hx hb dX12_isCode_12 ?_
  obtain ⟨v1000003, hc1000002, hm⟩ := q_b1i hm
  refine q_callS C hW hS (As := [.int x1, .int 0, .int ((dt.1 (al.2.2 x0 24) (Int32.toNatClampNeg (dt.1 x0 18))) - 1)]) (rest := []) (st1 := [.int v1000003]) (c_X12_in l D al dt x1 0 ((dt.1 (al.2.2 x0 24) (Int32.toNatClampNeg (dt.1 x0 18))) - 1) v1000003 hc1000002) yl_X12_in sl_X12_in ml_RX12_376 rfl ⟨Nat.le_of_ble_eq_true rfl, Nat.le_of_ble_eq_true rfl⟩ hl rfl (Nat.le_of_ble_eq_true rfl) dX12_isCode_13 ⟨Nat.le_refl _, Nat.le_refl _⟩ rfl (fun H locs k1000004 hW hS => ?_)
  exact e_z C hW hS hm dX12_isCode_16
theorem dX12_arePair_0 : decode cX12_arePair 0 = .ok (.aload_n 0, 1) := by decide +kernel
theorem dX12_arePair_1 : decode cX12_arePair 1 = .ok (.iload_n 1, 1) := by decide +kernel
theorem dX12_arePair_2 : decode cX12_arePair 2 = .ok (.invokevirtual 380, 3) := by decide +kernel
theorem dX12_arePair_5 : decode cX12_arePair 5 = .ok (.ifCond .eq 28, 3) := by decide +kernel
theorem dX12_arePair_8 : decode cX12_arePair 8 = .ok (.aload_n 0, 1) := by decide +kernel
theorem dX12_arePair_9 : decode cX12_arePair 9 = .ok (.iload_n 2, 1) := by decide +kernel
theorem dX12_arePair_10 : decode cX12_arePair 10 = .ok (.invokevirtual 380, 3) := by decide +kernel
theorem dX12_arePair_13 : decode cX12_arePair 13 = .ok (.ifCond .eq 20, 3) := by decide +kernel
theorem dX12_arePair_16 : decode cX12_arePair 16 = .ok (.aload_n 0, 1) := by decide +kernel
theorem dX12_arePair_17 : decode cX12_arePair 17 = .ok (.iload_n 1, 1) := by decide +kernel
theorem dX12_arePair_18 : decode cX12_arePair 18 = .ok (.invokevirtual 327, 3) := by decide +kernel
theorem dX12_arePair_21 : decode cX12_arePair 21 = .ok (.aload_n 0, 1) := by decide +kernel
theorem dX12_arePair_22 : decode cX12_arePair 22 = .ok (.iload_n 2, 1) := by decide +kernel
theorem dX12_arePair_23 : decode cX12_arePair 23 = .ok (.invokevirtual 327, 3) := by decide +kernel
theorem dX12_arePair_26 : decode cX12_arePair 26 = .ok (.if_icmp .ne 7, 3) := by decide +kernel
theorem dX12_arePair_29 : decode cX12_arePair 29 = .ok (.iconst 1, 1) := by decide +kernel
theorem dX12_arePair_30 : decode cX12_arePair 30 = .ok (.goto 4, 3) := by decide +kernel
theorem dX12_arePair_33 : decode cX12_arePair 33 = .ok (.iconst 0, 1) := by decide +kernel
theorem dX12_arePair_34 : decode cX12_arePair 34 = .ok (.ireturn, 1) := by decide +kernel
set_option maxRecDepth 100000 in
theorem c_X12_arePair (l : Launch) (D : q_D) (al : q_Al) (dt : q_Dt) (x0 : Nat) (x1 : Int32) (x2 : Int32) (kx0 : al.1 x0 = 13) (r0 : Int32) (hm : X12_arePair al dt x0 x1 x2 = some r0) : q_Mt l yX12_arePair cX12_arePair 3 (some FieldType.boolean) 2 43 D al [.ref x0, .int x1, .int x2] dt 0 (some (.int r0)) dt := by
  refine q_Mt.of (by decide) (Nat.le_of_ble_eq_true rfl) ?_
  intro p e s m args below meth c ls C hargs hW hl
  have hx := C.1
  have hb := C.2.1
  have hown := C.2.2.2.2.2.1
  have hts := C.2.2.2.2.2.2.1
  have hS : va_S (q_A al) s.heap s.heap [] := va_S.rf
  have hl : lv_has ls 3 [(0, .ref x0), (1, .int x1), (2, .int x2)] := hl
  unfold X12_arePair at hm
  refine lv_aload_n hx hb dX12_arePair_0 rfl (lv_at hl 0 rfl) ?_
  refine lv_iload_n hx hb dX12_arePair_1 rfl (lv_at hl 1 rfl) ?_
  obtain ⟨v1000002, hc1000001, hm⟩ := q_b1i hm
  refine q_callV C hW hS (As := [.int x1]) (rest := []) (st1 := [.int v1000002]) (c_X12_isCode l D al dt x0 x1 kx0 v1000002 hc1000001) yl_X12_isCode vl_X12_isCode ml_RX12_380 (ci := 12) rfl kx0 (by decide) rfl ⟨Nat.le_of_ble_eq_true rfl, Nat.le_of_ble_eq_true rfl⟩ hl rfl (Nat.le_of_ble_eq_true rfl) dX12_arePair_2 ⟨Nat.le_refl _, Nat.le_refl _⟩ rfl (fun H locs k1000003 hW hS => ?_)
  refine q_ifc hm (fun c1000004 hm => ?_) (fun c1000004 hm => ?_)
  · refine lv_if_eq (tgt := 33) hx hb dX12_arePair_5 (by decide) (fun _ => ?_) (fun h => absurd c1000004 h)
    refine lv_iconst (v := 0) hx hb dX12_arePair_33 (by decide) ?_
    exact e_zl C hW hS (Or.inl rfl) hm dX12_arePair_34
  refine lv_if_eq (tgt := 33) hx hb dX12_arePair_5 (by decide) (fun h => absurd h c1000004) (fun _ => ?_)
  refine lv_aload_n hx hb dX12_arePair_8 rfl (lv_at hl 0 rfl) ?_
  refine lv_iload_n hx hb dX12_arePair_9 rfl (lv_at hl 2 rfl) ?_
  obtain ⟨v1000006, hc1000005, hm⟩ := q_b1i hm
  refine q_callV C hW hS (As := [.int x2]) (rest := []) (st1 := [.int v1000006]) (c_X12_isCode l D al dt x0 x2 kx0 v1000006 hc1000005) yl_X12_isCode vl_X12_isCode ml_RX12_380 (ci := 12) rfl kx0 (by decide) rfl ⟨Nat.le_of_ble_eq_true rfl, Nat.le_of_ble_eq_true rfl⟩ hl rfl (Nat.le_of_ble_eq_true rfl) dX12_arePair_10 ⟨Nat.le_refl _, Nat.le_refl _⟩ rfl (fun H locs k1000007 hW hS => ?_)
  refine q_ifc hm (fun c1000008 hm => ?_) (fun c1000008 hm => ?_)
  · refine lv_if_eq (tgt := 33) hx hb dX12_arePair_13 (by decide) (fun _ => ?_) (fun h => absurd c1000008 h)
    refine lv_iconst (v := 0) hx hb dX12_arePair_33 (by decide) ?_
    exact e_zl C hW hS (Or.inl rfl) hm dX12_arePair_34
  refine lv_if_eq (tgt := 33) hx hb dX12_arePair_13 (by decide) (fun h => absurd h c1000008) (fun _ => ?_)
  refine lv_aload_n hx hb dX12_arePair_16 rfl (lv_at hl 0 rfl) ?_
  refine lv_iload_n hx hb dX12_arePair_17 rfl (lv_at hl 1 rfl) ?_
  obtain ⟨v1000010, hc1000009, hm⟩ := q_b1i hm
  refine q_callV C hW hS (As := [.int x1]) (rest := []) (st1 := [.int v1000010]) (c_X12_long0 l D al dt x0 x1 kx0 v1000010 hc1000009) yl_X12_long0 vl_X12_long0 ml_RX12_327 (ci := 12) rfl kx0 (by decide) rfl ⟨Nat.le_of_ble_eq_true rfl, Nat.le_of_ble_eq_true rfl⟩ hl rfl (Nat.le_of_ble_eq_true rfl) dX12_arePair_18 ⟨Nat.le_refl _, Nat.le_refl _⟩ rfl (fun H locs k1000011 hW hS => ?_)
  refine lv_aload_n hx hb dX12_arePair_21 rfl (lv_at hl 0 rfl) ?_
  refine lv_iload_n hx hb dX12_arePair_22 rfl (lv_at hl 2 rfl) ?_
  obtain ⟨v1000013, hc1000012, hm⟩ := q_b1i hm
  refine q_callV C hW hS (As := [.int x2]) (rest := [.int v1000010]) (st1 := [.int v1000013, .int v1000010]) (c_X12_long0 l D al dt x0 x2 kx0 v1000013 hc1000012) yl_X12_long0 vl_X12_long0 ml_RX12_327 (ci := 12) rfl kx0 (by decide) rfl ⟨Nat.le_of_ble_eq_true rfl, Nat.le_of_ble_eq_true rfl⟩ hl rfl (Nat.le_of_ble_eq_true rfl) dX12_arePair_23 ⟨Nat.le_refl _, Nat.le_refl _⟩ rfl (fun H locs k1000014 hW hS => ?_)
  refine q_ifc hm (fun c1000015 hm => ?_) (fun c1000015 hm => ?_)
  · refine lv_icmp_ne (tgt := 33) hx hb dX12_arePair_26 (by decide) (fun h => absurd c1000015 h) (fun _ => ?_)
    refine lv_iconst (v := 1) hx hb dX12_arePair_29 (by decide) ?_
    refine lv_goto (tgt := 34) hx hb dX12_arePair_30 (by decide) ?_
    exact e_zl C hW hS (Or.inr rfl) hm dX12_arePair_34
  refine lv_icmp_ne (tgt := 33) hx hb dX12_arePair_26 (by decide) (fun _ => ?_) (fun h => absurd h c1000015)
  refine lv_iconst (v := 0) hx hb dX12_arePair_33 (by decide) ?_
  exact e_zl C hW hS (Or.inl rfl) hm dX12_arePair_34
