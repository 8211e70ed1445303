theorem dX5_small_0 : decode cX5_small 0 = .ok (.iload_n 1, 1) := by decide +kernel
theorem dX5_small_1 : decode cX5_small 1 = .ok (.ifCond .lt 22, 3) := by decide +kernel
theorem dX5_small_4 : decode cX5_small 4 = .ok (.iload_n 1, 1) := by decide +kernel
theorem dX5_small_5 : decode cX5_small 5 = .ok (.aload_n 0, 1) := by decide +kernel
theorem dX5_small_6 : decode cX5_small 6 = .ok (.getfield 13, 3) := by decide +kernel
theorem dX5_small_9 : decode cX5_small 9 = .ok (.arraylength, 1) := by decide +kernel
theorem dX5_small_10 : decode cX5_small 10 = .ok (.if_icmp .ge 13, 3) := by decide +kernel
theorem dX5_small_13 : decode cX5_small 13 = .ok (.aload_n 0, 1) := by decide +kernel
theorem dX5_small_14 : decode cX5_small 14 = .ok (.getfield 13, 3) := by decide +kernel
theorem dX5_small_17 : decode cX5_small 17 = .ok (.iload_n 1, 1) := by decide +kernel
theorem dX5_small_18 : decode cX5_small 18 = .ok (.laload, 1) := by decide +kernel
theorem dX5_small_19 : decode cX5_small 19 = .ok (.l2i, 1) := by decide +kernel
theorem dX5_small_20 : decode cX5_small 20 = .ok (.goto 4, 3) := by decide +kernel
theorem dX5_small_23 : decode cX5_small 23 = .ok (.iconst 0, 1) := by decide +kernel
theorem dX5_small_24 : decode cX5_small 24 = .ok (.ireturn, 1) := by decide +kernel
set_option maxRecDepth 100000 in
theorem c_X5_small (l : Launch) (D : q_D) (al : q_Al) (dt : q_Dt) (x0 : Nat) (x1 : Int32) (kx0 : al.1 x0 = 6) (r0 : Int32) (hm : X5_small al dt x0 x1 = some r0) : q_Mt l yX5_small cX5_small 2 (some FieldType.int) 0 0 D al [.ref x0, .int x1] dt 0 (some (.int r0)) dt := by
  refine q_Mt.of (by decide) (Nat.le_of_ble_eq_true rfl) ?_
  intro p e s m args below meth c ls C hargs hW hl
  have hx := C.1
  have hb := C.2.1
  have hown := C.2.2.2.2.2.1
  have hts := C.2.2.2.2.2.2.1
  have hS : va_S (q_A al) s.heap s.heap [] := va_S.rf
  have hl : lv_has ls 2 [(0, .ref x0), (1, .int x1)] := hl
  unfold X5_small at hm
  refine lv_iload_n hx hb dX5_small_0 rfl (lv_at hl 1 rfl) ?_
  refine q_ifc hm (fun c1000001 hm => ?_) (fun c1000001 hm => ?_)
  · refine lv_if_lt (tgt := 23) hx hb dX5_small_1 (by decide) (fun _ => ?_) (fun h => absurd c1000001 h)
    refine lv_iconst (v := 0) hx hb dX5_small_23 (by decide) ?_
    exact e_i C hW hS hm dX5_small_24
  refine lv_if_lt (tgt := 23) hx hb dX5_small_1 (by decide) (fun h => absurd h c1000001) (fun _ => ?_)
  refine lv_iload_n hx hb dX5_small_4 rfl (lv_at hl 1 rfl) ?_
  refine lv_aload_n hx hb dX5_small_5 rfl (lv_at hl 0 rfl) ?_
  refine r_getF C hW (ci := 5) kx0 ff_5_0 cl_5 fl_RX5_13 dX5_small_6 (fun k1000002 => ?_)
  refine q_alenJ C hW k1000002 dX5_small_9 ?_
  refine q_ifc hm (fun c1000003 hm => ?_) (fun c1000003 hm => ?_)
  · refine lv_icmp_ge (tgt := 23) hx hb dX5_small_10 (by decide) (fun _ => ?_) (fun h => absurd c1000003 h)
    refine lv_iconst (v := 0) hx hb dX5_small_23 (by decide) ?_
    exact e_i C hW hS hm dX5_small_24
  refine lv_icmp_ge (tgt := 23) hx hb dX5_small_10 (by decide) (fun h => absurd h c1000003) (fun _ => ?_)
  refine lv_aload_n hx hb dX5_small_13 rfl (lv_at hl 0 rfl) ?_
  refine r_getF C hW (ci := 5) kx0 ff_5_0 cl_5 fl_RX5_13 dX5_small_14 (fun k1000004 => ?_)
  refine lv_iload_n hx hb dX5_small_17 rfl (lv_at hl 1 rfl) ?_
  refine r_lald C hW hm k1000004 dX5_small_18 (fun hm => ?_)
  refine lv_l2i (v := (Int64.toInt32 (dt.2.1 (al.2.2 x0 0) (Int32.toNatClampNeg x1)))) hx hb dX5_small_19 rfl ?_
  refine lv_goto (tgt := 24) hx hb dX5_small_20 (by decide) ?_
  exact e_i C hW hS hm dX5_small_24
theorem dX0_chipAt_0 : decode cX0_chipAt 0 = .ok (.aload_n 0, 1) := by decide +kernel
theorem dX0_chipAt_1 : decode cX0_chipAt 1 = .ok (.getfield 14, 3) := by decide +kernel
theorem dX0_chipAt_4 : decode cX0_chipAt 4 = .ok (.iload_n 1, 1) := by decide +kernel
theorem dX0_chipAt_5 : decode cX0_chipAt 5 = .ok (.invokevirtual 24, 3) := by decide +kernel
theorem dX0_chipAt_8 : decode cX0_chipAt 8 = .ok (.ireturn, 1) := by decide +kernel
set_option maxRecDepth 100000 in
theorem c_X0_chipAt (l : Launch) (D : q_D) (al : q_Al) (dt : q_Dt) (x0 : Nat) (x1 : Int32) (kx0 : al.1 x0 = 1) (r0 : Int32) (hm : X0_chipAt al dt x0 x1 = some r0) : q_Mt l yX0_chipAt cX0_chipAt 2 (some FieldType.int) 1 21 D al [.ref x0, .int x1] dt 0 (some (.int r0)) dt := by
  refine q_Mt.of (by decide) (Nat.le_of_ble_eq_true rfl) ?_
  intro p e s m args below meth c ls C hargs hW hl
  have hx := C.1
  have hb := C.2.1
  have hown := C.2.2.2.2.2.1
  have hts := C.2.2.2.2.2.2.1
  have hS : va_S (q_A al) s.heap s.heap [] := va_S.rf
  have hl : lv_has ls 2 [(0, .ref x0), (1, .int x1)] := hl
  unfold X0_chipAt at hm
  refine lv_aload_n hx hb dX0_chipAt_0 rfl (lv_at hl 0 rfl) ?_
  refine r_getF C hW (ci := 0) kx0 ff_0_0 cl_0 fl_RX0_14 dX0_chipAt_1 (fun k1000001 => ?_)
  refine lv_iload_n hx hb dX0_chipAt_4 rfl (lv_at hl 1 rfl) ?_
  obtain ⟨v1000003, hc1000002, hm⟩ := q_b1i hm
  refine q_callV C hW hS (As := [.int x1]) (rest := []) (st1 := [.int v1000003]) (c_X5_small l D al dt (al.2.2 x0 0) x1 k1000001 v1000003 hc1000002) yl_X5_small vl_X5_small ml_RX0_24 (ci := 5) rfl k1000001 (by decide) rfl ⟨Nat.le_of_ble_eq_true rfl, Nat.le_of_ble_eq_true rfl⟩ hl rfl (Nat.le_of_ble_eq_true rfl) dX0_chipAt_5 ⟨Nat.le_refl _, Nat.le_refl _⟩ rfl (fun H locs k1000004 hW hS => ?_)
  exact e_i C hW hS hm dX0_chipAt_8
theorem dX11_remainder_0 : decode cX11_remainder 0 = .ok (.lload_n 2, 1) := by decide +kernel
theorem dX11_remainder_1 : decode cX11_remainder 1 = .ok (.lconst 1, 1) := by decide +kernel
theorem dX11_remainder_2 : decode cX11_remainder 2 = .ok (.lcmp, 1) := by decide +kernel
theorem dX11_remainder_3 : decode cX11_remainder 3 = .ok (.ifCond .ge 5, 3) := by decide +kernel
theorem dX11_remainder_6 : decode cX11_remainder 6 = .ok (.lconst 0, 1) := by decide +kernel
theorem dX11_remainder_7 : decode cX11_remainder 7 = .ok (.lreturn, 1) := by decide +kernel
theorem dX11_remainder_8 : decode cX11_remainder 8 = .ok (.lload_n 0, 1) := by decide +kernel
theorem dX11_remainder_9 : decode cX11_remainder 9 = .ok (.lload_n 2, 1) := by decide +kernel
theorem dX11_remainder_10 : decode cX11_remainder 10 = .ok (.lrem, 1) := by decide +kernel
theorem dX11_remainder_11 : decode cX11_remainder 11 = .ok (.lstore 4, 2) := by decide +kernel
theorem dX11_remainder_13 : decode cX11_remainder 13 = .ok (.lload 4, 2) := by decide +kernel
theorem dX11_remainder_15 : decode cX11_remainder 15 = .ok (.lconst 0, 1) := by decide +kernel
theorem dX11_remainder_16 : decode cX11_remainder 16 = .ok (.lcmp, 1) := by decide +kernel
theorem dX11_remainder_17 : decode cX11_remainder 17 = .ok (.ifCond .ge 10, 3) := by decide +kernel
theorem dX11_remainder_20 : decode cX11_remainder 20 = .ok (.lload 4, 2) := by decide +kernel
theorem dX11_remainder_22 : decode cX11_remainder 22 = .ok (.lload_n 2, 1) := by decide +kernel
theorem dX11_remainder_23 : decode cX11_remainder 23 = .ok (.ladd, 1) := by decide +kernel
theorem dX11_remainder_24 : decode cX11_remainder 24 = .ok (.goto 5, 3) := by decide +kernel
theorem dX11_remainder_27 : decode cX11_remainder 27 = .ok (.lload 4, 2) := by decide +kernel
theorem dX11_remainder_29 : decode cX11_remainder 29 = .ok (.lreturn, 1) := by decide +kernel
set_option maxRecDepth 100000 in
theorem c_X11_remainder (l : Launch) (D : q_D) (al : q_Al) (dt : q_Dt) (x0 : Int64) (x2 : Int64) (r0 : Int64) (hm : X11_remainder x0 x2 = some r0) : q_Mt l yX11_remainder cX11_remainder 6 (some FieldType.long) 0 0 D al [.long x0, .long x2] dt 0 (some (.long r0)) dt := by
  refine q_Mt.of (by decide) (Nat.le_of_ble_eq_true rfl) ?_
  intro p e s m args below meth c ls C hargs hW hl
  have hx := C.1
  have hb := C.2.1
  have hown := C.2.2.2.2.2.1
  have hts := C.2.2.2.2.2.2.1
  have hS : va_S (q_A al) s.heap s.heap [] := va_S.rf
  have hl : lv_has ls 6 [(0, .long x0), (2, .long x2)] := hl
  unfold X11_remainder at hm
  refine lv_lload_n hx hb dX11_remainder_0 rfl (lv_at hl 1 rfl) ?_
  refine lv_lconst (v := 1) hx hb dX11_remainder_1 rfl ?_
  refine W.lcmp hx hb dX11_remainder_2 ?_
  refine q_ifc hm (fun c1000001 hm => ?_) (fun c1000001 hm => ?_)
  · refine lv_if_ge (tgt := 8) hx hb dX11_remainder_3 (by decide) (fun _ => ?_) (fun h => absurd (q_cmp_ge.mpr c1000001) h)
    refine lv_lload_n hx hb dX11_remainder_8 rfl (lv_at hl 0 rfl) ?_
    refine lv_lload_n hx hb dX11_remainder_9 rfl (lv_at hl 1 rfl) ?_
    obtain ⟨c1000002, hm⟩ := q_ini hm
    refine lv_lrem hx hb dX11_remainder_10 c1000002 ?_
    refine lv_lstore (i := 4) (lv' := [(4, .long (q_lr x0 x2)), (0, .long x0), (2, .long x2)]) hx hb dX11_remainder_11 hl (by decide) rfl (fun ls hl => ?_)
    refine lv_lload hx hb dX11_remainder_13 (lv_at hl 0 rfl) ?_
    refine lv_lconst (v := 0) hx hb dX11_remainder_15 rfl ?_
    refine W.lcmp hx hb dX11_remainder_16 ?_
    refine q_ifc hm (fun c1000003 hm => ?_) (fun c1000003 hm => ?_)
    · refine lv_if_ge (tgt := 27) hx hb dX11_remainder_17 (by decide) (fun _ => ?_) (fun h => absurd (q_cmp_ge.mpr c1000003) h)
      refine lv_lload hx hb dX11_remainder_27 (lv_at hl 0 rfl) ?_
      exact e_l C hW hS hm dX11_remainder_29
    refine lv_if_ge (tgt := 27) hx hb dX11_remainder_17 (by decide) (fun h => absurd (q_cmp_ge.mp h) c1000003) (fun _ => ?_)
    refine lv_lload hx hb dX11_remainder_20 (lv_at hl 0 rfl) ?_
    refine lv_lload_n hx hb dX11_remainder_22 rfl (lv_at hl 2 rfl) ?_
    refine lv_ladd hx hb dX11_remainder_23 ?_
    refine lv_goto (tgt := 29) hx hb dX11_remainder_24 (by decide) ?_
    exact e_l C hW hS hm dX11_remainder_29
  refine lv_if_ge (tgt := 8) hx hb dX11_remainder_3 (by decide) (fun h => absurd (q_cmp_ge.mp h) c1000001) (fun _ => ?_)
  refine lv_lconst (v := 0) hx hb dX11_remainder_6 rfl ?_
  exact e_l C hW hS hm dX11_remainder_7
theorem dX0_chipRoundAt_0 : decode cX0_chipRoundAt 0 = .ok (.aload_n 0, 1) := by decide +kernel
theorem dX0_chipRoundAt_1 : decode cX0_chipRoundAt 1 = .ok (.getfield 14, 3) := by decide +kernel
theorem dX0_chipRoundAt_4 : decode cX0_chipRoundAt 4 = .ok (.iload_n 1, 1) := by decide +kernel
theorem dX0_chipRoundAt_5 : decode cX0_chipRoundAt 5 = .ok (.i2l, 1) := by decide +kernel
theorem dX0_chipRoundAt_6 : decode cX0_chipRoundAt 6 = .ok (.aload_n 0, 1) := by decide +kernel
theorem dX0_chipRoundAt_7 : decode cX0_chipRoundAt 7 = .ok (.getfield 20, 3) := by decide +kernel
theorem dX0_chipRoundAt_10 : decode cX0_chipRoundAt 10 = .ok (.i2l, 1) := by decide +kernel
theorem dX0_chipRoundAt_11 : decode cX0_chipRoundAt 11 = .ok (.invokestatic 28, 3) := by decide +kernel
theorem dX0_chipRoundAt_14 : decode cX0_chipRoundAt 14 = .ok (.l2i, 1) := by decide +kernel
theorem dX0_chipRoundAt_15 : decode cX0_chipRoundAt 15 = .ok (.invokevirtual 24, 3) := by decide +kernel
theorem dX0_chipRoundAt_18 : decode cX0_chipRoundAt 18 = .ok (.ireturn, 1) := by decide +kernel
set_option maxRecDepth 100000 in
theorem c_X0_chipRoundAt (l : Launch) (D : q_D) (al : q_Al) (dt : q_Dt) (x0 : Nat) (x1 : Int32) (kx0 : al.1 x0 = 1) (r0 : Int32) (hm : X0_chipRoundAt al dt x0 x1 = some r0) : q_Mt l yX0_chipRoundAt cX0_chipRoundAt 2 (some FieldType.int) 1 25 D al [.ref x0, .int x1] dt 0 (some (.int r0)) dt := by
  refine q_Mt.of (by decide) (Nat.le_of_ble_eq_true rfl) ?_
  intro p e s m args below meth c ls C hargs hW hl
  have hx := C.1
  have hb := C.2.1
  have hown := C.2.2.2.2.2.1
  have hts := C.2.2.2.2.2.2.1
  have hS : va_S (q_A al) s.heap s.heap [] := va_S.rf
  have hl : lv_has ls 2 [(0, .ref x0), (1, .int x1)] := hl
  unfold X0_chipRoundAt at hm
  refine lv_aload_n hx hb dX0_chipRoundAt_0 rfl (lv_at hl 0 rfl) ?_
  refine r_getF C hW (ci := 0) kx0 ff_0_0 cl_0 fl_RX0_14 dX0_chipRoundAt_1 (fun k1000001 => ?_)
  refine lv_iload_n hx hb dX0_chipRoundAt_4 rfl (lv_at hl 1 rfl) ?_
  refine lv_i2l (v := (Int32.toInt64 x1)) hx hb dX0_chipRoundAt_5 rfl ?_
  refine lv_aload_n hx hb dX0_chipRoundAt_6 rfl (lv_at hl 0 rfl) ?_
  refine r_getI C hW (ci := 0) kx0 ff_0_1 cl_0 fl_RX0_20 dX0_chipRoundAt_7 ?_
  refine lv_i2l (v := (Int32.toInt64 (dt.1 x0 1))) hx hb dX0_chipRoundAt_10 rfl ?_
  obtain ⟨v1000003, hc1000002, hm⟩ := q_b1i hm
  refine q_callS C hW hS (As := [.long (Int32.toInt64 x1), .long (Int32.toInt64 (dt.1 x0 1))]) (rest := [.ref (al.2.2 x0 0)]) (st1 := [.long v1000003, .ref (al.2.2 x0 0)]) (c_X11_remainder l D al dt (Int32.toInt64 x1) (Int32.toInt64 (dt.1 x0 1)) v1000003 hc1000002) yl_X11_remainder sl_X11_remainder ml_RX0_28 rfl ⟨Nat.le_of_ble_eq_true rfl, Nat.le_of_ble_eq_true rfl⟩ hl rfl (Nat.le_of_ble_eq_true rfl) dX0_chipRoundAt_11 ⟨Nat.le_refl _, Nat.le_refl _⟩ rfl (fun H locs k1000004 hW hS => ?_)
  refine lv_l2i (v := (Int64.toInt32 v1000003)) hx hb dX0_chipRoundAt_14 rfl ?_
  obtain ⟨v1000006, hc1000005, hm⟩ := q_b1i hm
  refine q_callV C hW hS (As := [.int (Int64.toInt32 v1000003)]) (rest := []) (st1 := [.int v1000006]) (c_X5_small l D al dt (al.2.2 x0 0) (Int64.toInt32 v1000003) k1000001 v1000006 hc1000005) yl_X5_small vl_X5_small ml_RX0_24 (ci := 5) rfl k1000001 (by decide) rfl ⟨Nat.le_of_ble_eq_true rfl, Nat.le_of_ble_eq_true rfl⟩ hl rfl (Nat.le_of_ble_eq_true rfl) dX0_chipRoundAt_15 ⟨Nat.le_refl _, Nat.le_refl _⟩ rfl (fun H locs k1000007 hW hS => ?_)
  exact e_i C hW hS hm dX0_chipRoundAt_18
theorem dX0_cells_0 : decode cX0_cells 0 = .ok (.iconst 4, 1) := by decide +kernel
theorem dX0_cells_1 : decode cX0_cells 1 = .ok (.aload_n 0, 1) := by decide +kernel
theorem dX0_cells_2 : decode cX0_cells 2 = .ok (.getfield 20, 3) := by decide +kernel
theorem dX0_cells_5 : decode cX0_cells 5 = .ok (.imul, 1) := by decide +kernel
theorem dX0_cells_6 : decode cX0_cells 6 = .ok (.ireturn, 1) := by decide +kernel
set_option maxRecDepth 100000 in
theorem c_X0_cells (l : Launch) (D : q_D) (al : q_Al) (dt : q_Dt) (x0 : Nat) (kx0 : al.1 x0 = 1) (r0 : Int32) (hm : X0_cells al dt x0 = some r0) : q_Mt l yX0_cells cX0_cells 1 (some FieldType.int) 0 0 D al [.ref x0] dt 0 (some (.int r0)) dt := by
  refine q_Mt.of (by decide) (Nat.le_of_ble_eq_true rfl) ?_
  intro p e s m args below meth c ls C hargs hW hl
  have hx := C.1
  have hb := C.2.1
  have hown := C.2.2.2.2.2.1
  have hts := C.2.2.2.2.2.2.1
  have hS : va_S (q_A al) s.heap s.heap [] := va_S.rf
  have hl : lv_has ls 1 [(0, .ref x0)] := hl
  unfold X0_cells at hm
  refine lv_iconst (v := 4) hx hb dX0_cells_0 (by decide) ?_
  refine lv_aload_n hx hb dX0_cells_1 rfl (lv_at hl 0 rfl) ?_
  refine r_getI C hW (ci := 0) kx0 ff_0_1 cl_0 fl_RX0_20 dX0_cells_2 ?_
  refine lv_imul hx hb dX0_cells_5 ?_
  exact e_i C hW hS hm dX0_cells_6
theorem dX0_putBit_0 : decode cX0_putBit 0 = .ok (.aload_n 0, 1) := by decide +kernel
theorem dX0_putBit_1 : decode cX0_putBit 1 = .ok (.getfield 14, 3) := by decide +kernel
theorem dX0_putBit_4 : decode cX0_putBit 4 = .ok (.iload_n 1, 1) := by decide +kernel
theorem dX0_putBit_5 : decode cX0_putBit 5 = .ok (.iload_n 2, 1) := by decide +kernel
theorem dX0_putBit_6 : decode cX0_putBit 6 = .ok (.iconst 1, 1) := by decide +kernel
theorem dX0_putBit_7 : decode cX0_putBit 7 = .ok (.iand, 1) := by decide +kernel
theorem dX0_putBit_8 : decode cX0_putBit 8 = .ok (.iconst 1, 1) := by decide +kernel
theorem dX0_putBit_9 : decode cX0_putBit 9 = .ok (.if_icmp .ne 9, 3) := by decide +kernel
theorem dX0_putBit_12 : decode cX0_putBit 12 = .ok (.ldc2_w 32, 3) := by decide +kernel
theorem dX0_putBit_15 : decode cX0_putBit 15 = .ok (.goto 4, 3) := by decide +kernel
theorem dX0_putBit_18 : decode cX0_putBit 18 = .ok (.lconst 1, 1) := by decide +kernel
theorem dX0_putBit_19 : decode cX0_putBit 19 = .ok (.invokevirtual 34, 3) := by decide +kernel
theorem dX0_putBit_22 : decode cX0_putBit 22 = .ok (.return_, 1) := by decide +kernel
set_option maxRecDepth 100000 in
theorem c_X0_putBit (l : Launch) (D : q_D) (al : q_Al) (dt : q_Dt) (x0 : Nat) (x1 : Int32) (x2 : Int32) (kx0 : al.1 x0 = 1) (dt0 : q_Dt) (hm : X0_putBit al dt x0 x1 x2 = some dt0) : q_Mt l yX0_putBit cX0_putBit 3 (none) 1 23 D al [.ref x0, .int x1, .int x2] dt 0 none dt0 := by
  refine q_Mt.of (by decide) (Nat.le_of_ble_eq_true rfl) ?_
  intro p e s m args below meth c ls C hargs hW hl
  have hx := C.1
  have hb := C.2.1
  have hown := C.2.2.2.2.2.1
  have hts := C.2.2.2.2.2.2.1
  have hS : va_S (q_A al) s.heap s.heap [] := va_S.rf
  have hl : lv_has ls 3 [(0, .ref x0), (1, .int x1), (2, .int x2)] := hl
  unfold X0_putBit at hm
  have hB19 : ∀ (t0_19 : Nat) (t1_19 : Int32) (t2_19 : Int64) (kt0_19 : al.1 t0_19 = 6) (dt : q_Dt) (H : Heap) (locs : List Loc) (ls : Array Slot) (hm : X0_putBit_b19 al t0_19 t1_19 t2_19 dt = some dt0) (hW : q_W D al dt H) (hS : va_S (q_A al) s.heap H locs) (hl : lv_has ls 3 []), W p l e { frames := 1, cells := 0, slots := 0, locals := 23 } s m args below meth c H locs 0 0 (MQ below (q_Q none (fun H => q_W D al dt0 H ∧ q_Rk al 0 none) (q_A al)) args s 0 0 (q_A al)) (F0 m 19 ls [.long t2_19, .int t1_19, .ref t0_19]) := by
    intro t0_19 t1_19 t2_19 kt0_19 dt H locs ls hm hW hS hl
    unfold X0_putBit_b19 at hm
    obtain ⟨dt19002, hc19001, hm⟩ := q_b1i hm
    refine q_callV C hW hS (As := [.int t1_19, .long t2_19]) (rest := []) (st1 := []) (c_X5_put l D al dt t0_19 t1_19 t2_19 kt0_19 dt19002 hc19001) yl_X5_put vl_X5_put ml_RX0_34 (ci := 5) rfl kt0_19 (by decide) rfl ⟨Nat.le_of_ble_eq_true rfl, Nat.le_of_ble_eq_true rfl⟩ hl rfl (Nat.le_of_ble_eq_true rfl) dX0_putBit_19 ⟨Nat.le_refl _, Nat.le_refl _⟩ rfl (fun H locs k19003 hW hS => ?_)
    exact e_vD C hW hS hm dX0_putBit_22
  refine lv_aload_n hx hb dX0_putBit_0 rfl (lv_at hl 0 rfl) ?_
  refine r_getF C hW (ci := 0) kx0 ff_0_0 cl_0 fl_RX0_14 dX0_putBit_1 (fun k1000001 => ?_)
  refine lv_iload_n hx hb dX0_putBit_4 rfl (lv_at hl 1 rfl) ?_
  refine lv_iload_n hx hb dX0_putBit_5 rfl (lv_at hl 2 rfl) ?_
  refine lv_iconst (v := 1) hx hb dX0_putBit_6 (by decide) ?_
  refine lv_iand hx hb dX0_putBit_7 ?_
  refine lv_iconst (v := 1) hx hb dX0_putBit_8 (by decide) ?_
  refine q_ifc hm (fun c1000002 hm => ?_) (fun c1000002 hm => ?_)
  · refine lv_icmp_ne (tgt := 18) hx hb dX0_putBit_9 (by decide) (fun h => absurd c1000002 h) (fun _ => ?_)
    refine lv_ldc2 (own := RX0) (v := (-1)) hx hb hown (hts _ wc_RX0_32) dX0_putBit_12 ?_
    refine lv_goto (tgt := 19) hx hb dX0_putBit_15 (by decide) ?_
    exact hB19 (al.2.2 x0 0) x1 (-1) k1000001 dt _ _ _ hm hW hS (lv_sub hl [] rfl)
  refine lv_icmp_ne (tgt := 18) hx hb dX0_putBit_9 (by decide) (fun _ => ?_) (fun h => absurd h c1000002)
  refine lv_lconst (v := 1) hx hb dX0_putBit_18 rfl ?_
  exact hB19 (al.2.2 x0 0) x1 1 k1000001 dt _ _ _ hm hW hS (lv_sub hl [] rfl)
theorem dJ6_bitCount_0f7a4_0 : decode cJ6_bitCount_0f7a4 0 = .ok (.iload_n 0, 1) := by decide +kernel
theorem dJ6_bitCount_0f7a4_1 : decode cJ6_bitCount_0f7a4 1 = .ok (.iload_n 0, 1) := by decide +kernel
theorem dJ6_bitCount_0f7a4_2 : decode cJ6_bitCount_0f7a4 2 = .ok (.iconst 1, 1) := by decide +kernel
theorem dJ6_bitCount_0f7a4_3 : decode cJ6_bitCount_0f7a4 3 = .ok (.iushr, 1) := by decide +kernel
theorem dJ6_bitCount_0f7a4_4 : decode cJ6_bitCount_0f7a4 4 = .ok (.ldc_w 265, 3) := by decide +kernel
theorem dJ6_bitCount_0f7a4_7 : decode cJ6_bitCount_0f7a4 7 = .ok (.iand, 1) := by decide +kernel
theorem dJ6_bitCount_0f7a4_8 : decode cJ6_bitCount_0f7a4 8 = .ok (.isub, 1) := by decide +kernel
theorem dJ6_bitCount_0f7a4_9 : decode cJ6_bitCount_0f7a4 9 = .ok (.istore_n 0, 1) := by decide +kernel
theorem dJ6_bitCount_0f7a4_10 : decode cJ6_bitCount_0f7a4 10 = .ok (.iload_n 0, 1) := by decide +kernel
theorem dJ6_bitCount_0f7a4_11 : decode cJ6_bitCount_0f7a4 11 = .ok (.ldc_w 266, 3) := by decide +kernel
theorem dJ6_bitCount_0f7a4_14 : decode cJ6_bitCount_0f7a4 14 = .ok (.iand, 1) := by decide +kernel
theorem dJ6_bitCount_0f7a4_15 : decode cJ6_bitCount_0f7a4 15 = .ok (.iload_n 0, 1) := by decide +kernel
theorem dJ6_bitCount_0f7a4_16 : decode cJ6_bitCount_0f7a4 16 = .ok (.iconst 2, 1) := by decide +kernel
theorem dJ6_bitCount_0f7a4_17 : decode cJ6_bitCount_0f7a4 17 = .ok (.iushr, 1) := by decide +kernel
theorem dJ6_bitCount_0f7a4_18 : decode cJ6_bitCount_0f7a4 18 = .ok (.ldc_w 266, 3) := by decide +kernel
theorem dJ6_bitCount_0f7a4_21 : decode cJ6_bitCount_0f7a4 21 = .ok (.iand, 1) := by decide +kernel
theorem dJ6_bitCount_0f7a4_22 : decode cJ6_bitCount_0f7a4 22 = .ok (.iadd, 1) := by decide +kernel
theorem dJ6_bitCount_0f7a4_23 : decode cJ6_bitCount_0f7a4 23 = .ok (.istore_n 0, 1) := by decide +kernel
theorem dJ6_bitCount_0f7a4_24 : decode cJ6_bitCount_0f7a4 24 = .ok (.iload_n 0, 1) := by decide +kernel
theorem dJ6_bitCount_0f7a4_25 : decode cJ6_bitCount_0f7a4 25 = .ok (.iload_n 0, 1) := by decide +kernel
theorem dJ6_bitCount_0f7a4_26 : decode cJ6_bitCount_0f7a4 26 = .ok (.iconst 4, 1) := by decide +kernel
theorem dJ6_bitCount_0f7a4_27 : decode cJ6_bitCount_0f7a4 27 = .ok (.iushr, 1) := by decide +kernel
theorem dJ6_bitCount_0f7a4_28 : decode cJ6_bitCount_0f7a4 28 = .ok (.iadd, 1) := by decide +kernel
theorem dJ6_bitCount_0f7a4_29 : decode cJ6_bitCount_0f7a4 29 = .ok (.ldc_w 267, 3) := by decide +kernel
theorem dJ6_bitCount_0f7a4_32 : decode cJ6_bitCount_0f7a4 32 = .ok (.iand, 1) := by decide +kernel
theorem dJ6_bitCount_0f7a4_33 : decode cJ6_bitCount_0f7a4 33 = .ok (.istore_n 0, 1) := by decide +kernel
theorem dJ6_bitCount_0f7a4_34 : decode cJ6_bitCount_0f7a4 34 = .ok (.iload_n 0, 1) := by decide +kernel
theorem dJ6_bitCount_0f7a4_35 : decode cJ6_bitCount_0f7a4 35 = .ok (.iload_n 0, 1) := by decide +kernel
theorem dJ6_bitCount_0f7a4_36 : decode cJ6_bitCount_0f7a4 36 = .ok (.bipush 8, 2) := by decide +kernel
theorem dJ6_bitCount_0f7a4_38 : decode cJ6_bitCount_0f7a4 38 = .ok (.iushr, 1) := by decide +kernel
theorem dJ6_bitCount_0f7a4_39 : decode cJ6_bitCount_0f7a4 39 = .ok (.iadd, 1) := by decide +kernel
theorem dJ6_bitCount_0f7a4_40 : decode cJ6_bitCount_0f7a4 40 = .ok (.istore_n 0, 1) := by decide +kernel
theorem dJ6_bitCount_0f7a4_41 : decode cJ6_bitCount_0f7a4 41 = .ok (.iload_n 0, 1) := by decide +kernel
theorem dJ6_bitCount_0f7a4_42 : decode cJ6_bitCount_0f7a4 42 = .ok (.iload_n 0, 1) := by decide +kernel
theorem dJ6_bitCount_0f7a4_43 : decode cJ6_bitCount_0f7a4 43 = .ok (.bipush 16, 2) := by decide +kernel
theorem dJ6_bitCount_0f7a4_45 : decode cJ6_bitCount_0f7a4 45 = .ok (.iushr, 1) := by decide +kernel
theorem dJ6_bitCount_0f7a4_46 : decode cJ6_bitCount_0f7a4 46 = .ok (.iadd, 1) := by decide +kernel
theorem dJ6_bitCount_0f7a4_47 : decode cJ6_bitCount_0f7a4 47 = .ok (.istore_n 0, 1) := by decide +kernel
theorem dJ6_bitCount_0f7a4_48 : decode cJ6_bitCount_0f7a4 48 = .ok (.iload_n 0, 1) := by decide +kernel
theorem dJ6_bitCount_0f7a4_49 : decode cJ6_bitCount_0f7a4 49 = .ok (.bipush 63, 2) := by decide +kernel
theorem dJ6_bitCount_0f7a4_51 : decode cJ6_bitCount_0f7a4 51 = .ok (.iand, 1) := by decide +kernel
theorem dJ6_bitCount_0f7a4_52 : decode cJ6_bitCount_0f7a4 52 = .ok (.ireturn, 1) := by decide +kernel
set_option maxRecDepth 100000 in
theorem c_J6_bitCount_0f7a4 (l : Launch) (D : q_D) (al : q_Al) (dt : q_Dt) (x0 : Int32) (r0 : Int32) (hm : J6_bitCount_0f7a4 x0 = some r0) : q_Mt l yJ6_bitCount_0f7a4 cJ6_bitCount_0f7a4 1 (some FieldType.int) 0 0 D al [.int x0] dt 0 (some (.int r0)) dt := by
  refine q_Mt.of (by decide) (Nat.le_of_ble_eq_true rfl) ?_
  intro p e s m args below meth c ls C hargs hW hl
  have hx := C.1
  have hb := C.2.1
  have hown := C.2.2.2.2.2.1
  have hts := C.2.2.2.2.2.2.1
  have hS : va_S (q_A al) s.heap s.heap [] := va_S.rf
  have hl : lv_has ls 1 [(0, .int x0)] := hl
  unfold J6_bitCount_0f7a4 at hm
  refine lv_iload_n hx hb dJ6_bitCount_0f7a4_0 rfl (lv_at hl 0 rfl) ?_
  refine lv_iload_n hx hb dJ6_bitCount_0f7a4_1 rfl (lv_at hl 0 rfl) ?_
  refine lv_iconst (v := 1) hx hb dJ6_bitCount_0f7a4_2 (by decide) ?_
  refine lv_iushr (v := (q_ushr x0 1)) hx hb dJ6_bitCount_0f7a4_3 rfl ?_
  refine lv_ldcw (own := RJ6) (v := 1431655765) hx hb hown (hts _ wc_RJ6_265) dJ6_bitCount_0f7a4_4 ?_
  refine lv_iand hx hb dJ6_bitCount_0f7a4_7 ?_
  refine lv_isub hx hb dJ6_bitCount_0f7a4_8 ?_
  refine lv_istore_n (i := 0) (lv' := [(0, .int (x0 - ((q_ushr x0 1) &&& 1431655765)))]) hx hb dJ6_bitCount_0f7a4_9 rfl hl (by decide) rfl (fun ls hl => ?_)
  refine lv_iload_n hx hb dJ6_bitCount_0f7a4_10 rfl (lv_at hl 0 rfl) ?_
  refine lv_ldcw (own := RJ6) (v := 858993459) hx hb hown (hts _ wc_RJ6_266) dJ6_bitCount_0f7a4_11 ?_
  refine lv_iand hx hb dJ6_bitCount_0f7a4_14 ?_
  refine lv_iload_n hx hb dJ6_bitCount_0f7a4_15 rfl (lv_at hl 0 rfl) ?_
  refine lv_iconst (v := 2) hx hb dJ6_bitCount_0f7a4_16 (by decide) ?_
  refine lv_iushr (v := (q_ushr (x0 - ((q_ushr x0 1) &&& 1431655765)) 2)) hx hb dJ6_bitCount_0f7a4_17 rfl ?_
  refine lv_ldcw (own := RJ6) (v := 858993459) hx hb hown (hts _ wc_RJ6_266) dJ6_bitCount_0f7a4_18 ?_
  refine lv_iand hx hb dJ6_bitCount_0f7a4_21 ?_
  refine lv_iadd hx hb dJ6_bitCount_0f7a4_22 ?_
  refine q_nmI hm (fun v1000001 ev1000001 hm => ?_)
  refine lv_istore_n (i := 0) (lv' := [(0, .int v1000001)]) hx hb dJ6_bitCount_0f7a4_23 rfl hl (by decide) rfl (fun ls hl => ?_)
  refine lv_iload_n hx hb dJ6_bitCount_0f7a4_24 rfl (lv_at hl 0 rfl) ?_
  refine lv_iload_n hx hb dJ6_bitCount_0f7a4_25 rfl (lv_at hl 0 rfl) ?_
  refine lv_iconst (v := 4) hx hb dJ6_bitCount_0f7a4_26 (by decide) ?_
  refine lv_iushr (v := (q_ushr v1000001 4)) hx hb dJ6_bitCount_0f7a4_27 rfl ?_
  refine lv_iadd hx hb dJ6_bitCount_0f7a4_28 ?_
  refine lv_ldcw (own := RJ6) (v := 252645135) hx hb hown (hts _ wc_RJ6_267) dJ6_bitCount_0f7a4_29 ?_
  refine lv_iand hx hb dJ6_bitCount_0f7a4_32 ?_
  refine q_nmI hm (fun v1000002 ev1000002 hm => ?_)
  refine lv_istore_n (i := 0) (lv' := [(0, .int v1000002)]) hx hb dJ6_bitCount_0f7a4_33 rfl hl (by decide) rfl (fun ls hl => ?_)
  refine lv_iload_n hx hb dJ6_bitCount_0f7a4_34 rfl (lv_at hl 0 rfl) ?_
  refine lv_iload_n hx hb dJ6_bitCount_0f7a4_35 rfl (lv_at hl 0 rfl) ?_
  refine lv_bipush (v := 8) hx hb dJ6_bitCount_0f7a4_36 (by decide) ?_
  refine lv_iushr (v := (q_ushr v1000002 8)) hx hb dJ6_bitCount_0f7a4_38 rfl ?_
  refine lv_iadd hx hb dJ6_bitCount_0f7a4_39 ?_
  refine lv_istore_n (i := 0) (lv' := [(0, .int (v1000002 + (q_ushr v1000002 8)))]) hx hb dJ6_bitCount_0f7a4_40 rfl hl (by decide) rfl (fun ls hl => ?_)
  refine lv_iload_n hx hb dJ6_bitCount_0f7a4_41 rfl (lv_at hl 0 rfl) ?_
  refine lv_iload_n hx hb dJ6_bitCount_0f7a4_42 rfl (lv_at hl 0 rfl) ?_
  refine lv_bipush (v := 16) hx hb dJ6_bitCount_0f7a4_43 (by decide) ?_
  refine lv_iushr (v := (q_ushr (v1000002 + (q_ushr v1000002 8)) 16)) hx hb dJ6_bitCount_0f7a4_45 rfl ?_
  refine lv_iadd hx hb dJ6_bitCount_0f7a4_46 ?_
  refine q_nmI hm (fun v1000003 ev1000003 hm => ?_)
  refine lv_istore_n (i := 0) (lv' := [(0, .int v1000003)]) hx hb dJ6_bitCount_0f7a4_47 rfl hl (by decide) rfl (fun ls hl => ?_)
  refine lv_iload_n hx hb dJ6_bitCount_0f7a4_48 rfl (lv_at hl 0 rfl) ?_
  refine lv_bipush (v := 63) hx hb dJ6_bitCount_0f7a4_49 (by decide) ?_
  refine lv_iand hx hb dJ6_bitCount_0f7a4_51 ?_
  exact e_i C hW hS hm dJ6_bitCount_0f7a4_52
theorem dX0_layRegister_0 : decode cX0_layRegister 0 = .ok (.aload_n 0, 1) := by decide +kernel
theorem dX0_layRegister_1 : decode cX0_layRegister 1 = .ok (.iconst 1, 1) := by decide +kernel
theorem dX0_layRegister_2 : decode cX0_layRegister 2 = .ok (.iload_n 1, 1) := by decide +kernel
theorem dX0_layRegister_3 : decode cX0_layRegister 3 = .ok (.ishl, 1) := by decide +kernel
theorem dX0_layRegister_4 : decode cX0_layRegister 4 = .ok (.iconst 1, 1) := by decide +kernel
theorem dX0_layRegister_5 : decode cX0_layRegister 5 = .ok (.isub, 1) := by decide +kernel
theorem dX0_layRegister_6 : decode cX0_layRegister 6 = .ok (.putfield 20, 3) := by decide +kernel
theorem dX0_layRegister_9 : decode cX0_layRegister 9 = .ok (.iload_n 3, 1) := by decide +kernel
theorem dX0_layRegister_10 : decode cX0_layRegister 10 = .ok (.istore 4, 2) := by decide +kernel
theorem dX0_layRegister_12 : decode cX0_layRegister 12 = .ok (.iconst 0, 1) := by decide +kernel
theorem dX0_layRegister_13 : decode cX0_layRegister 13 = .ok (.istore 5, 2) := by decide +kernel
theorem dX0_layRegister_15 : decode cX0_layRegister 15 = .ok (.iload 5, 2) := by decide +kernel
theorem dX0_layRegister_17 : decode cX0_layRegister 17 = .ok (.aload_n 0, 1) := by decide +kernel
theorem dX0_layRegister_18 : decode cX0_layRegister 18 = .ok (.getfield 20, 3) := by decide +kernel
theorem dX0_layRegister_21 : decode cX0_layRegister 21 = .ok (.if_icmp .ge 37, 3) := by decide +kernel
theorem dX0_layRegister_24 : decode cX0_layRegister 24 = .ok (.aload_n 0, 1) := by decide +kernel
theorem dX0_layRegister_25 : decode cX0_layRegister 25 = .ok (.iload 5, 2) := by decide +kernel
theorem dX0_layRegister_27 : decode cX0_layRegister 27 = .ok (.iload 4, 2) := by decide +kernel
theorem dX0_layRegister_29 : decode cX0_layRegister 29 = .ok (.invokevirtual 38, 3) := by decide +kernel
theorem dX0_layRegister_32 : decode cX0_layRegister 32 = .ok (.iload 4, 2) := by decide +kernel
theorem dX0_layRegister_34 : decode cX0_layRegister 34 = .ok (.iconst 1, 1) := by decide +kernel
theorem dX0_layRegister_35 : decode cX0_layRegister 35 = .ok (.ishr, 1) := by decide +kernel
theorem dX0_layRegister_36 : decode cX0_layRegister 36 = .ok (.iload 4, 2) := by decide +kernel
theorem dX0_layRegister_38 : decode cX0_layRegister 38 = .ok (.iload_n 2, 1) := by decide +kernel
theorem dX0_layRegister_39 : decode cX0_layRegister 39 = .ok (.iand, 1) := by decide +kernel
theorem dX0_layRegister_40 : decode cX0_layRegister 40 = .ok (.invokestatic 42, 3) := by decide +kernel
theorem dX0_layRegister_43 : decode cX0_layRegister 43 = .ok (.iconst 1, 1) := by decide +kernel
theorem dX0_layRegister_44 : decode cX0_layRegister 44 = .ok (.iand, 1) := by decide +kernel
theorem dX0_layRegister_45 : decode cX0_layRegister 45 = .ok (.iload_n 1, 1) := by decide +kernel
theorem dX0_layRegister_46 : decode cX0_layRegister 46 = .ok (.iconst 1, 1) := by decide +kernel
theorem dX0_layRegister_47 : decode cX0_layRegister 47 = .ok (.isub, 1) := by decide +kernel
theorem dX0_layRegister_48 : decode cX0_layRegister 48 = .ok (.ishl, 1) := by decide +kernel
theorem dX0_layRegister_49 : decode cX0_layRegister 49 = .ok (.ior, 1) := by decide +kernel
theorem dX0_layRegister_50 : decode cX0_layRegister 50 = .ok (.istore 4, 2) := by decide +kernel
theorem dX0_layRegister_52 : decode cX0_layRegister 52 = .ok (.iinc 5 1, 3) := by decide +kernel
theorem dX0_layRegister_55 : decode cX0_layRegister 55 = .ok (.goto (-40), 3) := by decide +kernel
theorem dX0_layRegister_58 : decode cX0_layRegister 58 = .ok (.return_, 1) := by decide +kernel
set_option maxRecDepth 100000 in
theorem c_X0_layRegister (l : Launch) (D : q_D) (al : q_Al) (dt : q_Dt) (x0 : Nat) (x1 : Int32) (x2 : Int32) (x3 : Int32) (kx0 : al.1 x0 = 1) (dt0 : q_Dt) (hm : X0_layRegister al dt x0 x1 x2 x3 = some dt0) : q_Mt l yX0_layRegister cX0_layRegister 6 (none) 2 45 D al [.ref x0, .int x1, .int x2, .int x3] dt 0 none dt0 := by
  refine q_Mt.of (by decide) (Nat.le_of_ble_eq_true rfl) ?_
  intro p e s m args below meth c ls C hargs hW hl
  have hx := C.1
  have hb := C.2.1
  have hown := C.2.2.2.2.2.1
  have hts := C.2.2.2.2.2.2.1
  have hS : va_S (q_A al) s.heap s.heap [] := va_S.rf
  have hl : lv_has ls 6 [(0, .ref x0), (1, .int x1), (2, .int x2), (3, .int x3)] := hl
  unfold X0_layRegister at hm
  have hB15 : ∀ (x0_15 : Nat) (x1_15 : Int32) (x2_15 : Int32) (kx0_15 : al.1 x0_15 = 1) (n_15 : Nat) (x4_15 : Int32) (x5_15 : Int32) (dt : q_Dt) (H : Heap) (locs : List Loc) (ls : Array Slot) (hm : X0_layRegister_b15 al x0_15 x1_15 x2_15 n_15 x4_15 x5_15 dt = some dt0) (hW : q_W D al dt H) (hS : va_S (q_A al) s.heap H locs) (hl : lv_has ls 6 [(0, .ref x0_15), (1, .int x1_15), (2, .int x2_15), (4, .int x4_15), (5, .int x5_15)]), W p l e { frames := 2, cells := 0, slots := 0, locals := 45 } s m args below meth c H locs 0 0 (MQ below (q_Q none (fun H => q_W D al dt0 H ∧ q_Rk al 0 none) (q_A al)) args s 0 0 (q_A al)) (F0 m 15 ls []) := by
    intro x0_15 x1_15 x2_15 kx0_15
    intro n_15
    induction n_15 with
    | zero => intro x4_15 x5_15 dt H locs ls hm hW hS hl; cases hm
    | succ n_15 ih15 =>
      intro x4_15 x5_15 dt H locs ls hm hW hS hl
      rw [X0_layRegister_b15] at hm
      refine lv_iload hx hb dX0_layRegister_15 (lv_at hl 4 rfl) ?_
      refine lv_aload_n hx hb dX0_layRegister_17 rfl (lv_at hl 0 rfl) ?_
      refine r_getI C hW (ci := 0) kx0_15 ff_0_1 cl_0 fl_RX0_20 dX0_layRegister_18 ?_
      refine q_ifc hm (fun c15001 hm => ?_) (fun c15001 hm => ?_)
      · refine lv_icmp_ge (tgt := 58) hx hb dX0_layRegister_21 (by decide) (fun _ => ?_) (fun h => absurd c15001 h)
        exact e_vD C hW hS hm dX0_layRegister_58
      refine lv_icmp_ge (tgt := 58) hx hb dX0_layRegister_21 (by decide) (fun h => absurd h c15001) (fun _ => ?_)
      refine lv_aload_n hx hb dX0_layRegister_24 rfl (lv_at hl 0 rfl) ?_
      refine lv_iload hx hb dX0_layRegister_25 (lv_at hl 4 rfl) ?_
      refine lv_iload hx hb dX0_layRegister_27 (lv_at hl 3 rfl) ?_
      obtain ⟨dt15003, hc15002, hm⟩ := q_b1i hm
      refine q_callV C hW hS (As := [.int x5_15, .int x4_15]) (rest := []) (st1 := []) (c_X0_putBit l D al dt x0_15 x5_15 x4_15 kx0_15 dt15003 hc15002) yl_X0_putBit vl_X0_putBit ml_RX0_38 (ci := 0) rfl kx0_15 (by decide) rfl ⟨Nat.le_of_ble_eq_true rfl, Nat.le_of_ble_eq_true rfl⟩ hl rfl (Nat.le_of_ble_eq_true rfl) dX0_layRegister_29 ⟨Nat.le_refl _, Nat.le_refl _⟩ rfl (fun H locs k15004 hW hS => ?_)
      refine lv_iload hx hb dX0_layRegister_32 (lv_at hl 3 rfl) ?_
      refine lv_iconst (v := 1) hx hb dX0_layRegister_34 (by decide) ?_
      refine lv_ishr hx hb dX0_layRegister_35 ?_
      refine lv_iload hx hb dX0_layRegister_36 (lv_at hl 3 rfl) ?_
      refine lv_iload_n hx hb dX0_layRegister_38 rfl (lv_at hl 2 rfl) ?_
      refine lv_iand hx hb dX0_layRegister_39 ?_
      obtain ⟨v15006, hc15005, hm⟩ := q_b1i hm
      refine q_callS C hW hS (As := [.int (x4_15 &&& x2_15)]) (rest := [.int (x4_15 >>> (1 &&& 31))]) (st1 := [.int v15006, .int (x4_15 >>> (1 &&& 31))]) (c_J6_bitCount_0f7a4 l D al dt15003 (x4_15 &&& x2_15) v15006 hc15005) yl_J6_bitCount_0f7a4 sl_J6_bitCount_0f7a4 ml_RX0_42 rfl ⟨Nat.le_of_ble_eq_true rfl, Nat.le_of_ble_eq_true rfl⟩ hl rfl (Nat.le_of_ble_eq_true rfl) dX0_layRegister_40 ⟨Nat.le_refl _, Nat.le_refl _⟩ rfl (fun H locs k15007 hW hS => ?_)
      refine lv_iconst (v := 1) hx hb dX0_layRegister_43 (by decide) ?_
      refine lv_iand hx hb dX0_layRegister_44 ?_
      refine lv_iload_n hx hb dX0_layRegister_45 rfl (lv_at hl 1 rfl) ?_
      refine lv_iconst (v := 1) hx hb dX0_layRegister_46 (by decide) ?_
      refine lv_isub hx hb dX0_layRegister_47 ?_
      refine lv_ishl hx hb dX0_layRegister_48 ?_
      refine lv_ior hx hb dX0_layRegister_49 ?_
      refine q_nmI hm (fun v15008 ev15008 hm => ?_)
      refine lv_istore (i := 4) (lv' := [(4, .int v15008), (0, .ref x0_15), (1, .int x1_15), (2, .int x2_15), (5, .int x5_15)]) hx hb dX0_layRegister_50 hl (by decide) rfl (fun ls hl => ?_)
      refine lv_iinc (v := (x5_15 + 1)) (lv' := [(5, .int (x5_15 + 1)), (4, .int v15008), (0, .ref x0_15), (1, .int x1_15), (2, .int x2_15)]) hx hb dX0_layRegister_52 hl (k := 4) rfl rfl (by decide) rfl (fun ls hl => ?_)
      refine lv_goto (tgt := 15) hx hb dX0_layRegister_55 (by decide) ?_
      exact ih15 v15008 (x5_15 + 1) dt15003 _ _ _ hm hW hS (lv_sub hl [2, 3, 4, 1, 0] rfl)
  refine lv_aload_n hx hb dX0_layRegister_0 rfl (lv_at hl 0 rfl) ?_
  refine lv_iconst (v := 1) hx hb dX0_layRegister_1 (by decide) ?_
  refine lv_iload_n hx hb dX0_layRegister_2 rfl (lv_at hl 1 rfl) ?_
  refine lv_ishl hx hb dX0_layRegister_3 ?_
  refine lv_iconst (v := 1) hx hb dX0_layRegister_4 (by decide) ?_
  refine lv_isub hx hb dX0_layRegister_5 ?_
  refine r_putI C hW hS hm (ci := 0) kx0 ff_0_1 cl_0 fl_RX0_20 (nf_0_1) rfl dX0_layRegister_6 (fun dt1000001 H locs hm hW hS => ?_)
  refine lv_iload_n hx hb dX0_layRegister_9 rfl (lv_at hl 3 rfl) ?_
  refine lv_istore (i := 4) (lv' := [(4, .int x3), (0, .ref x0), (1, .int x1), (2, .int x2), (3, .int x3)]) hx hb dX0_layRegister_10 hl (by decide) rfl (fun ls hl => ?_)
  refine lv_iconst (v := 0) hx hb dX0_layRegister_12 (by decide) ?_
  refine lv_istore (i := 5) (lv' := [(5, .int 0), (4, .int x3), (0, .ref x0), (1, .int x1), (2, .int x2), (3, .int x3)]) hx hb dX0_layRegister_13 hl (by decide) rfl (fun ls hl => ?_)
  exact hB15 x0 x1 x2 kx0 q_FU x3 0 dt1000001 _ _ _ hm hW hS (lv_sub hl [2, 3, 4, 1, 0] rfl)
theorem dX0_layWalsh_0 : decode cX0_layWalsh 0 = .ok (.aload_n 0, 1) := by decide +kernel
theorem dX0_layWalsh_1 : decode cX0_layWalsh 1 = .ok (.iconst 1, 1) := by decide +kernel
theorem dX0_layWalsh_2 : decode cX0_layWalsh 2 = .ok (.iload_n 1, 1) := by decide +kernel
theorem dX0_layWalsh_3 : decode cX0_layWalsh 3 = .ok (.ishl, 1) := by decide +kernel
theorem dX0_layWalsh_4 : decode cX0_layWalsh 4 = .ok (.putfield 20, 3) := by decide +kernel
theorem dX0_layWalsh_7 : decode cX0_layWalsh 7 = .ok (.iconst 0, 1) := by decide +kernel
theorem dX0_layWalsh_8 : decode cX0_layWalsh 8 = .ok (.istore_n 3, 1) := by decide +kernel
theorem dX0_layWalsh_9 : decode cX0_layWalsh 9 = .ok (.iload_n 3, 1) := by decide +kernel
theorem dX0_layWalsh_10 : decode cX0_layWalsh 10 = .ok (.aload_n 0, 1) := by decide +kernel
theorem dX0_layWalsh_11 : decode cX0_layWalsh 11 = .ok (.getfield 20, 3) := by decide +kernel
theorem dX0_layWalsh_14 : decode cX0_layWalsh 14 = .ok (.if_icmp .ge 20, 3) := by decide +kernel
theorem dX0_layWalsh_17 : decode cX0_layWalsh 17 = .ok (.aload_n 0, 1) := by decide +kernel
theorem dX0_layWalsh_18 : decode cX0_layWalsh 18 = .ok (.iload_n 3, 1) := by decide +kernel
theorem dX0_layWalsh_19 : decode cX0_layWalsh 19 = .ok (.iload_n 3, 1) := by decide +kernel
theorem dX0_layWalsh_20 : decode cX0_layWalsh 20 = .ok (.iload_n 2, 1) := by decide +kernel
theorem dX0_layWalsh_21 : decode cX0_layWalsh 21 = .ok (.iand, 1) := by decide +kernel
theorem dX0_layWalsh_22 : decode cX0_layWalsh 22 = .ok (.invokestatic 42, 3) := by decide +kernel
theorem dX0_layWalsh_25 : decode cX0_layWalsh 25 = .ok (.invokevirtual 38, 3) := by decide +kernel
theorem dX0_layWalsh_28 : decode cX0_layWalsh 28 = .ok (.iinc 3 1, 3) := by decide +kernel
theorem dX0_layWalsh_31 : decode cX0_layWalsh 31 = .ok (.goto (-22), 3) := by decide +kernel
theorem dX0_layWalsh_34 : decode cX0_layWalsh 34 = .ok (.return_, 1) := by decide +kernel
set_option maxRecDepth 100000 in
theorem c_X0_layWalsh (l : Launch) (D : q_D) (al : q_Al) (dt : q_Dt) (x0 : Nat) (x1 : Int32) (x2 : Int32) (kx0 : al.1 x0 = 1) (dt0 : q_Dt) (hm : X0_layWalsh al dt x0 x1 x2 = some dt0) : q_Mt l yX0_layWalsh cX0_layWalsh 4 (none) 2 45 D al [.ref x0, .int x1, .int x2] dt 0 none dt0 := by
  refine q_Mt.of (by decide) (Nat.le_of_ble_eq_true rfl) ?_
  intro p e s m args below meth c ls C hargs hW hl
  have hx := C.1
  have hb := C.2.1
  have hown := C.2.2.2.2.2.1
  have hts := C.2.2.2.2.2.2.1
  have hS : va_S (q_A al) s.heap s.heap [] := va_S.rf
  have hl : lv_has ls 4 [(0, .ref x0), (1, .int x1), (2, .int x2)] := hl
  unfold X0_layWalsh at hm
  have hB9 : ∀ (x0_9 : Nat) (x2_9 : Int32) (kx0_9 : al.1 x0_9 = 1) (n_9 : Nat) (x3_9 : Int32) (dt : q_Dt) (H : Heap) (locs : List Loc) (ls : Array Slot) (hm : X0_layWalsh_b9 al x0_9 x2_9 n_9 x3_9 dt = some dt0) (hW : q_W D al dt H) (hS : va_S (q_A al) s.heap H locs) (hl : lv_has ls 4 [(0, .ref x0_9), (2, .int x2_9), (3, .int x3_9)]), W p l e { frames := 2, cells := 0, slots := 0, locals := 45 } s m args below meth c H locs 0 0 (MQ below (q_Q none (fun H => q_W D al dt0 H ∧ q_Rk al 0 none) (q_A al)) args s 0 0 (q_A al)) (F0 m 9 ls []) := by
    intro x0_9 x2_9 kx0_9
    intro n_9
    induction n_9 with
    | zero => intro x3_9 dt H locs ls hm hW hS hl; cases hm
    | succ n_9 ih9 =>
      intro x3_9 dt H locs ls hm hW hS hl
      rw [X0_layWalsh_b9] at hm
      refine lv_iload_n hx hb dX0_layWalsh_9 rfl (lv_at hl 2 rfl) ?_
      refine lv_aload_n hx hb dX0_layWalsh_10 rfl (lv_at hl 0 rfl) ?_
      refine r_getI C hW (ci := 0) kx0_9 ff_0_1 cl_0 fl_RX0_20 dX0_layWalsh_11 ?_
      refine q_ifc hm (fun c9001 hm => ?_) (fun c9001 hm => ?_)
      · refine lv_icmp_ge (tgt := 34) hx hb dX0_layWalsh_14 (by decide) (fun _ => ?_) (fun h => absurd c9001 h)
        exact e_vD C hW hS hm dX0_layWalsh_34
      refine lv_icmp_ge (tgt := 34) hx hb dX0_layWalsh_14 (by decide) (fun h => absurd h c9001) (fun _ => ?_)
      refine lv_aload_n hx hb dX0_layWalsh_17 rfl (lv_at hl 0 rfl) ?_
      refine lv_iload_n hx hb dX0_layWalsh_18 rfl (lv_at hl 2 rfl) ?_
      refine lv_iload_n hx hb dX0_layWalsh_19 rfl (lv_at hl 2 rfl) ?_
      refine lv_iload_n hx hb dX0_layWalsh_20 rfl (lv_at hl 1 rfl) ?_
      refine lv_iand hx hb dX0_layWalsh_21 ?_
      obtain ⟨v9003, hc9002, hm⟩ := q_b1i hm
      refine q_callS C hW hS (As := [.int (x3_9 &&& x2_9)]) (rest := [.int x3_9, .ref x0_9]) (st1 := [.int v9003, .int x3_9, .ref x0_9]) (c_J6_bitCount_0f7a4 l D al dt (x3_9 &&& x2_9) v9003 hc9002) yl_J6_bitCount_0f7a4 sl_J6_bitCount_0f7a4 ml_RX0_42 rfl ⟨Nat.le_of_ble_eq_true rfl, Nat.le_of_ble_eq_true rfl⟩ hl rfl (Nat.le_of_ble_eq_true rfl) dX0_layWalsh_22 ⟨Nat.le_refl _, Nat.le_refl _⟩ rfl (fun H locs k9004 hW hS => ?_)
      obtain ⟨dt9006, hc9005, hm⟩ := q_b1i hm
      refine q_callV C hW hS (As := [.int x3_9, .int v9003]) (rest := []) (st1 := []) (c_X0_putBit l D al dt x0_9 x3_9 v9003 kx0_9 dt9006 hc9005) yl_X0_putBit vl_X0_putBit ml_RX0_38 (ci := 0) rfl kx0_9 (by decide) rfl ⟨Nat.le_of_ble_eq_true rfl, Nat.le_of_ble_eq_true rfl⟩ hl rfl (Nat.le_of_ble_eq_true rfl) dX0_layWalsh_25 ⟨Nat.le_refl _, Nat.le_refl _⟩ rfl (fun H locs k9007 hW hS => ?_)
      refine lv_iinc (v := (x3_9 + 1)) (lv' := [(3, .int (x3_9 + 1)), (0, .ref x0_9), (2, .int x2_9)]) hx hb dX0_layWalsh_28 hl (k := 2) rfl rfl (by decide) rfl (fun ls hl => ?_)
      refine lv_goto (tgt := 9) hx hb dX0_layWalsh_31 (by decide) ?_
      exact ih9 (x3_9 + 1) dt9006 _ _ _ hm hW hS (lv_sub hl [1, 2, 0] rfl)
  refine lv_aload_n hx hb dX0_layWalsh_0 rfl (lv_at hl 0 rfl) ?_
  refine lv_iconst (v := 1) hx hb dX0_layWalsh_1 (by decide) ?_
  refine lv_iload_n hx hb dX0_layWalsh_2 rfl (lv_at hl 1 rfl) ?_
  refine lv_ishl hx hb dX0_layWalsh_3 ?_
  refine r_putI C hW hS hm (ci := 0) kx0 ff_0_1 cl_0 fl_RX0_20 (nf_0_1) rfl dX0_layWalsh_4 (fun dt1000001 H locs hm hW hS => ?_)
  refine lv_iconst (v := 0) hx hb dX0_layWalsh_7 (by decide) ?_
  refine lv_istore_n (i := 3) (lv' := [(3, .int 0), (0, .ref x0), (1, .int x1), (2, .int x2)]) hx hb dX0_layWalsh_8 rfl hl (by decide) rfl (fun ls hl => ?_)
  exact hB9 x0 x2 kx0 q_FU 0 dt1000001 _ _ _ hm hW hS (lv_sub hl [1, 3, 0] rfl)
theorem dX0_layBits_0 : decode cX0_layBits 0 = .ok (.aload_n 0, 1) := by decide +kernel
theorem dX0_layBits_1 : decode cX0_layBits 1 = .ok (.iload_n 1, 1) := by decide +kernel
theorem dX0_layBits_2 : decode cX0_layBits 2 = .ok (.putfield 20, 3) := by decide +kernel
theorem dX0_layBits_5 : decode cX0_layBits 5 = .ok (.iconst 0, 1) := by decide +kernel
theorem dX0_layBits_6 : decode cX0_layBits 6 = .ok (.istore_n 3, 1) := by decide +kernel
theorem dX0_layBits_7 : decode cX0_layBits 7 = .ok (.iload_n 3, 1) := by decide +kernel
theorem dX0_layBits_8 : decode cX0_layBits 8 = .ok (.aload_n 0, 1) := by decide +kernel
theorem dX0_layBits_9 : decode cX0_layBits 9 = .ok (.getfield 20, 3) := by decide +kernel
theorem dX0_layBits_12 : decode cX0_layBits 12 = .ok (.if_icmp .ge 17, 3) := by decide +kernel
theorem dX0_layBits_15 : decode cX0_layBits 15 = .ok (.aload_n 0, 1) := by decide +kernel
theorem dX0_layBits_16 : decode cX0_layBits 16 = .ok (.iload_n 3, 1) := by decide +kernel
theorem dX0_layBits_17 : decode cX0_layBits 17 = .ok (.iload_n 2, 1) := by decide +kernel
theorem dX0_layBits_18 : decode cX0_layBits 18 = .ok (.iload_n 3, 1) := by decide +kernel
theorem dX0_layBits_19 : decode cX0_layBits 19 = .ok (.ishr, 1) := by decide +kernel
theorem dX0_layBits_20 : decode cX0_layBits 20 = .ok (.invokevirtual 38, 3) := by decide +kernel
theorem dX0_layBits_23 : decode cX0_layBits 23 = .ok (.iinc 3 1, 3) := by decide +kernel
theorem dX0_layBits_26 : decode cX0_layBits 26 = .ok (.goto (-19), 3) := by decide +kernel
theorem dX0_layBits_29 : decode cX0_layBits 29 = .ok (.return_, 1) := by decide +kernel
set_option maxRecDepth 100000 in
theorem c_X0_layBits (l : Launch) (D : q_D) (al : q_Al) (dt : q_Dt) (x0 : Nat) (x1 : Int32) (x2 : Int32) (kx0 : al.1 x0 = 1) (dt0 : q_Dt) (hm : X0_layBits al dt x0 x1 x2 = some dt0) : q_Mt l yX0_layBits cX0_layBits 4 (none) 2 45 D al [.ref x0, .int x1, .int x2] dt 0 none dt0 := by
  refine q_Mt.of (by decide) (Nat.le_of_ble_eq_true rfl) ?_
  intro p e s m args below meth c ls C hargs hW hl
  have hx := C.1
  have hb := C.2.1
  have hown := C.2.2.2.2.2.1
  have hts := C.2.2.2.2.2.2.1
  have hS : va_S (q_A al) s.heap s.heap [] := va_S.rf
  have hl : lv_has ls 4 [(0, .ref x0), (1, .int x1), (2, .int x2)] := hl
  unfold X0_layBits at hm
  have hB7 : ∀ (x0_7 : Nat) (x2_7 : Int32) (kx0_7 : al.1 x0_7 = 1) (n_7 : Nat) (x3_7 : Int32) (dt : q_Dt) (H : Heap) (locs : List Loc) (ls : Array Slot) (hm : X0_layBits_b7 al x0_7 x2_7 n_7 x3_7 dt = some dt0) (hW : q_W D al dt H) (hS : va_S (q_A al) s.heap H locs) (hl : lv_has ls 4 [(0, .ref x0_7), (2, .int x2_7), (3, .int x3_7)]), W p l e { frames := 2, cells := 0, slots := 0, locals := 45 } s m args below meth c H locs 0 0 (MQ below (q_Q none (fun H => q_W D al dt0 H ∧ q_Rk al 0 none) (q_A al)) args s 0 0 (q_A al)) (F0 m 7 ls []) := by
    intro x0_7 x2_7 kx0_7
    intro n_7
    induction n_7 with
    | zero => intro x3_7 dt H locs ls hm hW hS hl; cases hm
    | succ n_7 ih7 =>
      intro x3_7 dt H locs ls hm hW hS hl
      rw [X0_layBits_b7] at hm
      refine lv_iload_n hx hb dX0_layBits_7 rfl (lv_at hl 2 rfl) ?_
      refine lv_aload_n hx hb dX0_layBits_8 rfl (lv_at hl 0 rfl) ?_
      refine r_getI C hW (ci := 0) kx0_7 ff_0_1 cl_0 fl_RX0_20 dX0_layBits_9 ?_
      refine q_ifc hm (fun c7001 hm => ?_) (fun c7001 hm => ?_)
      · refine lv_icmp_ge (tgt := 29) hx hb dX0_layBits_12 (by decide) (fun _ => ?_) (fun h => absurd c7001 h)
        exact e_vD C hW hS hm dX0_layBits_29
      refine lv_icmp_ge (tgt := 29) hx hb dX0_layBits_12 (by decide) (fun h => absurd h c7001) (fun _ => ?_)
      refine lv_aload_n hx hb dX0_layBits_15 rfl (lv_at hl 0 rfl) ?_
      refine lv_iload_n hx hb dX0_layBits_16 rfl (lv_at hl 2 rfl) ?_
      refine lv_iload_n hx hb dX0_layBits_17 rfl (lv_at hl 1 rfl) ?_
      refine lv_iload_n hx hb dX0_layBits_18 rfl (lv_at hl 2 rfl) ?_
      refine lv_ishr hx hb dX0_layBits_19 ?_
      obtain ⟨dt7003, hc7002, hm⟩ := q_b1i hm
      refine q_callV C hW hS (As := [.int x3_7, .int (x2_7 >>> (x3_7 &&& 31))]) (rest := []) (st1 := []) (c_X0_putBit l D al dt x0_7 x3_7 (x2_7 >>> (x3_7 &&& 31)) kx0_7 dt7003 hc7002) yl_X0_putBit vl_X0_putBit ml_RX0_38 (ci := 0) rfl kx0_7 (by decide) rfl ⟨Nat.le_of_ble_eq_true rfl, Nat.le_of_ble_eq_true rfl⟩ hl rfl (Nat.le_of_ble_eq_true rfl) dX0_layBits_20 ⟨Nat.le_refl _, Nat.le_refl _⟩ rfl (fun H locs k7004 hW hS => ?_)
      refine lv_iinc (v := (x3_7 + 1)) (lv' := [(3, .int (x3_7 + 1)), (0, .ref x0_7), (2, .int x2_7)]) hx hb dX0_layBits_23 hl (k := 2) rfl rfl (by decide) rfl (fun ls hl => ?_)
      refine lv_goto (tgt := 7) hx hb dX0_layBits_26 (by decide) ?_
      exact ih7 (x3_7 + 1) dt7003 _ _ _ hm hW hS (lv_sub hl [1, 2, 0] rfl)
  refine lv_aload_n hx hb dX0_layBits_0 rfl (lv_at hl 0 rfl) ?_
  refine lv_iload_n hx hb dX0_layBits_1 rfl (lv_at hl 1 rfl) ?_
  refine r_putI C hW hS hm (ci := 0) kx0 ff_0_1 cl_0 fl_RX0_20 (nf_0_1) rfl dX0_layBits_2 (fun dt1000001 H locs hm hW hS => ?_)
  refine lv_iconst (v := 0) hx hb dX0_layBits_5 (by decide) ?_
  refine lv_istore_n (i := 3) (lv' := [(3, .int 0), (0, .ref x0), (1, .int x1), (2, .int x2)]) hx hb dX0_layBits_6 rfl hl (by decide) rfl (fun ls hl => ?_)
  exact hB7 x0 x2 kx0 q_FU 0 dt1000001 _ _ _ hm hW hS (lv_sub hl [1, 3, 0] rfl)
theorem dX0_layBoth_0 : decode cX0_layBoth 0 = .ok (.aload_n 0, 1) := by decide +kernel
theorem dX0_layBoth_1 : decode cX0_layBoth 1 = .ok (.aload_n 1, 1) := by decide +kernel
theorem dX0_layBoth_2 : decode cX0_layBoth 2 = .ok (.getfield 20, 3) := by decide +kernel
theorem dX0_layBoth_5 : decode cX0_layBoth 5 = .ok (.putfield 20, 3) := by decide +kernel
theorem dX0_layBoth_8 : decode cX0_layBoth 8 = .ok (.iconst 0, 1) := by decide +kernel
theorem dX0_layBoth_9 : decode cX0_layBoth 9 = .ok (.istore 4, 2) := by decide +kernel
theorem dX0_layBoth_11 : decode cX0_layBoth 11 = .ok (.iload 4, 2) := by decide +kernel
theorem dX0_layBoth_13 : decode cX0_layBoth 13 = .ok (.aload_n 0, 1) := by decide +kernel
theorem dX0_layBoth_14 : decode cX0_layBoth 14 = .ok (.getfield 20, 3) := by decide +kernel
theorem dX0_layBoth_17 : decode cX0_layBoth 17 = .ok (.if_icmp .ge 34, 3) := by decide +kernel
theorem dX0_layBoth_20 : decode cX0_layBoth 20 = .ok (.aload_n 0, 1) := by decide +kernel
theorem dX0_layBoth_21 : decode cX0_layBoth 21 = .ok (.getfield 14, 3) := by decide +kernel
theorem dX0_layBoth_24 : decode cX0_layBoth 24 = .ok (.iload 4, 2) := by decide +kernel
theorem dX0_layBoth_26 : decode cX0_layBoth 26 = .ok (.aload_n 1, 1) := by decide +kernel
theorem dX0_layBoth_27 : decode cX0_layBoth 27 = .ok (.iload 4, 2) := by decide +kernel
theorem dX0_layBoth_29 : decode cX0_layBoth 29 = .ok (.invokevirtual 47, 3) := by decide +kernel
theorem dX0_layBoth_32 : decode cX0_layBoth 32 = .ok (.aload_n 2, 1) := by decide +kernel
theorem dX0_layBoth_33 : decode cX0_layBoth 33 = .ok (.iload 4, 2) := by decide +kernel
theorem dX0_layBoth_35 : decode cX0_layBoth 35 = .ok (.iload_n 3, 1) := by decide +kernel
theorem dX0_layBoth_36 : decode cX0_layBoth 36 = .ok (.iadd, 1) := by decide +kernel
theorem dX0_layBoth_37 : decode cX0_layBoth 37 = .ok (.invokevirtual 47, 3) := by decide +kernel
theorem dX0_layBoth_40 : decode cX0_layBoth 40 = .ok (.imul, 1) := by decide +kernel
theorem dX0_layBoth_41 : decode cX0_layBoth 41 = .ok (.i2l, 1) := by decide +kernel
theorem dX0_layBoth_42 : decode cX0_layBoth 42 = .ok (.invokevirtual 34, 3) := by decide +kernel
theorem dX0_layBoth_45 : decode cX0_layBoth 45 = .ok (.iinc 4 1, 3) := by decide +kernel
theorem dX0_layBoth_48 : decode cX0_layBoth 48 = .ok (.goto (-37), 3) := by decide +kernel
theorem dX0_layBoth_51 : decode cX0_layBoth 51 = .ok (.return_, 1) := by decide +kernel
set_option maxRecDepth 100000 in
theorem c_X0_layBoth (l : Launch) (D : q_D) (al : q_Al) (dt : q_Dt) (x0 : Nat) (x1 : Nat) (x2 : Nat) (x3 : Int32) (kx0 : al.1 x0 = 1) (kx1 : al.1 x1 = 1) (kx2 : al.1 x2 = 1) (dt0 : q_Dt) (hm : X0_layBoth al dt x0 x1 x2 x3 = some dt0) : q_Mt l yX0_layBoth cX0_layBoth 5 (none) 2 46 D al [.ref x0, .ref x1, .ref x2, .int x3] dt 0 none dt0 := by
  refine q_Mt.of (by decide) (Nat.le_of_ble_eq_true rfl) ?_
  intro p e s m args below meth c ls C hargs hW hl
  have hx := C.1
  have hb := C.2.1
  have hown := C.2.2.2.2.2.1
  have hts := C.2.2.2.2.2.2.1
  have hS : va_S (q_A al) s.heap s.heap [] := va_S.rf
  have hl : lv_has ls 5 [(0, .ref x0), (1, .ref x1), (2, .ref x2), (3, .int x3)] := hl
  unfold X0_layBoth at hm
  have hB11 : ∀ (x0_11 : Nat) (x1_11 : Nat) (x2_11 : Nat) (x3_11 : Int32) (kx0_11 : al.1 x0_11 = 1) (kx1_11 : al.1 x1_11 = 1) (kx2_11 : al.1 x2_11 = 1) (n_11 : Nat) (x4_11 : Int32) (dt : q_Dt) (H : Heap) (locs : List Loc) (ls : Array Slot) (hm : X0_layBoth_b11 al x0_11 x1_11 x2_11 x3_11 n_11 x4_11 dt = some dt0) (hW : q_W D al dt H) (hS : va_S (q_A al) s.heap H locs) (hl : lv_has ls 5 [(0, .ref x0_11), (1, .ref x1_11), (2, .ref x2_11), (3, .int x3_11), (4, .int x4_11)]), W p l e { frames := 2, cells := 0, slots := 0, locals := 46 } s m args below meth c H locs 0 0 (MQ below (q_Q none (fun H => q_W D al dt0 H ∧ q_Rk al 0 none) (q_A al)) args s 0 0 (q_A al)) (F0 m 11 ls []) := by
    intro x0_11 x1_11 x2_11 x3_11 kx0_11 kx1_11 kx2_11
    intro n_11
    induction n_11 with
    | zero => intro x4_11 dt H locs ls hm hW hS hl; cases hm
    | succ n_11 ih11 =>
      intro x4_11 dt H locs ls hm hW hS hl
      rw [X0_layBoth_b11] at hm
      refine lv_iload hx hb dX0_layBoth_11 (lv_at hl 4 rfl) ?_
      refine lv_aload_n hx hb dX0_layBoth_13 rfl (lv_at hl 0 rfl) ?_
      refine r_getI C hW (ci := 0) kx0_11 ff_0_1 cl_0 fl_RX0_20 dX0_layBoth_14 ?_
      refine q_ifc hm (fun c11001 hm => ?_) (fun c11001 hm => ?_)
      · refine lv_icmp_ge (tgt := 51) hx hb dX0_layBoth_17 (by decide) (fun _ => ?_) (fun h => absurd c11001 h)
        exact e_vD C hW hS hm dX0_layBoth_51
      refine lv_icmp_ge (tgt := 51) hx hb dX0_layBoth_17 (by decide) (fun h => absurd h c11001) (fun _ => ?_)
      refine lv_aload_n hx hb dX0_layBoth_20 rfl (lv_at hl 0 rfl) ?_
      refine r_getF C hW (ci := 0) kx0_11 ff_0_0 cl_0 fl_RX0_14 dX0_layBoth_21 (fun k11002 => ?_)
      refine lv_iload hx hb dX0_layBoth_24 (lv_at hl 4 rfl) ?_
      refine lv_aload_n hx hb dX0_layBoth_26 rfl (lv_at hl 1 rfl) ?_
      refine lv_iload hx hb dX0_layBoth_27 (lv_at hl 4 rfl) ?_
      obtain ⟨v11004, hc11003, hm⟩ := q_b1i hm
      refine q_callV C hW hS (As := [.int x4_11]) (rest := [.int x4_11, .ref (al.2.2 x0_11 0)]) (st1 := [.int v11004, .int x4_11, .ref (al.2.2 x0_11 0)]) (c_X0_chipRoundAt l D al dt x1_11 x4_11 kx1_11 v11004 hc11003) yl_X0_chipRoundAt vl_X0_chipRoundAt ml_RX0_47 (ci := 0) rfl kx1_11 (by decide) rfl ⟨Nat.le_of_ble_eq_true rfl, Nat.le_of_ble_eq_true rfl⟩ hl rfl (Nat.le_of_ble_eq_true rfl) dX0_layBoth_29 ⟨Nat.le_refl _, Nat.le_refl _⟩ rfl (fun H locs k11005 hW hS => ?_)
      refine lv_aload_n hx hb dX0_layBoth_32 rfl (lv_at hl 2 rfl) ?_
      refine lv_iload hx hb dX0_layBoth_33 (lv_at hl 4 rfl) ?_
      refine lv_iload_n hx hb dX0_layBoth_35 rfl (lv_at hl 3 rfl) ?_
      refine lv_iadd hx hb dX0_layBoth_36 ?_
      obtain ⟨v11007, hc11006, hm⟩ := q_b1i hm
      refine q_callV C hW hS (As := [.int (x4_11 + x3_11)]) (rest := [.int v11004, .int x4_11, .ref (al.2.2 x0_11 0)]) (st1 := [.int v11007, .int v11004, .int x4_11, .ref (al.2.2 x0_11 0)]) (c_X0_chipRoundAt l D al dt x2_11 (x4_11 + x3_11) kx2_11 v11007 hc11006) yl_X0_chipRoundAt vl_X0_chipRoundAt ml_RX0_47 (ci := 0) rfl kx2_11 (by decide) rfl ⟨Nat.le_of_ble_eq_true rfl, Nat.le_of_ble_eq_true rfl⟩ hl rfl (Nat.le_of_ble_eq_true rfl) dX0_layBoth_37 ⟨Nat.le_refl _, Nat.le_refl _⟩ rfl (fun H locs k11008 hW hS => ?_)
      refine lv_imul hx hb dX0_layBoth_40 ?_
      refine lv_i2l (v := (Int32.toInt64 (v11004 * v11007))) hx hb dX0_layBoth_41 rfl ?_
      obtain ⟨dt11010, hc11009, hm⟩ := q_b1i hm
      refine q_callV C hW hS (As := [.int x4_11, .long (Int32.toInt64 (v11004 * v11007))]) (rest := []) (st1 := []) (c_X5_put l D al dt (al.2.2 x0_11 0) x4_11 (Int32.toInt64 (v11004 * v11007)) k11002 dt11010 hc11009) yl_X5_put vl_X5_put ml_RX0_34 (ci := 5) rfl k11002 (by decide) rfl ⟨Nat.le_of_ble_eq_true rfl, Nat.le_of_ble_eq_true rfl⟩ hl rfl (Nat.le_of_ble_eq_true rfl) dX0_layBoth_42 ⟨Nat.le_refl _, Nat.le_refl _⟩ rfl (fun H locs k11011 hW hS => ?_)
      refine lv_iinc (v := (x4_11 + 1)) (lv' := [(4, .int (x4_11 + 1)), (0, .ref x0_11), (1, .ref x1_11), (2, .ref x2_11), (3, .int x3_11)]) hx hb dX0_layBoth_45 hl (k := 4) rfl rfl (by decide) rfl (fun ls hl => ?_)
      refine lv_goto (tgt := 11) hx hb dX0_layBoth_48 (by decide) ?_
      exact ih11 (x4_11 + 1) dt11010 _ _ _ hm hW hS (lv_sub hl [1, 2, 3, 4, 0] rfl)
  refine lv_aload_n hx hb dX0_layBoth_0 rfl (lv_at hl 0 rfl) ?_
  refine lv_aload_n hx hb dX0_layBoth_1 rfl (lv_at hl 1 rfl) ?_
  refine r_getI C hW (ci := 0) kx1 ff_0_1 cl_0 fl_RX0_20 dX0_layBoth_2 ?_
  refine r_putI C hW hS hm (ci := 0) kx0 ff_0_1 cl_0 fl_RX0_20 (nf_0_1) rfl dX0_layBoth_5 (fun dt1000001 H locs hm hW hS => ?_)
  refine lv_iconst (v := 0) hx hb dX0_layBoth_8 (by decide) ?_
  refine lv_istore (i := 4) (lv' := [(4, .int 0), (0, .ref x0), (1, .ref x1), (2, .ref x2), (3, .int x3)]) hx hb dX0_layBoth_9 hl (by decide) rfl (fun ls hl => ?_)
  exact hB11 x0 x1 x2 x3 kx0 kx1 kx2 q_FU 0 dt1000001 _ _ _ hm hW hS (lv_sub hl [1, 2, 3, 4, 0] rfl)
theorem dX0_minuses_0 : decode cX0_minuses 0 = .ok (.iconst 0, 1) := by decide +kernel
theorem dX0_minuses_1 : decode cX0_minuses 1 = .ok (.istore_n 1, 1) := by decide +kernel
theorem dX0_minuses_2 : decode cX0_minuses 2 = .ok (.iconst 0, 1) := by decide +kernel
theorem dX0_minuses_3 : decode cX0_minuses 3 = .ok (.istore_n 2, 1) := by decide +kernel
theorem dX0_minuses_4 : decode cX0_minuses 4 = .ok (.iload_n 2, 1) := by decide +kernel
theorem dX0_minuses_5 : decode cX0_minuses 5 = .ok (.aload_n 0, 1) := by decide +kernel
theorem dX0_minuses_6 : decode cX0_minuses 6 = .ok (.getfield 20, 3) := by decide +kernel
theorem dX0_minuses_9 : decode cX0_minuses 9 = .ok (.if_icmp .ge 25, 3) := by decide +kernel
theorem dX0_minuses_12 : decode cX0_minuses 12 = .ok (.iload_n 1, 1) := by decide +kernel
theorem dX0_minuses_13 : decode cX0_minuses 13 = .ok (.aload_n 0, 1) := by decide +kernel
theorem dX0_minuses_14 : decode cX0_minuses 14 = .ok (.iload_n 2, 1) := by decide +kernel
theorem dX0_minuses_15 : decode cX0_minuses 15 = .ok (.invokevirtual 50, 3) := by decide +kernel
theorem dX0_minuses_18 : decode cX0_minuses 18 = .ok (.ifCond .ge 7, 3) := by decide +kernel
theorem dX0_minuses_21 : decode cX0_minuses 21 = .ok (.iconst 1, 1) := by decide +kernel
theorem dX0_minuses_22 : decode cX0_minuses 22 = .ok (.goto 4, 3) := by decide +kernel
theorem dX0_minuses_25 : decode cX0_minuses 25 = .ok (.iconst 0, 1) := by decide +kernel
theorem dX0_minuses_26 : decode cX0_minuses 26 = .ok (.iadd, 1) := by decide +kernel
theorem dX0_minuses_27 : decode cX0_minuses 27 = .ok (.istore_n 1, 1) := by decide +kernel
theorem dX0_minuses_28 : decode cX0_minuses 28 = .ok (.iinc 2 1, 3) := by decide +kernel
theorem dX0_minuses_31 : decode cX0_minuses 31 = .ok (.goto (-27), 3) := by decide +kernel
theorem dX0_minuses_34 : decode cX0_minuses 34 = .ok (.iload_n 1, 1) := by decide +kernel
theorem dX0_minuses_35 : decode cX0_minuses 35 = .ok (.ireturn, 1) := by decide +kernel
set_option maxRecDepth 100000 in
theorem c_X0_minuses (l : Launch) (D : q_D) (al : q_Al) (dt : q_Dt) (x0 : Nat) (kx0 : al.1 x0 = 1) (r0 : Int32) (hm : X0_minuses al dt x0 = some r0) : q_Mt l yX0_minuses cX0_minuses 3 (some FieldType.int) 2 42 D al [.ref x0] dt 0 (some (.int r0)) dt := by
  refine q_Mt.of (by decide) (Nat.le_of_ble_eq_true rfl) ?_
  intro p e s m args below meth c ls C hargs hW hl
  have hx := C.1
  have hb := C.2.1
  have hown := C.2.2.2.2.2.1
  have hts := C.2.2.2.2.2.2.1
  have hS : va_S (q_A al) s.heap s.heap [] := va_S.rf
  have hl : lv_has ls 3 [(0, .ref x0)] := hl
  unfold X0_minuses at hm
  have hB4 : ∀ (x0_4 : Nat) (kx0_4 : al.1 x0_4 = 1) (n_4 : Nat) (x1_4 : Int32) (x2_4 : Int32) (H : Heap) (locs : List Loc) (ls : Array Slot) (hm : X0_minuses_b4 al dt x0_4 n_4 x1_4 x2_4 = some r0) (hW : q_W D al dt H) (hS : va_S (q_A al) s.heap H locs) (hl : lv_has ls 3 [(0, .ref x0_4), (1, .int x1_4), (2, .int x2_4)]), W p l e { frames := 2, cells := 0, slots := 0, locals := 42 } s m args below meth c H locs 0 0 (MQ below (q_Q (some (.int r0)) (fun H => q_W D al dt H ∧ q_Rk al 0 (some (.int r0))) (q_A al)) args s 0 0 (q_A al)) (F0 m 4 ls []) := by
    intro x0_4 kx0_4
    intro n_4
    induction n_4 with
    | zero => intro x1_4 x2_4 H locs ls hm hW hS hl; cases hm
    | succ n_4 ih4 =>
      have hB26 : ∀ (x2_26 : Int32) (t0_26 : Int32) (t1_26 : Int32) (H : Heap) (locs : List Loc) (ls : Array Slot) (hm : X0_minuses_b26 al dt (X0_minuses_b4 al dt x0_4 n_4) x0_4 x2_26 t0_26 t1_26 = some r0) (hW : q_W D al dt H) (hS : va_S (q_A al) s.heap H locs) (hl : lv_has ls 3 [(0, .ref x0_4), (2, .int x2_26)]), W p l e { frames := 2, cells := 0, slots := 0, locals := 42 } s m args below meth c H locs 0 0 (MQ below (q_Q (some (.int r0)) (fun H => q_W D al dt H ∧ q_Rk al 0 (some (.int r0))) (q_A al)) args s 0 0 (q_A al)) (F0 m 26 ls [.int t1_26, .int t0_26]) := by
        intro x2_26 t0_26 t1_26 H locs ls hm hW hS hl
        unfold X0_minuses_b26 at hm
        refine lv_iadd hx hb dX0_minuses_26 ?_
        refine lv_istore_n (i := 1) (lv' := [(1, .int (t0_26 + t1_26)), (0, .ref x0_4), (2, .int x2_26)]) hx hb dX0_minuses_27 rfl hl (by decide) rfl (fun ls hl => ?_)
        refine lv_iinc (v := (x2_26 + 1)) (lv' := [(2, .int (x2_26 + 1)), (1, .int (t0_26 + t1_26)), (0, .ref x0_4)]) hx hb dX0_minuses_28 hl (k := 2) rfl rfl (by decide) rfl (fun ls hl => ?_)
        refine lv_goto (tgt := 4) hx hb dX0_minuses_31 (by decide) ?_
        exact ih4 (t0_26 + t1_26) (x2_26 + 1) _ _ _ hm hW hS (lv_sub hl [2, 1, 0] rfl)
      intro x1_4 x2_4 H locs ls hm hW hS hl
      rw [X0_minuses_b4] at hm
      refine lv_iload_n hx hb dX0_minuses_4 rfl (lv_at hl 2 rfl) ?_
      refine lv_aload_n hx hb dX0_minuses_5 rfl (lv_at hl 0 rfl) ?_
      refine r_getI C hW (ci := 0) kx0_4 ff_0_1 cl_0 fl_RX0_20 dX0_minuses_6 ?_
      refine q_ifc hm (fun c4001 hm => ?_) (fun c4001 hm => ?_)
      · refine lv_icmp_ge (tgt := 34) hx hb dX0_minuses_9 (by decide) (fun _ => ?_) (fun h => absurd c4001 h)
        refine lv_iload_n hx hb dX0_minuses_34 rfl (lv_at hl 1 rfl) ?_
        exact e_i C hW hS hm dX0_minuses_35
      refine lv_icmp_ge (tgt := 34) hx hb dX0_minuses_9 (by decide) (fun h => absurd h c4001) (fun _ => ?_)
      refine lv_iload_n hx hb dX0_minuses_12 rfl (lv_at hl 1 rfl) ?_
      refine lv_aload_n hx hb dX0_minuses_13 rfl (lv_at hl 0 rfl) ?_
      refine lv_iload_n hx hb dX0_minuses_14 rfl (lv_at hl 2 rfl) ?_
      obtain ⟨v4003, hc4002, hm⟩ := q_b1i hm
      refine q_callV C hW hS (As := [.int x2_4]) (rest := [.int x1_4]) (st1 := [.int v4003, .int x1_4]) (c_X0_chipAt l D al dt x0_4 x2_4 kx0_4 v4003 hc4002) yl_X0_chipAt vl_X0_chipAt ml_RX0_50 (ci := 0) rfl kx0_4 (by decide) rfl ⟨Nat.le_of_ble_eq_true rfl, Nat.le_of_ble_eq_true rfl⟩ hl rfl (Nat.le_of_ble_eq_true rfl) dX0_minuses_15 ⟨Nat.le_refl _, Nat.le_refl _⟩ rfl (fun H locs k4004 hW hS => ?_)
      refine q_ifc hm (fun c4005 hm => ?_) (fun c4005 hm => ?_)
      · refine lv_if_ge (tgt := 25) hx hb dX0_minuses_18 (by decide) (fun _ => ?_) (fun h => absurd c4005 h)
        refine lv_iconst (v := 0) hx hb dX0_minuses_25 (by decide) ?_
        exact hB26 x2_4 x1_4 0 _ _ _ hm hW hS (lv_sub hl [0, 2] rfl)
      refine lv_if_ge (tgt := 25) hx hb dX0_minuses_18 (by decide) (fun h => absurd h c4005) (fun _ => ?_)
      refine lv_iconst (v := 1) hx hb dX0_minuses_21 (by decide) ?_
      refine lv_goto (tgt := 26) hx hb dX0_minuses_22 (by decide) ?_
      exact hB26 x2_4 x1_4 1 _ _ _ hm hW hS (lv_sub hl [0, 2] rfl)
  refine lv_iconst (v := 0) hx hb dX0_minuses_0 (by decide) ?_
  refine lv_istore_n (i := 1) (lv' := [(1, .int 0), (0, .ref x0)]) hx hb dX0_minuses_1 rfl hl (by decide) rfl (fun ls hl => ?_)
  refine lv_iconst (v := 0) hx hb dX0_minuses_2 (by decide) ?_
  refine lv_istore_n (i := 2) (lv' := [(2, .int 0), (1, .int 0), (0, .ref x0)]) hx hb dX0_minuses_3 rfl hl (by decide) rfl (fun ls hl => ?_)
  exact hB4 x0 kx0 q_FU 0 0 _ _ _ hm hW hS (lv_sub hl [2, 1, 0] rfl)
theorem dX5_timesRound_0 : decode cX5_timesRound 0 = .ok (.aload_n 0, 1) := by decide +kernel
theorem dX5_timesRound_1 : decode cX5_timesRound 1 = .ok (.getfield 13, 3) := by decide +kernel
theorem dX5_timesRound_4 : decode cX5_timesRound 4 = .ok (.astore 4, 2) := by decide +kernel
theorem dX5_timesRound_6 : decode cX5_timesRound 6 = .ok (.aload_n 1, 1) := by decide +kernel
theorem dX5_timesRound_7 : decode cX5_timesRound 7 = .ok (.getfield 13, 3) := by decide +kernel
theorem dX5_timesRound_10 : decode cX5_timesRound 10 = .ok (.astore 5, 2) := by decide +kernel
theorem dX5_timesRound_12 : decode cX5_timesRound 12 = .ok (.iload_n 3, 1) := by decide +kernel
theorem dX5_timesRound_13 : decode cX5_timesRound 13 = .ok (.aload 4, 2) := by decide +kernel
theorem dX5_timesRound_15 : decode cX5_timesRound 15 = .ok (.arraylength, 1) := by decide +kernel
theorem dX5_timesRound_16 : decode cX5_timesRound 16 = .ok (.aload 5, 2) := by decide +kernel
theorem dX5_timesRound_18 : decode cX5_timesRound 18 = .ok (.arraylength, 1) := by decide +kernel
theorem dX5_timesRound_19 : decode cX5_timesRound 19 = .ok (.invokestatic 23, 3) := by decide +kernel
theorem dX5_timesRound_22 : decode cX5_timesRound 22 = .ok (.invokestatic 23, 3) := by decide +kernel
theorem dX5_timesRound_25 : decode cX5_timesRound 25 = .ok (.istore 6, 2) := by decide +kernel
theorem dX5_timesRound_27 : decode cX5_timesRound 27 = .ok (.lconst 0, 1) := by decide +kernel
theorem dX5_timesRound_28 : decode cX5_timesRound 28 = .ok (.lstore 7, 2) := by decide +kernel
theorem dX5_timesRound_30 : decode cX5_timesRound 30 = .ok (.iload_n 2, 1) := by decide +kernel
theorem dX5_timesRound_31 : decode cX5_timesRound 31 = .ok (.istore 9, 2) := by decide +kernel
theorem dX5_timesRound_33 : decode cX5_timesRound 33 = .ok (.iconst 0, 1) := by decide +kernel
theorem dX5_timesRound_34 : decode cX5_timesRound 34 = .ok (.istore 10, 2) := by decide +kernel
theorem dX5_timesRound_36 : decode cX5_timesRound 36 = .ok (.iload 10, 2) := by decide +kernel
theorem dX5_timesRound_38 : decode cX5_timesRound 38 = .ok (.iload 6, 2) := by decide +kernel
theorem dX5_timesRound_40 : decode cX5_timesRound 40 = .ok (.if_icmp .ge 43, 3) := by decide +kernel
theorem dX5_timesRound_43 : decode cX5_timesRound 43 = .ok (.iload 9, 2) := by decide +kernel
theorem dX5_timesRound_45 : decode cX5_timesRound 45 = .ok (.ifCond .lt 10, 3) := by decide +kernel
theorem dX5_timesRound_48 : decode cX5_timesRound 48 = .ok (.iload 9, 2) := by decide +kernel
theorem dX5_timesRound_50 : decode cX5_timesRound 50 = .ok (.iload 6, 2) := by decide +kernel
theorem dX5_timesRound_52 : decode cX5_timesRound 52 = .ok (.if_icmp .lt 6, 3) := by decide +kernel
theorem dX5_timesRound_55 : decode cX5_timesRound 55 = .ok (.iconst 0, 1) := by decide +kernel
theorem dX5_timesRound_56 : decode cX5_timesRound 56 = .ok (.istore 9, 2) := by decide +kernel
theorem dX5_timesRound_58 : decode cX5_timesRound 58 = .ok (.lload 7, 2) := by decide +kernel
theorem dX5_timesRound_60 : decode cX5_timesRound 60 = .ok (.aload 4, 2) := by decide +kernel
theorem dX5_timesRound_62 : decode cX5_timesRound 62 = .ok (.iload 10, 2) := by decide +kernel
theorem dX5_timesRound_64 : decode cX5_timesRound 64 = .ok (.laload, 1) := by decide +kernel
theorem dX5_timesRound_65 : decode cX5_timesRound 65 = .ok (.aload 5, 2) := by decide +kernel
theorem dX5_timesRound_67 : decode cX5_timesRound 67 = .ok (.iload 9, 2) := by decide +kernel
theorem dX5_timesRound_69 : decode cX5_timesRound 69 = .ok (.laload, 1) := by decide +kernel
theorem dX5_timesRound_70 : decode cX5_timesRound 70 = .ok (.lmul, 1) := by decide +kernel
theorem dX5_timesRound_71 : decode cX5_timesRound 71 = .ok (.ladd, 1) := by decide +kernel
theorem dX5_timesRound_72 : decode cX5_timesRound 72 = .ok (.lstore 7, 2) := by decide +kernel
theorem dX5_timesRound_74 : decode cX5_timesRound 74 = .ok (.iinc 9 1, 3) := by decide +kernel
theorem dX5_timesRound_77 : decode cX5_timesRound 77 = .ok (.iinc 10 1, 3) := by decide +kernel
theorem dX5_timesRound_80 : decode cX5_timesRound 80 = .ok (.goto (-44), 3) := by decide +kernel
theorem dX5_timesRound_83 : decode cX5_timesRound 83 = .ok (.lload 7, 2) := by decide +kernel
theorem dX5_timesRound_85 : decode cX5_timesRound 85 = .ok (.lreturn, 1) := by decide +kernel
set_option maxRecDepth 100000 in
theorem c_X5_timesRound (l : Launch) (D : q_D) (al : q_Al) (dt : q_Dt) (x0 : Nat) (x1 : Nat) (x2 : Int32) (x3 : Int32) (kx0 : al.1 x0 = 6) (kx1 : al.1 x1 = 6) (r0 : Int64) (hm : X5_timesRound al dt x0 x1 x2 x3 = some r0) : q_Mt l yX5_timesRound cX5_timesRound 11 (some FieldType.long) 1 21 D al [.ref x0, .ref x1, .int x2, .int x3] dt 0 (some (.long r0)) dt := by
  refine q_Mt.of (by decide) (Nat.le_of_ble_eq_true rfl) ?_
  intro p e s m args below meth c ls C hargs hW hl
  have hx := C.1
  have hb := C.2.1
  have hown := C.2.2.2.2.2.1
  have hts := C.2.2.2.2.2.2.1
  have hS : va_S (q_A al) s.heap s.heap [] := va_S.rf
  have hl : lv_has ls 11 [(0, .ref x0), (1, .ref x1), (2, .int x2), (3, .int x3)] := hl
  unfold X5_timesRound at hm
  have hB36 : ∀ (x4_36 : Nat) (x5_36 : Nat) (x6_36 : Int32) (kx4_36 : al.1 x4_36 = 22) (kx5_36 : al.1 x5_36 = 22) (n_36 : Nat) (x7_36 : Int64) (x9_36 : Int32) (x10_36 : Int32) (H : Heap) (locs : List Loc) (ls : Array Slot) (hm : X5_timesRound_b36 al dt x4_36 x5_36 x6_36 n_36 x7_36 x9_36 x10_36 = some r0) (hW : q_W D al dt H) (hS : va_S (q_A al) s.heap H locs) (hl : lv_has ls 11 [(4, .ref x4_36), (5, .ref x5_36), (6, .int x6_36), (7, .long x7_36), (9, .int x9_36), (10, .int x10_36)]), W p l e { frames := 1, cells := 0, slots := 0, locals := 21 } s m args below meth c H locs 0 0 (MQ below (q_Q (some (.long r0)) (fun H => q_W D al dt H ∧ q_Rk al 0 (some (.long r0))) (q_A al)) args s 0 0 (q_A al)) (F0 m 36 ls []) := by
    intro x4_36 x5_36 x6_36 kx4_36 kx5_36
    intro n_36
    induction n_36 with
    | zero => intro x7_36 x9_36 x10_36 H locs ls hm hW hS hl; cases hm
    | succ n_36 ih36 =>
      have hB58 : ∀ (x7_58 : Int64) (x9_58 : Int32) (x10_58 : Int32) (H : Heap) (locs : List Loc) (ls : Array Slot) (hm : X5_timesRound_b58 al dt (X5_timesRound_b36 al dt x4_36 x5_36 x6_36 n_36) x4_36 x5_36 x6_36 x7_58 x9_58 x10_58 = some r0) (hW : q_W D al dt H) (hS : va_S (q_A al) s.heap H locs) (hl : lv_has ls 11 [(4, .ref x4_36), (5, .ref x5_36), (6, .int x6_36), (7, .long x7_58), (9, .int x9_58), (10, .int x10_58)]), W p l e { frames := 1, cells := 0, slots := 0, locals := 21 } s m args below meth c H locs 0 0 (MQ below (q_Q (some (.long r0)) (fun H => q_W D al dt H ∧ q_Rk al 0 (some (.long r0))) (q_A al)) args s 0 0 (q_A al)) (F0 m 58 ls []) := by
        intro x7_58 x9_58 x10_58 H locs ls hm hW hS hl
        unfold X5_timesRound_b58 at hm
        refine lv_lload hx hb dX5_timesRound_58 (lv_at hl 3 rfl) ?_
        refine lv_aload hx hb dX5_timesRound_60 (lv_at hl 0 rfl) ?_
        refine lv_iload hx hb dX5_timesRound_62 (lv_at hl 5 rfl) ?_
        refine r_lald C hW hm kx4_36 dX5_timesRound_64 (fun hm => ?_)
        refine lv_aload hx hb dX5_timesRound_65 (lv_at hl 1 rfl) ?_
        refine lv_iload hx hb dX5_timesRound_67 (lv_at hl 4 rfl) ?_
        refine r_lald C hW hm kx5_36 dX5_timesRound_69 (fun hm => ?_)
        refine lv_lmul hx hb dX5_timesRound_70 ?_
        refine lv_ladd hx hb dX5_timesRound_71 ?_
        refine q_nmL hm (fun v58001 ev58001 hm => ?_)
        refine lv_lstore (i := 7) (lv' := [(7, .long v58001), (4, .ref x4_36), (5, .ref x5_36), (6, .int x6_36), (9, .int x9_58), (10, .int x10_58)]) hx hb dX5_timesRound_72 hl (by decide) rfl (fun ls hl => ?_)
        refine lv_iinc (v := (x9_58 + 1)) (lv' := [(9, .int (x9_58 + 1)), (7, .long v58001), (4, .ref x4_36), (5, .ref x5_36), (6, .int x6_36), (10, .int x10_58)]) hx hb dX5_timesRound_74 hl (k := 4) rfl rfl (by decide) rfl (fun ls hl => ?_)
        refine lv_iinc (v := (x10_58 + 1)) (lv' := [(10, .int (x10_58 + 1)), (9, .int (x9_58 + 1)), (7, .long v58001), (4, .ref x4_36), (5, .ref x5_36), (6, .int x6_36)]) hx hb dX5_timesRound_77 hl (k := 5) rfl rfl (by decide) rfl (fun ls hl => ?_)
        refine lv_goto (tgt := 36) hx hb dX5_timesRound_80 (by decide) ?_
        exact ih36 v58001 (x9_58 + 1) (x10_58 + 1) _ _ _ hm hW hS (lv_sub hl [3, 4, 5, 2, 1, 0] rfl)
      have hB55 : ∀ (x7_55 : Int64) (x10_55 : Int32) (H : Heap) (locs : List Loc) (ls : Array Slot) (hm : X5_timesRound_b55 al dt (X5_timesRound_b36 al dt x4_36 x5_36 x6_36 n_36) x4_36 x5_36 x6_36 x7_55 x10_55 = some r0) (hW : q_W D al dt H) (hS : va_S (q_A al) s.heap H locs) (hl : lv_has ls 11 [(4, .ref x4_36), (5, .ref x5_36), (6, .int x6_36), (7, .long x7_55), (10, .int x10_55)]), W p l e { frames := 1, cells := 0, slots := 0, locals := 21 } s m args below meth c H locs 0 0 (MQ below (q_Q (some (.long r0)) (fun H => q_W D al dt H ∧ q_Rk al 0 (some (.long r0))) (q_A al)) args s 0 0 (q_A al)) (F0 m 55 ls []) := by
        intro x7_55 x10_55 H locs ls hm hW hS hl
        unfold X5_timesRound_b55 at hm
        refine lv_iconst (v := 0) hx hb dX5_timesRound_55 (by decide) ?_
        refine lv_istore (i := 9) (lv' := [(9, .int 0), (4, .ref x4_36), (5, .ref x5_36), (6, .int x6_36), (7, .long x7_55), (10, .int x10_55)]) hx hb dX5_timesRound_56 hl (by decide) rfl (fun ls hl => ?_)
        exact hB58 x7_55 0 x10_55 _ _ _ hm hW hS (lv_sub hl [1, 2, 3, 4, 0, 5] rfl)
      intro x7_36 x9_36 x10_36 H locs ls hm hW hS hl
      rw [X5_timesRound_b36] at hm
      refine lv_iload hx hb dX5_timesRound_36 (lv_at hl 5 rfl) ?_
      refine lv_iload hx hb dX5_timesRound_38 (lv_at hl 2 rfl) ?_
      refine q_ifc hm (fun c36001 hm => ?_) (fun c36001 hm => ?_)
      · refine lv_icmp_ge (tgt := 83) hx hb dX5_timesRound_40 (by decide) (fun _ => ?_) (fun h => absurd c36001 h)
        refine lv_lload hx hb dX5_timesRound_83 (lv_at hl 3 rfl) ?_
        exact e_l C hW hS hm dX5_timesRound_85
      refine lv_icmp_ge (tgt := 83) hx hb dX5_timesRound_40 (by decide) (fun h => absurd h c36001) (fun _ => ?_)
      refine lv_iload hx hb dX5_timesRound_43 (lv_at hl 4 rfl) ?_
      refine q_ifc hm (fun c36002 hm => ?_) (fun c36002 hm => ?_)
      · refine lv_if_lt (tgt := 55) hx hb dX5_timesRound_45 (by decide) (fun _ => ?_) (fun h => absurd c36002 h)
        exact hB55 x7_36 x10_36 _ _ _ hm hW hS (lv_sub hl [0, 1, 2, 3, 5] rfl)
      refine lv_if_lt (tgt := 55) hx hb dX5_timesRound_45 (by decide) (fun h => absurd h c36002) (fun _ => ?_)
      refine lv_iload hx hb dX5_timesRound_48 (lv_at hl 4 rfl) ?_
      refine lv_iload hx hb dX5_timesRound_50 (lv_at hl 2 rfl) ?_
      refine q_ifc hm (fun c36003 hm => ?_) (fun c36003 hm => ?_)
      · refine lv_icmp_lt (tgt := 58) hx hb dX5_timesRound_52 (by decide) (fun _ => ?_) (fun h => absurd c36003 h)
        exact hB58 x7_36 x9_36 x10_36 _ _ _ hm hW hS (lv_sub hl [0, 1, 2, 3, 4, 5] rfl)
      refine lv_icmp_lt (tgt := 58) hx hb dX5_timesRound_52 (by decide) (fun h => absurd h c36003) (fun _ => ?_)
      exact hB55 x7_36 x10_36 _ _ _ hm hW hS (lv_sub hl [0, 1, 2, 3, 5] rfl)
  refine lv_aload_n hx hb dX5_timesRound_0 rfl (lv_at hl 0 rfl) ?_
  refine r_getF C hW (ci := 5) kx0 ff_5_0 cl_5 fl_RX5_13 dX5_timesRound_1 (fun k1000001 => ?_)
  refine lv_astore (i := 4) (lv' := [(4, .ref (al.2.2 x0 0)), (0, .ref x0), (1, .ref x1), (2, .int x2), (3, .int x3)]) hx hb dX5_timesRound_4 hl (by decide) rfl (fun ls hl => ?_)
  refine lv_aload_n hx hb dX5_timesRound_6 rfl (lv_at hl 2 rfl) ?_
  refine r_getF C hW (ci := 5) kx1 ff_5_0 cl_5 fl_RX5_13 dX5_timesRound_7 (fun k1000002 => ?_)
  refine lv_astore (i := 5) (lv' := [(5, .ref (al.2.2 x1 0)), (4, .ref (al.2.2 x0 0)), (0, .ref x0), (1, .ref x1), (2, .int x2), (3, .int x3)]) hx hb dX5_timesRound_10 hl (by decide) rfl (fun ls hl => ?_)
  refine lv_iload_n hx hb dX5_timesRound_12 rfl (lv_at hl 5 rfl) ?_
  refine lv_aload hx hb dX5_timesRound_13 (lv_at hl 1 rfl) ?_
  refine q_alenJ C hW k1000001 dX5_timesRound_15 ?_
  refine lv_aload hx hb dX5_timesRound_16 (lv_at hl 0 rfl) ?_
  refine q_alenJ C hW k1000002 dX5_timesRound_18 ?_
  refine q_mmin C hl wm_RX5_23 wms_min wmi wmc_min (Nat.le_of_ble_eq_true rfl) (Nat.le_of_ble_eq_true rfl) ⟨Nat.le_refl _, Nat.le_refl _⟩ dX5_timesRound_19 ?_
  refine q_mmin C hl wm_RX5_23 wms_min wmi wmc_min (Nat.le_of_ble_eq_true rfl) (Nat.le_of_ble_eq_true rfl) ⟨Nat.le_refl _, Nat.le_refl _⟩ dX5_timesRound_22 ?_
  refine q_nmI hm (fun v1000003 ev1000003 hm => ?_)
  refine lv_istore (i := 6) (lv' := [(6, .int v1000003), (5, .ref (al.2.2 x1 0)), (4, .ref (al.2.2 x0 0)), (0, .ref x0), (1, .ref x1), (2, .int x2), (3, .int x3)]) hx hb dX5_timesRound_25 hl (by decide) rfl (fun ls hl => ?_)
  refine lv_lconst (v := 0) hx hb dX5_timesRound_27 rfl ?_
  refine lv_lstore (i := 7) (lv' := [(7, .long 0), (6, .int v1000003), (5, .ref (al.2.2 x1 0)), (4, .ref (al.2.2 x0 0)), (0, .ref x0), (1, .ref x1), (2, .int x2), (3, .int x3)]) hx hb dX5_timesRound_28 hl (by decide) rfl (fun ls hl => ?_)
  refine lv_iload_n hx hb dX5_timesRound_30 rfl (lv_at hl 6 rfl) ?_
  refine lv_istore (i := 9) (lv' := [(9, .int x2), (7, .long 0), (6, .int v1000003), (5, .ref (al.2.2 x1 0)), (4, .ref (al.2.2 x0 0)), (0, .ref x0), (1, .ref x1), (2, .int x2), (3, .int x3)]) hx hb dX5_timesRound_31 hl (by decide) rfl (fun ls hl => ?_)
  refine lv_iconst (v := 0) hx hb dX5_timesRound_33 (by decide) ?_
  refine lv_istore (i := 10) (lv' := [(10, .int 0), (9, .int x2), (7, .long 0), (6, .int v1000003), (5, .ref (al.2.2 x1 0)), (4, .ref (al.2.2 x0 0)), (0, .ref x0), (1, .ref x1), (2, .int x2), (3, .int x3)]) hx hb dX5_timesRound_34 hl (by decide) rfl (fun ls hl => ?_)
  exact hB36 (al.2.2 x0 0) (al.2.2 x1 0) v1000003 k1000001 k1000002 q_FU 0 x2 0 _ _ _ hm hW hS (lv_sub hl [5, 4, 3, 2, 1, 0] rfl)
theorem dX0_along_0 : decode cX0_along 0 = .ok (.aload_n 1, 1) := by decide +kernel
theorem dX0_along_1 : decode cX0_along 1 = .ok (.aload_n 0, 1) := by decide +kernel
theorem dX0_along_2 : decode cX0_along 2 = .ok (.getfield 14, 3) := by decide +kernel
theorem dX0_along_5 : decode cX0_along 5 = .ok (.iload_n 2, 1) := by decide +kernel
theorem dX0_along_6 : decode cX0_along 6 = .ok (.aload_n 0, 1) := by decide +kernel
theorem dX0_along_7 : decode cX0_along 7 = .ok (.getfield 20, 3) := by decide +kernel
theorem dX0_along_10 : decode cX0_along 10 = .ok (.invokevirtual 57, 3) := by decide +kernel
theorem dX0_along_13 : decode cX0_along 13 = .ok (.lreturn, 1) := by decide +kernel
set_option maxRecDepth 100000 in
theorem c_X0_along (l : Launch) (D : q_D) (al : q_Al) (dt : q_Dt) (x0 : Nat) (x1 : Nat) (x2 : Int32) (kx0 : al.1 x0 = 1) (kx1 : al.1 x1 = 6) (r0 : Int64) (hm : X0_along al dt x0 x1 x2 = some r0) : q_Mt l yX0_along cX0_along 3 (some FieldType.long) 2 51 D al [.ref x0, .ref x1, .int x2] dt 0 (some (.long r0)) dt := by
  refine q_Mt.of (by decide) (Nat.le_of_ble_eq_true rfl) ?_
  intro p e s m args below meth c ls C hargs hW hl
  have hx := C.1
  have hb := C.2.1
  have hown := C.2.2.2.2.2.1
  have hts := C.2.2.2.2.2.2.1
  have hS : va_S (q_A al) s.heap s.heap [] := va_S.rf
  have hl : lv_has ls 3 [(0, .ref x0), (1, .ref x1), (2, .int x2)] := hl
  unfold X0_along at hm
  refine lv_aload_n hx hb dX0_along_0 rfl (lv_at hl 1 rfl) ?_
  refine lv_aload_n hx hb dX0_along_1 rfl (lv_at hl 0 rfl) ?_
  refine r_getF C hW (ci := 0) kx0 ff_0_0 cl_0 fl_RX0_14 dX0_along_2 (fun k1000001 => ?_)
  refine lv_iload_n hx hb dX0_along_5 rfl (lv_at hl 2 rfl) ?_
  refine lv_aload_n hx hb dX0_along_6 rfl (lv_at hl 0 rfl) ?_
  refine r_getI C hW (ci := 0) kx0 ff_0_1 cl_0 fl_RX0_20 dX0_along_7 ?_
  obtain ⟨v1000003, hc1000002, hm⟩ := q_b1i hm
  refine q_callV C hW hS (As := [.ref (al.2.2 x0 0), .int x2, .int (dt.1 x0 1)]) (rest := []) (st1 := [.long v1000003]) (c_X5_timesRound l D al dt x1 (al.2.2 x0 0) x2 (dt.1 x0 1) kx1 k1000001 v1000003 hc1000002) yl_X5_timesRound vl_X5_timesRound ml_RX0_57 (ci := 5) rfl kx1 (by decide) rfl ⟨Nat.le_of_ble_eq_true rfl, Nat.le_of_ble_eq_true rfl⟩ hl rfl (Nat.le_of_ble_eq_true rfl) dX0_along_10 ⟨Nat.le_refl _, Nat.le_refl _⟩ rfl (fun H locs k1000004 hW hS => ?_)
  exact e_l C hW hS hm dX0_along_13
theorem dX0_alikeness_0 : decode cX0_alikeness 0 = .ok (.aload_n 1, 1) := by decide +kernel
theorem dX0_alikeness_1 : decode cX0_alikeness 1 = .ok (.aload_n 0, 1) := by decide +kernel
theorem dX0_alikeness_2 : decode cX0_alikeness 2 = .ok (.getfield 14, 3) := by decide +kernel
theorem dX0_alikeness_5 : decode cX0_alikeness 5 = .ok (.iload_n 2, 1) := by decide +kernel
theorem dX0_alikeness_6 : decode cX0_alikeness 6 = .ok (.invokevirtual 61, 3) := by decide +kernel
theorem dX0_alikeness_9 : decode cX0_alikeness 9 = .ok (.l2i, 1) := by decide +kernel
theorem dX0_alikeness_10 : decode cX0_alikeness 10 = .ok (.ireturn, 1) := by decide +kernel
set_option maxRecDepth 100000 in
theorem c_X0_alikeness (l : Launch) (D : q_D) (al : q_Al) (dt : q_Dt) (x0 : Nat) (x1 : Option Nat) (x2 : Int32) (kx0 : al.1 x0 = 1) (kx1 : ∀ b, x1 = some b → al.1 b = 1) (r0 : Int32) (hm : X0_alikeness al dt x0 x1 x2 = some r0) : q_Mt l yX0_alikeness cX0_alikeness 3 (some FieldType.int) 3 73 D al [.ref x0, va_rf x1, .int x2] dt 0 (some (.int r0)) dt := by
  refine q_Mt.of (by decide) (by simp [lg_sl, q_cat, q_catR, q_catI, q_catL]) ?_
  intro p e s m args below meth c ls C hargs hW hl
  have hx := C.1
  have hb := C.2.1
  have hown := C.2.2.2.2.2.1
  have hts := C.2.2.2.2.2.2.1
  have hS : va_S (q_A al) s.heap s.heap [] := va_S.rf
  have hl : lv_has ls 3 [(0, .ref x0), (1, va_rf x1), (2, .int x2)] := by simpa [lv_args, q_cat, q_catR, q_catI, q_catL] using hl
  unfold X0_alikeness at hm
  refine q_aloadQ_n C dX0_alikeness_0 rfl (lv_at hl 1 rfl) ?_
  refine lv_aload_n hx hb dX0_alikeness_1 rfl (lv_at hl 0 rfl) ?_
  refine r_getF C hW (ci := 0) kx0 ff_0_0 cl_0 fl_RX0_14 dX0_alikeness_2 (fun k1000001 => ?_)
  refine lv_iload_n hx hb dX0_alikeness_5 rfl (lv_at hl 2 rfl) ?_
  obtain ⟨b1000002, e1000003, hq1000004⟩ := q_mi hm
  subst e1000003
  have hm := hq1000004
  have k1000005 := kx1 b1000002 rfl
  obtain ⟨v1000007, hc1000006, hm⟩ := q_b1i hm
  refine q_callV C hW hS (As := [.ref (al.2.2 x0 0), .int x2]) (rest := []) (st1 := [.long v1000007]) (c_X0_along l D al dt b1000002 (al.2.2 x0 0) x2 k1000005 k1000001 v1000007 hc1000006) yl_X0_along vl_X0_along ml_RX0_61 (ci := 0) rfl k1000005 (by decide) rfl ⟨Nat.le_of_ble_eq_true rfl, Nat.le_of_ble_eq_true rfl⟩ hl rfl (Nat.le_of_ble_eq_true rfl) dX0_alikeness_6 ⟨Nat.le_refl _, Nat.le_refl _⟩ rfl (fun H locs k1000008 hW hS => ?_)
  refine lv_l2i (v := (Int64.toInt32 v1000007)) hx hb dX0_alikeness_9 rfl ?_
  exact e_i C hW hS hm dX0_alikeness_10
theorem dX0_ownShift_0 : decode cX0_ownShift 0 = .ok (.iconst 1, 1) := by decide +kernel
theorem dX0_ownShift_1 : decode cX0_ownShift 1 = .ok (.istore_n 1, 1) := by decide +kernel
theorem dX0_ownShift_2 : decode cX0_ownShift 2 = .ok (.iload_n 1, 1) := by decide +kernel
theorem dX0_ownShift_3 : decode cX0_ownShift 3 = .ok (.aload_n 0, 1) := by decide +kernel
theorem dX0_ownShift_4 : decode cX0_ownShift 4 = .ok (.getfield 20, 3) := by decide +kernel
theorem dX0_ownShift_7 : decode cX0_ownShift 7 = .ok (.if_icmp .ge 24, 3) := by decide +kernel
theorem dX0_ownShift_10 : decode cX0_ownShift 10 = .ok (.aload_n 0, 1) := by decide +kernel
theorem dX0_ownShift_11 : decode cX0_ownShift 11 = .ok (.aload_n 0, 1) := by decide +kernel
theorem dX0_ownShift_12 : decode cX0_ownShift 12 = .ok (.iload_n 1, 1) := by decide +kernel
theorem dX0_ownShift_13 : decode cX0_ownShift 13 = .ok (.invokevirtual 53, 3) := by decide +kernel
theorem dX0_ownShift_16 : decode cX0_ownShift 16 = .ok (.aload_n 0, 1) := by decide +kernel
theorem dX0_ownShift_17 : decode cX0_ownShift 17 = .ok (.getfield 20, 3) := by decide +kernel
theorem dX0_ownShift_20 : decode cX0_ownShift 20 = .ok (.if_icmp .ne 5, 3) := by decide +kernel
theorem dX0_ownShift_23 : decode cX0_ownShift 23 = .ok (.iload_n 1, 1) := by decide +kernel
theorem dX0_ownShift_24 : decode cX0_ownShift 24 = .ok (.ireturn, 1) := by decide +kernel
theorem dX0_ownShift_25 : decode cX0_ownShift 25 = .ok (.iinc 1 1, 3) := by decide +kernel
theorem dX0_ownShift_28 : decode cX0_ownShift 28 = .ok (.goto (-26), 3) := by decide +kernel
theorem dX0_ownShift_31 : decode cX0_ownShift 31 = .ok (.aload_n 0, 1) := by decide +kernel
theorem dX0_ownShift_32 : decode cX0_ownShift 32 = .ok (.getfield 20, 3) := by decide +kernel
theorem dX0_ownShift_35 : decode cX0_ownShift 35 = .ok (.ireturn, 1) := by decide +kernel
set_option maxRecDepth 100000 in
theorem c_X0_ownShift (l : Launch) (D : q_D) (al : q_Al) (dt : q_Dt) (x0 : Nat) (kx0 : al.1 x0 = 1) (r0 : Int32) (hm : X0_ownShift al dt x0 = some r0) : q_Mt l yX0_ownShift cX0_ownShift 2 (some FieldType.int) 4 95 D al [.ref x0] dt 0 (some (.int r0)) dt := by
  refine q_Mt.of (by decide) (Nat.le_of_ble_eq_true rfl) ?_
  intro p e s m args below meth c ls C hargs hW hl
  have hx := C.1
  have hb := C.2.1
  have hown := C.2.2.2.2.2.1
  have hts := C.2.2.2.2.2.2.1
  have hS : va_S (q_A al) s.heap s.heap [] := va_S.rf
  have hl : lv_has ls 2 [(0, .ref x0)] := hl
  unfold X0_ownShift at hm
  have hB2 : ∀ (x0_2 : Nat) (kx0_2 : al.1 x0_2 = 1) (n_2 : Nat) (x1_2 : Int32) (H : Heap) (locs : List Loc) (ls : Array Slot) (hm : X0_ownShift_b2 al dt x0_2 n_2 x1_2 = some r0) (hW : q_W D al dt H) (hS : va_S (q_A al) s.heap H locs) (hl : lv_has ls 2 [(0, .ref x0_2), (1, .int x1_2)]), W p l e { frames := 4, cells := 0, slots := 0, locals := 95 } s m args below meth c H locs 0 0 (MQ below (q_Q (some (.int r0)) (fun H => q_W D al dt H ∧ q_Rk al 0 (some (.int r0))) (q_A al)) args s 0 0 (q_A al)) (F0 m 2 ls []) := by
    intro x0_2 kx0_2
    intro n_2
    induction n_2 with
    | zero => intro x1_2 H locs ls hm hW hS hl; cases hm
    | succ n_2 ih2 =>
      intro x1_2 H locs ls hm hW hS hl
      rw [X0_ownShift_b2] at hm
      refine lv_iload_n hx hb dX0_ownShift_2 rfl (lv_at hl 1 rfl) ?_
      refine lv_aload_n hx hb dX0_ownShift_3 rfl (lv_at hl 0 rfl) ?_
      refine r_getI C hW (ci := 0) kx0_2 ff_0_1 cl_0 fl_RX0_20 dX0_ownShift_4 ?_
      refine q_ifc hm (fun c2001 hm => ?_) (fun c2001 hm => ?_)
      · refine lv_icmp_ge (tgt := 31) hx hb dX0_ownShift_7 (by decide) (fun _ => ?_) (fun h => absurd c2001 h)
        refine lv_aload_n hx hb dX0_ownShift_31 rfl (lv_at hl 0 rfl) ?_
        refine r_getI C hW (ci := 0) kx0_2 ff_0_1 cl_0 fl_RX0_20 dX0_ownShift_32 ?_
        exact e_i C hW hS hm dX0_ownShift_35
      refine lv_icmp_ge (tgt := 31) hx hb dX0_ownShift_7 (by decide) (fun h => absurd h c2001) (fun _ => ?_)
      refine lv_aload_n hx hb dX0_ownShift_10 rfl (lv_at hl 0 rfl) ?_
      refine lv_aload_n hx hb dX0_ownShift_11 rfl (lv_at hl 0 rfl) ?_
      refine lv_iload_n hx hb dX0_ownShift_12 rfl (lv_at hl 1 rfl) ?_
      obtain ⟨v2003, hc2002, hm⟩ := q_b1i hm
      refine q_callV C hW hS (As := [.ref x0_2, .int x1_2]) (rest := []) (st1 := [.int v2003]) (c_X0_alikeness l D al dt x0_2 (some x0_2) x1_2 kx0_2 (q_ks kx0_2) v2003 hc2002) yl_X0_alikeness vl_X0_alikeness ml_RX0_53 (ci := 0) rfl kx0_2 (by decide) rfl ⟨Nat.le_of_ble_eq_true rfl, Nat.le_of_ble_eq_true rfl⟩ hl rfl (Nat.le_of_ble_eq_true rfl) dX0_ownShift_13 ⟨Nat.le_refl _, Nat.le_refl _⟩ rfl (fun H locs k2004 hW hS => ?_)
      refine lv_aload_n hx hb dX0_ownShift_16 rfl (lv_at hl 0 rfl) ?_
      refine r_getI C hW (ci := 0) kx0_2 ff_0_1 cl_0 fl_RX0_20 dX0_ownShift_17 ?_
      refine q_ifc hm (fun c2005 hm => ?_) (fun c2005 hm => ?_)
      · refine lv_icmp_ne (tgt := 25) hx hb dX0_ownShift_20 (by decide) (fun h => absurd c2005 h) (fun _ => ?_)
        refine lv_iload_n hx hb dX0_ownShift_23 rfl (lv_at hl 1 rfl) ?_
        exact e_i C hW hS hm dX0_ownShift_24
      refine lv_icmp_ne (tgt := 25) hx hb dX0_ownShift_20 (by decide) (fun _ => ?_) (fun h => absurd h c2005)
      refine lv_iinc (v := (x1_2 + 1)) (lv' := [(1, .int (x1_2 + 1)), (0, .ref x0_2)]) hx hb dX0_ownShift_25 hl (k := 1) rfl rfl (by decide) rfl (fun ls hl => ?_)
      refine lv_goto (tgt := 2) hx hb dX0_ownShift_28 (by decide) ?_
      exact ih2 (x1_2 + 1) _ _ _ hm hW hS (lv_sub hl [1, 0] rfl)
  refine lv_iconst (v := 1) hx hb dX0_ownShift_0 (by decide) ?_
  refine lv_istore_n (i := 1) (lv' := [(1, .int 1), (0, .ref x0)]) hx hb dX0_ownShift_1 rfl hl (by decide) rfl (fun ls hl => ?_)
  exact hB2 x0 kx0 q_FU 1 _ _ _ hm hW hS (lv_sub hl [1, 0] rfl)
theorem dX0_changes_0 : decode cX0_changes 0 = .ok (.iconst 0, 1) := by decide +kernel
theorem dX0_changes_1 : decode cX0_changes 1 = .ok (.istore_n 1, 1) := by decide +kernel
theorem dX0_changes_2 : decode cX0_changes 2 = .ok (.iconst 0, 1) := by decide +kernel
theorem dX0_changes_3 : decode cX0_changes 3 = .ok (.istore_n 2, 1) := by decide +kernel
theorem dX0_changes_4 : decode cX0_changes 4 = .ok (.iload_n 2, 1) := by decide +kernel
theorem dX0_changes_5 : decode cX0_changes 5 = .ok (.aload_n 0, 1) := by decide +kernel
theorem dX0_changes_6 : decode cX0_changes 6 = .ok (.getfield 20, 3) := by decide +kernel
theorem dX0_changes_9 : decode cX0_changes 9 = .ok (.if_icmp .ge 32, 3) := by decide +kernel
theorem dX0_changes_12 : decode cX0_changes 12 = .ok (.iload_n 1, 1) := by decide +kernel
theorem dX0_changes_13 : decode cX0_changes 13 = .ok (.aload_n 0, 1) := by decide +kernel
theorem dX0_changes_14 : decode cX0_changes 14 = .ok (.iload_n 2, 1) := by decide +kernel
theorem dX0_changes_15 : decode cX0_changes 15 = .ok (.invokevirtual 50, 3) := by decide +kernel
theorem dX0_changes_18 : decode cX0_changes 18 = .ok (.aload_n 0, 1) := by decide +kernel
theorem dX0_changes_19 : decode cX0_changes 19 = .ok (.iload_n 2, 1) := by decide +kernel
theorem dX0_changes_20 : decode cX0_changes 20 = .ok (.iconst 1, 1) := by decide +kernel
theorem dX0_changes_21 : decode cX0_changes 21 = .ok (.iadd, 1) := by decide +kernel
theorem dX0_changes_22 : decode cX0_changes 22 = .ok (.invokevirtual 47, 3) := by decide +kernel
theorem dX0_changes_25 : decode cX0_changes 25 = .ok (.if_icmp .ne 7, 3) := by decide +kernel
theorem dX0_changes_28 : decode cX0_changes 28 = .ok (.iconst 0, 1) := by decide +kernel
theorem dX0_changes_29 : decode cX0_changes 29 = .ok (.goto 4, 3) := by decide +kernel
theorem dX0_changes_32 : decode cX0_changes 32 = .ok (.iconst 1, 1) := by decide +kernel
theorem dX0_changes_33 : decode cX0_changes 33 = .ok (.iadd, 1) := by decide +kernel
theorem dX0_changes_34 : decode cX0_changes 34 = .ok (.istore_n 1, 1) := by decide +kernel
theorem dX0_changes_35 : decode cX0_changes 35 = .ok (.iinc 2 1, 3) := by decide +kernel
theorem dX0_changes_38 : decode cX0_changes 38 = .ok (.goto (-34), 3) := by decide +kernel
theorem dX0_changes_41 : decode cX0_changes 41 = .ok (.iload_n 1, 1) := by decide +kernel
theorem dX0_changes_42 : decode cX0_changes 42 = .ok (.ireturn, 1) := by decide +kernel
set_option maxRecDepth 100000 in
theorem c_X0_changes (l : Launch) (D : q_D) (al : q_Al) (dt : q_Dt) (x0 : Nat) (kx0 : al.1 x0 = 1) (r0 : Int32) (hm : X0_changes al dt x0 = some r0) : q_Mt l yX0_changes cX0_changes 3 (some FieldType.int) 2 46 D al [.ref x0] dt 0 (some (.int r0)) dt := by
  refine q_Mt.of (by decide) (Nat.le_of_ble_eq_true rfl) ?_
  intro p e s m args below meth c ls C hargs hW hl
  have hx := C.1
  have hb := C.2.1
  have hown := C.2.2.2.2.2.1
  have hts := C.2.2.2.2.2.2.1
  have hS : va_S (q_A al) s.heap s.heap [] := va_S.rf
  have hl : lv_has ls 3 [(0, .ref x0)] := hl
  unfold X0_changes at hm
  have hB4 : ∀ (x0_4 : Nat) (kx0_4 : al.1 x0_4 = 1) (n_4 : Nat) (x1_4 : Int32) (x2_4 : Int32) (H : Heap) (locs : List Loc) (ls : Array Slot) (hm : X0_changes_b4 al dt x0_4 n_4 x1_4 x2_4 = some r0) (hW : q_W D al dt H) (hS : va_S (q_A al) s.heap H locs) (hl : lv_has ls 3 [(0, .ref x0_4), (1, .int x1_4), (2, .int x2_4)]), W p l e { frames := 2, cells := 0, slots := 0, locals := 46 } s m args below meth c H locs 0 0 (MQ below (q_Q (some (.int r0)) (fun H => q_W D al dt H ∧ q_Rk al 0 (some (.int r0))) (q_A al)) args s 0 0 (q_A al)) (F0 m 4 ls []) := by
    intro x0_4 kx0_4
    intro n_4
    induction n_4 with
    | zero => intro x1_4 x2_4 H locs ls hm hW hS hl; cases hm
    | succ n_4 ih4 =>
      have hB33 : ∀ (x2_33 : Int32) (t0_33 : Int32) (t1_33 : Int32) (H : Heap) (locs : List Loc) (ls : Array Slot) (hm : X0_changes_b33 al dt (X0_changes_b4 al dt x0_4 n_4) x0_4 x2_33 t0_33 t1_33 = some r0) (hW : q_W D al dt H) (hS : va_S (q_A al) s.heap H locs) (hl : lv_has ls 3 [(0, .ref x0_4), (2, .int x2_33)]), W p l e { frames := 2, cells := 0, slots := 0, locals := 46 } s m args below meth c H locs 0 0 (MQ below (q_Q (some (.int r0)) (fun H => q_W D al dt H ∧ q_Rk al 0 (some (.int r0))) (q_A al)) args s 0 0 (q_A al)) (F0 m 33 ls [.int t1_33, .int t0_33]) := by
        intro x2_33 t0_33 t1_33 H locs ls hm hW hS hl
        unfold X0_changes_b33 at hm
        refine lv_iadd hx hb dX0_changes_33 ?_
        refine lv_istore_n (i := 1) (lv' := [(1, .int (t0_33 + t1_33)), (0, .ref x0_4), (2, .int x2_33)]) hx hb dX0_changes_34 rfl hl (by decide) rfl (fun ls hl => ?_)
        refine lv_iinc (v := (x2_33 + 1)) (lv' := [(2, .int (x2_33 + 1)), (1, .int (t0_33 + t1_33)), (0, .ref x0_4)]) hx hb dX0_changes_35 hl (k := 2) rfl rfl (by decide) rfl (fun ls hl => ?_)
        refine lv_goto (tgt := 4) hx hb dX0_changes_38 (by decide) ?_
        exact ih4 (t0_33 + t1_33) (x2_33 + 1) _ _ _ hm hW hS (lv_sub hl [2, 1, 0] rfl)
      intro x1_4 x2_4 H locs ls hm hW hS hl
      rw [X0_changes_b4] at hm
      refine lv_iload_n hx hb dX0_changes_4 rfl (lv_at hl 2 rfl) ?_
      refine lv_aload_n hx hb dX0_changes_5 rfl (lv_at hl 0 rfl) ?_
      refine r_getI C hW (ci := 0) kx0_4 ff_0_1 cl_0 fl_RX0_20 dX0_changes_6 ?_
      refine q_ifc hm (fun c4001 hm => ?_) (fun c4001 hm => ?_)
      · refine lv_icmp_ge (tgt := 41) hx hb dX0_changes_9 (by decide) (fun _ => ?_) (fun h => absurd c4001 h)
        refine lv_iload_n hx hb dX0_changes_41 rfl (lv_at hl 1 rfl) ?_
        exact e_i C hW hS hm dX0_changes_42
      refine lv_icmp_ge (tgt := 41) hx hb dX0_changes_9 (by decide) (fun h => absurd h c4001) (fun _ => ?_)
      refine lv_iload_n hx hb dX0_changes_12 rfl (lv_at hl 1 rfl) ?_
      refine lv_aload_n hx hb dX0_changes_13 rfl (lv_at hl 0 rfl) ?_
      refine lv_iload_n hx hb dX0_changes_14 rfl (lv_at hl 2 rfl) ?_
      obtain ⟨v4003, hc4002, hm⟩ := q_b1i hm
      refine q_callV C hW hS (As := [.int x2_4]) (rest := [.int x1_4]) (st1 := [.int v4003, .int x1_4]) (c_X0_chipAt l D al dt x0_4 x2_4 kx0_4 v4003 hc4002) yl_X0_chipAt vl_X0_chipAt ml_RX0_50 (ci := 0) rfl kx0_4 (by decide) rfl ⟨Nat.le_of_ble_eq_true rfl, Nat.le_of_ble_eq_true rfl⟩ hl rfl (Nat.le_of_ble_eq_true rfl) dX0_changes_15 ⟨Nat.le_refl _, Nat.le_refl _⟩ rfl (fun H locs k4004 hW hS => ?_)
      refine lv_aload_n hx hb dX0_changes_18 rfl (lv_at hl 0 rfl) ?_
      refine lv_iload_n hx hb dX0_changes_19 rfl (lv_at hl 2 rfl) ?_
      refine lv_iconst (v := 1) hx hb dX0_changes_20 (by decide) ?_
      refine lv_iadd hx hb dX0_changes_21 ?_
      obtain ⟨v4006, hc4005, hm⟩ := q_b1i hm
      refine q_callV C hW hS (As := [.int (x2_4 + 1)]) (rest := [.int v4003, .int x1_4]) (st1 := [.int v4006, .int v4003, .int x1_4]) (c_X0_chipRoundAt l D al dt x0_4 (x2_4 + 1) kx0_4 v4006 hc4005) yl_X0_chipRoundAt vl_X0_chipRoundAt ml_RX0_47 (ci := 0) rfl kx0_4 (by decide) rfl ⟨Nat.le_of_ble_eq_true rfl, Nat.le_of_ble_eq_true rfl⟩ hl rfl (Nat.le_of_ble_eq_true rfl) dX0_changes_22 ⟨Nat.le_refl _, Nat.le_refl _⟩ rfl (fun H locs k4007 hW hS => ?_)
      refine q_ifc hm (fun c4008 hm => ?_) (fun c4008 hm => ?_)
      · refine lv_icmp_ne (tgt := 32) hx hb dX0_changes_25 (by decide) (fun h => absurd c4008 h) (fun _ => ?_)
        refine lv_iconst (v := 0) hx hb dX0_changes_28 (by decide) ?_
        refine lv_goto (tgt := 33) hx hb dX0_changes_29 (by decide) ?_
        exact hB33 x2_4 x1_4 0 _ _ _ hm hW hS (lv_sub hl [0, 2] rfl)
      refine lv_icmp_ne (tgt := 32) hx hb dX0_changes_25 (by decide) (fun _ => ?_) (fun h => absurd h c4008)
      refine lv_iconst (v := 1) hx hb dX0_changes_32 (by decide) ?_
      exact hB33 x2_4 x1_4 1 _ _ _ hm hW hS (lv_sub hl [0, 2] rfl)
  refine lv_iconst (v := 0) hx hb dX0_changes_0 (by decide) ?_
  refine lv_istore_n (i := 1) (lv' := [(1, .int 0), (0, .ref x0)]) hx hb dX0_changes_1 rfl hl (by decide) rfl (fun ls hl => ?_)
  refine lv_iconst (v := 0) hx hb dX0_changes_2 (by decide) ?_
  refine lv_istore_n (i := 2) (lv' := [(2, .int 0), (1, .int 0), (0, .ref x0)]) hx hb dX0_changes_3 rfl hl (by decide) rfl (fun ls hl => ?_)
  exact hB4 x0 kx0 q_FU 0 0 _ _ _ hm hW hS (lv_sub hl [2, 1, 0] rfl)
theorem dX0_worstLikeness_0 : decode cX0_worstLikeness 0 = .ok (.iconst 0, 1) := by decide +kernel
theorem dX0_worstLikeness_1 : decode cX0_worstLikeness 1 = .ok (.istore_n 3, 1) := by decide +kernel
theorem dX0_worstLikeness_2 : decode cX0_worstLikeness 2 = .ok (.iload_n 2, 1) := by decide +kernel
theorem dX0_worstLikeness_3 : decode cX0_worstLikeness 3 = .ok (.ifCond .eq 7, 3) := by decide +kernel
theorem dX0_worstLikeness_6 : decode cX0_worstLikeness 6 = .ok (.iconst 1, 1) := by decide +kernel
theorem dX0_worstLikeness_7 : decode cX0_worstLikeness 7 = .ok (.goto 4, 3) := by decide +kernel
theorem dX0_worstLikeness_10 : decode cX0_worstLikeness 10 = .ok (.iconst 0, 1) := by decide +kernel
theorem dX0_worstLikeness_11 : decode cX0_worstLikeness 11 = .ok (.istore 4, 2) := by decide +kernel
theorem dX0_worstLikeness_13 : decode cX0_worstLikeness 13 = .ok (.iload 4, 2) := by decide +kernel
theorem dX0_worstLikeness_15 : decode cX0_worstLikeness 15 = .ok (.aload_n 0, 1) := by decide +kernel
theorem dX0_worstLikeness_16 : decode cX0_worstLikeness 16 = .ok (.getfield 20, 3) := by decide +kernel
theorem dX0_worstLikeness_19 : decode cX0_worstLikeness 19 = .ok (.if_icmp .ge 24, 3) := by decide +kernel
theorem dX0_worstLikeness_22 : decode cX0_worstLikeness 22 = .ok (.iload_n 3, 1) := by decide +kernel
theorem dX0_worstLikeness_23 : decode cX0_worstLikeness 23 = .ok (.aload_n 0, 1) := by decide +kernel
theorem dX0_worstLikeness_24 : decode cX0_worstLikeness 24 = .ok (.aload_n 1, 1) := by decide +kernel
theorem dX0_worstLikeness_25 : decode cX0_worstLikeness 25 = .ok (.iload 4, 2) := by decide +kernel
theorem dX0_worstLikeness_27 : decode cX0_worstLikeness 27 = .ok (.invokevirtual 53, 3) := by decide +kernel
theorem dX0_worstLikeness_30 : decode cX0_worstLikeness 30 = .ok (.invokestatic 65, 3) := by decide +kernel
theorem dX0_worstLikeness_33 : decode cX0_worstLikeness 33 = .ok (.invokestatic 70, 3) := by decide +kernel
theorem dX0_worstLikeness_36 : decode cX0_worstLikeness 36 = .ok (.istore_n 3, 1) := by decide +kernel
theorem dX0_worstLikeness_37 : decode cX0_worstLikeness 37 = .ok (.iinc 4 1, 3) := by decide +kernel
theorem dX0_worstLikeness_40 : decode cX0_worstLikeness 40 = .ok (.goto (-27), 3) := by decide +kernel
theorem dX0_worstLikeness_43 : decode cX0_worstLikeness 43 = .ok (.iload_n 3, 1) := by decide +kernel
theorem dX0_worstLikeness_44 : decode cX0_worstLikeness 44 = .ok (.ireturn, 1) := by decide +kernel
set_option maxRecDepth 100000 in
theorem c_X0_worstLikeness (l : Launch) (D : q_D) (al : q_Al) (dt : q_Dt) (x0 : Nat) (x1 : Option Nat) (x2 : Int32) (kx0 : al.1 x0 = 1) (kx1 : ∀ b, x1 = some b → al.1 b = 1) (r0 : Int32) (hm : X0_worstLikeness al dt x0 x1 x2 = some r0) : q_Mt l yX0_worstLikeness cX0_worstLikeness 5 (some FieldType.int) 4 95 D al [.ref x0, va_rf x1, .int x2] dt 0 (some (.int r0)) dt := by
  refine q_Mt.of (by decide) (by simp [lg_sl, q_cat, q_catR, q_catI, q_catL]) ?_
  intro p e s m args below meth c ls C hargs hW hl
  have hx := C.1
  have hb := C.2.1
  have hown := C.2.2.2.2.2.1
  have hts := C.2.2.2.2.2.2.1
  have hS : va_S (q_A al) s.heap s.heap [] := va_S.rf
  have hl : lv_has ls 5 [(0, .ref x0), (1, va_rf x1), (2, .int x2)] := by simpa [lv_args, q_cat, q_catR, q_catI, q_catL] using hl
  unfold X0_worstLikeness at hm
  have hB13 : ∀ (x0_13 : Nat) (x1_13 : Option Nat) (kx0_13 : al.1 x0_13 = 1) (kx1_13 : ∀ b, x1_13 = some b → al.1 b = 1) (n_13 : Nat) (x3_13 : Int32) (x4_13 : Int32) (H : Heap) (locs : List Loc) (ls : Array Slot) (hm : X0_worstLikeness_b13 al dt x0_13 x1_13 n_13 x3_13 x4_13 = some r0) (hW : q_W D al dt H) (hS : va_S (q_A al) s.heap H locs) (hl : lv_has ls 5 [(0, .ref x0_13), (1, va_rf x1_13), (3, .int x3_13), (4, .int x4_13)]), W p l e { frames := 4, cells := 0, slots := 0, locals := 95 } s m args below meth c H locs 0 0 (MQ below (q_Q (some (.int r0)) (fun H => q_W D al dt H ∧ q_Rk al 0 (some (.int r0))) (q_A al)) args s 0 0 (q_A al)) (F0 m 13 ls []) := by
    intro x0_13 x1_13 kx0_13 kx1_13
    intro n_13
    induction n_13 with
    | zero => intro x3_13 x4_13 H locs ls hm hW hS hl; cases hm
    | succ n_13 ih13 =>
      intro x3_13 x4_13 H locs ls hm hW hS hl
      rw [X0_worstLikeness_b13] at hm
      refine lv_iload hx hb dX0_worstLikeness_13 (lv_at hl 3 rfl) ?_
      refine lv_aload_n hx hb dX0_worstLikeness_15 rfl (lv_at hl 0 rfl) ?_
      refine r_getI C hW (ci := 0) kx0_13 ff_0_1 cl_0 fl_RX0_20 dX0_worstLikeness_16 ?_
      refine q_ifc hm (fun c13001 hm => ?_) (fun c13001 hm => ?_)
      · refine lv_icmp_ge (tgt := 43) hx hb dX0_worstLikeness_19 (by decide) (fun _ => ?_) (fun h => absurd c13001 h)
        refine lv_iload_n hx hb dX0_worstLikeness_43 rfl (lv_at hl 2 rfl) ?_
        exact e_i C hW hS hm dX0_worstLikeness_44
      refine lv_icmp_ge (tgt := 43) hx hb dX0_worstLikeness_19 (by decide) (fun h => absurd h c13001) (fun _ => ?_)
      refine lv_iload_n hx hb dX0_worstLikeness_22 rfl (lv_at hl 2 rfl) ?_
      refine lv_aload_n hx hb dX0_worstLikeness_23 rfl (lv_at hl 0 rfl) ?_
      refine q_aloadQ_n C dX0_worstLikeness_24 rfl (lv_at hl 1 rfl) ?_
      refine lv_iload hx hb dX0_worstLikeness_25 (lv_at hl 3 rfl) ?_
      obtain ⟨v13003, hc13002, hm⟩ := q_b1i hm
      refine q_callV C hW hS (As := [va_rf x1_13, .int x4_13]) (rest := [.int x3_13]) (st1 := [.int v13003, .int x3_13]) (c_X0_alikeness l D al dt x0_13 x1_13 x4_13 kx0_13 kx1_13 v13003 hc13002) yl_X0_alikeness vl_X0_alikeness ml_RX0_53 (ci := 0) rfl kx0_13 (by decide) rfl ⟨Nat.le_of_ble_eq_true rfl, Nat.le_of_ble_eq_true rfl⟩ hl rfl (Nat.le_of_ble_eq_true rfl) dX0_worstLikeness_27 ⟨Nat.le_refl _, Nat.le_refl _⟩ rfl (fun H locs k13004 hW hS => ?_)
      refine q_mabs C hl wm_RX0_65 wms_abs wmi wmc_abs (Nat.le_of_ble_eq_true rfl) (Nat.le_of_ble_eq_true rfl) ⟨Nat.le_refl _, Nat.le_refl _⟩ dX0_worstLikeness_30 ?_
      refine q_mmax C hl wm_RX0_70 wms_max wmi wmc_max (Nat.le_of_ble_eq_true rfl) (Nat.le_of_ble_eq_true rfl) ⟨Nat.le_refl _, Nat.le_refl _⟩ dX0_worstLikeness_33 ?_
      refine lv_istore_n (i := 3) (lv' := [(3, .int (q_max x3_13 (q_abs v13003))), (0, .ref x0_13), (1, va_rf x1_13), (4, .int x4_13)]) hx hb dX0_worstLikeness_36 rfl hl (by decide) rfl (fun ls hl => ?_)
      refine lv_iinc (v := (x4_13 + 1)) (lv' := [(4, .int (x4_13 + 1)), (3, .int (q_max x3_13 (q_abs v13003))), (0, .ref x0_13), (1, va_rf x1_13)]) hx hb dX0_worstLikeness_37 hl (k := 3) rfl rfl (by decide) rfl (fun ls hl => ?_)
      refine lv_goto (tgt := 13) hx hb dX0_worstLikeness_40 (by decide) ?_
      exact ih13 (q_max x3_13 (q_abs v13003)) (x4_13 + 1) _ _ _ hm hW hS (lv_sub hl [2, 3, 1, 0] rfl)
  have hB11 : ∀ (x0_11 : Nat) (x1_11 : Option Nat) (x3_11 : Int32) (t0_11 : Int32) (kx0_11 : al.1 x0_11 = 1) (kx1_11 : ∀ b, x1_11 = some b → al.1 b = 1) (H : Heap) (locs : List Loc) (ls : Array Slot) (hm : X0_worstLikeness_b11 al dt x0_11 x1_11 x3_11 t0_11 = some r0) (hW : q_W D al dt H) (hS : va_S (q_A al) s.heap H locs) (hl : lv_has ls 5 [(0, .ref x0_11), (1, va_rf x1_11), (3, .int x3_11)]), W p l e { frames := 4, cells := 0, slots := 0, locals := 95 } s m args below meth c H locs 0 0 (MQ below (q_Q (some (.int r0)) (fun H => q_W D al dt H ∧ q_Rk al 0 (some (.int r0))) (q_A al)) args s 0 0 (q_A al)) (F0 m 11 ls [.int t0_11]) := by
    intro x0_11 x1_11 x3_11 t0_11 kx0_11 kx1_11 H locs ls hm hW hS hl
    unfold X0_worstLikeness_b11 at hm
    refine lv_istore (i := 4) (lv' := [(4, .int t0_11), (0, .ref x0_11), (1, va_rf x1_11), (3, .int x3_11)]) hx hb dX0_worstLikeness_11 hl (by decide) rfl (fun ls hl => ?_)
    exact hB13 x0_11 x1_11 kx0_11 kx1_11 q_FU x3_11 t0_11 _ _ _ hm hW hS (lv_sub hl [1, 2, 3, 0] rfl)
  refine lv_iconst (v := 0) hx hb dX0_worstLikeness_0 (by decide) ?_
  refine lv_istore_n (i := 3) (lv' := [(3, .int 0), (0, .ref x0), (1, va_rf x1), (2, .int x2)]) hx hb dX0_worstLikeness_1 rfl hl (by decide) rfl (fun ls hl => ?_)
  refine lv_iload_n hx hb dX0_worstLikeness_2 rfl (lv_at hl 3 rfl) ?_
  refine q_ifc hm (fun c1000001 hm => ?_) (fun c1000001 hm => ?_)
  · refine lv_if_eq (tgt := 10) hx hb dX0_worstLikeness_3 (by decide) (fun _ => ?_) (fun h => absurd c1000001 h)
    refine lv_iconst (v := 0) hx hb dX0_worstLikeness_10 (by decide) ?_
    exact hB11 x0 x1 0 0 kx0 kx1 _ _ _ hm hW hS (lv_sub hl [1, 2, 0] rfl)
  refine lv_if_eq (tgt := 10) hx hb dX0_worstLikeness_3 (by decide) (fun h => absurd h c1000001) (fun _ => ?_)
  refine lv_iconst (v := 1) hx hb dX0_worstLikeness_6 (by decide) ?_
  refine lv_goto (tgt := 11) hx hb dX0_worstLikeness_7 (by decide) ?_
  exact hB11 x0 x1 0 1 kx0 kx1 _ _ _ hm hW hS (lv_sub hl [1, 2, 0] rfl)
theorem dX0_shiftsAlikeBy_0 : decode cX0_shiftsAlikeBy 0 = .ok (.iconst 0, 1) := by decide +kernel
theorem dX0_shiftsAlikeBy_1 : decode cX0_shiftsAlikeBy 1 = .ok (.istore_n 3, 1) := by decide +kernel
theorem dX0_shiftsAlikeBy_2 : decode cX0_shiftsAlikeBy 2 = .ok (.iconst 0, 1) := by decide +kernel
theorem dX0_shiftsAlikeBy_3 : decode cX0_shiftsAlikeBy 3 = .ok (.istore 4, 2) := by decide +kernel
theorem dX0_shiftsAlikeBy_5 : decode cX0_shiftsAlikeBy 5 = .ok (.iload 4, 2) := by decide +kernel
theorem dX0_shiftsAlikeBy_7 : decode cX0_shiftsAlikeBy 7 = .ok (.aload_n 0, 1) := by decide +kernel
theorem dX0_shiftsAlikeBy_8 : decode cX0_shiftsAlikeBy 8 = .ok (.getfield 20, 3) := by decide +kernel
theorem dX0_shiftsAlikeBy_11 : decode cX0_shiftsAlikeBy 11 = .ok (.if_icmp .ge 28, 3) := by decide +kernel
theorem dX0_shiftsAlikeBy_14 : decode cX0_shiftsAlikeBy 14 = .ok (.iload_n 3, 1) := by decide +kernel
theorem dX0_shiftsAlikeBy_15 : decode cX0_shiftsAlikeBy 15 = .ok (.aload_n 0, 1) := by decide +kernel
theorem dX0_shiftsAlikeBy_16 : decode cX0_shiftsAlikeBy 16 = .ok (.aload_n 1, 1) := by decide +kernel
theorem dX0_shiftsAlikeBy_17 : decode cX0_shiftsAlikeBy 17 = .ok (.iload 4, 2) := by decide +kernel
theorem dX0_shiftsAlikeBy_19 : decode cX0_shiftsAlikeBy 19 = .ok (.invokevirtual 53, 3) := by decide +kernel
theorem dX0_shiftsAlikeBy_22 : decode cX0_shiftsAlikeBy 22 = .ok (.iload_n 2, 1) := by decide +kernel
theorem dX0_shiftsAlikeBy_23 : decode cX0_shiftsAlikeBy 23 = .ok (.if_icmp .ne 7, 3) := by decide +kernel
theorem dX0_shiftsAlikeBy_26 : decode cX0_shiftsAlikeBy 26 = .ok (.iconst 1, 1) := by decide +kernel
theorem dX0_shiftsAlikeBy_27 : decode cX0_shiftsAlikeBy 27 = .ok (.goto 4, 3) := by decide +kernel
theorem dX0_shiftsAlikeBy_30 : decode cX0_shiftsAlikeBy 30 = .ok (.iconst 0, 1) := by decide +kernel
theorem dX0_shiftsAlikeBy_31 : decode cX0_shiftsAlikeBy 31 = .ok (.iadd, 1) := by decide +kernel
theorem dX0_shiftsAlikeBy_32 : decode cX0_shiftsAlikeBy 32 = .ok (.istore_n 3, 1) := by decide +kernel
theorem dX0_shiftsAlikeBy_33 : decode cX0_shiftsAlikeBy 33 = .ok (.iinc 4 1, 3) := by decide +kernel
theorem dX0_shiftsAlikeBy_36 : decode cX0_shiftsAlikeBy 36 = .ok (.goto (-31), 3) := by decide +kernel
theorem dX0_shiftsAlikeBy_39 : decode cX0_shiftsAlikeBy 39 = .ok (.iload_n 3, 1) := by decide +kernel
theorem dX0_shiftsAlikeBy_40 : decode cX0_shiftsAlikeBy 40 = .ok (.ireturn, 1) := by decide +kernel
set_option maxRecDepth 100000 in
theorem c_X0_shiftsAlikeBy (l : Launch) (D : q_D) (al : q_Al) (dt : q_Dt) (x0 : Nat) (x1 : Option Nat) (x2 : Int32) (kx0 : al.1 x0 = 1) (kx1 : ∀ b, x1 = some b → al.1 b = 1) (r0 : Int32) (hm : X0_shiftsAlikeBy al dt x0 x1 x2 = some r0) : q_Mt l yX0_shiftsAlikeBy cX0_shiftsAlikeBy 5 (some FieldType.int) 4 95 D al [.ref x0, va_rf x1, .int x2] dt 0 (some (.int r0)) dt := by
  refine q_Mt.of (by decide) (by simp [lg_sl, q_cat, q_catR, q_catI, q_catL]) ?_
  intro p e s m args below meth c ls C hargs hW hl
  have hx := C.1
  have hb := C.2.1
  have hown := C.2.2.2.2.2.1
  have hts := C.2.2.2.2.2.2.1
  have hS : va_S (q_A al) s.heap s.heap [] := va_S.rf
  have hl : lv_has ls 5 [(0, .ref x0), (1, va_rf x1), (2, .int x2)] := by simpa [lv_args, q_cat, q_catR, q_catI, q_catL] using hl
  unfold X0_shiftsAlikeBy at hm
  have hB5 : ∀ (x0_5 : Nat) (x1_5 : Option Nat) (x2_5 : Int32) (kx0_5 : al.1 x0_5 = 1) (kx1_5 : ∀ b, x1_5 = some b → al.1 b = 1) (n_5 : Nat) (x3_5 : Int32) (x4_5 : Int32) (H : Heap) (locs : List Loc) (ls : Array Slot) (hm : X0_shiftsAlikeBy_b5 al dt x0_5 x1_5 x2_5 n_5 x3_5 x4_5 = some r0) (hW : q_W D al dt H) (hS : va_S (q_A al) s.heap H locs) (hl : lv_has ls 5 [(0, .ref x0_5), (1, va_rf x1_5), (2, .int x2_5), (3, .int x3_5), (4, .int x4_5)]), W p l e { frames := 4, cells := 0, slots := 0, locals := 95 } s m args below meth c H locs 0 0 (MQ below (q_Q (some (.int r0)) (fun H => q_W D al dt H ∧ q_Rk al 0 (some (.int r0))) (q_A al)) args s 0 0 (q_A al)) (F0 m 5 ls []) := by
    intro x0_5 x1_5 x2_5 kx0_5 kx1_5
    intro n_5
    induction n_5 with
    | zero => intro x3_5 x4_5 H locs ls hm hW hS hl; cases hm
    | succ n_5 ih5 =>
      have hB31 : ∀ (x4_31 : Int32) (t0_31 : Int32) (t1_31 : Int32) (H : Heap) (locs : List Loc) (ls : Array Slot) (hm : X0_shiftsAlikeBy_b31 al dt (X0_shiftsAlikeBy_b5 al dt x0_5 x1_5 x2_5 n_5) x0_5 x1_5 x2_5 x4_31 t0_31 t1_31 = some r0) (hW : q_W D al dt H) (hS : va_S (q_A al) s.heap H locs) (hl : lv_has ls 5 [(0, .ref x0_5), (1, va_rf x1_5), (2, .int x2_5), (4, .int x4_31)]), W p l e { frames := 4, cells := 0, slots := 0, locals := 95 } s m args below meth c H locs 0 0 (MQ below (q_Q (some (.int r0)) (fun H => q_W D al dt H ∧ q_Rk al 0 (some (.int r0))) (q_A al)) args s 0 0 (q_A al)) (F0 m 31 ls [.int t1_31, .int t0_31]) := by
        intro x4_31 t0_31 t1_31 H locs ls hm hW hS hl
        unfold X0_shiftsAlikeBy_b31 at hm
        refine lv_iadd hx hb dX0_shiftsAlikeBy_31 ?_
        refine lv_istore_n (i := 3) (lv' := [(3, .int (t0_31 + t1_31)), (0, .ref x0_5), (1, va_rf x1_5), (2, .int x2_5), (4, .int x4_31)]) hx hb dX0_shiftsAlikeBy_32 rfl hl (by decide) rfl (fun ls hl => ?_)
        refine lv_iinc (v := (x4_31 + 1)) (lv' := [(4, .int (x4_31 + 1)), (3, .int (t0_31 + t1_31)), (0, .ref x0_5), (1, va_rf x1_5), (2, .int x2_5)]) hx hb dX0_shiftsAlikeBy_33 hl (k := 4) rfl rfl (by decide) rfl (fun ls hl => ?_)
        refine lv_goto (tgt := 5) hx hb dX0_shiftsAlikeBy_36 (by decide) ?_
        exact ih5 (t0_31 + t1_31) (x4_31 + 1) _ _ _ hm hW hS (lv_sub hl [2, 3, 4, 1, 0] rfl)
      intro x3_5 x4_5 H locs ls hm hW hS hl
      rw [X0_shiftsAlikeBy_b5] at hm
      refine lv_iload hx hb dX0_shiftsAlikeBy_5 (lv_at hl 4 rfl) ?_
      refine lv_aload_n hx hb dX0_shiftsAlikeBy_7 rfl (lv_at hl 0 rfl) ?_
      refine r_getI C hW (ci := 0) kx0_5 ff_0_1 cl_0 fl_RX0_20 dX0_shiftsAlikeBy_8 ?_
      refine q_ifc hm (fun c5001 hm => ?_) (fun c5001 hm => ?_)
      · refine lv_icmp_ge (tgt := 39) hx hb dX0_shiftsAlikeBy_11 (by decide) (fun _ => ?_) (fun h => absurd c5001 h)
        refine lv_iload_n hx hb dX0_shiftsAlikeBy_39 rfl (lv_at hl 3 rfl) ?_
        exact e_i C hW hS hm dX0_shiftsAlikeBy_40
      refine lv_icmp_ge (tgt := 39) hx hb dX0_shiftsAlikeBy_11 (by decide) (fun h => absurd h c5001) (fun _ => ?_)
      refine lv_iload_n hx hb dX0_shiftsAlikeBy_14 rfl (lv_at hl 3 rfl) ?_
      refine lv_aload_n hx hb dX0_shiftsAlikeBy_15 rfl (lv_at hl 0 rfl) ?_
      refine q_aloadQ_n C dX0_shiftsAlikeBy_16 rfl (lv_at hl 1 rfl) ?_
      refine lv_iload hx hb dX0_shiftsAlikeBy_17 (lv_at hl 4 rfl) ?_
      obtain ⟨v5003, hc5002, hm⟩ := q_b1i hm
      refine q_callV C hW hS (As := [va_rf x1_5, .int x4_5]) (rest := [.int x3_5]) (st1 := [.int v5003, .int x3_5]) (c_X0_alikeness l D al dt x0_5 x1_5 x4_5 kx0_5 kx1_5 v5003 hc5002) yl_X0_alikeness vl_X0_alikeness ml_RX0_53 (ci := 0) rfl kx0_5 (by decide) rfl ⟨Nat.le_of_ble_eq_true rfl, Nat.le_of_ble_eq_true rfl⟩ hl rfl (Nat.le_of_ble_eq_true rfl) dX0_shiftsAlikeBy_19 ⟨Nat.le_refl _, Nat.le_refl _⟩ rfl (fun H locs k5004 hW hS => ?_)
      refine lv_iload_n hx hb dX0_shiftsAlikeBy_22 rfl (lv_at hl 2 rfl) ?_
      refine q_ifc hm (fun c5005 hm => ?_) (fun c5005 hm => ?_)
      · refine lv_icmp_ne (tgt := 30) hx hb dX0_shiftsAlikeBy_23 (by decide) (fun h => absurd c5005 h) (fun _ => ?_)
        refine lv_iconst (v := 1) hx hb dX0_shiftsAlikeBy_26 (by decide) ?_
        refine lv_goto (tgt := 31) hx hb dX0_shiftsAlikeBy_27 (by decide) ?_
        exact hB31 x4_5 x3_5 1 _ _ _ hm hW hS (lv_sub hl [0, 1, 2, 4] rfl)
      refine lv_icmp_ne (tgt := 30) hx hb dX0_shiftsAlikeBy_23 (by decide) (fun _ => ?_) (fun h => absurd h c5005)
      refine lv_iconst (v := 0) hx hb dX0_shiftsAlikeBy_30 (by decide) ?_
      exact hB31 x4_5 x3_5 0 _ _ _ hm hW hS (lv_sub hl [0, 1, 2, 4] rfl)
  refine lv_iconst (v := 0) hx hb dX0_shiftsAlikeBy_0 (by decide) ?_
  refine lv_istore_n (i := 3) (lv' := [(3, .int 0), (0, .ref x0), (1, va_rf x1), (2, .int x2)]) hx hb dX0_shiftsAlikeBy_1 rfl hl (by decide) rfl (fun ls hl => ?_)
  refine lv_iconst (v := 0) hx hb dX0_shiftsAlikeBy_2 (by decide) ?_
  refine lv_istore (i := 4) (lv' := [(4, .int 0), (3, .int 0), (0, .ref x0), (1, va_rf x1), (2, .int x2)]) hx hb dX0_shiftsAlikeBy_3 hl (by decide) rfl (fun ls hl => ?_)
  exact hB5 x0 x1 x2 kx0 kx1 q_FU 0 0 _ _ _ hm hW hS (lv_sub hl [2, 3, 4, 1, 0] rfl)
theorem dX1_lay_0 : decode cX1_lay 0 = .ok (.aload_n 0, 1) := by decide +kernel
theorem dX1_lay_1 : decode cX1_lay 1 = .ok (.iload_n 1, 1) := by decide +kernel
theorem dX1_lay_2 : decode cX1_lay 2 = .ok (.putfield 9, 3) := by decide +kernel
theorem dX1_lay_5 : decode cX1_lay 5 = .ok (.aload_n 0, 1) := by decide +kernel
theorem dX1_lay_6 : decode cX1_lay 6 = .ok (.iload_n 2, 1) := by decide +kernel
theorem dX1_lay_7 : decode cX1_lay 7 = .ok (.putfield 15, 3) := by decide +kernel
theorem dX1_lay_10 : decode cX1_lay 10 = .ok (.aload_n 0, 1) := by decide +kernel
theorem dX1_lay_11 : decode cX1_lay 11 = .ok (.iload_n 3, 1) := by decide +kernel
theorem dX1_lay_12 : decode cX1_lay 12 = .ok (.putfield 18, 3) := by decide +kernel
theorem dX1_lay_15 : decode cX1_lay 15 = .ok (.return_, 1) := by decide +kernel
set_option maxRecDepth 100000 in
theorem c_X1_lay (l : Launch) (D : q_D) (al : q_Al) (dt : q_Dt) (x0 : Nat) (x1 : Int32) (x2 : Int32) (x3 : Int32) (kx0 : al.1 x0 = 2) (dt0 : q_Dt) (hm : X1_lay al dt x0 x1 x2 x3 = some dt0) : q_Mt l yX1_lay cX1_lay 4 (none) 0 0 D al [.ref x0, .int x1, .int x2, .int x3] dt 0 none dt0 := by
  refine q_Mt.of (by decide) (Nat.le_of_ble_eq_true rfl) ?_
  intro p e s m args below meth c ls C hargs hW hl
  have hx := C.1
  have hb := C.2.1
  have hown := C.2.2.2.2.2.1
  have hts := C.2.2.2.2.2.2.1
  have hS : va_S (q_A al) s.heap s.heap [] := va_S.rf
  have hl : lv_has ls 4 [(0, .ref x0), (1, .int x1), (2, .int x2), (3, .int x3)] := hl
  unfold X1_lay at hm
  refine lv_aload_n hx hb dX1_lay_0 rfl (lv_at hl 0 rfl) ?_
  refine lv_iload_n hx hb dX1_lay_1 rfl (lv_at hl 1 rfl) ?_
  refine r_putI C hW hS hm (ci := 1) kx0 ff_1_0 cl_1 fl_RX1_9 (nf_1_0) rfl dX1_lay_2 (fun dt1000001 H locs hm hW hS => ?_)
  refine lv_aload_n hx hb dX1_lay_5 rfl (lv_at hl 0 rfl) ?_
  refine lv_iload_n hx hb dX1_lay_6 rfl (lv_at hl 2 rfl) ?_
  refine r_putI C hW hS hm (ci := 1) kx0 ff_1_1 cl_1 fl_RX1_15 (nf_1_1) rfl dX1_lay_7 (fun dt1000002 H locs hm hW hS => ?_)
  refine lv_aload_n hx hb dX1_lay_10 rfl (lv_at hl 0 rfl) ?_
  refine lv_iload_n hx hb dX1_lay_11 rfl (lv_at hl 3 rfl) ?_
  refine r_putI C hW hS hm (ci := 1) kx0 ff_1_2 cl_1 fl_RX1_18 (nf_1_2) rfl dX1_lay_12 (fun dt1000003 H locs hm hW hS => ?_)
  exact e_vD C hW hS hm dX1_lay_15
theorem dX1_channelAt_0 : decode cX1_channelAt 0 = .ok (.iload_n 1, 1) := by decide +kernel
theorem dX1_channelAt_1 : decode cX1_channelAt 1 = .ok (.i2l, 1) := by decide +kernel
theorem dX1_channelAt_2 : decode cX1_channelAt 2 = .ok (.aload_n 0, 1) := by decide +kernel
theorem dX1_channelAt_3 : decode cX1_channelAt 3 = .ok (.getfield 9, 3) := by decide +kernel
theorem dX1_channelAt_6 : decode cX1_channelAt 6 = .ok (.i2l, 1) := by decide +kernel
theorem dX1_channelAt_7 : decode cX1_channelAt 7 = .ok (.invokestatic 21, 3) := by decide +kernel
theorem dX1_channelAt_10 : decode cX1_channelAt 10 = .ok (.l2i, 1) := by decide +kernel
theorem dX1_channelAt_11 : decode cX1_channelAt 11 = .ok (.istore_n 2, 1) := by decide +kernel
theorem dX1_channelAt_12 : decode cX1_channelAt 12 = .ok (.aload_n 0, 1) := by decide +kernel
theorem dX1_channelAt_13 : decode cX1_channelAt 13 = .ok (.getfield 15, 3) := by decide +kernel
theorem dX1_channelAt_16 : decode cX1_channelAt 16 = .ok (.iload_n 2, 1) := by decide +kernel
theorem dX1_channelAt_17 : decode cX1_channelAt 17 = .ok (.imul, 1) := by decide +kernel
theorem dX1_channelAt_18 : decode cX1_channelAt 18 = .ok (.iload_n 2, 1) := by decide +kernel
theorem dX1_channelAt_19 : decode cX1_channelAt 19 = .ok (.imul, 1) := by decide +kernel
theorem dX1_channelAt_20 : decode cX1_channelAt 20 = .ok (.aload_n 0, 1) := by decide +kernel
theorem dX1_channelAt_21 : decode cX1_channelAt 21 = .ok (.getfield 18, 3) := by decide +kernel
theorem dX1_channelAt_24 : decode cX1_channelAt 24 = .ok (.iload_n 2, 1) := by decide +kernel
theorem dX1_channelAt_25 : decode cX1_channelAt 25 = .ok (.imul, 1) := by decide +kernel
theorem dX1_channelAt_26 : decode cX1_channelAt 26 = .ok (.iadd, 1) := by decide +kernel
theorem dX1_channelAt_27 : decode cX1_channelAt 27 = .ok (.i2l, 1) := by decide +kernel
theorem dX1_channelAt_28 : decode cX1_channelAt 28 = .ok (.aload_n 0, 1) := by decide +kernel
theorem dX1_channelAt_29 : decode cX1_channelAt 29 = .ok (.getfield 9, 3) := by decide +kernel
theorem dX1_channelAt_32 : decode cX1_channelAt 32 = .ok (.i2l, 1) := by decide +kernel
theorem dX1_channelAt_33 : decode cX1_channelAt 33 = .ok (.invokestatic 21, 3) := by decide +kernel
theorem dX1_channelAt_36 : decode cX1_channelAt 36 = .ok (.l2i, 1) := by decide +kernel
theorem dX1_channelAt_37 : decode cX1_channelAt 37 = .ok (.ireturn, 1) := by decide +kernel
set_option maxRecDepth 100000 in
theorem c_X1_channelAt (l : Launch) (D : q_D) (al : q_Al) (dt : q_Dt) (x0 : Nat) (x1 : Int32) (kx0 : al.1 x0 = 2) (r0 : Int32) (hm : X1_channelAt al dt x0 x1 = some r0) : q_Mt l yX1_channelAt cX1_channelAt 3 (some FieldType.int) 1 25 D al [.ref x0, .int x1] dt 0 (some (.int r0)) dt := by
  refine q_Mt.of (by decide) (Nat.le_of_ble_eq_true rfl) ?_
  intro p e s m args below meth c ls C hargs hW hl
  have hx := C.1
  have hb := C.2.1
  have hown := C.2.2.2.2.2.1
  have hts := C.2.2.2.2.2.2.1
  have hS : va_S (q_A al) s.heap s.heap [] := va_S.rf
  have hl : lv_has ls 3 [(0, .ref x0), (1, .int x1)] := hl
  unfold X1_channelAt at hm
  refine lv_iload_n hx hb dX1_channelAt_0 rfl (lv_at hl 1 rfl) ?_
  refine lv_i2l (v := (Int32.toInt64 x1)) hx hb dX1_channelAt_1 rfl ?_
  refine lv_aload_n hx hb dX1_channelAt_2 rfl (lv_at hl 0 rfl) ?_
  refine r_getI C hW (ci := 1) kx0 ff_1_0 cl_1 fl_RX1_9 dX1_channelAt_3 ?_
  refine lv_i2l (v := (Int32.toInt64 (dt.1 x0 0))) hx hb dX1_channelAt_6 rfl ?_
  obtain ⟨v1000002, hc1000001, hm⟩ := q_b1i hm
  refine q_callS C hW hS (As := [.long (Int32.toInt64 x1), .long (Int32.toInt64 (dt.1 x0 0))]) (rest := []) (st1 := [.long v1000002]) (c_X11_remainder l D al dt (Int32.toInt64 x1) (Int32.toInt64 (dt.1 x0 0)) v1000002 hc1000001) yl_X11_remainder sl_X11_remainder ml_RX1_21 rfl ⟨Nat.le_of_ble_eq_true rfl, Nat.le_of_ble_eq_true rfl⟩ hl rfl (Nat.le_of_ble_eq_true rfl) dX1_channelAt_7 ⟨Nat.le_refl _, Nat.le_refl _⟩ rfl (fun H locs k1000003 hW hS => ?_)
  refine lv_l2i (v := (Int64.toInt32 v1000002)) hx hb dX1_channelAt_10 rfl ?_
  refine lv_istore_n (i := 2) (lv' := [(2, .int (Int64.toInt32 v1000002)), (0, .ref x0), (1, .int x1)]) hx hb dX1_channelAt_11 rfl hl (by decide) rfl (fun ls hl => ?_)
  refine lv_aload_n hx hb dX1_channelAt_12 rfl (lv_at hl 1 rfl) ?_
  refine r_getI C hW (ci := 1) kx0 ff_1_1 cl_1 fl_RX1_15 dX1_channelAt_13 ?_
  refine lv_iload_n hx hb dX1_channelAt_16 rfl (lv_at hl 0 rfl) ?_
  refine lv_imul hx hb dX1_channelAt_17 ?_
  refine lv_iload_n hx hb dX1_channelAt_18 rfl (lv_at hl 0 rfl) ?_
  refine lv_imul hx hb dX1_channelAt_19 ?_
  refine lv_aload_n hx hb dX1_channelAt_20 rfl (lv_at hl 1 rfl) ?_
  refine r_getI C hW (ci := 1) kx0 ff_1_2 cl_1 fl_RX1_18 dX1_channelAt_21 ?_
  refine lv_iload_n hx hb dX1_channelAt_24 rfl (lv_at hl 0 rfl) ?_
  refine lv_imul hx hb dX1_channelAt_25 ?_
  refine lv_iadd hx hb dX1_channelAt_26 ?_
  refine lv_i2l (v := (Int32.toInt64 ((((dt.1 x0 1) * (Int64.toInt32 v1000002)) * (Int64.toInt32 v1000002)) + ((dt.1 x0 2) * (Int64.toInt32 v1000002))))) hx hb dX1_channelAt_27 rfl ?_
  refine lv_aload_n hx hb dX1_channelAt_28 rfl (lv_at hl 1 rfl) ?_
  refine r_getI C hW (ci := 1) kx0 ff_1_0 cl_1 fl_RX1_9 dX1_channelAt_29 ?_
  refine lv_i2l (v := (Int32.toInt64 (dt.1 x0 0))) hx hb dX1_channelAt_32 rfl ?_
  obtain ⟨v1000005, hc1000004, hm⟩ := q_b1i hm
  refine q_callS C hW hS (As := [.long (Int32.toInt64 ((((dt.1 x0 1) * (Int64.toInt32 v1000002)) * (Int64.toInt32 v1000002)) + ((dt.1 x0 2) * (Int64.toInt32 v1000002)))), .long (Int32.toInt64 (dt.1 x0 0))]) (rest := []) (st1 := [.long v1000005]) (c_X11_remainder l D al dt (Int32.toInt64 ((((dt.1 x0 1) * (Int64.toInt32 v1000002)) * (Int64.toInt32 v1000002)) + ((dt.1 x0 2) * (Int64.toInt32 v1000002)))) (Int32.toInt64 (dt.1 x0 0)) v1000005 hc1000004) yl_X11_remainder sl_X11_remainder ml_RX1_21 rfl ⟨Nat.le_of_ble_eq_true rfl, Nat.le_of_ble_eq_true rfl⟩ hl rfl (Nat.le_of_ble_eq_true rfl) dX1_channelAt_33 ⟨Nat.le_refl _, Nat.le_refl _⟩ rfl (fun H locs k1000006 hW hS => ?_)
  refine lv_l2i (v := (Int64.toInt32 v1000005)) hx hb dX1_channelAt_36 rfl ?_
  exact e_i C hW hS hm dX1_channelAt_37
theorem dX1_meets_0 : decode cX1_meets 0 = .ok (.iconst 0, 1) := by decide +kernel
theorem dX1_meets_1 : decode cX1_meets 1 = .ok (.istore_n 3, 1) := by decide +kernel
theorem dX1_meets_2 : decode cX1_meets 2 = .ok (.iconst 0, 1) := by decide +kernel
theorem dX1_meets_3 : decode cX1_meets 3 = .ok (.istore 4, 2) := by decide +kernel
theorem dX1_meets_5 : decode cX1_meets 5 = .ok (.iload 4, 2) := by decide +kernel
theorem dX1_meets_7 : decode cX1_meets 7 = .ok (.aload_n 0, 1) := by decide +kernel
theorem dX1_meets_8 : decode cX1_meets 8 = .ok (.getfield 9, 3) := by decide +kernel
theorem dX1_meets_11 : decode cX1_meets 11 = .ok (.if_icmp .ge 34, 3) := by decide +kernel
theorem dX1_meets_14 : decode cX1_meets 14 = .ok (.iload_n 3, 1) := by decide +kernel
theorem dX1_meets_15 : decode cX1_meets 15 = .ok (.aload_n 0, 1) := by decide +kernel
theorem dX1_meets_16 : decode cX1_meets 16 = .ok (.iload 4, 2) := by decide +kernel
theorem dX1_meets_18 : decode cX1_meets 18 = .ok (.invokevirtual 25, 3) := by decide +kernel
theorem dX1_meets_21 : decode cX1_meets 21 = .ok (.aload_n 1, 1) := by decide +kernel
theorem dX1_meets_22 : decode cX1_meets 22 = .ok (.iload 4, 2) := by decide +kernel
theorem dX1_meets_24 : decode cX1_meets 24 = .ok (.iload_n 2, 1) := by decide +kernel
theorem dX1_meets_25 : decode cX1_meets 25 = .ok (.iadd, 1) := by decide +kernel
theorem dX1_meets_26 : decode cX1_meets 26 = .ok (.invokevirtual 25, 3) := by decide +kernel
theorem dX1_meets_29 : decode cX1_meets 29 = .ok (.if_icmp .ne 7, 3) := by decide +kernel
theorem dX1_meets_32 : decode cX1_meets 32 = .ok (.iconst 1, 1) := by decide +kernel
theorem dX1_meets_33 : decode cX1_meets 33 = .ok (.goto 4, 3) := by decide +kernel
theorem dX1_meets_36 : decode cX1_meets 36 = .ok (.iconst 0, 1) := by decide +kernel
theorem dX1_meets_37 : decode cX1_meets 37 = .ok (.iadd, 1) := by decide +kernel
theorem dX1_meets_38 : decode cX1_meets 38 = .ok (.istore_n 3, 1) := by decide +kernel
theorem dX1_meets_39 : decode cX1_meets 39 = .ok (.iinc 4 1, 3) := by decide +kernel
theorem dX1_meets_42 : decode cX1_meets 42 = .ok (.goto (-37), 3) := by decide +kernel
theorem dX1_meets_45 : decode cX1_meets 45 = .ok (.iload_n 3, 1) := by decide +kernel
theorem dX1_meets_46 : decode cX1_meets 46 = .ok (.ireturn, 1) := by decide +kernel
set_option maxRecDepth 100000 in
theorem c_X1_meets (l : Launch) (D : q_D) (al : q_Al) (dt : q_Dt) (x0 : Nat) (x1 : Option Nat) (x2 : Int32) (kx0 : al.1 x0 = 2) (kx1 : ∀ b, x1 = some b → al.1 b = 2) (r0 : Int32) (hm : X1_meets al dt x0 x1 x2 = some r0) : q_Mt l yX1_meets cX1_meets 5 (some FieldType.int) 2 47 D al [.ref x0, va_rf x1, .int x2] dt 0 (some (.int r0)) dt := by
  refine q_Mt.of (by decide) (by simp [lg_sl, q_cat, q_catR, q_catI, q_catL]) ?_
  intro p e s m args below meth c ls C hargs hW hl
  have hx := C.1
  have hb := C.2.1
  have hown := C.2.2.2.2.2.1
  have hts := C.2.2.2.2.2.2.1
  have hS : va_S (q_A al) s.heap s.heap [] := va_S.rf
  have hl : lv_has ls 5 [(0, .ref x0), (1, va_rf x1), (2, .int x2)] := by simpa [lv_args, q_cat, q_catR, q_catI, q_catL] using hl
  unfold X1_meets at hm
  have hB5 : ∀ (x0_5 : Nat) (x1_5 : Option Nat) (x2_5 : Int32) (kx0_5 : al.1 x0_5 = 2) (kx1_5 : ∀ b, x1_5 = some b → al.1 b = 2) (n_5 : Nat) (x3_5 : Int32) (x4_5 : Int32) (H : Heap) (locs : List Loc) (ls : Array Slot) (hm : X1_meets_b5 al dt x0_5 x1_5 x2_5 n_5 x3_5 x4_5 = some r0) (hW : q_W D al dt H) (hS : va_S (q_A al) s.heap H locs) (hl : lv_has ls 5 [(0, .ref x0_5), (1, va_rf x1_5), (2, .int x2_5), (3, .int x3_5), (4, .int x4_5)]), W p l e { frames := 2, cells := 0, slots := 0, locals := 47 } s m args below meth c H locs 0 0 (MQ below (q_Q (some (.int r0)) (fun H => q_W D al dt H ∧ q_Rk al 0 (some (.int r0))) (q_A al)) args s 0 0 (q_A al)) (F0 m 5 ls []) := by
    intro x0_5 x1_5 x2_5 kx0_5 kx1_5
    intro n_5
    induction n_5 with
    | zero => intro x3_5 x4_5 H locs ls hm hW hS hl; cases hm
    | succ n_5 ih5 =>
      have hB37 : ∀ (x4_37 : Int32) (t0_37 : Int32) (t1_37 : Int32) (H : Heap) (locs : List Loc) (ls : Array Slot) (hm : X1_meets_b37 al dt (X1_meets_b5 al dt x0_5 x1_5 x2_5 n_5) x0_5 x1_5 x2_5 x4_37 t0_37 t1_37 = some r0) (hW : q_W D al dt H) (hS : va_S (q_A al) s.heap H locs) (hl : lv_has ls 5 [(0, .ref x0_5), (1, va_rf x1_5), (2, .int x2_5), (4, .int x4_37)]), W p l e { frames := 2, cells := 0, slots := 0, locals := 47 } s m args below meth c H locs 0 0 (MQ below (q_Q (some (.int r0)) (fun H => q_W D al dt H ∧ q_Rk al 0 (some (.int r0))) (q_A al)) args s 0 0 (q_A al)) (F0 m 37 ls [.int t1_37, .int t0_37]) := by
        intro x4_37 t0_37 t1_37 H locs ls hm hW hS hl
        unfold X1_meets_b37 at hm
        refine lv_iadd hx hb dX1_meets_37 ?_
        refine lv_istore_n (i := 3) (lv' := [(3, .int (t0_37 + t1_37)), (0, .ref x0_5), (1, va_rf x1_5), (2, .int x2_5), (4, .int x4_37)]) hx hb dX1_meets_38 rfl hl (by decide) rfl (fun ls hl => ?_)
        refine lv_iinc (v := (x4_37 + 1)) (lv' := [(4, .int (x4_37 + 1)), (3, .int (t0_37 + t1_37)), (0, .ref x0_5), (1, va_rf x1_5), (2, .int x2_5)]) hx hb dX1_meets_39 hl (k := 4) rfl rfl (by decide) rfl (fun ls hl => ?_)
        refine lv_goto (tgt := 5) hx hb dX1_meets_42 (by decide) ?_
        exact ih5 (t0_37 + t1_37) (x4_37 + 1) _ _ _ hm hW hS (lv_sub hl [2, 3, 4, 1, 0] rfl)
      intro x3_5 x4_5 H locs ls hm hW hS hl
      rw [X1_meets_b5] at hm
      refine lv_iload hx hb dX1_meets_5 (lv_at hl 4 rfl) ?_
      refine lv_aload_n hx hb dX1_meets_7 rfl (lv_at hl 0 rfl) ?_
      refine r_getI C hW (ci := 1) kx0_5 ff_1_0 cl_1 fl_RX1_9 dX1_meets_8 ?_
      refine q_ifc hm (fun c5001 hm => ?_) (fun c5001 hm => ?_)
      · refine lv_icmp_ge (tgt := 45) hx hb dX1_meets_11 (by decide) (fun _ => ?_) (fun h => absurd c5001 h)
        refine lv_iload_n hx hb dX1_meets_45 rfl (lv_at hl 3 rfl) ?_
        exact e_i C hW hS hm dX1_meets_46
      refine lv_icmp_ge (tgt := 45) hx hb dX1_meets_11 (by decide) (fun h => absurd h c5001) (fun _ => ?_)
      refine lv_iload_n hx hb dX1_meets_14 rfl (lv_at hl 3 rfl) ?_
      refine lv_aload_n hx hb dX1_meets_15 rfl (lv_at hl 0 rfl) ?_
      refine lv_iload hx hb dX1_meets_16 (lv_at hl 4 rfl) ?_
      obtain ⟨v5003, hc5002, hm⟩ := q_b1i hm
      refine q_callV C hW hS (As := [.int x4_5]) (rest := [.int x3_5]) (st1 := [.int v5003, .int x3_5]) (c_X1_channelAt l D al dt x0_5 x4_5 kx0_5 v5003 hc5002) yl_X1_channelAt vl_X1_channelAt ml_RX1_25 (ci := 1) rfl kx0_5 (by decide) rfl ⟨Nat.le_of_ble_eq_true rfl, Nat.le_of_ble_eq_true rfl⟩ hl rfl (Nat.le_of_ble_eq_true rfl) dX1_meets_18 ⟨Nat.le_refl _, Nat.le_refl _⟩ rfl (fun H locs k5004 hW hS => ?_)
      refine q_aloadQ_n C dX1_meets_21 rfl (lv_at hl 1 rfl) ?_
      refine lv_iload hx hb dX1_meets_22 (lv_at hl 4 rfl) ?_
      refine lv_iload_n hx hb dX1_meets_24 rfl (lv_at hl 2 rfl) ?_
      refine lv_iadd hx hb dX1_meets_25 ?_
      obtain ⟨b5005, e5006, hq5007⟩ := q_mi hm
      subst e5006
      have hm := hq5007
      have k5008 := kx1_5 b5005 rfl
      obtain ⟨v5010, hc5009, hm⟩ := q_b1i hm
      refine q_callV C hW hS (As := [.int (x4_5 + x2_5)]) (rest := [.int v5003, .int x3_5]) (st1 := [.int v5010, .int v5003, .int x3_5]) (c_X1_channelAt l D al dt b5005 (x4_5 + x2_5) k5008 v5010 hc5009) yl_X1_channelAt vl_X1_channelAt ml_RX1_25 (ci := 1) rfl k5008 (by decide) rfl ⟨Nat.le_of_ble_eq_true rfl, Nat.le_of_ble_eq_true rfl⟩ hl rfl (Nat.le_of_ble_eq_true rfl) dX1_meets_26 ⟨Nat.le_refl _, Nat.le_refl _⟩ rfl (fun H locs k5011 hW hS => ?_)
      refine q_ifc hm (fun c5012 hm => ?_) (fun c5012 hm => ?_)
      · refine lv_icmp_ne (tgt := 36) hx hb dX1_meets_29 (by decide) (fun h => absurd c5012 h) (fun _ => ?_)
        refine lv_iconst (v := 1) hx hb dX1_meets_32 (by decide) ?_
        refine lv_goto (tgt := 37) hx hb dX1_meets_33 (by decide) ?_
        exact hB37 x4_5 x3_5 1 _ _ _ hm hW hS (lv_sub hl [0, 1, 2, 4] rfl)
      refine lv_icmp_ne (tgt := 36) hx hb dX1_meets_29 (by decide) (fun _ => ?_) (fun h => absurd h c5012)
      refine lv_iconst (v := 0) hx hb dX1_meets_36 (by decide) ?_
      exact hB37 x4_5 x3_5 0 _ _ _ hm hW hS (lv_sub hl [0, 1, 2, 4] rfl)
  refine lv_iconst (v := 0) hx hb dX1_meets_0 (by decide) ?_
  refine lv_istore_n (i := 3) (lv' := [(3, .int 0), (0, .ref x0), (1, va_rf x1), (2, .int x2)]) hx hb dX1_meets_1 rfl hl (by decide) rfl (fun ls hl => ?_)
  refine lv_iconst (v := 0) hx hb dX1_meets_2 (by decide) ?_
  refine lv_istore (i := 4) (lv' := [(4, .int 0), (3, .int 0), (0, .ref x0), (1, va_rf x1), (2, .int x2)]) hx hb dX1_meets_3 hl (by decide) rfl (fun ls hl => ?_)
  exact hB5 x0 x1 x2 kx0 kx1 q_FU 0 0 _ _ _ hm hW hS (lv_sub hl [2, 3, 4, 1, 0] rfl)
theorem dX1_slotsIn_0 : decode cX1_slotsIn 0 = .ok (.iconst 0, 1) := by decide +kernel
theorem dX1_slotsIn_1 : decode cX1_slotsIn 1 = .ok (.istore_n 2, 1) := by decide +kernel
theorem dX1_slotsIn_2 : decode cX1_slotsIn 2 = .ok (.iconst 0, 1) := by decide +kernel
theorem dX1_slotsIn_3 : decode cX1_slotsIn 3 = .ok (.istore_n 3, 1) := by decide +kernel
theorem dX1_slotsIn_4 : decode cX1_slotsIn 4 = .ok (.iload_n 3, 1) := by decide +kernel
theorem dX1_slotsIn_5 : decode cX1_slotsIn 5 = .ok (.aload_n 0, 1) := by decide +kernel
theorem dX1_slotsIn_6 : decode cX1_slotsIn 6 = .ok (.getfield 9, 3) := by decide +kernel
theorem dX1_slotsIn_9 : decode cX1_slotsIn 9 = .ok (.if_icmp .ge 21, 3) := by decide +kernel
theorem dX1_slotsIn_12 : decode cX1_slotsIn 12 = .ok (.iload_n 2, 1) := by decide +kernel
theorem dX1_slotsIn_13 : decode cX1_slotsIn 13 = .ok (.iload_n 1, 1) := by decide +kernel
theorem dX1_slotsIn_14 : decode cX1_slotsIn 14 = .ok (.aload_n 0, 1) := by decide +kernel
theorem dX1_slotsIn_15 : decode cX1_slotsIn 15 = .ok (.iload_n 3, 1) := by decide +kernel
theorem dX1_slotsIn_16 : decode cX1_slotsIn 16 = .ok (.invokevirtual 25, 3) := by decide +kernel
theorem dX1_slotsIn_19 : decode cX1_slotsIn 19 = .ok (.ishr, 1) := by decide +kernel
theorem dX1_slotsIn_20 : decode cX1_slotsIn 20 = .ok (.iconst 1, 1) := by decide +kernel
theorem dX1_slotsIn_21 : decode cX1_slotsIn 21 = .ok (.iand, 1) := by decide +kernel
theorem dX1_slotsIn_22 : decode cX1_slotsIn 22 = .ok (.iadd, 1) := by decide +kernel
theorem dX1_slotsIn_23 : decode cX1_slotsIn 23 = .ok (.istore_n 2, 1) := by decide +kernel
theorem dX1_slotsIn_24 : decode cX1_slotsIn 24 = .ok (.iinc 3 1, 3) := by decide +kernel
theorem dX1_slotsIn_27 : decode cX1_slotsIn 27 = .ok (.goto (-23), 3) := by decide +kernel
theorem dX1_slotsIn_30 : decode cX1_slotsIn 30 = .ok (.iload_n 2, 1) := by decide +kernel
theorem dX1_slotsIn_31 : decode cX1_slotsIn 31 = .ok (.ireturn, 1) := by decide +kernel
set_option maxRecDepth 100000 in
theorem c_X1_slotsIn (l : Launch) (D : q_D) (al : q_Al) (dt : q_Dt) (x0 : Nat) (x1 : Int32) (kx0 : al.1 x0 = 2) (r0 : Int32) (hm : X1_slotsIn al dt x0 x1 = some r0) : q_Mt l yX1_slotsIn cX1_slotsIn 4 (some FieldType.int) 2 47 D al [.ref x0, .int x1] dt 0 (some (.int r0)) dt := by
  refine q_Mt.of (by decide) (Nat.le_of_ble_eq_true rfl) ?_
  intro p e s m args below meth c ls C hargs hW hl
  have hx := C.1
  have hb := C.2.1
  have hown := C.2.2.2.2.2.1
  have hts := C.2.2.2.2.2.2.1
  have hS : va_S (q_A al) s.heap s.heap [] := va_S.rf
  have hl : lv_has ls 4 [(0, .ref x0), (1, .int x1)] := hl
  unfold X1_slotsIn at hm
  have hB4 : ∀ (x0_4 : Nat) (x1_4 : Int32) (kx0_4 : al.1 x0_4 = 2) (n_4 : Nat) (x2_4 : Int32) (x3_4 : Int32) (H : Heap) (locs : List Loc) (ls : Array Slot) (hm : X1_slotsIn_b4 al dt x0_4 x1_4 n_4 x2_4 x3_4 = some r0) (hW : q_W D al dt H) (hS : va_S (q_A al) s.heap H locs) (hl : lv_has ls 4 [(0, .ref x0_4), (1, .int x1_4), (2, .int x2_4), (3, .int x3_4)]), W p l e { frames := 2, cells := 0, slots := 0, locals := 47 } s m args below meth c H locs 0 0 (MQ below (q_Q (some (.int r0)) (fun H => q_W D al dt H ∧ q_Rk al 0 (some (.int r0))) (q_A al)) args s 0 0 (q_A al)) (F0 m 4 ls []) := by
    intro x0_4 x1_4 kx0_4
    intro n_4
    induction n_4 with
    | zero => intro x2_4 x3_4 H locs ls hm hW hS hl; cases hm
    | succ n_4 ih4 =>
      intro x2_4 x3_4 H locs ls hm hW hS hl
      rw [X1_slotsIn_b4] at hm
      refine lv_iload_n hx hb dX1_slotsIn_4 rfl (lv_at hl 3 rfl) ?_
      refine lv_aload_n hx hb dX1_slotsIn_5 rfl (lv_at hl 0 rfl) ?_
      refine r_getI C hW (ci := 1) kx0_4 ff_1_0 cl_1 fl_RX1_9 dX1_slotsIn_6 ?_
      refine q_ifc hm (fun c4001 hm => ?_) (fun c4001 hm => ?_)
      · refine lv_icmp_ge (tgt := 30) hx hb dX1_slotsIn_9 (by decide) (fun _ => ?_) (fun h => absurd c4001 h)
        refine lv_iload_n hx hb dX1_slotsIn_30 rfl (lv_at hl 2 rfl) ?_
        exact e_i C hW hS hm dX1_slotsIn_31
      refine lv_icmp_ge (tgt := 30) hx hb dX1_slotsIn_9 (by decide) (fun h => absurd h c4001) (fun _ => ?_)
      refine lv_iload_n hx hb dX1_slotsIn_12 rfl (lv_at hl 2 rfl) ?_
      refine lv_iload_n hx hb dX1_slotsIn_13 rfl (lv_at hl 1 rfl) ?_
      refine lv_aload_n hx hb dX1_slotsIn_14 rfl (lv_at hl 0 rfl) ?_
      refine lv_iload_n hx hb dX1_slotsIn_15 rfl (lv_at hl 3 rfl) ?_
      obtain ⟨v4003, hc4002, hm⟩ := q_b1i hm
      refine q_callV C hW hS (As := [.int x3_4]) (rest := [.int x1_4, .int x2_4]) (st1 := [.int v4003, .int x1_4, .int x2_4]) (c_X1_channelAt l D al dt x0_4 x3_4 kx0_4 v4003 hc4002) yl_X1_channelAt vl_X1_channelAt ml_RX1_25 (ci := 1) rfl kx0_4 (by decide) rfl ⟨Nat.le_of_ble_eq_true rfl, Nat.le_of_ble_eq_true rfl⟩ hl rfl (Nat.le_of_ble_eq_true rfl) dX1_slotsIn_16 ⟨Nat.le_refl _, Nat.le_refl _⟩ rfl (fun H locs k4004 hW hS => ?_)
      refine lv_ishr hx hb dX1_slotsIn_19 ?_
      refine lv_iconst (v := 1) hx hb dX1_slotsIn_20 (by decide) ?_
      refine lv_iand hx hb dX1_slotsIn_21 ?_
      refine lv_iadd hx hb dX1_slotsIn_22 ?_
      refine q_nmI hm (fun v4005 ev4005 hm => ?_)
      refine lv_istore_n (i := 2) (lv' := [(2, .int v4005), (0, .ref x0_4), (1, .int x1_4), (3, .int x3_4)]) hx hb dX1_slotsIn_23 rfl hl (by decide) rfl (fun ls hl => ?_)
      refine lv_iinc (v := (x3_4 + 1)) (lv' := [(3, .int (x3_4 + 1)), (2, .int v4005), (0, .ref x0_4), (1, .int x1_4)]) hx hb dX1_slotsIn_24 hl (k := 3) rfl rfl (by decide) rfl (fun ls hl => ?_)
      refine lv_goto (tgt := 4) hx hb dX1_slotsIn_27 (by decide) ?_
      exact ih4 v4005 (x3_4 + 1) _ _ _ hm hW hS (lv_sub hl [2, 3, 1, 0] rfl)
  refine lv_iconst (v := 0) hx hb dX1_slotsIn_0 (by decide) ?_
  refine lv_istore_n (i := 2) (lv' := [(2, .int 0), (0, .ref x0), (1, .int x1)]) hx hb dX1_slotsIn_1 rfl hl (by decide) rfl (fun ls hl => ?_)
  refine lv_iconst (v := 0) hx hb dX1_slotsIn_2 (by decide) ?_
  refine lv_istore_n (i := 3) (lv' := [(3, .int 0), (2, .int 0), (0, .ref x0), (1, .int x1)]) hx hb dX1_slotsIn_3 rfl hl (by decide) rfl (fun ls hl => ?_)
  exact hB4 x0 x1 kx0 q_FU 0 0 _ _ _ hm hW hS (lv_sub hl [2, 3, 1, 0] rfl)
