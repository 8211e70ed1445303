theorem dX5_at_0 : decode cX5_at 0 = .ok (.iload_n 1, 1) := by decide +kernel
theorem dX5_at_1 : decode cX5_at 1 = .ok (.ifCond .lt 21, 3) := by decide +kernel
theorem dX5_at_4 : decode cX5_at 4 = .ok (.iload_n 1, 1) := by decide +kernel
theorem dX5_at_5 : decode cX5_at 5 = .ok (.aload_n 0, 1) := by decide +kernel
theorem dX5_at_6 : decode cX5_at 6 = .ok (.getfield 13, 3) := by decide +kernel
theorem dX5_at_9 : decode cX5_at 9 = .ok (.arraylength, 1) := by decide +kernel
theorem dX5_at_10 : decode cX5_at 10 = .ok (.if_icmp .ge 12, 3) := by decide +kernel
theorem dX5_at_13 : decode cX5_at 13 = .ok (.aload_n 0, 1) := by decide +kernel
theorem dX5_at_14 : decode cX5_at 14 = .ok (.getfield 13, 3) := by decide +kernel
theorem dX5_at_17 : decode cX5_at 17 = .ok (.iload_n 1, 1) := by decide +kernel
theorem dX5_at_18 : decode cX5_at 18 = .ok (.laload, 1) := by decide +kernel
theorem dX5_at_19 : decode cX5_at 19 = .ok (.goto 4, 3) := by decide +kernel
theorem dX5_at_22 : decode cX5_at 22 = .ok (.lconst 0, 1) := by decide +kernel
theorem dX5_at_23 : decode cX5_at 23 = .ok (.lreturn, 1) := by decide +kernel
set_option maxRecDepth 100000 in
theorem c_X5_at (l : Launch) (D : q_D) (al : q_Al) (dt : q_Dt) (x0 : Nat) (x1 : Int32) (kx0 : al.1 x0 = 6) (r0 : Int64) (hm : X5_at al dt x0 x1 = some r0) : q_Mt l yX5_at cX5_at 2 (some FieldType.long) 0 0 D al [.ref x0, .int x1] dt 0 (some (.long r0)) dt := by
  refine q_Mt.of (by decide) (Nat.le_of_ble_eq_true rfl) ?_
  intro p e s m args below meth c ls C hargs hW hl
  have hx := C.1
  have hb := C.2.1
  have hown := C.2.2.2.2.2.1
  have hts := C.2.2.2.2.2.2.1
  have hS : va_S (q_A al) s.heap s.heap [] := va_S.rf
  have hl : lv_has ls 2 [(0, .ref x0), (1, .int x1)] := hl
  unfold X5_at at hm
  refine lv_iload_n hx hb dX5_at_0 rfl (lv_at hl 1 rfl) ?_
  refine q_ifc hm (fun c1000001 hm => ?_) (fun c1000001 hm => ?_)
  · refine lv_if_lt (tgt := 22) hx hb dX5_at_1 (by decide) (fun _ => ?_) (fun h => absurd c1000001 h)
    refine lv_lconst (v := 0) hx hb dX5_at_22 rfl ?_
    exact e_l C hW hS hm dX5_at_23
  refine lv_if_lt (tgt := 22) hx hb dX5_at_1 (by decide) (fun h => absurd h c1000001) (fun _ => ?_)
  refine lv_iload_n hx hb dX5_at_4 rfl (lv_at hl 1 rfl) ?_
  refine lv_aload_n hx hb dX5_at_5 rfl (lv_at hl 0 rfl) ?_
  refine r_getF C hW (ci := 5) kx0 ff_5_0 cl_5 fl_RX5_13 dX5_at_6 (fun k1000002 => ?_)
  refine q_alenJ C hW k1000002 dX5_at_9 ?_
  refine q_ifc hm (fun c1000003 hm => ?_) (fun c1000003 hm => ?_)
  · refine lv_icmp_ge (tgt := 22) hx hb dX5_at_10 (by decide) (fun _ => ?_) (fun h => absurd c1000003 h)
    refine lv_lconst (v := 0) hx hb dX5_at_22 rfl ?_
    exact e_l C hW hS hm dX5_at_23
  refine lv_icmp_ge (tgt := 22) hx hb dX5_at_10 (by decide) (fun h => absurd h c1000003) (fun _ => ?_)
  refine lv_aload_n hx hb dX5_at_13 rfl (lv_at hl 0 rfl) ?_
  refine r_getF C hW (ci := 5) kx0 ff_5_0 cl_5 fl_RX5_13 dX5_at_14 (fun k1000004 => ?_)
  refine lv_iload_n hx hb dX5_at_17 rfl (lv_at hl 1 rfl) ?_
  refine r_lald C hW hm k1000004 dX5_at_18 (fun hm => ?_)
  refine lv_goto (tgt := 23) hx hb dX5_at_19 (by decide) ?_
  exact e_l C hW hS hm dX5_at_23
theorem dX5_put_0 : decode cX5_put 0 = .ok (.iload_n 1, 1) := by decide +kernel
theorem dX5_put_1 : decode cX5_put 1 = .ok (.ifCond .lt 19, 3) := by decide +kernel
theorem dX5_put_4 : decode cX5_put 4 = .ok (.iload_n 1, 1) := by decide +kernel
theorem dX5_put_5 : decode cX5_put 5 = .ok (.aload_n 0, 1) := by decide +kernel
theorem dX5_put_6 : decode cX5_put 6 = .ok (.getfield 13, 3) := by decide +kernel
theorem dX5_put_9 : decode cX5_put 9 = .ok (.arraylength, 1) := by decide +kernel
theorem dX5_put_10 : decode cX5_put 10 = .ok (.if_icmp .ge 10, 3) := by decide +kernel
theorem dX5_put_13 : decode cX5_put 13 = .ok (.aload_n 0, 1) := by decide +kernel
theorem dX5_put_14 : decode cX5_put 14 = .ok (.getfield 13, 3) := by decide +kernel
theorem dX5_put_17 : decode cX5_put 17 = .ok (.iload_n 1, 1) := by decide +kernel
theorem dX5_put_18 : decode cX5_put 18 = .ok (.lload_n 2, 1) := by decide +kernel
theorem dX5_put_19 : decode cX5_put 19 = .ok (.lastore, 1) := by decide +kernel
theorem dX5_put_20 : decode cX5_put 20 = .ok (.return_, 1) := by decide +kernel
set_option maxRecDepth 100000 in
theorem c_X5_put (l : Launch) (D : q_D) (al : q_Al) (dt : q_Dt) (x0 : Nat) (x1 : Int32) (x2 : Int64) (kx0 : al.1 x0 = 6) (dt0 : q_Dt) (hm : X5_put al dt x0 x1 x2 = some dt0) : q_Mt l yX5_put cX5_put 4 (none) 0 0 D al [.ref x0, .int x1, .long x2] dt 0 none dt0 := by
  refine q_Mt.of (by decide) (Nat.le_of_ble_eq_true rfl) ?_
  intro p e s m args below meth c ls C hargs hW hl
  have hx := C.1
  have hb := C.2.1
  have hown := C.2.2.2.2.2.1
  have hts := C.2.2.2.2.2.2.1
  have hS : va_S (q_A al) s.heap s.heap [] := va_S.rf
  have hl : lv_has ls 4 [(0, .ref x0), (1, .int x1), (2, .long x2)] := hl
  unfold X5_put at hm
  refine lv_iload_n hx hb dX5_put_0 rfl (lv_at hl 1 rfl) ?_
  refine q_ifc hm (fun c1000001 hm => ?_) (fun c1000001 hm => ?_)
  · refine lv_if_lt (tgt := 20) hx hb dX5_put_1 (by decide) (fun _ => ?_) (fun h => absurd c1000001 h)
    exact e_vD C hW hS hm dX5_put_20
  refine lv_if_lt (tgt := 20) hx hb dX5_put_1 (by decide) (fun h => absurd h c1000001) (fun _ => ?_)
  refine lv_iload_n hx hb dX5_put_4 rfl (lv_at hl 1 rfl) ?_
  refine lv_aload_n hx hb dX5_put_5 rfl (lv_at hl 0 rfl) ?_
  refine r_getF C hW (ci := 5) kx0 ff_5_0 cl_5 fl_RX5_13 dX5_put_6 (fun k1000002 => ?_)
  refine q_alenJ C hW k1000002 dX5_put_9 ?_
  refine q_ifc hm (fun c1000003 hm => ?_) (fun c1000003 hm => ?_)
  · refine lv_icmp_ge (tgt := 20) hx hb dX5_put_10 (by decide) (fun _ => ?_) (fun h => absurd c1000003 h)
    exact e_vD C hW hS hm dX5_put_20
  refine lv_icmp_ge (tgt := 20) hx hb dX5_put_10 (by decide) (fun h => absurd h c1000003) (fun _ => ?_)
  refine lv_aload_n hx hb dX5_put_13 rfl (lv_at hl 0 rfl) ?_
  refine r_getF C hW (ci := 5) kx0 ff_5_0 cl_5 fl_RX5_13 dX5_put_14 (fun k1000004 => ?_)
  refine lv_iload_n hx hb dX5_put_17 rfl (lv_at hl 1 rfl) ?_
  refine lv_lload_n hx hb dX5_put_18 rfl (lv_at hl 2 rfl) ?_
  refine r_last C hW hS hm k1000004 dX5_put_19 (fun dt1000005 H locs hm hW hS => ?_)
  exact e_vD C hW hS hm dX5_put_20
theorem dX9_withLetter_0 : decode cX9_withLetter 0 = .ok (.lload_n 0, 1) := by decide +kernel
theorem dX9_withLetter_1 : decode cX9_withLetter 1 = .ok (.ldc2_w 70, 3) := by decide +kernel
theorem dX9_withLetter_4 : decode cX9_withLetter 4 = .ok (.lmul, 1) := by decide +kernel
theorem dX9_withLetter_5 : decode cX9_withLetter 5 = .ok (.iload_n 2, 1) := by decide +kernel
theorem dX9_withLetter_6 : decode cX9_withLetter 6 = .ok (.i2l, 1) := by decide +kernel
theorem dX9_withLetter_7 : decode cX9_withLetter 7 = .ok (.ladd, 1) := by decide +kernel
theorem dX9_withLetter_8 : decode cX9_withLetter 8 = .ok (.ldc2_w 72, 3) := by decide +kernel
theorem dX9_withLetter_11 : decode cX9_withLetter 11 = .ok (.lsub, 1) := by decide +kernel
theorem dX9_withLetter_12 : decode cX9_withLetter 12 = .ok (.lconst 1, 1) := by decide +kernel
theorem dX9_withLetter_13 : decode cX9_withLetter 13 = .ok (.ladd, 1) := by decide +kernel
theorem dX9_withLetter_14 : decode cX9_withLetter 14 = .ok (.lreturn, 1) := by decide +kernel
set_option maxRecDepth 100000 in
theorem c_X9_withLetter (l : Launch) (D : q_D) (al : q_Al) (dt : q_Dt) (x0 : Int64) (x2 : Int32) (r0 : Int64) (hm : X9_withLetter x0 x2 = some r0) : q_Mt l yX9_withLetter cX9_withLetter 3 (some FieldType.long) 0 0 D al [.long x0, .int x2] dt 0 (some (.long r0)) dt := by
  refine q_Mt.of (by decide) (Nat.le_of_ble_eq_true rfl) ?_
  intro p e s m args below meth c ls C hargs hW hl
  have hx := C.1
  have hb := C.2.1
  have hown := C.2.2.2.2.2.1
  have hts := C.2.2.2.2.2.2.1
  have hS : va_S (q_A al) s.heap s.heap [] := va_S.rf
  have hl : lv_has ls 3 [(0, .long x0), (2, .int x2)] := hl
  unfold X9_withLetter at hm
  refine lv_lload_n hx hb dX9_withLetter_0 rfl (lv_at hl 0 rfl) ?_
  refine lv_ldc2 (own := RX9) (v := 27) hx hb hown (hts _ wc_RX9_70) dX9_withLetter_1 ?_
  refine lv_lmul hx hb dX9_withLetter_4 ?_
  refine lv_iload_n hx hb dX9_withLetter_5 rfl (lv_at hl 1 rfl) ?_
  refine lv_i2l (v := (Int32.toInt64 x2)) hx hb dX9_withLetter_6 rfl ?_
  refine lv_ladd hx hb dX9_withLetter_7 ?_
  refine lv_ldc2 (own := RX9) (v := 97) hx hb hown (hts _ wc_RX9_72) dX9_withLetter_8 ?_
  refine lv_lsub hx hb dX9_withLetter_11 ?_
  refine lv_lconst (v := 1) hx hb dX9_withLetter_12 rfl ?_
  refine lv_ladd hx hb dX9_withLetter_13 ?_
  exact e_l C hW hS hm dX9_withLetter_14
theorem dX12_appends_0 : decode cX12_appends 0 = .ok (.iload_n 2, 1) := by decide +kernel
theorem dX12_appends_1 : decode cX12_appends 1 = .ok (.ifCond .ne 7, 3) := by decide +kernel
theorem dX12_appends_4 : decode cX12_appends 4 = .ok (.lload_n 0, 1) := by decide +kernel
theorem dX12_appends_5 : decode cX12_appends 5 = .ok (.goto 16, 3) := by decide +kernel
theorem dX12_appends_8 : decode cX12_appends 8 = .ok (.ldc2_w 184, 3) := by decide +kernel
theorem dX12_appends_11 : decode cX12_appends 11 = .ok (.lload_n 0, 1) := by decide +kernel
theorem dX12_appends_12 : decode cX12_appends 12 = .ok (.lmul, 1) := by decide +kernel
theorem dX12_appends_13 : decode cX12_appends 13 = .ok (.iload_n 2, 1) := by decide +kernel
theorem dX12_appends_14 : decode cX12_appends 14 = .ok (.bipush 97, 2) := by decide +kernel
theorem dX12_appends_16 : decode cX12_appends 16 = .ok (.isub, 1) := by decide +kernel
theorem dX12_appends_17 : decode cX12_appends 17 = .ok (.iconst 1, 1) := by decide +kernel
theorem dX12_appends_18 : decode cX12_appends 18 = .ok (.iadd, 1) := by decide +kernel
theorem dX12_appends_19 : decode cX12_appends 19 = .ok (.i2l, 1) := by decide +kernel
theorem dX12_appends_20 : decode cX12_appends 20 = .ok (.ladd, 1) := by decide +kernel
theorem dX12_appends_21 : decode cX12_appends 21 = .ok (.lreturn, 1) := by decide +kernel
set_option maxRecDepth 100000 in
theorem c_X12_appends (l : Launch) (D : q_D) (al : q_Al) (dt : q_Dt) (x0 : Int64) (x2 : Int32) (r0 : Int64) (hm : X12_appends x0 x2 = some r0) : q_Mt l yX12_appends cX12_appends 3 (some FieldType.long) 0 0 D al [.long x0, .int x2] dt 0 (some (.long r0)) dt := by
  refine q_Mt.of (by decide) (Nat.le_of_ble_eq_true rfl) ?_
  intro p e s m args below meth c ls C hargs hW hl
  have hx := C.1
  have hb := C.2.1
  have hown := C.2.2.2.2.2.1
  have hts := C.2.2.2.2.2.2.1
  have hS : va_S (q_A al) s.heap s.heap [] := va_S.rf
  have hl : lv_has ls 3 [(0, .long x0), (2, .int x2)] := hl
  unfold X12_appends at hm
  refine lv_iload_n hx hb dX12_appends_0 rfl (lv_at hl 1 rfl) ?_
  refine q_ifc hm (fun c1000001 hm => ?_) (fun c1000001 hm => ?_)
  · refine lv_if_ne (tgt := 8) hx hb dX12_appends_1 (by decide) (fun h => absurd c1000001 h) (fun _ => ?_)
    refine lv_lload_n hx hb dX12_appends_4 rfl (lv_at hl 0 rfl) ?_
    refine lv_goto (tgt := 21) hx hb dX12_appends_5 (by decide) ?_
    exact e_l C hW hS hm dX12_appends_21
  refine lv_if_ne (tgt := 8) hx hb dX12_appends_1 (by decide) (fun _ => ?_) (fun h => absurd h c1000001)
  refine lv_ldc2 (own := RX12) (v := 27) hx hb hown (hts _ wc_RX12_184) dX12_appends_8 ?_
  refine lv_lload_n hx hb dX12_appends_11 rfl (lv_at hl 0 rfl) ?_
  refine lv_lmul hx hb dX12_appends_12 ?_
  refine lv_iload_n hx hb dX12_appends_13 rfl (lv_at hl 1 rfl) ?_
  refine lv_bipush (v := 97) hx hb dX12_appends_14 (by decide) ?_
  refine lv_isub hx hb dX12_appends_16 ?_
  refine lv_iconst (v := 1) hx hb dX12_appends_17 (by decide) ?_
  refine lv_iadd hx hb dX12_appends_18 ?_
  refine lv_i2l (v := (Int32.toInt64 ((x2 - 97) + 1))) hx hb dX12_appends_19 rfl ?_
  refine lv_ladd hx hb dX12_appends_20 ?_
  exact e_l C hW hS hm dX12_appends_21
theorem dX12_word_0 : decode cX12_word 0 = .ok (.lconst 0, 1) := by decide +kernel
theorem dX12_word_1 : decode cX12_word 1 = .ok (.iload_n 0, 1) := by decide +kernel
theorem dX12_word_2 : decode cX12_word 2 = .ok (.invokestatic 186, 3) := by decide +kernel
theorem dX12_word_5 : decode cX12_word 5 = .ok (.iload_n 1, 1) := by decide +kernel
theorem dX12_word_6 : decode cX12_word 6 = .ok (.invokestatic 186, 3) := by decide +kernel
theorem dX12_word_9 : decode cX12_word 9 = .ok (.iload_n 2, 1) := by decide +kernel
theorem dX12_word_10 : decode cX12_word 10 = .ok (.invokestatic 186, 3) := by decide +kernel
theorem dX12_word_13 : decode cX12_word 13 = .ok (.iload_n 3, 1) := by decide +kernel
theorem dX12_word_14 : decode cX12_word 14 = .ok (.invokestatic 186, 3) := by decide +kernel
theorem dX12_word_17 : decode cX12_word 17 = .ok (.iload 4, 2) := by decide +kernel
theorem dX12_word_19 : decode cX12_word 19 = .ok (.invokestatic 186, 3) := by decide +kernel
theorem dX12_word_22 : decode cX12_word 22 = .ok (.iload 5, 2) := by decide +kernel
theorem dX12_word_24 : decode cX12_word 24 = .ok (.invokestatic 186, 3) := by decide +kernel
theorem dX12_word_27 : decode cX12_word 27 = .ok (.iload 6, 2) := by decide +kernel
theorem dX12_word_29 : decode cX12_word 29 = .ok (.invokestatic 186, 3) := by decide +kernel
theorem dX12_word_32 : decode cX12_word 32 = .ok (.lreturn, 1) := by decide +kernel
set_option maxRecDepth 100000 in
theorem c_X12_word (l : Launch) (D : q_D) (al : q_Al) (dt : q_Dt) (x0 : Int32) (x1 : Int32) (x2 : Int32) (x3 : Int32) (x4 : Int32) (x5 : Int32) (x6 : Int32) (r0 : Int64) (hm : X12_word x0 x1 x2 x3 x4 x5 x6 = some r0) : q_Mt l yX12_word cX12_word 7 (some FieldType.long) 1 22 D al [.int x0, .int x1, .int x2, .int x3, .int x4, .int x5, .int x6] dt 0 (some (.long r0)) dt := by
  refine q_Mt.of (by decide) (Nat.le_of_ble_eq_true rfl) ?_
  intro p e s m args below meth c ls C hargs hW hl
  have hx := C.1
  have hb := C.2.1
  have hown := C.2.2.2.2.2.1
  have hts := C.2.2.2.2.2.2.1
  have hS : va_S (q_A al) s.heap s.heap [] := va_S.rf
  have hl : lv_has ls 7 [(0, .int x0), (1, .int x1), (2, .int x2), (3, .int x3), (4, .int x4), (5, .int x5), (6, .int x6)] := hl
  unfold X12_word at hm
  refine lv_lconst (v := 0) hx hb dX12_word_0 rfl ?_
  refine lv_iload_n hx hb dX12_word_1 rfl (lv_at hl 0 rfl) ?_
  obtain ⟨v1000002, hc1000001, hm⟩ := q_b1i hm
  refine q_callS C hW hS (As := [.long 0, .int x0]) (rest := []) (st1 := [.long v1000002]) (c_X12_appends l D al dt 0 x0 v1000002 hc1000001) yl_X12_appends sl_X12_appends ml_RX12_186 rfl ⟨Nat.le_of_ble_eq_true rfl, Nat.le_of_ble_eq_true rfl⟩ hl rfl (Nat.le_of_ble_eq_true rfl) dX12_word_2 ⟨Nat.le_refl _, Nat.le_refl _⟩ rfl (fun H locs k1000003 hW hS => ?_)
  refine lv_iload_n hx hb dX12_word_5 rfl (lv_at hl 1 rfl) ?_
  obtain ⟨v1000005, hc1000004, hm⟩ := q_b1i hm
  refine q_callS C hW hS (As := [.long v1000002, .int x1]) (rest := []) (st1 := [.long v1000005]) (c_X12_appends l D al dt v1000002 x1 v1000005 hc1000004) yl_X12_appends sl_X12_appends ml_RX12_186 rfl ⟨Nat.le_of_ble_eq_true rfl, Nat.le_of_ble_eq_true rfl⟩ hl rfl (Nat.le_of_ble_eq_true rfl) dX12_word_6 ⟨Nat.le_refl _, Nat.le_refl _⟩ rfl (fun H locs k1000006 hW hS => ?_)
  refine lv_iload_n hx hb dX12_word_9 rfl (lv_at hl 2 rfl) ?_
  obtain ⟨v1000008, hc1000007, hm⟩ := q_b1i hm
  refine q_callS C hW hS (As := [.long v1000005, .int x2]) (rest := []) (st1 := [.long v1000008]) (c_X12_appends l D al dt v1000005 x2 v1000008 hc1000007) yl_X12_appends sl_X12_appends ml_RX12_186 rfl ⟨Nat.le_of_ble_eq_true rfl, Nat.le_of_ble_eq_true rfl⟩ hl rfl (Nat.le_of_ble_eq_true rfl) dX12_word_10 ⟨Nat.le_refl _, Nat.le_refl _⟩ rfl (fun H locs k1000009 hW hS => ?_)
  refine lv_iload_n hx hb dX12_word_13 rfl (lv_at hl 3 rfl) ?_
  obtain ⟨v1000011, hc1000010, hm⟩ := q_b1i hm
  refine q_callS C hW hS (As := [.long v1000008, .int x3]) (rest := []) (st1 := [.long v1000011]) (c_X12_appends l D al dt v1000008 x3 v1000011 hc1000010) yl_X12_appends sl_X12_appends ml_RX12_186 rfl ⟨Nat.le_of_ble_eq_true rfl, Nat.le_of_ble_eq_true rfl⟩ hl rfl (Nat.le_of_ble_eq_true rfl) dX12_word_14 ⟨Nat.le_refl _, Nat.le_refl _⟩ rfl (fun H locs k1000012 hW hS => ?_)
  refine lv_iload hx hb dX12_word_17 (lv_at hl 4 rfl) ?_
  obtain ⟨v1000014, hc1000013, hm⟩ := q_b1i hm
  refine q_callS C hW hS (As := [.long v1000011, .int x4]) (rest := []) (st1 := [.long v1000014]) (c_X12_appends l D al dt v1000011 x4 v1000014 hc1000013) yl_X12_appends sl_X12_appends ml_RX12_186 rfl ⟨Nat.le_of_ble_eq_true rfl, Nat.le_of_ble_eq_true rfl⟩ hl rfl (Nat.le_of_ble_eq_true rfl) dX12_word_19 ⟨Nat.le_refl _, Nat.le_refl _⟩ rfl (fun H locs k1000015 hW hS => ?_)
  refine lv_iload hx hb dX12_word_22 (lv_at hl 5 rfl) ?_
  obtain ⟨v1000017, hc1000016, hm⟩ := q_b1i hm
  refine q_callS C hW hS (As := [.long v1000014, .int x5]) (rest := []) (st1 := [.long v1000017]) (c_X12_appends l D al dt v1000014 x5 v1000017 hc1000016) yl_X12_appends sl_X12_appends ml_RX12_186 rfl ⟨Nat.le_of_ble_eq_true rfl, Nat.le_of_ble_eq_true rfl⟩ hl rfl (Nat.le_of_ble_eq_true rfl) dX12_word_24 ⟨Nat.le_refl _, Nat.le_refl _⟩ rfl (fun H locs k1000018 hW hS => ?_)
  refine lv_iload hx hb dX12_word_27 (lv_at hl 6 rfl) ?_
  obtain ⟨v1000020, hc1000019, hm⟩ := q_b1i hm
  refine q_callS C hW hS (As := [.long v1000017, .int x6]) (rest := []) (st1 := [.long v1000020]) (c_X12_appends l D al dt v1000017 x6 v1000020 hc1000019) yl_X12_appends sl_X12_appends ml_RX12_186 rfl ⟨Nat.le_of_ble_eq_true rfl, Nat.le_of_ble_eq_true rfl⟩ hl rfl (Nat.le_of_ble_eq_true rfl) dX12_word_29 ⟨Nat.le_refl _, Nat.le_refl _⟩ rfl (fun H locs k1000021 hW hS => ?_)
  exact e_l C hW hS hm dX12_word_32
